def f_PatternParser_timesBySign (a0 : Nat) (x1 : Int32) (ω : xS) : Option (Int32 × xS) :=
  if x1 = 42 then (
    some (0, ω))
  else (
  if x1 = 43 then (
    some (10, ω))
  else (
  if x1 = 63 then (
    some (1, ω))
  else (
  (xgi ω a0 6 9).bind fun t4 =>
  (xk ω a0 6 (f_PatternParser_refuse a0 2 t4 ω)).bind fun w7 =>
  some (11, w7))))
set_option maxHeartbeats 4000000 in
set_option maxRecDepth 100000 in
theorem c_PatternParser_timesBySign {l : Launch} {E : xV} {z : Nat} {a0 : Nat} {x1 : Int32} {r : Int32} {ω1 : xS} {ω : xS} (hf : f_PatternParser_timesBySign a0 x1 ω = some (r, ω1)) : xM l E y_PatternParser_timesBySign ws_PatternParser_timesBySign { frames := 1, cells := 0, slots := 0, locals := 22 } [.ref a0, .int x1] z ω (some (.int r)) z ω1 := by
  refine x_start (cc := b_PatternParser_timesBySign) (maxL := 2) (ret := (some .int)) (by decide) rfl (Nat.le_of_ble_eq_true rfl) ?_
  intro p e s m below meth c S hr hlocks hin ls hl hw
  have hl : lv_has ls 2 [(0, .ref a0), (1, .int x1)] := hl
  unfold f_PatternParser_timesBySign at hf
  refine lv_iload_n S.1 S.2.1 d_PatternParser_timesBySign_0 rfl (lv_at hl 1 rfl) ?_
  by_cases c1 : x1 = 42
  · replace hf := xt c1 hf
    refine lv_lookup (off := 35) (tgt := 36) S.1 S.2.1 d_PatternParser_timesBySign_1 (by decide) (by rw [c1] <;> rfl) (by decide) ?_
    refine lv_iconst (v := 0) S.1 S.2.1 d_PatternParser_timesBySign_36 (by decide) ?_
    obtain ⟨rfl, rfl⟩ := xe2 hf
    exact x_iret S hr hlocks hw d_PatternParser_timesBySign_37
  replace hf := xf c1 hf
  by_cases c2 : x1 = 43
  · replace hf := xt c2 hf
    refine lv_lookup (off := 37) (tgt := 38) S.1 S.2.1 d_PatternParser_timesBySign_1 (by decide) (by rw [c2] <;> rfl) (by decide) ?_
    refine lv_bipush (v := 10) S.1 S.2.1 d_PatternParser_timesBySign_38 (by decide) ?_
    obtain ⟨rfl, rfl⟩ := xe2 hf
    exact x_iret S hr hlocks hw d_PatternParser_timesBySign_40
  replace hf := xf c2 hf
  by_cases c3 : x1 = 63
  · replace hf := xt c3 hf
    refine lv_lookup (off := 40) (tgt := 41) S.1 S.2.1 d_PatternParser_timesBySign_1 (by decide) (by rw [c3] <;> rfl) (by decide) ?_
    refine lv_iconst (v := 1) S.1 S.2.1 d_PatternParser_timesBySign_41 (by decide) ?_
    obtain ⟨rfl, rfl⟩ := xe2 hf
    exact x_iret S hr hlocks hw d_PatternParser_timesBySign_42
  replace hf := xf c3 hf
  refine lv_lookup (off := 42) (tgt := 43) S.1 S.2.1 d_PatternParser_timesBySign_1 (by decide) (by exact (lv_osw c1 (by decide)).trans ((lv_osw c2 (by decide)).trans ((lv_osw c3 (by decide)).trans rfl))) (by decide) ?_
  refine lv_aload_n S.1 S.2.1 d_PatternParser_timesBySign_43 rfl (lv_at hl 0 rfl) ?_
  refine lv_iconst (v := 2) S.1 S.2.1 d_PatternParser_timesBySign_44 (by decide) ?_
  refine lv_aload_n S.1 S.2.1 d_PatternParser_timesBySign_45 rfl (lv_at hl 0 rfl) ?_
  obtain ⟨t4, ht4, hf⟩ := xb hf
  refine x_geti S hw lk_PatternParser_40 ht4 d_PatternParser_timesBySign_46 ?_
  obtain ⟨w7, h5, hf⟩ := xb hf
  obtain ⟨h5b, h5⟩ := xkb h5
  refine x_callV (As := [.int 2, .int t4]) (rest := []) (st1 := []) S hw (c_PatternParser_refuse h5) (cwV 2 S.2.2.2.2 gv_PatternParser_65 rfl rfl rfl hd_PatternParser_refuse ⟨Nat.le_of_ble_eq_true rfl, Nat.le_of_ble_eq_true rfl⟩) rfl h5b rfl hl.1 rfl rfl (Nat.le_of_ble_eq_true rfl) d_PatternParser_timesBySign_49 ⟨Nat.le_of_ble_eq_true rfl, Nat.le_of_ble_eq_true rfl⟩ (fun H locs hw => ?_)
  refine lv_bipush (v := 11) S.1 S.2.1 d_PatternParser_timesBySign_52 (by decide) ?_
  obtain ⟨rfl, rfl⟩ := xe2 hf
  exact x_iret S hr hlocks hw d_PatternParser_timesBySign_54
def f_Positions_copyPlaces_85 (k31 : Nat → Int32 → Int32 → Int32 → Int32 → Int32 → xS → Option xS) : Nat → Nat → Int32 → Int32 → Int32 → Int32 → Int32 → Int32 → xS → Option xS
  | 0, _, _, _, _, _, _, _, _ => none
  | n + 1, a0, x1, x2, x3, x4, x5, x6, ω =>
    if (x1 + x2) ≤ x6 then (
      k31 a0 x1 x2 x3 x4 (x5 + x2) ω)
    else (
      (xgr ω a0 7 1).bind fun t17 =>
      (xgr ω a0 7 1).bind fun t18 =>
      (xai ω t18 x6).bind fun t19 =>
      (xsi ω t17 (x6 + x5) (t19 <<< (x5 &&& 31))).bind fun w20 =>
      f_Positions_copyPlaces_85 k31 n a0 x1 x2 x3 x4 x5 (x6 + 1) w20)
set_option maxHeartbeats 4000000 in
set_option maxRecDepth 100000 in
theorem w_Positions_copyPlaces_85 {p : Program} {l : Launch} {e : Env} {s : State} {m : MethodId} {args : Array Value} {below : List Frame} {meth : Method} {c : Code} {E : xV} {z : Nat} {ω1 : xS} {k31 : Nat → Int32 → Int32 → Int32 → Int32 → Int32 → xS → Option xS} (S : CallFix p m c b_Positions_copyPlaces 7 s args xTbl "RosterRules$Positions") (hr : meth.sig.returnType = none) (hlocks : meth.locks = false) (hk31 : ∀ (a0 : Nat) (x1 : Int32) (x2 : Int32) (x3 : Int32) (x4 : Int32) (x5 : Int32) (ω : xS) (H : Heap) (locs : List Loc) (ls : Array Slot), xW E z ω s s.heap H locs → lv_has ls 7 [(0, .ref a0), (1, .int x1), (2, .int x2), (3, .int x3), (4, .int x4), (5, .int x5)] → k31 a0 x1 x2 x3 x4 x5 ω = some ω1 → W p l e (headSpec ws_Positions_copyPlaces { frames := 0, cells := 0, slots := 0, locals := 0 }).room s m args below meth c H locs 0 0 (MQ below (xQ E none z ω1) args s 0 0 (fun q => E.2.2 ≤ q)) (F0 m 31 ls [])) : ∀ n : Nat, ∀ (a0 : Nat) (x1 : Int32) (x2 : Int32) (x3 : Int32) (x4 : Int32) (x5 : Int32) (x6 : Int32) (ω : xS) (H : Heap) (locs : List Loc) (ls : Array Slot), xW E z ω s s.heap H locs → lv_has ls 7 [(0, .ref a0), (1, .int x1), (2, .int x2), (3, .int x3), (4, .int x4), (5, .int x5), (6, .int x6)] → f_Positions_copyPlaces_85 k31 n a0 x1 x2 x3 x4 x5 x6 ω = some ω1 → W p l e (headSpec ws_Positions_copyPlaces { frames := 0, cells := 0, slots := 0, locals := 0 }).room s m args below meth c H locs 0 0 (MQ below (xQ E none z ω1) args s 0 0 (fun q => E.2.2 ≤ q)) (F0 m 85 ls []) := by
  intro n
  induction n with
  | zero =>
    intro a0 x1 x2 x3 x4 x5 x6 ω H locs ls hw hl hf
    have h2 : (none : Option xS) = some ω1 := hf
    cases h2
  | succ n ih =>
    intro a0 x1 x2 x3 x4 x5 x6 ω H locs ls hw hl hf
    rw [f_Positions_copyPlaces_85] at hf
    refine lv_iload S.1 S.2.1 d_Positions_copyPlaces_85 (lv_at hl 6 rfl) ?_
    refine lv_iload_n S.1 S.2.1 d_Positions_copyPlaces_87 rfl (lv_at hl 1 rfl) ?_
    refine lv_iload_n S.1 S.2.1 d_Positions_copyPlaces_88 rfl (lv_at hl 2 rfl) ?_
    refine lv_iadd S.1 S.2.1 d_Positions_copyPlaces_89 ?_
    refine lv_icmp_ge (tgt := 119) S.1 S.2.1 d_Positions_copyPlaces_90 (by decide) (fun c16 => ?_) (fun c16 => ?_)
    · replace hf := xt c16 hf
      refine lv_iload S.1 S.2.1 d_Positions_copyPlaces_119 (lv_at hl 5 rfl) ?_
      refine lv_iload_n S.1 S.2.1 d_Positions_copyPlaces_121 rfl (lv_at hl 2 rfl) ?_
      refine lv_iadd S.1 S.2.1 d_Positions_copyPlaces_122 ?_
      refine lv_istore (lv' := [(5, .int (x5 + x2)), (0, .ref a0), (1, .int x1), (2, .int x2), (3, .int x3), (4, .int x4), (6, .int x6)]) S.1 S.2.1 d_Positions_copyPlaces_123 hl (by decide) rfl (fun ls hl => ?_)
      refine lv_goto (tgt := 31) S.1 S.2.1 d_Positions_copyPlaces_125 (by decide) ?_
      exact hk31 _ _ _ _ _ _ _ _ _ _ hw (lv_sub hl [1, 2, 3, 4, 5, 0] rfl) hf
    · replace hf := xf c16 hf
      refine lv_aload_n S.1 S.2.1 d_Positions_copyPlaces_93 rfl (lv_at hl 0 rfl) ?_
      obtain ⟨t17, ht17, hf⟩ := xb hf
      refine x_getr S hw lk_Positions_15 ht17 d_Positions_copyPlaces_94 ?_
      refine lv_iload S.1 S.2.1 d_Positions_copyPlaces_97 (lv_at hl 6 rfl) ?_
      refine lv_iload S.1 S.2.1 d_Positions_copyPlaces_99 (lv_at hl 5 rfl) ?_
      refine lv_iadd S.1 S.2.1 d_Positions_copyPlaces_101 ?_
      refine lv_aload_n S.1 S.2.1 d_Positions_copyPlaces_102 rfl (lv_at hl 0 rfl) ?_
      obtain ⟨t18, ht18, hf⟩ := xb hf
      refine x_getr S hw lk_Positions_15 ht18 d_Positions_copyPlaces_103 ?_
      refine lv_iload S.1 S.2.1 d_Positions_copyPlaces_106 (lv_at hl 6 rfl) ?_
      obtain ⟨t19, ht19, hf⟩ := xb hf
      refine x_iald S hw ht19 d_Positions_copyPlaces_108 ?_
      refine lv_iload S.1 S.2.1 d_Positions_copyPlaces_109 (lv_at hl 5 rfl) ?_
      refine lv_ishl S.1 S.2.1 d_Positions_copyPlaces_111 ?_
      obtain ⟨w20, hw20, hf⟩ := xb hf
      refine x_iast S hw hw20 d_Positions_copyPlaces_112 (fun H locs hw => ?_)
      refine lv_iinc (v := (x6 + 1)) (lv' := [(6, .int (x6 + 1)), (0, .ref a0), (1, .int x1), (2, .int x2), (3, .int x3), (4, .int x4), (5, .int x5)]) S.1 S.2.1 d_Positions_copyPlaces_113 hl (k := 6) rfl rfl (by decide) rfl (fun ls hl => ?_)
      refine lv_goto (tgt := 85) S.1 S.2.1 d_Positions_copyPlaces_116 (by decide) ?_
      exact ih _ _ _ _ _ _ _ _ _ _ _ hw (lv_sub hl [1, 2, 3, 4, 5, 6, 0] rfl) hf
def f_Positions_copyPlaces_46 (k31 : Nat → Int32 → Int32 → Int32 → Int32 → Int32 → xS → Option xS) : Nat → Nat → Int32 → Int32 → Int32 → Int32 → Int32 → Int32 → xS → Option xS
  | 0, _, _, _, _, _, _, _, _ => none
  | n + 1, a0, x1, x2, x3, x4, x5, x6, ω =>
    if 9 ≤ x6 then (
      f_Positions_copyPlaces_85 k31 xFU a0 x1 x2 x3 x4 x5 x1 ω)
    else (
      (xgr ω a0 7 0).bind fun t11 =>
      (xai ω t11 x6).bind fun t12 =>
      (xgr ω a0 7 0).bind fun t13 =>
      (xai ω t13 x6).bind fun t14 =>
      (xsi ω t11 x6 (t12 ||| ((t14 &&& x4) <<< (x5 &&& 31)))).bind fun w15 =>
      f_Positions_copyPlaces_46 k31 n a0 x1 x2 x3 x4 x5 (x6 + 1) w15)
set_option maxHeartbeats 4000000 in
set_option maxRecDepth 100000 in
theorem w_Positions_copyPlaces_46 {p : Program} {l : Launch} {e : Env} {s : State} {m : MethodId} {args : Array Value} {below : List Frame} {meth : Method} {c : Code} {E : xV} {z : Nat} {ω1 : xS} {k31 : Nat → Int32 → Int32 → Int32 → Int32 → Int32 → xS → Option xS} (S : CallFix p m c b_Positions_copyPlaces 7 s args xTbl "RosterRules$Positions") (hr : meth.sig.returnType = none) (hlocks : meth.locks = false) (hk31 : ∀ (a0 : Nat) (x1 : Int32) (x2 : Int32) (x3 : Int32) (x4 : Int32) (x5 : Int32) (ω : xS) (H : Heap) (locs : List Loc) (ls : Array Slot), xW E z ω s s.heap H locs → lv_has ls 7 [(0, .ref a0), (1, .int x1), (2, .int x2), (3, .int x3), (4, .int x4), (5, .int x5)] → k31 a0 x1 x2 x3 x4 x5 ω = some ω1 → W p l e (headSpec ws_Positions_copyPlaces { frames := 0, cells := 0, slots := 0, locals := 0 }).room s m args below meth c H locs 0 0 (MQ below (xQ E none z ω1) args s 0 0 (fun q => E.2.2 ≤ q)) (F0 m 31 ls [])) : ∀ n : Nat, ∀ (a0 : Nat) (x1 : Int32) (x2 : Int32) (x3 : Int32) (x4 : Int32) (x5 : Int32) (x6 : Int32) (ω : xS) (H : Heap) (locs : List Loc) (ls : Array Slot), xW E z ω s s.heap H locs → lv_has ls 7 [(0, .ref a0), (1, .int x1), (2, .int x2), (3, .int x3), (4, .int x4), (5, .int x5), (6, .int x6)] → f_Positions_copyPlaces_46 k31 n a0 x1 x2 x3 x4 x5 x6 ω = some ω1 → W p l e (headSpec ws_Positions_copyPlaces { frames := 0, cells := 0, slots := 0, locals := 0 }).room s m args below meth c H locs 0 0 (MQ below (xQ E none z ω1) args s 0 0 (fun q => E.2.2 ≤ q)) (F0 m 46 ls []) := by
  intro n
  induction n with
  | zero =>
    intro a0 x1 x2 x3 x4 x5 x6 ω H locs ls hw hl hf
    have h2 : (none : Option xS) = some ω1 := hf
    cases h2
  | succ n ih =>
    intro a0 x1 x2 x3 x4 x5 x6 ω H locs ls hw hl hf
    rw [f_Positions_copyPlaces_46] at hf
    refine lv_iload S.1 S.2.1 d_Positions_copyPlaces_46 (lv_at hl 6 rfl) ?_
    refine lv_bipush (v := 9) S.1 S.2.1 d_Positions_copyPlaces_48 (by decide) ?_
    refine lv_icmp_ge (tgt := 82) S.1 S.2.1 d_Positions_copyPlaces_50 (by decide) (fun c10 => ?_) (fun c10 => ?_)
    · replace hf := xt c10 hf
      refine lv_iload_n S.1 S.2.1 d_Positions_copyPlaces_82 rfl (lv_at hl 1 rfl) ?_
      refine lv_istore (lv' := [(6, .int x1), (0, .ref a0), (1, .int x1), (2, .int x2), (3, .int x3), (4, .int x4), (5, .int x5)]) S.1 S.2.1 d_Positions_copyPlaces_83 hl (by decide) rfl (fun ls hl => ?_)
      exact w_Positions_copyPlaces_85 S hr hlocks hk31 _ _ _ _ _ _ _ _ _ _ _ _ hw (lv_sub hl [1, 2, 3, 4, 5, 6, 0] rfl) hf
    · replace hf := xf c10 hf
      refine lv_aload_n S.1 S.2.1 d_Positions_copyPlaces_53 rfl (lv_at hl 0 rfl) ?_
      obtain ⟨t11, ht11, hf⟩ := xb hf
      refine x_getr S hw lk_Positions_11 ht11 d_Positions_copyPlaces_54 ?_
      refine lv_iload S.1 S.2.1 d_Positions_copyPlaces_57 (lv_at hl 6 rfl) ?_
      refine lv_dup2_11 S.1 S.2.1 d_Positions_copyPlaces_59 rfl rfl ?_
      obtain ⟨t12, ht12, hf⟩ := xb hf
      refine x_iald S hw ht12 d_Positions_copyPlaces_60 ?_
      refine lv_aload_n S.1 S.2.1 d_Positions_copyPlaces_61 rfl (lv_at hl 0 rfl) ?_
      obtain ⟨t13, ht13, hf⟩ := xb hf
      refine x_getr S hw lk_Positions_11 ht13 d_Positions_copyPlaces_62 ?_
      refine lv_iload S.1 S.2.1 d_Positions_copyPlaces_65 (lv_at hl 6 rfl) ?_
      obtain ⟨t14, ht14, hf⟩ := xb hf
      refine x_iald S hw ht14 d_Positions_copyPlaces_67 ?_
      refine lv_iload S.1 S.2.1 d_Positions_copyPlaces_68 (lv_at hl 4 rfl) ?_
      refine lv_iand S.1 S.2.1 d_Positions_copyPlaces_70 ?_
      refine lv_iload S.1 S.2.1 d_Positions_copyPlaces_71 (lv_at hl 5 rfl) ?_
      refine lv_ishl S.1 S.2.1 d_Positions_copyPlaces_73 ?_
      refine lv_ior S.1 S.2.1 d_Positions_copyPlaces_74 ?_
      obtain ⟨w15, hw15, hf⟩ := xb hf
      refine x_iast S hw hw15 d_Positions_copyPlaces_75 (fun H locs hw => ?_)
      refine lv_iinc (v := (x6 + 1)) (lv' := [(6, .int (x6 + 1)), (0, .ref a0), (1, .int x1), (2, .int x2), (3, .int x3), (4, .int x4), (5, .int x5)]) S.1 S.2.1 d_Positions_copyPlaces_76 hl (k := 6) rfl rfl (by decide) rfl (fun ls hl => ?_)
      refine lv_goto (tgt := 46) S.1 S.2.1 d_Positions_copyPlaces_79 (by decide) ?_
      exact ih _ _ _ _ _ _ _ _ _ _ _ hw (lv_sub hl [1, 2, 3, 4, 5, 6, 0] rfl) hf
def f_Positions_copyPlaces_31 : Nat → Nat → Int32 → Int32 → Int32 → Int32 → Int32 → xS → Option xS
  | 0, _, _, _, _, _, _, _ => none
  | n + 1, a0, x1, x2, x3, x4, x5, ω =>
    if (x2 * x3) < x5 then (
      (xgi ω a0 7 4).bind fun t5 =>
      (xp ω a0 7 4 (.int (t5 + (x2 * x3)))).bind fun w6 =>
      some w6)
    else (
      if x2 ≤ 0 then (
        (xgi ω a0 7 4).bind fun t8 =>
        (xp ω a0 7 4 (.int (t8 + (x2 * x3)))).bind fun w9 =>
        some w9)
      else (
        f_Positions_copyPlaces_46 (f_Positions_copyPlaces_31  n) xFU a0 x1 x2 x3 x4 x5 0 ω))
set_option maxHeartbeats 4000000 in
set_option maxRecDepth 100000 in
theorem w_Positions_copyPlaces_31 {p : Program} {l : Launch} {e : Env} {s : State} {m : MethodId} {args : Array Value} {below : List Frame} {meth : Method} {c : Code} {E : xV} {z : Nat} {ω1 : xS} (S : CallFix p m c b_Positions_copyPlaces 7 s args xTbl "RosterRules$Positions") (hr : meth.sig.returnType = none) (hlocks : meth.locks = false) : ∀ n : Nat, ∀ (a0 : Nat) (x1 : Int32) (x2 : Int32) (x3 : Int32) (x4 : Int32) (x5 : Int32) (ω : xS) (H : Heap) (locs : List Loc) (ls : Array Slot), xW E z ω s s.heap H locs → lv_has ls 7 [(0, .ref a0), (1, .int x1), (2, .int x2), (3, .int x3), (4, .int x4), (5, .int x5)] → f_Positions_copyPlaces_31 n a0 x1 x2 x3 x4 x5 ω = some ω1 → W p l e (headSpec ws_Positions_copyPlaces { frames := 0, cells := 0, slots := 0, locals := 0 }).room s m args below meth c H locs 0 0 (MQ below (xQ E none z ω1) args s 0 0 (fun q => E.2.2 ≤ q)) (F0 m 31 ls []) := by
  intro n
  induction n with
  | zero =>
    intro a0 x1 x2 x3 x4 x5 ω H locs ls hw hl hf
    have h2 : (none : Option xS) = some ω1 := hf
    cases h2
  | succ n ih =>
    intro a0 x1 x2 x3 x4 x5 ω H locs ls hw hl hf
    rw [f_Positions_copyPlaces_31] at hf
    refine lv_iload S.1 S.2.1 d_Positions_copyPlaces_31 (lv_at hl 5 rfl) ?_
    refine lv_iload_n S.1 S.2.1 d_Positions_copyPlaces_33 rfl (lv_at hl 2 rfl) ?_
    refine lv_iload_n S.1 S.2.1 d_Positions_copyPlaces_34 rfl (lv_at hl 3 rfl) ?_
    refine lv_imul S.1 S.2.1 d_Positions_copyPlaces_35 ?_
    refine lv_icmp_gt (tgt := 128) S.1 S.2.1 d_Positions_copyPlaces_36 (by decide) (fun c4 => ?_) (fun c4 => ?_)
    · replace hf := xt c4 hf
      refine lv_aload_n S.1 S.2.1 d_Positions_copyPlaces_128 rfl (lv_at hl 0 rfl) ?_
      refine lv_dup S.1 S.2.1 d_Positions_copyPlaces_129 rfl ?_
      obtain ⟨t5, ht5, hf⟩ := xb hf
      refine x_geti S hw lk_Positions_24 ht5 d_Positions_copyPlaces_130 ?_
      refine lv_iload_n S.1 S.2.1 d_Positions_copyPlaces_133 rfl (lv_at hl 2 rfl) ?_
      refine lv_iload_n S.1 S.2.1 d_Positions_copyPlaces_134 rfl (lv_at hl 3 rfl) ?_
      refine lv_imul S.1 S.2.1 d_Positions_copyPlaces_135 ?_
      refine lv_iadd S.1 S.2.1 d_Positions_copyPlaces_136 ?_
      obtain ⟨w6, hw6, hf⟩ := xb hf
      refine x_puti S hw lp_Positions_24 hw6 d_Positions_copyPlaces_137 (fun H locs hw => ?_)
      cases hf
      exact x_vret S hr hlocks hw d_Positions_copyPlaces_140
    · replace hf := xf c4 hf
      refine lv_iload_n S.1 S.2.1 d_Positions_copyPlaces_39 rfl (lv_at hl 2 rfl) ?_
      refine lv_if_le (tgt := 128) S.1 S.2.1 d_Positions_copyPlaces_40 (by decide) (fun c7 => ?_) (fun c7 => ?_)
      · replace hf := xt c7 hf
        refine lv_aload_n S.1 S.2.1 d_Positions_copyPlaces_128 rfl (lv_at hl 0 rfl) ?_
        refine lv_dup S.1 S.2.1 d_Positions_copyPlaces_129 rfl ?_
        obtain ⟨t8, ht8, hf⟩ := xb hf
        refine x_geti S hw lk_Positions_24 ht8 d_Positions_copyPlaces_130 ?_
        refine lv_iload_n S.1 S.2.1 d_Positions_copyPlaces_133 rfl (lv_at hl 2 rfl) ?_
        refine lv_iload_n S.1 S.2.1 d_Positions_copyPlaces_134 rfl (lv_at hl 3 rfl) ?_
        refine lv_imul S.1 S.2.1 d_Positions_copyPlaces_135 ?_
        refine lv_iadd S.1 S.2.1 d_Positions_copyPlaces_136 ?_
        obtain ⟨w9, hw9, hf⟩ := xb hf
        refine x_puti S hw lp_Positions_24 hw9 d_Positions_copyPlaces_137 (fun H locs hw => ?_)
        cases hf
        exact x_vret S hr hlocks hw d_Positions_copyPlaces_140
      · replace hf := xf c7 hf
        refine lv_iconst (v := 0) S.1 S.2.1 d_Positions_copyPlaces_43 (by decide) ?_
        refine lv_istore (lv' := [(6, .int 0), (0, .ref a0), (1, .int x1), (2, .int x2), (3, .int x3), (4, .int x4), (5, .int x5)]) S.1 S.2.1 d_Positions_copyPlaces_44 hl (by decide) rfl (fun ls hl => ?_)
        exact w_Positions_copyPlaces_46 S hr hlocks ih _ _ _ _ _ _ _ _ _ _ _ _ hw (lv_sub hl [1, 2, 3, 4, 5, 6, 0] rfl) hf
def f_Positions_copyPlaces (a0 : Nat) (x1 : Int32) (x2 : Int32) (x3 : Int32) (ω : xS) : Option xS :=
  (xgi ω a0 7 4).bind fun t1 =>
  if (t1 + (x2 * x3)) ≤ 10 then (
    f_Positions_copyPlaces_31  xFU a0 x1 x2 x3 (((1 <<< (x2 &&& 31)) - 1) <<< (x1 &&& 31)) x2 ω)
  else (
    (xp ω a0 7 5 (.int 1)).bind fun w3 =>
    some w3)
set_option maxHeartbeats 4000000 in
set_option maxRecDepth 100000 in
theorem c_Positions_copyPlaces {l : Launch} {E : xV} {z : Nat} {a0 : Nat} {x1 : Int32} {x2 : Int32} {x3 : Int32} {ω1 : xS} {ω : xS} (hf : f_Positions_copyPlaces a0 x1 x2 x3 ω = some ω1) : xM l E y_Positions_copyPlaces ws_Positions_copyPlaces { frames := 0, cells := 0, slots := 0, locals := 0 } [.ref a0, .int x1, .int x2, .int x3] z ω none z ω1 := by
  refine x_start (cc := b_Positions_copyPlaces) (maxL := 7) (ret := none) (by decide) rfl (Nat.le_of_ble_eq_true rfl) ?_
  intro p e s m below meth c S hr hlocks hin ls hl hw
  have hl : lv_has ls 7 [(0, .ref a0), (1, .int x1), (2, .int x2), (3, .int x3)] := hl
  unfold f_Positions_copyPlaces at hf
  refine lv_aload_n S.1 S.2.1 d_Positions_copyPlaces_0 rfl (lv_at hl 0 rfl) ?_
  obtain ⟨t1, ht1, hf⟩ := xb hf
  refine x_geti S hw lk_Positions_24 ht1 d_Positions_copyPlaces_1 ?_
  refine lv_iload_n S.1 S.2.1 d_Positions_copyPlaces_4 rfl (lv_at hl 2 rfl) ?_
  refine lv_iload_n S.1 S.2.1 d_Positions_copyPlaces_5 rfl (lv_at hl 3 rfl) ?_
  refine lv_imul S.1 S.2.1 d_Positions_copyPlaces_6 ?_
  refine lv_iadd S.1 S.2.1 d_Positions_copyPlaces_7 ?_
  refine lv_bipush (v := 10) S.1 S.2.1 d_Positions_copyPlaces_8 (by decide) ?_
  refine lv_icmp_le (tgt := 19) S.1 S.2.1 d_Positions_copyPlaces_10 (by decide) (fun c2 => ?_) (fun c2 => ?_)
  · replace hf := xt c2 hf
    refine lv_iconst (v := 1) S.1 S.2.1 d_Positions_copyPlaces_19 (by decide) ?_
    refine lv_iload_n S.1 S.2.1 d_Positions_copyPlaces_20 rfl (lv_at hl 2 rfl) ?_
    refine lv_ishl S.1 S.2.1 d_Positions_copyPlaces_21 ?_
    refine lv_iconst (v := 1) S.1 S.2.1 d_Positions_copyPlaces_22 (by decide) ?_
    refine lv_isub S.1 S.2.1 d_Positions_copyPlaces_23 ?_
    refine lv_iload_n S.1 S.2.1 d_Positions_copyPlaces_24 rfl (lv_at hl 1 rfl) ?_
    refine lv_ishl S.1 S.2.1 d_Positions_copyPlaces_25 ?_
    refine lv_istore (lv' := [(4, .int (((1 <<< (x2 &&& 31)) - 1) <<< (x1 &&& 31))), (0, .ref a0), (1, .int x1), (2, .int x2), (3, .int x3)]) S.1 S.2.1 d_Positions_copyPlaces_26 hl (by decide) rfl (fun ls hl => ?_)
    refine lv_iload_n S.1 S.2.1 d_Positions_copyPlaces_28 rfl (lv_at hl 3 rfl) ?_
    refine lv_istore (lv' := [(5, .int x2), (4, .int (((1 <<< (x2 &&& 31)) - 1) <<< (x1 &&& 31))), (0, .ref a0), (1, .int x1), (2, .int x2), (3, .int x3)]) S.1 S.2.1 d_Positions_copyPlaces_29 hl (by decide) rfl (fun ls hl => ?_)
    exact w_Positions_copyPlaces_31 S hr hlocks  _ _ _ _ _ _ _ _ _ _ _ hw (lv_sub hl [2, 3, 4, 5, 1, 0] rfl) hf
  · replace hf := xf c2 hf
    refine lv_aload_n S.1 S.2.1 d_Positions_copyPlaces_13 rfl (lv_at hl 0 rfl) ?_
    refine lv_iconst (v := 1) S.1 S.2.1 d_Positions_copyPlaces_14 (by decide) ?_
    obtain ⟨w3, hw3, hf⟩ := xb hf
    refine x_put S hw lp_Positions_28 (by decide) rfl hw3 d_Positions_copyPlaces_15 (fun H locs hw => ?_)
    cases hf
    exact x_vret S hr hlocks hw d_Positions_copyPlaces_18
def f_PatternParser_repeatItem_94 : Nat → Nat → Nat → Int32 → Int32 → Int32 → Int32 → Int32 → xS → Option xS
  | 0, _, _, _, _, _, _, _, _ => none
  | n + 1, a0, a2, x3, x4, x5, x6, x7, ω =>
    if x4 ≤ x7 then (
      (xp ω a0 6 5 (.int x6)).bind fun w21 =>
      some w21)
    else (
      (xgi ω a0 6 5).bind fun t22 =>
      (xgi ω a0 6 5).bind fun t23 =>
      if x3 ≤ x7 then (
        xc (xk ω a2 7 (f_Positions_chain a2 x6 ((((t22 &&& (-1048577)) <<< ((x7 * x5) &&& 31)) ||| (t23 &&& 1048576)) ||| 1048576) ω)) fun t26 w27 =>
        f_PatternParser_repeatItem_94  n a0 a2 x3 x4 x5 t26 (x7 + 1) w27)
      else (
        xc (xk ω a2 7 (f_Positions_chain a2 x6 (((t22 &&& (-1048577)) <<< ((x7 * x5) &&& 31)) ||| (t23 &&& 1048576)) ω)) fun t29 w30 =>
        f_PatternParser_repeatItem_94  n a0 a2 x3 x4 x5 t29 (x7 + 1) w30))
set_option maxHeartbeats 4000000 in
set_option maxRecDepth 100000 in
theorem w_PatternParser_repeatItem_94 {p : Program} {l : Launch} {e : Env} {s : State} {m : MethodId} {args : Array Value} {below : List Frame} {meth : Method} {c : Code} {E : xV} {z : Nat} {ω1 : xS} (S : CallFix p m c b_PatternParser_repeatItem 9 s args xTbl "RosterRules$PatternParser") (hr : meth.sig.returnType = none) (hlocks : meth.locks = false) : ∀ n : Nat, ∀ (a0 : Nat) (a2 : Nat) (x3 : Int32) (x4 : Int32) (x5 : Int32) (x6 : Int32) (x7 : Int32) (ω : xS) (H : Heap) (locs : List Loc) (ls : Array Slot), xW E z ω s s.heap H locs → lv_has ls 9 [(0, .ref a0), (2, .ref a2), (3, .int x3), (4, .int x4), (5, .int x5), (6, .int x6), (7, .int x7)] → f_PatternParser_repeatItem_94 n a0 a2 x3 x4 x5 x6 x7 ω = some ω1 → W p l e (headSpec ws_PatternParser_repeatItem { frames := 1, cells := 0, slots := 0, locals := 26 }).room s m args below meth c H locs 0 0 (MQ below (xQ E none z ω1) args s 0 0 (fun q => E.2.2 ≤ q)) (F0 m 94 ls []) := by
  intro n
  induction n with
  | zero =>
    intro a0 a2 x3 x4 x5 x6 x7 ω H locs ls hw hl hf
    have h2 : (none : Option xS) = some ω1 := hf
    cases h2
  | succ n ih =>
    intro a0 a2 x3 x4 x5 x6 x7 ω H locs ls hw hl hf
    rw [f_PatternParser_repeatItem_94] at hf
    refine lv_iload S.1 S.2.1 d_PatternParser_repeatItem_94 (lv_at hl 6 rfl) ?_
    refine lv_iload S.1 S.2.1 d_PatternParser_repeatItem_96 (lv_at hl 3 rfl) ?_
    refine lv_icmp_ge (tgt := 154) S.1 S.2.1 d_PatternParser_repeatItem_98 (by decide) (fun c20 => ?_) (fun c20 => ?_)
    · replace hf := xt c20 hf
      refine lv_aload_n S.1 S.2.1 d_PatternParser_repeatItem_154 rfl (lv_at hl 0 rfl) ?_
      refine lv_iload S.1 S.2.1 d_PatternParser_repeatItem_155 (lv_at hl 5 rfl) ?_
      obtain ⟨w21, hw21, hf⟩ := xb hf
      refine x_puti S hw lp_PatternParser_43 hw21 d_PatternParser_repeatItem_157 (fun H locs hw => ?_)
      cases hf
      exact x_vret S hr hlocks hw d_PatternParser_repeatItem_160
    · replace hf := xf c20 hf
      refine lv_aload_n S.1 S.2.1 d_PatternParser_repeatItem_101 rfl (lv_at hl 0 rfl) ?_
      obtain ⟨t22, ht22, hf⟩ := xb hf
      refine x_geti S hw lk_PatternParser_43 ht22 d_PatternParser_repeatItem_102 ?_
      refine lv_ldc (v := (-1048577)) S.1 S.2.1 S.2.2.2.1 (S.2.2.2.2 _ wd_3_132) d_PatternParser_repeatItem_105 ?_
      refine lv_iand S.1 S.2.1 d_PatternParser_repeatItem_107 ?_
      refine lv_iload S.1 S.2.1 d_PatternParser_repeatItem_108 (lv_at hl 6 rfl) ?_
      refine lv_iload S.1 S.2.1 d_PatternParser_repeatItem_110 (lv_at hl 4 rfl) ?_
      refine lv_imul S.1 S.2.1 d_PatternParser_repeatItem_112 ?_
      refine lv_ishl S.1 S.2.1 d_PatternParser_repeatItem_113 ?_
      refine lv_aload_n S.1 S.2.1 d_PatternParser_repeatItem_114 rfl (lv_at hl 0 rfl) ?_
      obtain ⟨t23, ht23, hf⟩ := xb hf
      refine x_geti S hw lk_PatternParser_43 ht23 d_PatternParser_repeatItem_115 ?_
      refine lv_ldc (v := 1048576) S.1 S.2.1 S.2.2.2.1 (S.2.2.2.2 _ wd_3_75) d_PatternParser_repeatItem_118 ?_
      refine lv_iand S.1 S.2.1 d_PatternParser_repeatItem_120 ?_
      refine lv_ior S.1 S.2.1 d_PatternParser_repeatItem_121 ?_
      refine lv_istore (lv' := [(8, .int (((t22 &&& (-1048577)) <<< ((x7 * x5) &&& 31)) ||| (t23 &&& 1048576))), (0, .ref a0), (2, .ref a2), (3, .int x3), (4, .int x4), (5, .int x5), (6, .int x6), (7, .int x7)]) S.1 S.2.1 d_PatternParser_repeatItem_122 hl (by decide) rfl (fun ls hl => ?_)
      refine lv_aload_n S.1 S.2.1 d_PatternParser_repeatItem_124 rfl (lv_at hl 2 rfl) ?_
      refine lv_iload S.1 S.2.1 d_PatternParser_repeatItem_125 (lv_at hl 6 rfl) ?_
      refine lv_iload S.1 S.2.1 d_PatternParser_repeatItem_127 (lv_at hl 7 rfl) ?_
      refine lv_iload_n S.1 S.2.1 d_PatternParser_repeatItem_129 rfl (lv_at hl 3 rfl) ?_
      refine lv_icmp_ge (tgt := 138) S.1 S.2.1 d_PatternParser_repeatItem_130 (by decide) (fun c24 => ?_) (fun c24 => ?_)
      · replace hf := xt c24 hf
        refine lv_iload S.1 S.2.1 d_PatternParser_repeatItem_138 (lv_at hl 0 rfl) ?_
        refine lv_ldc (v := 1048576) S.1 S.2.1 S.2.2.2.1 (S.2.2.2.2 _ wd_3_75) d_PatternParser_repeatItem_140 ?_
        refine lv_ior S.1 S.2.1 d_PatternParser_repeatItem_142 ?_
        obtain ⟨t26, w27, h25, hf⟩ := xcb hf
        obtain ⟨h25b, h25⟩ := xkb h25
        refine x_callV (As := [.int x6, .int ((((t22 &&& (-1048577)) <<< ((x7 * x5) &&& 31)) ||| (t23 &&& 1048576)) ||| 1048576)]) (rest := []) (st1 := [.int t26]) S hw (c_Positions_chain h25) (cwV 2 S.2.2.2.2 gv_PatternParser_105 rfl rfl rfl hd_Positions_chain ⟨Nat.le_of_ble_eq_true rfl, Nat.le_of_ble_eq_true rfl⟩) rfl h25b rfl hl.1 rfl rfl (Nat.le_of_ble_eq_true rfl) d_PatternParser_repeatItem_143 ⟨Nat.le_of_ble_eq_true rfl, Nat.le_of_ble_eq_true rfl⟩ (fun H locs hw => ?_)
        refine lv_istore (lv' := [(6, .int t26), (8, .int (((t22 &&& (-1048577)) <<< ((x7 * x5) &&& 31)) ||| (t23 &&& 1048576))), (0, .ref a0), (2, .ref a2), (3, .int x3), (4, .int x4), (5, .int x5), (7, .int x7)]) S.1 S.2.1 d_PatternParser_repeatItem_146 hl (by decide) rfl (fun ls hl => ?_)
        refine lv_iinc (v := (x7 + 1)) (lv' := [(7, .int (x7 + 1)), (6, .int t26), (8, .int (((t22 &&& (-1048577)) <<< ((x7 * x5) &&& 31)) ||| (t23 &&& 1048576))), (0, .ref a0), (2, .ref a2), (3, .int x3), (4, .int x4), (5, .int x5)]) S.1 S.2.1 d_PatternParser_repeatItem_148 hl (k := 7) rfl rfl (by decide) rfl (fun ls hl => ?_)
        refine lv_goto (tgt := 94) S.1 S.2.1 d_PatternParser_repeatItem_151 (by decide) ?_
        exact ih _ _ _ _ _ _ _ _ _ _ _ hw (lv_sub hl [3, 4, 5, 6, 7, 1, 0] rfl) hf
      · replace hf := xf c24 hf
        refine lv_iload S.1 S.2.1 d_PatternParser_repeatItem_133 (lv_at hl 0 rfl) ?_
        refine lv_goto (tgt := 143) S.1 S.2.1 d_PatternParser_repeatItem_135 (by decide) ?_
        obtain ⟨t29, w30, h28, hf⟩ := xcb hf
        obtain ⟨h28b, h28⟩ := xkb h28
        refine x_callV (As := [.int x6, .int (((t22 &&& (-1048577)) <<< ((x7 * x5) &&& 31)) ||| (t23 &&& 1048576))]) (rest := []) (st1 := [.int t29]) S hw (c_Positions_chain h28) (cwV 2 S.2.2.2.2 gv_PatternParser_105 rfl rfl rfl hd_Positions_chain ⟨Nat.le_of_ble_eq_true rfl, Nat.le_of_ble_eq_true rfl⟩) rfl h28b rfl hl.1 rfl rfl (Nat.le_of_ble_eq_true rfl) d_PatternParser_repeatItem_143 ⟨Nat.le_of_ble_eq_true rfl, Nat.le_of_ble_eq_true rfl⟩ (fun H locs hw => ?_)
        refine lv_istore (lv' := [(6, .int t29), (8, .int (((t22 &&& (-1048577)) <<< ((x7 * x5) &&& 31)) ||| (t23 &&& 1048576))), (0, .ref a0), (2, .ref a2), (3, .int x3), (4, .int x4), (5, .int x5), (7, .int x7)]) S.1 S.2.1 d_PatternParser_repeatItem_146 hl (by decide) rfl (fun ls hl => ?_)
        refine lv_iinc (v := (x7 + 1)) (lv' := [(7, .int (x7 + 1)), (6, .int t29), (8, .int (((t22 &&& (-1048577)) <<< ((x7 * x5) &&& 31)) ||| (t23 &&& 1048576))), (0, .ref a0), (2, .ref a2), (3, .int x3), (4, .int x4), (5, .int x5)]) S.1 S.2.1 d_PatternParser_repeatItem_148 hl (k := 7) rfl rfl (by decide) rfl (fun ls hl => ?_)
        refine lv_goto (tgt := 94) S.1 S.2.1 d_PatternParser_repeatItem_151 (by decide) ?_
        exact ih _ _ _ _ _ _ _ _ _ _ _ hw (lv_sub hl [3, 4, 5, 6, 7, 1, 0] rfl) hf
def f_PatternParser_repeatItem (a0 : Nat) (x1 : Int32) (a2 : Nat) (ω : xS) : Option xS :=
  (xp ω a0 6 7 (.int 0)).bind fun w1 =>
  if (x1 - x1 / 10 * 10) = 0 then (
    (xgi w1 a0 6 5).bind fun t11 =>
    (xgi w1 a0 6 5).bind fun t12 =>
    xc (xk w1 a2 7 (f_Positions_chain a2 t11 t12 w1)) fun t14 w15 =>
    (xgi w15 a0 6 5).bind fun t16 =>
    if (x1 / 10) = 0 then (
      (xp w15 a0 6 5 (.int (t16 ||| 1048576))).bind fun w19 =>
      some w19)
    else (
      (xp w15 a0 6 5 (.int (t16 ||| 0))).bind fun w18 =>
      some w18))
  else (
    (xgi w1 a2 7 4).bind fun t3 =>
    (xgi w1 a0 6 6).bind fun t4 =>
    (xgi w1 a0 6 6).bind fun t5 =>
    (xk w1 a2 7 (f_Positions_copyPlaces a2 t5 (t3 - t4) ((x1 - x1 / 10 * 10) - 1) w1)).bind fun w8 =>
    (xgi w8 a2 7 5).bind fun t9 =>
    if t9 = 0 then (
      f_PatternParser_repeatItem_94  xFU a0 a2 (x1 / 10) (x1 - x1 / 10 * 10) (t3 - t4) 1048576 0 w8)
    else (
      some w8))
set_option maxHeartbeats 4000000 in
set_option maxRecDepth 100000 in
theorem c_PatternParser_repeatItem {l : Launch} {E : xV} {z : Nat} {a0 : Nat} {x1 : Int32} {a2 : Nat} {ω1 : xS} {ω : xS} (hf : f_PatternParser_repeatItem a0 x1 a2 ω = some ω1) : xM l E y_PatternParser_repeatItem ws_PatternParser_repeatItem { frames := 1, cells := 0, slots := 0, locals := 26 } [.ref a0, .int x1, .ref a2] z ω none z ω1 := by
  refine x_start (cc := b_PatternParser_repeatItem) (maxL := 9) (ret := none) (by decide) rfl (Nat.le_of_ble_eq_true rfl) ?_
  intro p e s m below meth c S hr hlocks hin ls hl hw
  have hl : lv_has ls 9 [(0, .ref a0), (1, .int x1), (2, .ref a2)] := hl
  unfold f_PatternParser_repeatItem at hf
  refine lv_iload_n S.1 S.2.1 d_PatternParser_repeatItem_0 rfl (lv_at hl 1 rfl) ?_
  refine lv_bipush (v := 10) S.1 S.2.1 d_PatternParser_repeatItem_1 (by decide) ?_
  refine lv_idiv S.1 S.2.1 d_PatternParser_repeatItem_3 (by decide) ?_
  refine lv_istore_n (lv' := [(3, .int (x1 / 10)), (0, .ref a0), (1, .int x1), (2, .ref a2)]) S.1 S.2.1 d_PatternParser_repeatItem_4 rfl hl (by decide) rfl (fun ls hl => ?_)
  refine lv_iload_n S.1 S.2.1 d_PatternParser_repeatItem_5 rfl (lv_at hl 2 rfl) ?_
  refine lv_bipush (v := 10) S.1 S.2.1 d_PatternParser_repeatItem_6 (by decide) ?_
  refine lv_irem S.1 S.2.1 d_PatternParser_repeatItem_8 (by decide) ?_
  refine lv_istore (lv' := [(4, .int (x1 - x1 / 10 * 10)), (3, .int (x1 / 10)), (0, .ref a0), (1, .int x1), (2, .ref a2)]) S.1 S.2.1 d_PatternParser_repeatItem_9 hl (by decide) rfl (fun ls hl => ?_)
  refine lv_aload_n S.1 S.2.1 d_PatternParser_repeatItem_11 rfl (lv_at hl 2 rfl) ?_
  refine lv_iconst (v := 0) S.1 S.2.1 d_PatternParser_repeatItem_12 (by decide) ?_
  obtain ⟨w1, hw1, hf⟩ := xb hf
  refine x_put S hw lp_PatternParser_93 (by decide) rfl hw1 d_PatternParser_repeatItem_13 (fun H locs hw => ?_)
  refine lv_iload S.1 S.2.1 d_PatternParser_repeatItem_16 (lv_at hl 0 rfl) ?_
  refine lv_if_ne (tgt := 54) S.1 S.2.1 d_PatternParser_repeatItem_18 (by decide) (fun c2 => ?_) (fun c2 => ?_)
  · replace hf := xf c2 hf
    refine lv_aload_n S.1 S.2.1 d_PatternParser_repeatItem_54 rfl (lv_at hl 4 rfl) ?_
    obtain ⟨t3, ht3, hf⟩ := xb hf
    refine x_geti S hw lk_PatternParser_109 ht3 d_PatternParser_repeatItem_55 ?_
    refine lv_aload_n S.1 S.2.1 d_PatternParser_repeatItem_58 rfl (lv_at hl 2 rfl) ?_
    obtain ⟨t4, ht4, hf⟩ := xb hf
    refine x_geti S hw lk_PatternParser_112 ht4 d_PatternParser_repeatItem_59 ?_
    refine lv_isub S.1 S.2.1 d_PatternParser_repeatItem_62 ?_
    refine lv_istore (lv' := [(5, .int (t3 - t4)), (4, .int (x1 - x1 / 10 * 10)), (3, .int (x1 / 10)), (0, .ref a0), (1, .int x1), (2, .ref a2)]) S.1 S.2.1 d_PatternParser_repeatItem_63 hl (by decide) rfl (fun ls hl => ?_)
    refine lv_aload_n S.1 S.2.1 d_PatternParser_repeatItem_65 rfl (lv_at hl 5 rfl) ?_
    refine lv_aload_n S.1 S.2.1 d_PatternParser_repeatItem_66 rfl (lv_at hl 3 rfl) ?_
    obtain ⟨t5, ht5, hf⟩ := xb hf
    refine x_geti S hw lk_PatternParser_112 ht5 d_PatternParser_repeatItem_67 ?_
    refine lv_iload S.1 S.2.1 d_PatternParser_repeatItem_70 (lv_at hl 0 rfl) ?_
    refine lv_iload S.1 S.2.1 d_PatternParser_repeatItem_72 (lv_at hl 1 rfl) ?_
    refine lv_iconst (v := 1) S.1 S.2.1 d_PatternParser_repeatItem_74 (by decide) ?_
    refine lv_isub S.1 S.2.1 d_PatternParser_repeatItem_75 ?_
    obtain ⟨w8, h6, hf⟩ := xb hf
    obtain ⟨h6b, h6⟩ := xkb h6
    refine x_callV (As := [.int t5, .int (t3 - t4), .int ((x1 - x1 / 10 * 10) - 1)]) (rest := []) (st1 := []) S hw (c_Positions_copyPlaces h6) (cwV 3 S.2.2.2.2 gv_PatternParser_123 rfl rfl rfl hd_Positions_copyPlaces ⟨Nat.le_of_ble_eq_true rfl, Nat.le_of_ble_eq_true rfl⟩) rfl h6b rfl hl.1 rfl rfl (Nat.le_of_ble_eq_true rfl) d_PatternParser_repeatItem_76 ⟨Nat.le_of_ble_eq_true rfl, Nat.le_of_ble_eq_true rfl⟩ (fun H locs hw => ?_)
    refine lv_aload_n S.1 S.2.1 d_PatternParser_repeatItem_79 rfl (lv_at hl 5 rfl) ?_
    obtain ⟨t9, ht9, hf⟩ := xb hf
    refine x_geti S hw lk_PatternParser_60 ht9 d_PatternParser_repeatItem_80 ?_
    refine lv_if_eq (tgt := 87) S.1 S.2.1 d_PatternParser_repeatItem_83 (by decide) (fun c10 => ?_) (fun c10 => ?_)
    · replace hf := xt c10 hf
      refine lv_ldc (v := 1048576) S.1 S.2.1 S.2.2.2.1 (S.2.2.2.2 _ wd_3_75) d_PatternParser_repeatItem_87 ?_
      refine lv_istore (lv' := [(6, .int 1048576), (5, .int (t3 - t4)), (4, .int (x1 - x1 / 10 * 10)), (3, .int (x1 / 10)), (0, .ref a0), (1, .int x1), (2, .ref a2)]) S.1 S.2.1 d_PatternParser_repeatItem_89 hl (by decide) rfl (fun ls hl => ?_)
      refine lv_iconst (v := 0) S.1 S.2.1 d_PatternParser_repeatItem_91 (by decide) ?_
      refine lv_istore (lv' := [(7, .int 0), (6, .int 1048576), (5, .int (t3 - t4)), (4, .int (x1 - x1 / 10 * 10)), (3, .int (x1 / 10)), (0, .ref a0), (1, .int x1), (2, .ref a2)]) S.1 S.2.1 d_PatternParser_repeatItem_92 hl (by decide) rfl (fun ls hl => ?_)
      exact w_PatternParser_repeatItem_94 S hr hlocks  _ _ _ _ _ _ _ _ _ _ _ _ hw (lv_sub hl [5, 7, 4, 3, 2, 1, 0] rfl) hf
    · replace hf := xf c10 hf
      cases hf
      exact x_vret S hr hlocks hw d_PatternParser_repeatItem_86
  · replace hf := xt c2 hf
    refine lv_aload_n S.1 S.2.1 d_PatternParser_repeatItem_21 rfl (lv_at hl 4 rfl) ?_
    refine lv_aload_n S.1 S.2.1 d_PatternParser_repeatItem_22 rfl (lv_at hl 2 rfl) ?_
    obtain ⟨t11, ht11, hf⟩ := xb hf
    refine x_geti S hw lk_PatternParser_43 ht11 d_PatternParser_repeatItem_23 ?_
    refine lv_aload_n S.1 S.2.1 d_PatternParser_repeatItem_26 rfl (lv_at hl 2 rfl) ?_
    obtain ⟨t12, ht12, hf⟩ := xb hf
    refine x_geti S hw lk_PatternParser_43 ht12 d_PatternParser_repeatItem_27 ?_
    obtain ⟨t14, w15, h13, hf⟩ := xcb hf
    obtain ⟨h13b, h13⟩ := xkb h13
    refine x_callV (As := [.int t11, .int t12]) (rest := []) (st1 := [.int t14]) S hw (c_Positions_chain h13) (cwV 2 S.2.2.2.2 gv_PatternParser_105 rfl rfl rfl hd_Positions_chain ⟨Nat.le_of_ble_eq_true rfl, Nat.le_of_ble_eq_true rfl⟩) rfl h13b rfl hl.1 rfl rfl (Nat.le_of_ble_eq_true rfl) d_PatternParser_repeatItem_30 ⟨Nat.le_of_ble_eq_true rfl, Nat.le_of_ble_eq_true rfl⟩ (fun H locs hw => ?_)
    refine lv_pop S.1 S.2.1 d_PatternParser_repeatItem_33 rfl ?_
    refine lv_aload_n S.1 S.2.1 d_PatternParser_repeatItem_34 rfl (lv_at hl 2 rfl) ?_
    refine lv_dup S.1 S.2.1 d_PatternParser_repeatItem_35 rfl ?_
    obtain ⟨t16, ht16, hf⟩ := xb hf
    refine x_geti S hw lk_PatternParser_43 ht16 d_PatternParser_repeatItem_36 ?_
    refine lv_iload_n S.1 S.2.1 d_PatternParser_repeatItem_39 rfl (lv_at hl 1 rfl) ?_
    refine lv_if_ne (tgt := 48) S.1 S.2.1 d_PatternParser_repeatItem_40 (by decide) (fun c17 => ?_) (fun c17 => ?_)
    · replace hf := xf c17 hf
      refine lv_iconst (v := 0) S.1 S.2.1 d_PatternParser_repeatItem_48 (by decide) ?_
      refine lv_ior S.1 S.2.1 d_PatternParser_repeatItem_49 ?_
      obtain ⟨w18, hw18, hf⟩ := xb hf
      refine x_puti S hw lp_PatternParser_43 hw18 d_PatternParser_repeatItem_50 (fun H locs hw => ?_)
      cases hf
      exact x_vret S hr hlocks hw d_PatternParser_repeatItem_53
    · replace hf := xt c17 hf
      refine lv_ldc (v := 1048576) S.1 S.2.1 S.2.2.2.1 (S.2.2.2.2 _ wd_3_75) d_PatternParser_repeatItem_43 ?_
      refine lv_goto (tgt := 49) S.1 S.2.1 d_PatternParser_repeatItem_45 (by decide) ?_
      refine lv_ior S.1 S.2.1 d_PatternParser_repeatItem_49 ?_
      obtain ⟨w19, hw19, hf⟩ := xb hf
      refine x_puti S hw lp_PatternParser_43 hw19 d_PatternParser_repeatItem_50 (fun H locs hw => ?_)
      cases hf
      exact x_vret S hr hlocks hw d_PatternParser_repeatItem_53
def f_PatternParser_takeByte_136 (a0 : Nat) (x1 : Int32) (a2 : Nat) (ω : xS) : Option xS :=
  (xgi ω a0 6 7).bind fun t54 =>
  if t54 = 0 then (
    (xgi ω a0 6 9).bind fun t56 =>
    (xk ω a0 6 (f_PatternParser_refuse a0 2 t56 ω)).bind fun w59 =>
    (xgi w59 a0 6 9).bind fun t60 =>
    (xp w59 a0 6 9 (.int (t60 + 1))).bind fun w61 =>
    some w61)
  else (
    if x1 = 123 then (
      xc (xk ω a0 6 (f_PatternParser_timesInBraces a0  ω)) fun t72 w73 =>
      (xk w73 a0 6 (f_PatternParser_repeatItem a0 t72 a2 w73)).bind fun w76 =>
      (xgi w76 a0 6 9).bind fun t77 =>
      (xp w76 a0 6 9 (.int (t77 + 1))).bind fun w78 =>
      some w78)
    else (
      xc (xk ω a0 6 (f_PatternParser_timesBySign a0 x1 ω)) fun t64 w65 =>
      (xk w65 a0 6 (f_PatternParser_repeatItem a0 t64 a2 w65)).bind fun w68 =>
      (xgi w68 a0 6 9).bind fun t69 =>
      (xp w68 a0 6 9 (.int (t69 + 1))).bind fun w70 =>
      some w70))
set_option maxHeartbeats 4000000 in
set_option maxRecDepth 100000 in
theorem w_PatternParser_takeByte_136 {p : Program} {l : Launch} {e : Env} {s : State} {m : MethodId} {args : Array Value} {below : List Frame} {meth : Method} {c : Code} {E : xV} {z : Nat} {ω1 : xS} (S : CallFix p m c b_PatternParser_takeByte 4 s args xTbl "RosterRules$PatternParser") (hr : meth.sig.returnType = none) (hlocks : meth.locks = false) : ∀ (a0 : Nat) (x1 : Int32) (a2 : Nat) (ω : xS) (H : Heap) (locs : List Loc) (ls : Array Slot), xW E z ω s s.heap H locs → lv_has ls 4 [(0, .ref a0), (1, .int x1), (2, .ref a2)] → f_PatternParser_takeByte_136 a0 x1 a2 ω = some ω1 → W p l e (headSpec ws_PatternParser_takeByte { frames := 2, cells := 0, slots := 0, locals := 54 }).room s m args below meth c H locs 0 0 (MQ below (xQ E none z ω1) args s 0 0 (fun q => E.2.2 ≤ q)) (F0 m 136 ls []) := by
  intro a0 x1 a2 ω H locs ls hw hl hf
  unfold f_PatternParser_takeByte_136 at hf
  refine lv_aload_n S.1 S.2.1 d_PatternParser_takeByte_136 rfl (lv_at hl 0 rfl) ?_
  obtain ⟨t54, ht54, hf⟩ := xb hf
  refine x_geti S hw lk_PatternParser_93 ht54 d_PatternParser_takeByte_137 ?_
  refine lv_if_eq (tgt := 169) S.1 S.2.1 d_PatternParser_takeByte_140 (by decide) (fun c55 => ?_) (fun c55 => ?_)
  · replace hf := xt c55 hf
    refine lv_aload_n S.1 S.2.1 d_PatternParser_takeByte_169 rfl (lv_at hl 0 rfl) ?_
    refine lv_iconst (v := 2) S.1 S.2.1 d_PatternParser_takeByte_170 (by decide) ?_
    refine lv_aload_n S.1 S.2.1 d_PatternParser_takeByte_171 rfl (lv_at hl 0 rfl) ?_
    obtain ⟨t56, ht56, hf⟩ := xb hf
    refine x_geti S hw lk_PatternParser_40 ht56 d_PatternParser_takeByte_172 ?_
    obtain ⟨w59, h57, hf⟩ := xb hf
    obtain ⟨h57b, h57⟩ := xkb h57
    refine x_callV (As := [.int 2, .int t56]) (rest := []) (st1 := []) S hw (c_PatternParser_refuse h57) (cwV 2 S.2.2.2.2 gv_PatternParser_65 rfl rfl rfl hd_PatternParser_refuse ⟨Nat.le_of_ble_eq_true rfl, Nat.le_of_ble_eq_true rfl⟩) rfl h57b rfl hl.1 rfl rfl (Nat.le_of_ble_eq_true rfl) d_PatternParser_takeByte_175 ⟨Nat.le_of_ble_eq_true rfl, Nat.le_of_ble_eq_true rfl⟩ (fun H locs hw => ?_)
    refine lv_aload_n S.1 S.2.1 d_PatternParser_takeByte_178 rfl (lv_at hl 0 rfl) ?_
    refine lv_dup S.1 S.2.1 d_PatternParser_takeByte_179 rfl ?_
    obtain ⟨t60, ht60, hf⟩ := xb hf
    refine x_geti S hw lk_PatternParser_40 ht60 d_PatternParser_takeByte_180 ?_
    refine lv_iconst (v := 1) S.1 S.2.1 d_PatternParser_takeByte_183 (by decide) ?_
    refine lv_iadd S.1 S.2.1 d_PatternParser_takeByte_184 ?_
    obtain ⟨w61, hw61, hf⟩ := xb hf
    refine x_puti S hw lp_PatternParser_40 hw61 d_PatternParser_takeByte_185 (fun H locs hw => ?_)
    cases hf
    exact x_vret S hr hlocks hw d_PatternParser_takeByte_188
  · replace hf := xf c55 hf
    refine lv_aload_n S.1 S.2.1 d_PatternParser_takeByte_143 rfl (lv_at hl 0 rfl) ?_
    refine lv_iload_n S.1 S.2.1 d_PatternParser_takeByte_144 rfl (lv_at hl 1 rfl) ?_
    refine lv_bipush (v := 123) S.1 S.2.1 d_PatternParser_takeByte_145 (by decide) ?_
    refine lv_icmp_ne (tgt := 157) S.1 S.2.1 d_PatternParser_takeByte_147 (by decide) (fun c62 => ?_) (fun c62 => ?_)
    · replace hf := xf c62 hf
      refine lv_aload_n S.1 S.2.1 d_PatternParser_takeByte_157 rfl (lv_at hl 0 rfl) ?_
      refine lv_iload_n S.1 S.2.1 d_PatternParser_takeByte_158 rfl (lv_at hl 1 rfl) ?_
      obtain ⟨t64, w65, h63, hf⟩ := xcb hf
      obtain ⟨h63b, h63⟩ := xkb h63
      refine x_callV (As := [.int x1]) (rest := [.ref a0]) (st1 := [.int t64, .ref a0]) S hw (c_PatternParser_timesBySign h63) (cwV 1 S.2.2.2.2 gv_PatternParser_99 rfl rfl rfl hd_PatternParser_timesBySign ⟨Nat.le_of_ble_eq_true rfl, Nat.le_of_ble_eq_true rfl⟩) rfl h63b rfl hl.1 rfl rfl (Nat.le_of_ble_eq_true rfl) d_PatternParser_takeByte_159 ⟨Nat.le_of_ble_eq_true rfl, Nat.le_of_ble_eq_true rfl⟩ (fun H locs hw => ?_)
      refine lv_aload_n S.1 S.2.1 d_PatternParser_takeByte_162 rfl (lv_at hl 2 rfl) ?_
      obtain ⟨w68, h66, hf⟩ := xb hf
      obtain ⟨h66b, h66⟩ := xkb h66
      refine x_callV (As := [.int t64, .ref a2]) (rest := []) (st1 := []) S hw (c_PatternParser_repeatItem h66) (cwV 2 S.2.2.2.2 gv_PatternParser_102 rfl rfl rfl hd_PatternParser_repeatItem ⟨Nat.le_of_ble_eq_true rfl, Nat.le_of_ble_eq_true rfl⟩) rfl h66b rfl hl.1 rfl rfl (Nat.le_of_ble_eq_true rfl) d_PatternParser_takeByte_163 ⟨Nat.le_of_ble_eq_true rfl, Nat.le_of_ble_eq_true rfl⟩ (fun H locs hw => ?_)
      refine lv_goto (tgt := 178) S.1 S.2.1 d_PatternParser_takeByte_166 (by decide) ?_
      refine lv_aload_n S.1 S.2.1 d_PatternParser_takeByte_178 rfl (lv_at hl 0 rfl) ?_
      refine lv_dup S.1 S.2.1 d_PatternParser_takeByte_179 rfl ?_
      obtain ⟨t69, ht69, hf⟩ := xb hf
      refine x_geti S hw lk_PatternParser_40 ht69 d_PatternParser_takeByte_180 ?_
      refine lv_iconst (v := 1) S.1 S.2.1 d_PatternParser_takeByte_183 (by decide) ?_
      refine lv_iadd S.1 S.2.1 d_PatternParser_takeByte_184 ?_
      obtain ⟨w70, hw70, hf⟩ := xb hf
      refine x_puti S hw lp_PatternParser_40 hw70 d_PatternParser_takeByte_185 (fun H locs hw => ?_)
      cases hf
      exact x_vret S hr hlocks hw d_PatternParser_takeByte_188
    · replace hf := xt c62 hf
      refine lv_aload_n S.1 S.2.1 d_PatternParser_takeByte_150 rfl (lv_at hl 0 rfl) ?_
      obtain ⟨t72, w73, h71, hf⟩ := xcb hf
      obtain ⟨h71b, h71⟩ := xkb h71
      refine x_callV (As := []) (rest := [.ref a0]) (st1 := [.int t72, .ref a0]) S hw (c_PatternParser_timesInBraces h71) (cwV 0 S.2.2.2.2 gv_PatternParser_96 rfl rfl rfl hd_PatternParser_timesInBraces ⟨Nat.le_of_ble_eq_true rfl, Nat.le_of_ble_eq_true rfl⟩) rfl h71b rfl hl.1 rfl rfl (Nat.le_of_ble_eq_true rfl) d_PatternParser_takeByte_151 ⟨Nat.le_of_ble_eq_true rfl, Nat.le_of_ble_eq_true rfl⟩ (fun H locs hw => ?_)
      refine lv_goto (tgt := 162) S.1 S.2.1 d_PatternParser_takeByte_154 (by decide) ?_
      refine lv_aload_n S.1 S.2.1 d_PatternParser_takeByte_162 rfl (lv_at hl 2 rfl) ?_
      obtain ⟨w76, h74, hf⟩ := xb hf
      obtain ⟨h74b, h74⟩ := xkb h74
      refine x_callV (As := [.int t72, .ref a2]) (rest := []) (st1 := []) S hw (c_PatternParser_repeatItem h74) (cwV 2 S.2.2.2.2 gv_PatternParser_102 rfl rfl rfl hd_PatternParser_repeatItem ⟨Nat.le_of_ble_eq_true rfl, Nat.le_of_ble_eq_true rfl⟩) rfl h74b rfl hl.1 rfl rfl (Nat.le_of_ble_eq_true rfl) d_PatternParser_takeByte_163 ⟨Nat.le_of_ble_eq_true rfl, Nat.le_of_ble_eq_true rfl⟩ (fun H locs hw => ?_)
      refine lv_goto (tgt := 178) S.1 S.2.1 d_PatternParser_takeByte_166 (by decide) ?_
      refine lv_aload_n S.1 S.2.1 d_PatternParser_takeByte_178 rfl (lv_at hl 0 rfl) ?_
      refine lv_dup S.1 S.2.1 d_PatternParser_takeByte_179 rfl ?_
      obtain ⟨t77, ht77, hf⟩ := xb hf
      refine x_geti S hw lk_PatternParser_40 ht77 d_PatternParser_takeByte_180 ?_
      refine lv_iconst (v := 1) S.1 S.2.1 d_PatternParser_takeByte_183 (by decide) ?_
      refine lv_iadd S.1 S.2.1 d_PatternParser_takeByte_184 ?_
      obtain ⟨w78, hw78, hf⟩ := xb hf
      refine x_puti S hw lp_PatternParser_40 hw78 d_PatternParser_takeByte_185 (fun H locs hw => ?_)
      cases hf
      exact x_vret S hr hlocks hw d_PatternParser_takeByte_188
def f_PatternParser_takeByte_114 (a0 : Nat) (x1 : Int32) (a2 : Nat) (ω : xS) : Option xS :=
  if x1 = 34 then (
    (xgi ω a0 6 4).bind fun t47 =>
    if t47 = 0 then (
      (xk ω a0 6 (f_PatternParser_endRow a0 x1 a2 ω)).bind fun w51 =>
      (xgi w51 a0 6 9).bind fun t52 =>
      (xp w51 a0 6 9 (.int (t52 + 1))).bind fun w53 =>
      some w53)
    else (
      f_PatternParser_takeByte_136  a0 x1 a2 ω))
  else (
    f_PatternParser_takeByte_136  a0 x1 a2 ω)
set_option maxHeartbeats 4000000 in
set_option maxRecDepth 100000 in
theorem w_PatternParser_takeByte_114 {p : Program} {l : Launch} {e : Env} {s : State} {m : MethodId} {args : Array Value} {below : List Frame} {meth : Method} {c : Code} {E : xV} {z : Nat} {ω1 : xS} (S : CallFix p m c b_PatternParser_takeByte 4 s args xTbl "RosterRules$PatternParser") (hr : meth.sig.returnType = none) (hlocks : meth.locks = false) : ∀ (a0 : Nat) (x1 : Int32) (a2 : Nat) (ω : xS) (H : Heap) (locs : List Loc) (ls : Array Slot), xW E z ω s s.heap H locs → lv_has ls 4 [(0, .ref a0), (1, .int x1), (2, .ref a2)] → f_PatternParser_takeByte_114 a0 x1 a2 ω = some ω1 → W p l e (headSpec ws_PatternParser_takeByte { frames := 2, cells := 0, slots := 0, locals := 54 }).room s m args below meth c H locs 0 0 (MQ below (xQ E none z ω1) args s 0 0 (fun q => E.2.2 ≤ q)) (F0 m 114 ls []) := by
  intro a0 x1 a2 ω H locs ls hw hl hf
  unfold f_PatternParser_takeByte_114 at hf
  refine lv_iload_n S.1 S.2.1 d_PatternParser_takeByte_114 rfl (lv_at hl 1 rfl) ?_
  refine lv_bipush (v := 34) S.1 S.2.1 d_PatternParser_takeByte_115 (by decide) ?_
  refine lv_icmp_ne (tgt := 136) S.1 S.2.1 d_PatternParser_takeByte_117 (by decide) (fun c46 => ?_) (fun c46 => ?_)
  · replace hf := xf c46 hf
    exact w_PatternParser_takeByte_136 S hr hlocks  _ _ _ _ _ _ _ hw (lv_sub hl [0, 1, 2] rfl) hf
  · replace hf := xt c46 hf
    refine lv_aload_n S.1 S.2.1 d_PatternParser_takeByte_120 rfl (lv_at hl 0 rfl) ?_
    obtain ⟨t47, ht47, hf⟩ := xb hf
    refine x_geti S hw lk_PatternParser_46 ht47 d_PatternParser_takeByte_121 ?_
    refine lv_if_ne (tgt := 136) S.1 S.2.1 d_PatternParser_takeByte_124 (by decide) (fun c48 => ?_) (fun c48 => ?_)
    · replace hf := xf c48 hf
      exact w_PatternParser_takeByte_136 S hr hlocks  _ _ _ _ _ _ _ hw (lv_sub hl [0, 1, 2] rfl) hf
    · replace hf := xt c48 hf
      refine lv_aload_n S.1 S.2.1 d_PatternParser_takeByte_127 rfl (lv_at hl 0 rfl) ?_
      refine lv_iload_n S.1 S.2.1 d_PatternParser_takeByte_128 rfl (lv_at hl 1 rfl) ?_
      refine lv_aload_n S.1 S.2.1 d_PatternParser_takeByte_129 rfl (lv_at hl 2 rfl) ?_
      obtain ⟨w51, h49, hf⟩ := xb hf
      obtain ⟨h49b, h49⟩ := xkb h49
      refine x_callV (As := [.int x1, .ref a2]) (rest := []) (st1 := []) S hw (c_PatternParser_endRow h49) (cwV 2 S.2.2.2.2 gv_PatternParser_90 rfl rfl rfl hd_PatternParser_endRow ⟨Nat.le_of_ble_eq_true rfl, Nat.le_of_ble_eq_true rfl⟩) rfl h49b rfl hl.1 rfl rfl (Nat.le_of_ble_eq_true rfl) d_PatternParser_takeByte_130 ⟨Nat.le_of_ble_eq_true rfl, Nat.le_of_ble_eq_true rfl⟩ (fun H locs hw => ?_)
      refine lv_goto (tgt := 178) S.1 S.2.1 d_PatternParser_takeByte_133 (by decide) ?_
      refine lv_aload_n S.1 S.2.1 d_PatternParser_takeByte_178 rfl (lv_at hl 0 rfl) ?_
      refine lv_dup S.1 S.2.1 d_PatternParser_takeByte_179 rfl ?_
      obtain ⟨t52, ht52, hf⟩ := xb hf
      refine x_geti S hw lk_PatternParser_40 ht52 d_PatternParser_takeByte_180 ?_
      refine lv_iconst (v := 1) S.1 S.2.1 d_PatternParser_takeByte_183 (by decide) ?_
      refine lv_iadd S.1 S.2.1 d_PatternParser_takeByte_184 ?_
      obtain ⟨w53, hw53, hf⟩ := xb hf
      refine x_puti S hw lp_PatternParser_40 hw53 d_PatternParser_takeByte_185 (fun H locs hw => ?_)
      cases hf
      exact x_vret S hr hlocks hw d_PatternParser_takeByte_188
def f_PatternParser_takeByte_75 (a0 : Nat) (x1 : Int32) (a2 : Nat) (ω : xS) : Option xS :=
  (xgi ω a0 6 5).bind fun t24 =>
  if t24 = (-1) then (
    (xgi ω a0 6 9).bind fun t40 =>
    (xk ω a0 6 (f_PatternParser_refuse a0 2 t40 ω)).bind fun w43 =>
    (xgi w43 a0 6 9).bind fun t44 =>
    (xp w43 a0 6 9 (.int (t44 + 1))).bind fun w45 =>
    some w45)
  else (
    if x1 = 124 then (
      (xk ω a0 6 (f_PatternParser_endRow a0 x1 a2 ω)).bind fun w29 =>
      (xgi w29 a0 6 9).bind fun t30 =>
      (xp w29 a0 6 9 (.int (t30 + 1))).bind fun w31 =>
      some w31)
    else (
      if x1 = 41 then (
        (xgi ω a0 6 4).bind fun t33 =>
        if 0 < t33 then (
          (xk ω a0 6 (f_PatternParser_endRow a0 x1 a2 ω)).bind fun w37 =>
          (xgi w37 a0 6 9).bind fun t38 =>
          (xp w37 a0 6 9 (.int (t38 + 1))).bind fun w39 =>
          some w39)
        else (
          f_PatternParser_takeByte_114  a0 x1 a2 ω))
      else (
        f_PatternParser_takeByte_114  a0 x1 a2 ω)))
set_option maxHeartbeats 4000000 in
set_option maxRecDepth 100000 in
theorem w_PatternParser_takeByte_75 {p : Program} {l : Launch} {e : Env} {s : State} {m : MethodId} {args : Array Value} {below : List Frame} {meth : Method} {c : Code} {E : xV} {z : Nat} {ω1 : xS} (S : CallFix p m c b_PatternParser_takeByte 4 s args xTbl "RosterRules$PatternParser") (hr : meth.sig.returnType = none) (hlocks : meth.locks = false) : ∀ (a0 : Nat) (x1 : Int32) (a2 : Nat) (ω : xS) (H : Heap) (locs : List Loc) (ls : Array Slot), xW E z ω s s.heap H locs → lv_has ls 4 [(0, .ref a0), (1, .int x1), (2, .ref a2)] → f_PatternParser_takeByte_75 a0 x1 a2 ω = some ω1 → W p l e (headSpec ws_PatternParser_takeByte { frames := 2, cells := 0, slots := 0, locals := 54 }).room s m args below meth c H locs 0 0 (MQ below (xQ E none z ω1) args s 0 0 (fun q => E.2.2 ≤ q)) (F0 m 75 ls []) := by
  intro a0 x1 a2 ω H locs ls hw hl hf
  unfold f_PatternParser_takeByte_75 at hf
  refine lv_aload_n S.1 S.2.1 d_PatternParser_takeByte_75 rfl (lv_at hl 0 rfl) ?_
  obtain ⟨t24, ht24, hf⟩ := xb hf
  refine x_geti S hw lk_PatternParser_43 ht24 d_PatternParser_takeByte_76 ?_
  refine lv_iconst (v := (-1)) S.1 S.2.1 d_PatternParser_takeByte_79 (by decide) ?_
  refine lv_icmp_ne (tgt := 95) S.1 S.2.1 d_PatternParser_takeByte_80 (by decide) (fun c25 => ?_) (fun c25 => ?_)
  · replace hf := xf c25 hf
    refine lv_iload_n S.1 S.2.1 d_PatternParser_takeByte_95 rfl (lv_at hl 1 rfl) ?_
    refine lv_bipush (v := 124) S.1 S.2.1 d_PatternParser_takeByte_96 (by decide) ?_
    refine lv_icmp_eq (tgt := 127) S.1 S.2.1 d_PatternParser_takeByte_98 (by decide) (fun c26 => ?_) (fun c26 => ?_)
    · replace hf := xt c26 hf
      refine lv_aload_n S.1 S.2.1 d_PatternParser_takeByte_127 rfl (lv_at hl 0 rfl) ?_
      refine lv_iload_n S.1 S.2.1 d_PatternParser_takeByte_128 rfl (lv_at hl 1 rfl) ?_
      refine lv_aload_n S.1 S.2.1 d_PatternParser_takeByte_129 rfl (lv_at hl 2 rfl) ?_
      obtain ⟨w29, h27, hf⟩ := xb hf
      obtain ⟨h27b, h27⟩ := xkb h27
      refine x_callV (As := [.int x1, .ref a2]) (rest := []) (st1 := []) S hw (c_PatternParser_endRow h27) (cwV 2 S.2.2.2.2 gv_PatternParser_90 rfl rfl rfl hd_PatternParser_endRow ⟨Nat.le_of_ble_eq_true rfl, Nat.le_of_ble_eq_true rfl⟩) rfl h27b rfl hl.1 rfl rfl (Nat.le_of_ble_eq_true rfl) d_PatternParser_takeByte_130 ⟨Nat.le_of_ble_eq_true rfl, Nat.le_of_ble_eq_true rfl⟩ (fun H locs hw => ?_)
      refine lv_goto (tgt := 178) S.1 S.2.1 d_PatternParser_takeByte_133 (by decide) ?_
      refine lv_aload_n S.1 S.2.1 d_PatternParser_takeByte_178 rfl (lv_at hl 0 rfl) ?_
      refine lv_dup S.1 S.2.1 d_PatternParser_takeByte_179 rfl ?_
      obtain ⟨t30, ht30, hf⟩ := xb hf
      refine x_geti S hw lk_PatternParser_40 ht30 d_PatternParser_takeByte_180 ?_
      refine lv_iconst (v := 1) S.1 S.2.1 d_PatternParser_takeByte_183 (by decide) ?_
      refine lv_iadd S.1 S.2.1 d_PatternParser_takeByte_184 ?_
      obtain ⟨w31, hw31, hf⟩ := xb hf
      refine x_puti S hw lp_PatternParser_40 hw31 d_PatternParser_takeByte_185 (fun H locs hw => ?_)
      cases hf
      exact x_vret S hr hlocks hw d_PatternParser_takeByte_188
    · replace hf := xf c26 hf
      refine lv_iload_n S.1 S.2.1 d_PatternParser_takeByte_101 rfl (lv_at hl 1 rfl) ?_
      refine lv_bipush (v := 41) S.1 S.2.1 d_PatternParser_takeByte_102 (by decide) ?_
      refine lv_icmp_ne (tgt := 114) S.1 S.2.1 d_PatternParser_takeByte_104 (by decide) (fun c32 => ?_) (fun c32 => ?_)
      · replace hf := xf c32 hf
        exact w_PatternParser_takeByte_114 S hr hlocks  _ _ _ _ _ _ _ hw (lv_sub hl [0, 1, 2] rfl) hf
      · replace hf := xt c32 hf
        refine lv_aload_n S.1 S.2.1 d_PatternParser_takeByte_107 rfl (lv_at hl 0 rfl) ?_
        obtain ⟨t33, ht33, hf⟩ := xb hf
        refine x_geti S hw lk_PatternParser_46 ht33 d_PatternParser_takeByte_108 ?_
        refine lv_if_gt (tgt := 127) S.1 S.2.1 d_PatternParser_takeByte_111 (by decide) (fun c34 => ?_) (fun c34 => ?_)
        · replace hf := xt c34 hf
          refine lv_aload_n S.1 S.2.1 d_PatternParser_takeByte_127 rfl (lv_at hl 0 rfl) ?_
          refine lv_iload_n S.1 S.2.1 d_PatternParser_takeByte_128 rfl (lv_at hl 1 rfl) ?_
          refine lv_aload_n S.1 S.2.1 d_PatternParser_takeByte_129 rfl (lv_at hl 2 rfl) ?_
          obtain ⟨w37, h35, hf⟩ := xb hf
          obtain ⟨h35b, h35⟩ := xkb h35
          refine x_callV (As := [.int x1, .ref a2]) (rest := []) (st1 := []) S hw (c_PatternParser_endRow h35) (cwV 2 S.2.2.2.2 gv_PatternParser_90 rfl rfl rfl hd_PatternParser_endRow ⟨Nat.le_of_ble_eq_true rfl, Nat.le_of_ble_eq_true rfl⟩) rfl h35b rfl hl.1 rfl rfl (Nat.le_of_ble_eq_true rfl) d_PatternParser_takeByte_130 ⟨Nat.le_of_ble_eq_true rfl, Nat.le_of_ble_eq_true rfl⟩ (fun H locs hw => ?_)
          refine lv_goto (tgt := 178) S.1 S.2.1 d_PatternParser_takeByte_133 (by decide) ?_
          refine lv_aload_n S.1 S.2.1 d_PatternParser_takeByte_178 rfl (lv_at hl 0 rfl) ?_
          refine lv_dup S.1 S.2.1 d_PatternParser_takeByte_179 rfl ?_
          obtain ⟨t38, ht38, hf⟩ := xb hf
          refine x_geti S hw lk_PatternParser_40 ht38 d_PatternParser_takeByte_180 ?_
          refine lv_iconst (v := 1) S.1 S.2.1 d_PatternParser_takeByte_183 (by decide) ?_
          refine lv_iadd S.1 S.2.1 d_PatternParser_takeByte_184 ?_
          obtain ⟨w39, hw39, hf⟩ := xb hf
          refine x_puti S hw lp_PatternParser_40 hw39 d_PatternParser_takeByte_185 (fun H locs hw => ?_)
          cases hf
          exact x_vret S hr hlocks hw d_PatternParser_takeByte_188
        · replace hf := xf c34 hf
          exact w_PatternParser_takeByte_114 S hr hlocks  _ _ _ _ _ _ _ hw (lv_sub hl [0, 1, 2] rfl) hf
  · replace hf := xt c25 hf
    refine lv_aload_n S.1 S.2.1 d_PatternParser_takeByte_83 rfl (lv_at hl 0 rfl) ?_
    refine lv_iconst (v := 2) S.1 S.2.1 d_PatternParser_takeByte_84 (by decide) ?_
    refine lv_aload_n S.1 S.2.1 d_PatternParser_takeByte_85 rfl (lv_at hl 0 rfl) ?_
    obtain ⟨t40, ht40, hf⟩ := xb hf
    refine x_geti S hw lk_PatternParser_40 ht40 d_PatternParser_takeByte_86 ?_
    obtain ⟨w43, h41, hf⟩ := xb hf
    obtain ⟨h41b, h41⟩ := xkb h41
    refine x_callV (As := [.int 2, .int t40]) (rest := []) (st1 := []) S hw (c_PatternParser_refuse h41) (cwV 2 S.2.2.2.2 gv_PatternParser_65 rfl rfl rfl hd_PatternParser_refuse ⟨Nat.le_of_ble_eq_true rfl, Nat.le_of_ble_eq_true rfl⟩) rfl h41b rfl hl.1 rfl rfl (Nat.le_of_ble_eq_true rfl) d_PatternParser_takeByte_89 ⟨Nat.le_of_ble_eq_true rfl, Nat.le_of_ble_eq_true rfl⟩ (fun H locs hw => ?_)
    refine lv_goto (tgt := 178) S.1 S.2.1 d_PatternParser_takeByte_92 (by decide) ?_
    refine lv_aload_n S.1 S.2.1 d_PatternParser_takeByte_178 rfl (lv_at hl 0 rfl) ?_
    refine lv_dup S.1 S.2.1 d_PatternParser_takeByte_179 rfl ?_
    obtain ⟨t44, ht44, hf⟩ := xb hf
    refine x_geti S hw lk_PatternParser_40 ht44 d_PatternParser_takeByte_180 ?_
    refine lv_iconst (v := 1) S.1 S.2.1 d_PatternParser_takeByte_183 (by decide) ?_
    refine lv_iadd S.1 S.2.1 d_PatternParser_takeByte_184 ?_
    obtain ⟨w45, hw45, hf⟩ := xb hf
    refine x_puti S hw lp_PatternParser_40 hw45 d_PatternParser_takeByte_185 (fun H locs hw => ?_)
    cases hf
    exact x_vret S hr hlocks hw d_PatternParser_takeByte_188
def f_PatternParser_takeByte_30 (a0 : Nat) (x1 : Int32) (a2 : Nat) (y0 : Int32) (ω : xS) : Option xS :=
  (xgi ω a0 6 10).bind fun t8 =>
  if t8 = 0 then (
    if y0 = 0 then (
      if x1 = 40 then (
        (xgi ω a0 6 4).bind fun t12 =>
        if 40 ≤ t12 then (
          f_PatternParser_takeByte_75  a0 x1 a2 ω)
        else (
          (xk ω a0 6 (f_PatternParser_openGroup a0 a2 ω)).bind fun w16 =>
          (xgi w16 a0 6 9).bind fun t17 =>
          (xp w16 a0 6 9 (.int (t17 + 1))).bind fun w18 =>
          some w18))
      else (
        f_PatternParser_takeByte_75  a0 x1 a2 ω))
    else (
      (xk ω a0 6 (f_PatternParser_addAtom a0 y0 a2 ω)).bind fun w21 =>
      (xgi w21 a0 6 9).bind fun t22 =>
      (xp w21 a0 6 9 (.int (t22 + 1))).bind fun w23 =>
      some w23))
  else (
    some ω)
set_option maxHeartbeats 4000000 in
set_option maxRecDepth 100000 in
theorem w_PatternParser_takeByte_30 {p : Program} {l : Launch} {e : Env} {s : State} {m : MethodId} {args : Array Value} {below : List Frame} {meth : Method} {c : Code} {E : xV} {z : Nat} {ω1 : xS} (S : CallFix p m c b_PatternParser_takeByte 4 s args xTbl "RosterRules$PatternParser") (hr : meth.sig.returnType = none) (hlocks : meth.locks = false) : ∀ (a0 : Nat) (x1 : Int32) (a2 : Nat) (y0 : Int32) (ω : xS) (H : Heap) (locs : List Loc) (ls : Array Slot), xW E z ω s s.heap H locs → lv_has ls 4 [(0, .ref a0), (1, .int x1), (2, .ref a2)] → f_PatternParser_takeByte_30 a0 x1 a2 y0 ω = some ω1 → W p l e (headSpec ws_PatternParser_takeByte { frames := 2, cells := 0, slots := 0, locals := 54 }).room s m args below meth c H locs 0 0 (MQ below (xQ E none z ω1) args s 0 0 (fun q => E.2.2 ≤ q)) (F0 m 30 ls [.int y0]) := by
  intro a0 x1 a2 y0 ω H locs ls hw hl hf
  unfold f_PatternParser_takeByte_30 at hf
  refine lv_istore_n (lv' := [(3, .int y0), (0, .ref a0), (1, .int x1), (2, .ref a2)]) S.1 S.2.1 d_PatternParser_takeByte_30 rfl hl (by decide) rfl (fun ls hl => ?_)
  refine lv_aload_n S.1 S.2.1 d_PatternParser_takeByte_31 rfl (lv_at hl 1 rfl) ?_
  obtain ⟨t8, ht8, hf⟩ := xb hf
  refine x_geti S hw lk_PatternParser_32 ht8 d_PatternParser_takeByte_32 ?_
  refine lv_if_eq (tgt := 39) S.1 S.2.1 d_PatternParser_takeByte_35 (by decide) (fun c9 => ?_) (fun c9 => ?_)
  · replace hf := xt c9 hf
    refine lv_iload_n S.1 S.2.1 d_PatternParser_takeByte_39 rfl (lv_at hl 0 rfl) ?_
    refine lv_if_eq (tgt := 52) S.1 S.2.1 d_PatternParser_takeByte_40 (by decide) (fun c10 => ?_) (fun c10 => ?_)
    · replace hf := xt c10 hf
      refine lv_iload_n S.1 S.2.1 d_PatternParser_takeByte_52 rfl (lv_at hl 2 rfl) ?_
      refine lv_bipush (v := 40) S.1 S.2.1 d_PatternParser_takeByte_53 (by decide) ?_
      refine lv_icmp_ne (tgt := 75) S.1 S.2.1 d_PatternParser_takeByte_55 (by decide) (fun c11 => ?_) (fun c11 => ?_)
      · replace hf := xf c11 hf
        exact w_PatternParser_takeByte_75 S hr hlocks  _ _ _ _ _ _ _ hw (lv_sub hl [1, 2, 3] rfl) hf
      · replace hf := xt c11 hf
        refine lv_aload_n S.1 S.2.1 d_PatternParser_takeByte_58 rfl (lv_at hl 1 rfl) ?_
        obtain ⟨t12, ht12, hf⟩ := xb hf
        refine x_geti S hw lk_PatternParser_46 ht12 d_PatternParser_takeByte_59 ?_
        refine lv_bipush (v := 40) S.1 S.2.1 d_PatternParser_takeByte_62 (by decide) ?_
        refine lv_icmp_ge (tgt := 75) S.1 S.2.1 d_PatternParser_takeByte_64 (by decide) (fun c13 => ?_) (fun c13 => ?_)
        · replace hf := xt c13 hf
          exact w_PatternParser_takeByte_75 S hr hlocks  _ _ _ _ _ _ _ hw (lv_sub hl [1, 2, 3] rfl) hf
        · replace hf := xf c13 hf
          refine lv_aload_n S.1 S.2.1 d_PatternParser_takeByte_67 rfl (lv_at hl 1 rfl) ?_
          refine lv_aload_n S.1 S.2.1 d_PatternParser_takeByte_68 rfl (lv_at hl 3 rfl) ?_
          obtain ⟨w16, h14, hf⟩ := xb hf
          obtain ⟨h14b, h14⟩ := xkb h14
          refine x_callV (As := [.ref a2]) (rest := []) (st1 := []) S hw (c_PatternParser_openGroup h14) (cwV 1 S.2.2.2.2 gv_PatternParser_86 rfl rfl rfl hd_PatternParser_openGroup ⟨Nat.le_of_ble_eq_true rfl, Nat.le_of_ble_eq_true rfl⟩) rfl h14b rfl hl.1 rfl rfl (Nat.le_of_ble_eq_true rfl) d_PatternParser_takeByte_69 ⟨Nat.le_of_ble_eq_true rfl, Nat.le_of_ble_eq_true rfl⟩ (fun H locs hw => ?_)
          refine lv_goto (tgt := 178) S.1 S.2.1 d_PatternParser_takeByte_72 (by decide) ?_
          refine lv_aload_n S.1 S.2.1 d_PatternParser_takeByte_178 rfl (lv_at hl 1 rfl) ?_
          refine lv_dup S.1 S.2.1 d_PatternParser_takeByte_179 rfl ?_
          obtain ⟨t17, ht17, hf⟩ := xb hf
          refine x_geti S hw lk_PatternParser_40 ht17 d_PatternParser_takeByte_180 ?_
          refine lv_iconst (v := 1) S.1 S.2.1 d_PatternParser_takeByte_183 (by decide) ?_
          refine lv_iadd S.1 S.2.1 d_PatternParser_takeByte_184 ?_
          obtain ⟨w18, hw18, hf⟩ := xb hf
          refine x_puti S hw lp_PatternParser_40 hw18 d_PatternParser_takeByte_185 (fun H locs hw => ?_)
          cases hf
          exact x_vret S hr hlocks hw d_PatternParser_takeByte_188
    · replace hf := xf c10 hf
      refine lv_aload_n S.1 S.2.1 d_PatternParser_takeByte_43 rfl (lv_at hl 1 rfl) ?_
      refine lv_iload_n S.1 S.2.1 d_PatternParser_takeByte_44 rfl (lv_at hl 0 rfl) ?_
      refine lv_aload_n S.1 S.2.1 d_PatternParser_takeByte_45 rfl (lv_at hl 3 rfl) ?_
      obtain ⟨w21, h19, hf⟩ := xb hf
      obtain ⟨h19b, h19⟩ := xkb h19
      refine x_callV (As := [.int y0, .ref a2]) (rest := []) (st1 := []) S hw (c_PatternParser_addAtom h19) (cwV 2 S.2.2.2.2 gv_PatternParser_83 rfl rfl rfl hd_PatternParser_addAtom ⟨Nat.le_of_ble_eq_true rfl, Nat.le_of_ble_eq_true rfl⟩) rfl h19b rfl hl.1 rfl rfl (Nat.le_of_ble_eq_true rfl) d_PatternParser_takeByte_46 ⟨Nat.le_of_ble_eq_true rfl, Nat.le_of_ble_eq_true rfl⟩ (fun H locs hw => ?_)
      refine lv_goto (tgt := 178) S.1 S.2.1 d_PatternParser_takeByte_49 (by decide) ?_
      refine lv_aload_n S.1 S.2.1 d_PatternParser_takeByte_178 rfl (lv_at hl 1 rfl) ?_
      refine lv_dup S.1 S.2.1 d_PatternParser_takeByte_179 rfl ?_
      obtain ⟨t22, ht22, hf⟩ := xb hf
      refine x_geti S hw lk_PatternParser_40 ht22 d_PatternParser_takeByte_180 ?_
      refine lv_iconst (v := 1) S.1 S.2.1 d_PatternParser_takeByte_183 (by decide) ?_
      refine lv_iadd S.1 S.2.1 d_PatternParser_takeByte_184 ?_
      obtain ⟨w23, hw23, hf⟩ := xb hf
      refine x_puti S hw lp_PatternParser_40 hw23 d_PatternParser_takeByte_185 (fun H locs hw => ?_)
      cases hf
      exact x_vret S hr hlocks hw d_PatternParser_takeByte_188
  · replace hf := xf c9 hf
    cases hf
    exact x_vret S hr hlocks hw d_PatternParser_takeByte_38
def f_PatternParser_takeByte (a0 : Nat) (x1 : Int32) (a2 : Nat) (ω : xS) : Option xS :=
  if x1 = 91 then (
    xc (xk ω a0 6 (f_PatternParser_choice a0  ω)) fun t6 w7 =>
    f_PatternParser_takeByte_30  a0 x1 a2 t6 w7)
  else (
    if x1 = 46 then (
      f_PatternParser_takeByte_30  a0 x1 a2 511 ω)
    else (
      (xk ω a0 6 (f_PatternParser_letterBit a0 x1 ω)).bind fun t4 =>
      f_PatternParser_takeByte_30  a0 x1 a2 t4 ω))
set_option maxHeartbeats 4000000 in
set_option maxRecDepth 100000 in
theorem c_PatternParser_takeByte {l : Launch} {E : xV} {z : Nat} {a0 : Nat} {x1 : Int32} {a2 : Nat} {ω1 : xS} {ω : xS} (hf : f_PatternParser_takeByte a0 x1 a2 ω = some ω1) : xM l E y_PatternParser_takeByte ws_PatternParser_takeByte { frames := 2, cells := 0, slots := 0, locals := 54 } [.ref a0, .int x1, .ref a2] z ω none z ω1 := by
  refine x_start (cc := b_PatternParser_takeByte) (maxL := 4) (ret := none) (by decide) rfl (Nat.le_of_ble_eq_true rfl) ?_
  intro p e s m below meth c S hr hlocks hin ls hl hw
  have hl : lv_has ls 4 [(0, .ref a0), (1, .int x1), (2, .ref a2)] := hl
  unfold f_PatternParser_takeByte at hf
  refine lv_iload_n S.1 S.2.1 d_PatternParser_takeByte_0 rfl (lv_at hl 1 rfl) ?_
  refine lv_bipush (v := 91) S.1 S.2.1 d_PatternParser_takeByte_1 (by decide) ?_
  refine lv_icmp_ne (tgt := 13) S.1 S.2.1 d_PatternParser_takeByte_3 (by decide) (fun c1 => ?_) (fun c1 => ?_)
  · replace hf := xf c1 hf
    refine lv_iload_n S.1 S.2.1 d_PatternParser_takeByte_13 rfl (lv_at hl 1 rfl) ?_
    refine lv_bipush (v := 46) S.1 S.2.1 d_PatternParser_takeByte_14 (by decide) ?_
    refine lv_icmp_ne (tgt := 25) S.1 S.2.1 d_PatternParser_takeByte_16 (by decide) (fun c2 => ?_) (fun c2 => ?_)
    · replace hf := xf c2 hf
      refine lv_aload_n S.1 S.2.1 d_PatternParser_takeByte_25 rfl (lv_at hl 0 rfl) ?_
      refine lv_iload_n S.1 S.2.1 d_PatternParser_takeByte_26 rfl (lv_at hl 1 rfl) ?_
      obtain ⟨t4, h3, hf⟩ := xb hf
      obtain ⟨h3b, h3⟩ := xkb h3
      refine x_callV (As := [.int x1]) (rest := []) (st1 := [.int t4]) S hw (c_PatternParser_letterBit h3) (cwV 1 S.2.2.2.2 gv_PatternParser_80 rfl rfl rfl hd_PatternParser_letterBit ⟨Nat.le_of_ble_eq_true rfl, Nat.le_of_ble_eq_true rfl⟩) rfl h3b rfl hl.1 rfl rfl (Nat.le_of_ble_eq_true rfl) d_PatternParser_takeByte_27 ⟨Nat.le_of_ble_eq_true rfl, Nat.le_of_ble_eq_true rfl⟩ (fun H locs hw => ?_)
      exact w_PatternParser_takeByte_30 S hr hlocks  _ _ _ _ _ _ _ _ hw (lv_sub hl [0, 1, 2] rfl) hf
    · replace hf := xt c2 hf
      refine lv_sipush (v := 511) S.1 S.2.1 d_PatternParser_takeByte_19 (by decide) ?_
      refine lv_goto (tgt := 30) S.1 S.2.1 d_PatternParser_takeByte_22 (by decide) ?_
      exact w_PatternParser_takeByte_30 S hr hlocks  _ _ _ _ _ _ _ _ hw (lv_sub hl [0, 1, 2] rfl) hf
  · replace hf := xt c1 hf
    refine lv_aload_n S.1 S.2.1 d_PatternParser_takeByte_6 rfl (lv_at hl 0 rfl) ?_
    obtain ⟨t6, w7, h5, hf⟩ := xcb hf
    obtain ⟨h5b, h5⟩ := xkb h5
    refine x_callV (As := []) (rest := []) (st1 := [.int t6]) S hw (c_PatternParser_choice h5) (cwV 0 S.2.2.2.2 gv_PatternParser_76 rfl rfl rfl hd_PatternParser_choice ⟨Nat.le_of_ble_eq_true rfl, Nat.le_of_ble_eq_true rfl⟩) rfl h5b rfl hl.1 rfl rfl (Nat.le_of_ble_eq_true rfl) d_PatternParser_takeByte_7 ⟨Nat.le_of_ble_eq_true rfl, Nat.le_of_ble_eq_true rfl⟩ (fun H locs hw => ?_)
    refine lv_goto (tgt := 30) S.1 S.2.1 d_PatternParser_takeByte_10 (by decide) ?_
    exact w_PatternParser_takeByte_30 S hr hlocks  _ _ _ _ _ _ _ _ hw (lv_sub hl [0, 1, 2] rfl) hf
