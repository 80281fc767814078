def f_Mo_score_48 (k37 : Nat → Int64 → Int32 → xS → Option Int64) : Nat → Nat → Int64 → Int32 → Int32 → xS → Option Int64
  | 0, _, _, _, _, _ => none
  | n + 1, a0, x1, x3, x4, ω =>
    (xgi ω a0 12 1).bind fun t9 =>
    if t9 ≤ x4 then (
      k37 a0 x1 (x3 + 1) ω)
    else (
      (xk ω a0 12 (f_Mo_wishOf a0 x3 x4 ω)).bind fun t12 =>
      f_Mo_score_48 k37 n a0 (x1 + t12) x3 (x4 + 1) ω)
set_option maxHeartbeats 4000000 in
set_option maxRecDepth 100000 in
theorem w_Mo_score_48 {p : Program} {l : Launch} {e : Env} {s : State} {m : MethodId} {args : Array Value} {below : List Frame} {meth : Method} {c : Code} {E : xV} {z : Nat} {r : Int64} {ω : xS} {k37 : Nat → Int64 → Int32 → xS → Option Int64} (S : CallFix p m c b_Mo_score 5 s args xTbl "RosterRulesModel") (hr : meth.sig.returnType = (some .long)) (hlocks : meth.locks = false) (hk37 : ∀ (a0 : Nat) (x1 : Int64) (x3 : Int32) (H : Heap) (locs : List Loc) (ls : Array Slot), xW E z ω s s.heap H locs → lv_has ls 5 [(0, .ref a0), (1, .long x1), (3, .int x3)] → k37 a0 x1 x3 ω = some r → W p l e (headSpec ws_Mo_score { frames := 5, cells := 0, slots := 0, locals := 122 }).room s m args below meth c H locs 0 0 (MQ below (xQ E (some (.long r)) z ω) args s 0 0 (fun q => E.2.2 ≤ q)) (F0 m 37 ls [])) : ∀ n : Nat, ∀ (a0 : Nat) (x1 : Int64) (x3 : Int32) (x4 : Int32) (H : Heap) (locs : List Loc) (ls : Array Slot), xW E z ω s s.heap H locs → lv_has ls 5 [(0, .ref a0), (1, .long x1), (3, .int x3), (4, .int x4)] → f_Mo_score_48 k37 n a0 x1 x3 x4 ω = some r → W p l e (headSpec ws_Mo_score { frames := 5, cells := 0, slots := 0, locals := 122 }).room s m args below meth c H locs 0 0 (MQ below (xQ E (some (.long r)) z ω) args s 0 0 (fun q => E.2.2 ≤ q)) (F0 m 48 ls []) := by
  intro n
  induction n with
  | zero =>
    intro a0 x1 x3 x4 H locs ls hw hl hf
    have h2 : (none : Option Int64) = some r := hf
    cases h2
  | succ n ih =>
    intro a0 x1 x3 x4 H locs ls hw hl hf
    rw [f_Mo_score_48] at hf
    refine lv_iload S.1 S.2.1 d_Mo_score_48 (lv_at hl 3 rfl) ?_
    refine lv_aload_n S.1 S.2.1 d_Mo_score_50 rfl (lv_at hl 0 rfl) ?_
    obtain ⟨t9, ht9, hf⟩ := xb hf
    refine x_geti S hw lk_Mo_159 ht9 d_Mo_score_51 ?_
    refine lv_icmp_ge (tgt := 73) S.1 S.2.1 d_Mo_score_54 (by decide) (fun c10 => ?_) (fun c10 => ?_)
    · replace hf := xt c10 hf
      refine lv_iinc (v := (x3 + 1)) (lv' := [(3, .int (x3 + 1)), (0, .ref a0), (1, .long x1), (4, .int x4)]) S.1 S.2.1 d_Mo_score_73 hl (k := 2) rfl rfl (by decide) rfl (fun ls hl => ?_)
      refine lv_goto (tgt := 37) S.1 S.2.1 d_Mo_score_76 (by decide) ?_
      exact hk37 _ _ _ _ _ _ hw (lv_sub hl [1, 2, 0] rfl) hf
    · replace hf := xf c10 hf
      refine lv_lload_n S.1 S.2.1 d_Mo_score_57 rfl (lv_at hl 1 rfl) ?_
      refine lv_aload_n S.1 S.2.1 d_Mo_score_58 rfl (lv_at hl 0 rfl) ?_
      refine lv_iload_n S.1 S.2.1 d_Mo_score_59 rfl (lv_at hl 2 rfl) ?_
      refine lv_iload S.1 S.2.1 d_Mo_score_60 (lv_at hl 3 rfl) ?_
      obtain ⟨t12, h11, hf⟩ := xb hf
      obtain ⟨h11b, h11⟩ := xkb h11
      refine x_callV (As := [.int x3, .int x4]) (rest := [.long x1]) (st1 := [.long t12, .long x1]) S hw (c_Mo_wishOf h11) (cwV 2 S.2.2.2.2 gv_Mo_380 rfl rfl rfl hd_Mo_wishOf ⟨Nat.le_of_ble_eq_true rfl, Nat.le_of_ble_eq_true rfl⟩) rfl h11b rfl hl.1 rfl rfl (Nat.le_of_ble_eq_true rfl) d_Mo_score_62 ⟨Nat.le_of_ble_eq_true rfl, Nat.le_of_ble_eq_true rfl⟩ (fun H locs hw => ?_)
      refine lv_ladd S.1 S.2.1 d_Mo_score_65 ?_
      refine lv_lstore_n (lv' := [(1, .long (x1 + t12)), (0, .ref a0), (3, .int x3), (4, .int x4)]) S.1 S.2.1 d_Mo_score_66 rfl hl (by decide) rfl (fun ls hl => ?_)
      refine lv_iinc (v := (x4 + 1)) (lv' := [(4, .int (x4 + 1)), (1, .long (x1 + t12)), (0, .ref a0), (3, .int x3)]) S.1 S.2.1 d_Mo_score_67 hl (k := 3) rfl rfl (by decide) rfl (fun ls hl => ?_)
      refine lv_goto (tgt := 48) S.1 S.2.1 d_Mo_score_70 (by decide) ?_
      exact ih _ _ _ _ _ _ _ hw (lv_sub hl [2, 1, 3, 0] rfl) hf
def f_Mo_score_37 : Nat → Nat → Int64 → Int32 → xS → Option Int64
  | 0, _, _, _, _ => none
  | n + 1, a0, x1, x3, ω =>
    (xgi ω a0 12 0).bind fun t7 =>
    if t7 ≤ x3 then (
      some x1)
    else (
      f_Mo_score_48 (f_Mo_score_37  n) xFU a0 x1 x3 0 ω)
set_option maxHeartbeats 4000000 in
set_option maxRecDepth 100000 in
theorem w_Mo_score_37 {p : Program} {l : Launch} {e : Env} {s : State} {m : MethodId} {args : Array Value} {below : List Frame} {meth : Method} {c : Code} {E : xV} {z : Nat} {r : Int64} {ω : xS} (S : CallFix p m c b_Mo_score 5 s args xTbl "RosterRulesModel") (hr : meth.sig.returnType = (some .long)) (hlocks : meth.locks = false) : ∀ n : Nat, ∀ (a0 : Nat) (x1 : Int64) (x3 : Int32) (H : Heap) (locs : List Loc) (ls : Array Slot), xW E z ω s s.heap H locs → lv_has ls 5 [(0, .ref a0), (1, .long x1), (3, .int x3)] → f_Mo_score_37 n a0 x1 x3 ω = some r → W p l e (headSpec ws_Mo_score { frames := 5, cells := 0, slots := 0, locals := 122 }).room s m args below meth c H locs 0 0 (MQ below (xQ E (some (.long r)) z ω) args s 0 0 (fun q => E.2.2 ≤ q)) (F0 m 37 ls []) := by
  intro n
  induction n with
  | zero =>
    intro a0 x1 x3 H locs ls hw hl hf
    have h2 : (none : Option Int64) = some r := hf
    cases h2
  | succ n ih =>
    intro a0 x1 x3 H locs ls hw hl hf
    rw [f_Mo_score_37] at hf
    refine lv_iload_n S.1 S.2.1 d_Mo_score_37 rfl (lv_at hl 2 rfl) ?_
    refine lv_aload_n S.1 S.2.1 d_Mo_score_38 rfl (lv_at hl 0 rfl) ?_
    obtain ⟨t7, ht7, hf⟩ := xb hf
    refine x_geti S hw lk_Mo_156 ht7 d_Mo_score_39 ?_
    refine lv_icmp_ge (tgt := 79) S.1 S.2.1 d_Mo_score_42 (by decide) (fun c8 => ?_) (fun c8 => ?_)
    · replace hf := xt c8 hf
      refine lv_lload_n S.1 S.2.1 d_Mo_score_79 rfl (lv_at hl 1 rfl) ?_
      obtain rfl := xe1 hf
      exact x_lret S hr hlocks hw d_Mo_score_80
    · replace hf := xf c8 hf
      refine lv_iconst (v := 0) S.1 S.2.1 d_Mo_score_45 (by decide) ?_
      refine lv_istore (lv' := [(4, .int 0), (0, .ref a0), (1, .long x1), (3, .int x3)]) S.1 S.2.1 d_Mo_score_46 hl (by decide) rfl (fun ls hl => ?_)
      exact w_Mo_score_48 S hr hlocks ih _ _ _ _ _ _ _ _ hw (lv_sub hl [1, 2, 3, 0] rfl) hf
def f_Mo_score_4 : Nat → Nat → Int64 → Int32 → xS → Option Int64
  | 0, _, _, _, _ => none
  | n + 1, a0, x1, x3, ω =>
    (xgi ω a0 12 20).bind fun t1 =>
    if t1 ≤ x3 then (
      f_Mo_score_37  xFU a0 x1 0 ω)
    else (
      (xk ω a0 12 (f_Mo_broken a0 x3 (-1) ω)).bind fun t4 =>
      (xgr ω a0 12 14).bind fun t5 =>
      (xai ω t5 x3).bind fun t6 =>
      f_Mo_score_4  n a0 (x1 + (t4 * (Int32.toInt64 t6))) (x3 + 1) ω)
set_option maxHeartbeats 4000000 in
set_option maxRecDepth 100000 in
theorem w_Mo_score_4 {p : Program} {l : Launch} {e : Env} {s : State} {m : MethodId} {args : Array Value} {below : List Frame} {meth : Method} {c : Code} {E : xV} {z : Nat} {r : Int64} {ω : xS} (S : CallFix p m c b_Mo_score 5 s args xTbl "RosterRulesModel") (hr : meth.sig.returnType = (some .long)) (hlocks : meth.locks = false) : ∀ n : Nat, ∀ (a0 : Nat) (x1 : Int64) (x3 : Int32) (H : Heap) (locs : List Loc) (ls : Array Slot), xW E z ω s s.heap H locs → lv_has ls 5 [(0, .ref a0), (1, .long x1), (3, .int x3)] → f_Mo_score_4 n a0 x1 x3 ω = some r → W p l e (headSpec ws_Mo_score { frames := 5, cells := 0, slots := 0, locals := 122 }).room s m args below meth c H locs 0 0 (MQ below (xQ E (some (.long r)) z ω) args s 0 0 (fun q => E.2.2 ≤ q)) (F0 m 4 ls []) := by
  intro n
  induction n with
  | zero =>
    intro a0 x1 x3 H locs ls hw hl hf
    have h2 : (none : Option Int64) = some r := hf
    cases h2
  | succ n ih =>
    intro a0 x1 x3 H locs ls hw hl hf
    rw [f_Mo_score_4] at hf
    refine lv_iload_n S.1 S.2.1 d_Mo_score_4 rfl (lv_at hl 2 rfl) ?_
    refine lv_aload_n S.1 S.2.1 d_Mo_score_5 rfl (lv_at hl 0 rfl) ?_
    obtain ⟨t1, ht1, hf⟩ := xb hf
    refine x_geti S hw lk_Mo_219 ht1 d_Mo_score_6 ?_
    refine lv_icmp_ge (tgt := 35) S.1 S.2.1 d_Mo_score_9 (by decide) (fun c2 => ?_) (fun c2 => ?_)
    · replace hf := xt c2 hf
      refine lv_iconst (v := 0) S.1 S.2.1 d_Mo_score_35 (by decide) ?_
      refine lv_istore_n (lv' := [(3, .int 0), (0, .ref a0), (1, .long x1)]) S.1 S.2.1 d_Mo_score_36 rfl hl (by decide) rfl (fun ls hl => ?_)
      exact w_Mo_score_37 S hr hlocks  _ _ _ _ _ _ _ hw (lv_sub hl [1, 2, 0] rfl) hf
    · replace hf := xf c2 hf
      refine lv_lload_n S.1 S.2.1 d_Mo_score_12 rfl (lv_at hl 1 rfl) ?_
      refine lv_aload_n S.1 S.2.1 d_Mo_score_13 rfl (lv_at hl 0 rfl) ?_
      refine lv_iload_n S.1 S.2.1 d_Mo_score_14 rfl (lv_at hl 2 rfl) ?_
      refine lv_iconst (v := (-1)) S.1 S.2.1 d_Mo_score_15 (by decide) ?_
      obtain ⟨t4, h3, hf⟩ := xb hf
      obtain ⟨h3b, h3⟩ := xkb h3
      refine x_callV (As := [.int x3, .int (-1)]) (rest := [.long x1]) (st1 := [.long t4, .long x1]) S hw (c_Mo_broken h3) (cwV 2 S.2.2.2.2 gv_Mo_377 rfl rfl rfl hd_Mo_broken ⟨Nat.le_of_ble_eq_true rfl, Nat.le_of_ble_eq_true rfl⟩) rfl h3b rfl hl.1 rfl rfl (Nat.le_of_ble_eq_true rfl) d_Mo_score_16 ⟨Nat.le_of_ble_eq_true rfl, Nat.le_of_ble_eq_true rfl⟩ (fun H locs hw => ?_)
      refine lv_aload_n S.1 S.2.1 d_Mo_score_19 rfl (lv_at hl 0 rfl) ?_
      obtain ⟨t5, ht5, hf⟩ := xb hf
      refine x_getr S hw lk_Mo_45 ht5 d_Mo_score_20 ?_
      refine lv_iload_n S.1 S.2.1 d_Mo_score_23 rfl (lv_at hl 2 rfl) ?_
      obtain ⟨t6, ht6, hf⟩ := xb hf
      refine x_iald S hw ht6 d_Mo_score_24 ?_
      refine lv_i2l (v := (Int32.toInt64 t6)) S.1 S.2.1 d_Mo_score_25 rfl ?_
      refine lv_lmul S.1 S.2.1 d_Mo_score_26 ?_
      refine lv_ladd S.1 S.2.1 d_Mo_score_27 ?_
      refine lv_lstore_n (lv' := [(1, .long (x1 + (t4 * (Int32.toInt64 t6)))), (0, .ref a0), (3, .int x3)]) S.1 S.2.1 d_Mo_score_28 rfl hl (by decide) rfl (fun ls hl => ?_)
      refine lv_iinc (v := (x3 + 1)) (lv' := [(3, .int (x3 + 1)), (1, .long (x1 + (t4 * (Int32.toInt64 t6)))), (0, .ref a0)]) S.1 S.2.1 d_Mo_score_29 hl (k := 2) rfl rfl (by decide) rfl (fun ls hl => ?_)
      refine lv_goto (tgt := 4) S.1 S.2.1 d_Mo_score_32 (by decide) ?_
      exact ih _ _ _ _ _ _ hw (lv_sub hl [2, 1, 0] rfl) hf
def f_Mo_score (a0 : Nat) (ω : xS) : Option Int64 :=
  f_Mo_score_4  xFU a0 0 0 ω
set_option maxHeartbeats 4000000 in
set_option maxRecDepth 100000 in
theorem c_Mo_score {l : Launch} {E : xV} {z : Nat} {a0 : Nat} {r : Int64} {ω : xS} (hf : f_Mo_score a0 ω = some r) : xM l E y_Mo_score ws_Mo_score { frames := 5, cells := 0, slots := 0, locals := 122 } [.ref a0] z ω (some (.long r)) z ω := by
  refine x_start (cc := b_Mo_score) (maxL := 5) (ret := (some .long)) (by decide) rfl (Nat.le_of_ble_eq_true rfl) ?_
  intro p e s m below meth c S hr hlocks hin ls hl hw
  have hl : lv_has ls 5 [(0, .ref a0)] := hl
  unfold f_Mo_score at hf
  refine lv_lconst (v := 0) S.1 S.2.1 d_Mo_score_0 (by decide) ?_
  refine lv_lstore_n (lv' := [(1, .long 0), (0, .ref a0)]) S.1 S.2.1 d_Mo_score_1 rfl hl (by decide) rfl (fun ls hl => ?_)
  refine lv_iconst (v := 0) S.1 S.2.1 d_Mo_score_2 (by decide) ?_
  refine lv_istore_n (lv' := [(3, .int 0), (1, .long 0), (0, .ref a0)]) S.1 S.2.1 d_Mo_score_3 rfl hl (by decide) rfl (fun ls hl => ?_)
  exact w_Mo_score_4 S hr hlocks  _ _ _ _ _ _ _ hw (lv_sub hl [2, 1, 0] rfl) hf
def f_Mo_near_10 : Nat → Nat → Int32 → Int32 → Int64 → Int32 → xS → Option Int64
  | 0, _, _, _, _, _, _ => none
  | n + 1, a0, x1, x2, x3, x5, ω =>
    (xgi ω a0 12 20).bind fun t3 =>
    if t3 ≤ x5 then (
      some x3)
    else (
      (xgr ω a0 12 14).bind fun t5 =>
      (xai ω t5 x5).bind fun t6 =>
      (xgr ω a0 12 13).bind fun t7 =>
      (xai ω t7 x5).bind fun t8 =>
      if t8 = 5 then (
        (xk ω a0 12 (f_Mo_spread a0 x5 ω)).bind fun t18 =>
        f_Mo_near_10  n a0 x1 x2 (x3 + ((Int32.toInt64 t6) * t18)) (x5 + 1) ω)
      else (
        (xgr ω a0 12 13).bind fun t10 =>
        (xai ω t10 x5).bind fun t11 =>
        if t11 = 6 then (
          (xk ω a0 12 (f_Mo_byDay a0 x5 x2 ω)).bind fun t16 =>
          f_Mo_near_10  n a0 x1 x2 (x3 + ((Int32.toInt64 t6) * t16)) (x5 + 1) ω)
        else (
          (xk ω a0 12 (f_Mo_byPerson a0 x5 x1 ω)).bind fun t14 =>
          f_Mo_near_10  n a0 x1 x2 (x3 + ((Int32.toInt64 t6) * t14)) (x5 + 1) ω)))
set_option maxHeartbeats 4000000 in
set_option maxRecDepth 100000 in
theorem w_Mo_near_10 {p : Program} {l : Launch} {e : Env} {s : State} {m : MethodId} {args : Array Value} {below : List Frame} {meth : Method} {c : Code} {E : xV} {z : Nat} {r : Int64} {ω : xS} (S : CallFix p m c b_Mo_near 6 s args xTbl "RosterRulesModel") (hr : meth.sig.returnType = (some .long)) (hlocks : meth.locks = false) : ∀ n : Nat, ∀ (a0 : Nat) (x1 : Int32) (x2 : Int32) (x3 : Int64) (x5 : Int32) (H : Heap) (locs : List Loc) (ls : Array Slot), xW E z ω s s.heap H locs → lv_has ls 6 [(0, .ref a0), (1, .int x1), (2, .int x2), (3, .long x3), (5, .int x5)] → f_Mo_near_10 n a0 x1 x2 x3 x5 ω = some r → W p l e (headSpec ws_Mo_near { frames := 4, cells := 0, slots := 0, locals := 96 }).room s m args below meth c H locs 0 0 (MQ below (xQ E (some (.long r)) z ω) args s 0 0 (fun q => E.2.2 ≤ q)) (F0 m 10 ls []) := by
  intro n
  induction n with
  | zero =>
    intro a0 x1 x2 x3 x5 H locs ls hw hl hf
    have h2 : (none : Option Int64) = some r := hf
    cases h2
  | succ n ih =>
    intro a0 x1 x2 x3 x5 H locs ls hw hl hf
    rw [f_Mo_near_10] at hf
    refine lv_iload S.1 S.2.1 d_Mo_near_10 (lv_at hl 4 rfl) ?_
    refine lv_aload_n S.1 S.2.1 d_Mo_near_12 rfl (lv_at hl 0 rfl) ?_
    obtain ⟨t3, ht3, hf⟩ := xb hf
    refine x_geti S hw lk_Mo_219 ht3 d_Mo_near_13 ?_
    refine lv_icmp_ge (tgt := 86) S.1 S.2.1 d_Mo_near_16 (by decide) (fun c4 => ?_) (fun c4 => ?_)
    · replace hf := xt c4 hf
      refine lv_lload_n S.1 S.2.1 d_Mo_near_86 rfl (lv_at hl 3 rfl) ?_
      obtain rfl := xe1 hf
      exact x_lret S hr hlocks hw d_Mo_near_87
    · replace hf := xf c4 hf
      refine lv_lload_n S.1 S.2.1 d_Mo_near_19 rfl (lv_at hl 3 rfl) ?_
      refine lv_aload_n S.1 S.2.1 d_Mo_near_20 rfl (lv_at hl 0 rfl) ?_
      obtain ⟨t5, ht5, hf⟩ := xb hf
      refine x_getr S hw lk_Mo_45 ht5 d_Mo_near_21 ?_
      refine lv_iload S.1 S.2.1 d_Mo_near_24 (lv_at hl 4 rfl) ?_
      obtain ⟨t6, ht6, hf⟩ := xb hf
      refine x_iald S hw ht6 d_Mo_near_26 ?_
      refine lv_i2l (v := (Int32.toInt64 t6)) S.1 S.2.1 d_Mo_near_27 rfl ?_
      refine lv_aload_n S.1 S.2.1 d_Mo_near_28 rfl (lv_at hl 0 rfl) ?_
      obtain ⟨t7, ht7, hf⟩ := xb hf
      refine x_getr S hw lk_Mo_42 ht7 d_Mo_near_29 ?_
      refine lv_iload S.1 S.2.1 d_Mo_near_32 (lv_at hl 4 rfl) ?_
      obtain ⟨t8, ht8, hf⟩ := xb hf
      refine x_iald S hw ht8 d_Mo_near_34 ?_
      refine lv_iconst (v := 5) S.1 S.2.1 d_Mo_near_35 (by decide) ?_
      refine lv_icmp_ne (tgt := 48) S.1 S.2.1 d_Mo_near_36 (by decide) (fun c9 => ?_) (fun c9 => ?_)
      · replace hf := xf c9 hf
        refine lv_aload_n S.1 S.2.1 d_Mo_near_48 rfl (lv_at hl 0 rfl) ?_
        obtain ⟨t10, ht10, hf⟩ := xb hf
        refine x_getr S hw lk_Mo_42 ht10 d_Mo_near_49 ?_
        refine lv_iload S.1 S.2.1 d_Mo_near_52 (lv_at hl 4 rfl) ?_
        obtain ⟨t11, ht11, hf⟩ := xb hf
        refine x_iald S hw ht11 d_Mo_near_54 ?_
        refine lv_bipush (v := 6) S.1 S.2.1 d_Mo_near_55 (by decide) ?_
        refine lv_icmp_ne (tgt := 70) S.1 S.2.1 d_Mo_near_57 (by decide) (fun c12 => ?_) (fun c12 => ?_)
        · replace hf := xf c12 hf
          refine lv_aload_n S.1 S.2.1 d_Mo_near_70 rfl (lv_at hl 0 rfl) ?_
          refine lv_iload S.1 S.2.1 d_Mo_near_71 (lv_at hl 4 rfl) ?_
          refine lv_iload_n S.1 S.2.1 d_Mo_near_73 rfl (lv_at hl 1 rfl) ?_
          obtain ⟨t14, h13, hf⟩ := xb hf
          obtain ⟨h13b, h13⟩ := xkb h13
          refine x_callV (As := [.int x5, .int x1]) (rest := [.long (Int32.toInt64 t6), .long x3]) (st1 := [.long t14, .long (Int32.toInt64 t6), .long x3]) S hw (c_Mo_byPerson h13) (cwV 2 S.2.2.2.2 gv_Mo_374 rfl rfl rfl hd_Mo_byPerson ⟨Nat.le_of_ble_eq_true rfl, Nat.le_of_ble_eq_true rfl⟩) rfl h13b rfl hl.1 rfl rfl (Nat.le_of_ble_eq_true rfl) d_Mo_near_74 ⟨Nat.le_of_ble_eq_true rfl, Nat.le_of_ble_eq_true rfl⟩ (fun H locs hw => ?_)
          refine lv_lmul S.1 S.2.1 d_Mo_near_77 ?_
          refine lv_ladd S.1 S.2.1 d_Mo_near_78 ?_
          refine lv_lstore_n (lv' := [(3, .long (x3 + ((Int32.toInt64 t6) * t14))), (0, .ref a0), (1, .int x1), (2, .int x2), (5, .int x5)]) S.1 S.2.1 d_Mo_near_79 rfl hl (by decide) rfl (fun ls hl => ?_)
          refine lv_iinc (v := (x5 + 1)) (lv' := [(5, .int (x5 + 1)), (3, .long (x3 + ((Int32.toInt64 t6) * t14))), (0, .ref a0), (1, .int x1), (2, .int x2)]) S.1 S.2.1 d_Mo_near_80 hl (k := 4) rfl rfl (by decide) rfl (fun ls hl => ?_)
          refine lv_goto (tgt := 10) S.1 S.2.1 d_Mo_near_83 (by decide) ?_
          exact ih _ _ _ _ _ _ _ _ hw (lv_sub hl [2, 3, 4, 1, 0] rfl) hf
        · replace hf := xt c12 hf
          refine lv_aload_n S.1 S.2.1 d_Mo_near_60 rfl (lv_at hl 0 rfl) ?_
          refine lv_iload S.1 S.2.1 d_Mo_near_61 (lv_at hl 4 rfl) ?_
          refine lv_iload_n S.1 S.2.1 d_Mo_near_63 rfl (lv_at hl 2 rfl) ?_
          obtain ⟨t16, h15, hf⟩ := xb hf
          obtain ⟨h15b, h15⟩ := xkb h15
          refine x_callV (As := [.int x5, .int x2]) (rest := [.long (Int32.toInt64 t6), .long x3]) (st1 := [.long t16, .long (Int32.toInt64 t6), .long x3]) S hw (c_Mo_byDay h15) (cwV 2 S.2.2.2.2 gv_Mo_371 rfl rfl rfl hd_Mo_byDay ⟨Nat.le_of_ble_eq_true rfl, Nat.le_of_ble_eq_true rfl⟩) rfl h15b rfl hl.1 rfl rfl (Nat.le_of_ble_eq_true rfl) d_Mo_near_64 ⟨Nat.le_of_ble_eq_true rfl, Nat.le_of_ble_eq_true rfl⟩ (fun H locs hw => ?_)
          refine lv_goto (tgt := 77) S.1 S.2.1 d_Mo_near_67 (by decide) ?_
          refine lv_lmul S.1 S.2.1 d_Mo_near_77 ?_
          refine lv_ladd S.1 S.2.1 d_Mo_near_78 ?_
          refine lv_lstore_n (lv' := [(3, .long (x3 + ((Int32.toInt64 t6) * t16))), (0, .ref a0), (1, .int x1), (2, .int x2), (5, .int x5)]) S.1 S.2.1 d_Mo_near_79 rfl hl (by decide) rfl (fun ls hl => ?_)
          refine lv_iinc (v := (x5 + 1)) (lv' := [(5, .int (x5 + 1)), (3, .long (x3 + ((Int32.toInt64 t6) * t16))), (0, .ref a0), (1, .int x1), (2, .int x2)]) S.1 S.2.1 d_Mo_near_80 hl (k := 4) rfl rfl (by decide) rfl (fun ls hl => ?_)
          refine lv_goto (tgt := 10) S.1 S.2.1 d_Mo_near_83 (by decide) ?_
          exact ih _ _ _ _ _ _ _ _ hw (lv_sub hl [2, 3, 4, 1, 0] rfl) hf
      · replace hf := xt c9 hf
        refine lv_aload_n S.1 S.2.1 d_Mo_near_39 rfl (lv_at hl 0 rfl) ?_
        refine lv_iload S.1 S.2.1 d_Mo_near_40 (lv_at hl 4 rfl) ?_
        obtain ⟨t18, h17, hf⟩ := xb hf
        obtain ⟨h17b, h17⟩ := xkb h17
        refine x_callV (As := [.int x5]) (rest := [.long (Int32.toInt64 t6), .long x3]) (st1 := [.long t18, .long (Int32.toInt64 t6), .long x3]) S hw (c_Mo_spread h17) (cwV 1 S.2.2.2.2 gv_Mo_368 rfl rfl rfl hd_Mo_spread ⟨Nat.le_of_ble_eq_true rfl, Nat.le_of_ble_eq_true rfl⟩) rfl h17b rfl hl.1 rfl rfl (Nat.le_of_ble_eq_true rfl) d_Mo_near_42 ⟨Nat.le_of_ble_eq_true rfl, Nat.le_of_ble_eq_true rfl⟩ (fun H locs hw => ?_)
        refine lv_goto (tgt := 77) S.1 S.2.1 d_Mo_near_45 (by decide) ?_
        refine lv_lmul S.1 S.2.1 d_Mo_near_77 ?_
        refine lv_ladd S.1 S.2.1 d_Mo_near_78 ?_
        refine lv_lstore_n (lv' := [(3, .long (x3 + ((Int32.toInt64 t6) * t18))), (0, .ref a0), (1, .int x1), (2, .int x2), (5, .int x5)]) S.1 S.2.1 d_Mo_near_79 rfl hl (by decide) rfl (fun ls hl => ?_)
        refine lv_iinc (v := (x5 + 1)) (lv' := [(5, .int (x5 + 1)), (3, .long (x3 + ((Int32.toInt64 t6) * t18))), (0, .ref a0), (1, .int x1), (2, .int x2)]) S.1 S.2.1 d_Mo_near_80 hl (k := 4) rfl rfl (by decide) rfl (fun ls hl => ?_)
        refine lv_goto (tgt := 10) S.1 S.2.1 d_Mo_near_83 (by decide) ?_
        exact ih _ _ _ _ _ _ _ _ hw (lv_sub hl [2, 3, 4, 1, 0] rfl) hf
def f_Mo_near (a0 : Nat) (x1 : Int32) (x2 : Int32) (ω : xS) : Option Int64 :=
  (xk ω a0 12 (f_Mo_wishOf a0 x1 x2 ω)).bind fun t2 =>
  f_Mo_near_10  xFU a0 x1 x2 t2 0 ω
set_option maxHeartbeats 4000000 in
set_option maxRecDepth 100000 in
theorem c_Mo_near {l : Launch} {E : xV} {z : Nat} {a0 : Nat} {x1 : Int32} {x2 : Int32} {r : Int64} {ω : xS} (hf : f_Mo_near a0 x1 x2 ω = some r) : xM l E y_Mo_near ws_Mo_near { frames := 4, cells := 0, slots := 0, locals := 96 } [.ref a0, .int x1, .int x2] z ω (some (.long r)) z ω := by
  refine x_start (cc := b_Mo_near) (maxL := 6) (ret := (some .long)) (by decide) rfl (Nat.le_of_ble_eq_true rfl) ?_
  intro p e s m below meth c S hr hlocks hin ls hl hw
  have hl : lv_has ls 6 [(0, .ref a0), (1, .int x1), (2, .int x2)] := hl
  unfold f_Mo_near at hf
  refine lv_aload_n S.1 S.2.1 d_Mo_near_0 rfl (lv_at hl 0 rfl) ?_
  refine lv_iload_n S.1 S.2.1 d_Mo_near_1 rfl (lv_at hl 1 rfl) ?_
  refine lv_iload_n S.1 S.2.1 d_Mo_near_2 rfl (lv_at hl 2 rfl) ?_
  obtain ⟨t2, h1, hf⟩ := xb hf
  obtain ⟨h1b, h1⟩ := xkb h1
  refine x_callV (As := [.int x1, .int x2]) (rest := []) (st1 := [.long t2]) S hw (c_Mo_wishOf h1) (cwV 2 S.2.2.2.2 gv_Mo_380 rfl rfl rfl hd_Mo_wishOf ⟨Nat.le_of_ble_eq_true rfl, Nat.le_of_ble_eq_true rfl⟩) rfl h1b rfl hl.1 rfl rfl (Nat.le_of_ble_eq_true rfl) d_Mo_near_3 ⟨Nat.le_of_ble_eq_true rfl, Nat.le_of_ble_eq_true rfl⟩ (fun H locs hw => ?_)
  refine lv_lstore_n (lv' := [(3, .long t2), (0, .ref a0), (1, .int x1), (2, .int x2)]) S.1 S.2.1 d_Mo_near_6 rfl hl (by decide) rfl (fun ls hl => ?_)
  refine lv_iconst (v := 0) S.1 S.2.1 d_Mo_near_7 (by decide) ?_
  refine lv_istore (lv' := [(5, .int 0), (3, .long t2), (0, .ref a0), (1, .int x1), (2, .int x2)]) S.1 S.2.1 d_Mo_near_8 hl (by decide) rfl (fun ls hl => ?_)
  exact w_Mo_near_10 S hr hlocks  _ _ _ _ _ _ _ _ _ hw (lv_sub hl [2, 3, 4, 1, 0] rfl) hf
def f_Mo_changed (a0 : Nat) (x1 : Int32) (x2 : Int32) (x3 : Int32) (ω : xS) : Option (Int64 × xS) :=
  (xgr ω a0 12 2).bind fun t1 =>
  (xai ω t1 ((21 * x1) + x2)).bind fun t2 =>
  (xk ω a0 12 (f_Mo_near a0 x1 x2 ω)).bind fun t4 =>
  (xgr ω a0 12 2).bind fun t5 =>
  (xsi ω t5 ((21 * x1) + x2) x3).bind fun w6 =>
  (xk w6 a0 12 (f_Mo_near a0 x1 x2 w6)).bind fun t8 =>
  (xgr w6 a0 12 2).bind fun t9 =>
  (xsi w6 t9 ((21 * x1) + x2) t2).bind fun w10 =>
  some ((t8 - t4), w10)
set_option maxHeartbeats 4000000 in
set_option maxRecDepth 100000 in
theorem c_Mo_changed {l : Launch} {E : xV} {z : Nat} {a0 : Nat} {x1 : Int32} {x2 : Int32} {x3 : Int32} {r : Int64} {ω1 : xS} {ω : xS} (hf : f_Mo_changed a0 x1 x2 x3 ω = some (r, ω1)) : xM l E y_Mo_changed ws_Mo_changed { frames := 5, cells := 0, slots := 0, locals := 121 } [.ref a0, .int x1, .int x2, .int x3] z ω (some (.long r)) z ω1 := by
  refine x_start (cc := b_Mo_changed) (maxL := 9) (ret := (some .long)) (by decide) rfl (Nat.le_of_ble_eq_true rfl) ?_
  intro p e s m below meth c S hr hlocks hin ls hl hw
  have hl : lv_has ls 9 [(0, .ref a0), (1, .int x1), (2, .int x2), (3, .int x3)] := hl
  unfold f_Mo_changed at hf
  refine lv_aload_n S.1 S.2.1 d_Mo_changed_0 rfl (lv_at hl 0 rfl) ?_
  obtain ⟨t1, ht1, hf⟩ := xb hf
  refine x_getr S hw lk_Mo_7 ht1 d_Mo_changed_1 ?_
  refine lv_bipush (v := 21) S.1 S.2.1 d_Mo_changed_4 (by decide) ?_
  refine lv_iload_n S.1 S.2.1 d_Mo_changed_6 rfl (lv_at hl 1 rfl) ?_
  refine lv_imul S.1 S.2.1 d_Mo_changed_7 ?_
  refine lv_iload_n S.1 S.2.1 d_Mo_changed_8 rfl (lv_at hl 2 rfl) ?_
  refine lv_iadd S.1 S.2.1 d_Mo_changed_9 ?_
  obtain ⟨t2, ht2, hf⟩ := xb hf
  refine x_iald S hw ht2 d_Mo_changed_10 ?_
  refine lv_istore (lv' := [(4, .int t2), (0, .ref a0), (1, .int x1), (2, .int x2), (3, .int x3)]) S.1 S.2.1 d_Mo_changed_11 hl (by decide) rfl (fun ls hl => ?_)
  refine lv_aload_n S.1 S.2.1 d_Mo_changed_13 rfl (lv_at hl 1 rfl) ?_
  refine lv_iload_n S.1 S.2.1 d_Mo_changed_14 rfl (lv_at hl 2 rfl) ?_
  refine lv_iload_n S.1 S.2.1 d_Mo_changed_15 rfl (lv_at hl 3 rfl) ?_
  obtain ⟨t4, h3, hf⟩ := xb hf
  obtain ⟨h3b, h3⟩ := xkb h3
  refine x_callV (As := [.int x1, .int x2]) (rest := []) (st1 := [.long t4]) S hw (c_Mo_near h3) (cwV 2 S.2.2.2.2 gv_Mo_383 rfl rfl rfl hd_Mo_near ⟨Nat.le_of_ble_eq_true rfl, Nat.le_of_ble_eq_true rfl⟩) rfl h3b rfl hl.1 rfl rfl (Nat.le_of_ble_eq_true rfl) d_Mo_changed_16 ⟨Nat.le_of_ble_eq_true rfl, Nat.le_of_ble_eq_true rfl⟩ (fun H locs hw => ?_)
  refine lv_lstore (lv' := [(5, .long t4), (4, .int t2), (0, .ref a0), (1, .int x1), (2, .int x2), (3, .int x3)]) S.1 S.2.1 d_Mo_changed_19 hl (by decide) rfl (fun ls hl => ?_)
  refine lv_aload_n S.1 S.2.1 d_Mo_changed_21 rfl (lv_at hl 2 rfl) ?_
  obtain ⟨t5, ht5, hf⟩ := xb hf
  refine x_getr S hw lk_Mo_7 ht5 d_Mo_changed_22 ?_
  refine lv_bipush (v := 21) S.1 S.2.1 d_Mo_changed_25 (by decide) ?_
  refine lv_iload_n S.1 S.2.1 d_Mo_changed_27 rfl (lv_at hl 3 rfl) ?_
  refine lv_imul S.1 S.2.1 d_Mo_changed_28 ?_
  refine lv_iload_n S.1 S.2.1 d_Mo_changed_29 rfl (lv_at hl 4 rfl) ?_
  refine lv_iadd S.1 S.2.1 d_Mo_changed_30 ?_
  refine lv_iload_n S.1 S.2.1 d_Mo_changed_31 rfl (lv_at hl 5 rfl) ?_
  obtain ⟨w6, hw6, hf⟩ := xb hf
  refine x_iast S hw hw6 d_Mo_changed_32 (fun H locs hw => ?_)
  refine lv_aload_n S.1 S.2.1 d_Mo_changed_33 rfl (lv_at hl 2 rfl) ?_
  refine lv_iload_n S.1 S.2.1 d_Mo_changed_34 rfl (lv_at hl 3 rfl) ?_
  refine lv_iload_n S.1 S.2.1 d_Mo_changed_35 rfl (lv_at hl 4 rfl) ?_
  obtain ⟨t8, h7, hf⟩ := xb hf
  obtain ⟨h7b, h7⟩ := xkb h7
  refine x_callV (As := [.int x1, .int x2]) (rest := []) (st1 := [.long t8]) S hw (c_Mo_near h7) (cwV 2 S.2.2.2.2 gv_Mo_383 rfl rfl rfl hd_Mo_near ⟨Nat.le_of_ble_eq_true rfl, Nat.le_of_ble_eq_true rfl⟩) rfl h7b rfl hl.1 rfl rfl (Nat.le_of_ble_eq_true rfl) d_Mo_changed_36 ⟨Nat.le_of_ble_eq_true rfl, Nat.le_of_ble_eq_true rfl⟩ (fun H locs hw => ?_)
  refine lv_lstore (lv' := [(7, .long t8), (5, .long t4), (4, .int t2), (0, .ref a0), (1, .int x1), (2, .int x2), (3, .int x3)]) S.1 S.2.1 d_Mo_changed_39 hl (by decide) rfl (fun ls hl => ?_)
  refine lv_aload_n S.1 S.2.1 d_Mo_changed_41 rfl (lv_at hl 3 rfl) ?_
  obtain ⟨t9, ht9, hf⟩ := xb hf
  refine x_getr S hw lk_Mo_7 ht9 d_Mo_changed_42 ?_
  refine lv_bipush (v := 21) S.1 S.2.1 d_Mo_changed_45 (by decide) ?_
  refine lv_iload_n S.1 S.2.1 d_Mo_changed_47 rfl (lv_at hl 4 rfl) ?_
  refine lv_imul S.1 S.2.1 d_Mo_changed_48 ?_
  refine lv_iload_n S.1 S.2.1 d_Mo_changed_49 rfl (lv_at hl 5 rfl) ?_
  refine lv_iadd S.1 S.2.1 d_Mo_changed_50 ?_
  refine lv_iload S.1 S.2.1 d_Mo_changed_51 (lv_at hl 2 rfl) ?_
  obtain ⟨w10, hw10, hf⟩ := xb hf
  refine x_iast S hw hw10 d_Mo_changed_53 (fun H locs hw => ?_)
  refine lv_lload S.1 S.2.1 d_Mo_changed_54 (lv_at hl 0 rfl) ?_
  refine lv_lload S.1 S.2.1 d_Mo_changed_56 (lv_at hl 1 rfl) ?_
  refine lv_lsub S.1 S.2.1 d_Mo_changed_58 ?_
  obtain ⟨rfl, rfl⟩ := xe2 hf
  exact x_lret S hr hlocks hw d_Mo_changed_59
def f_Mo_change (a0 : Nat) (x1 : Int32) (x2 : Int32) (x3 : Int32) (ω : xS) : Option (Int64 × xS) :=
  (xk ω a0 12 (f_Mo_isCell a0 x1 x2 ω)).bind fun t2 =>
  if t2 = 0 then (
    some (4611686018427387904, ω))
  else (
    (f_Mo_isShift x3 ω).bind fun t5 =>
    if t5 = 0 then (
      some (4611686018427387904, ω))
    else (
      xc (xk ω a0 12 (f_Mo_changed a0 x1 x2 x3 ω)) fun t8 w9 =>
      some (t8, w9)))
set_option maxHeartbeats 4000000 in
set_option maxRecDepth 100000 in
theorem c_Mo_change {l : Launch} {E : xV} {z : Nat} {a0 : Nat} {x1 : Int32} {x2 : Int32} {x3 : Int32} {r : Int64} {ω1 : xS} {ω : xS} (hf : f_Mo_change a0 x1 x2 x3 ω = some (r, ω1)) : xM l E y_Mo_change ws_Mo_change { frames := 6, cells := 0, slots := 0, locals := 149 } [.ref a0, .int x1, .int x2, .int x3] z ω (some (.long r)) z ω1 := by
  refine x_start (cc := b_Mo_change) (maxL := 4) (ret := (some .long)) (by decide) rfl (Nat.le_of_ble_eq_true rfl) ?_
  intro p e s m below meth c S hr hlocks hin ls hl hw
  have hl : lv_has ls 4 [(0, .ref a0), (1, .int x1), (2, .int x2), (3, .int x3)] := hl
  unfold f_Mo_change at hf
  refine lv_aload_n S.1 S.2.1 d_Mo_change_0 rfl (lv_at hl 0 rfl) ?_
  refine lv_iload_n S.1 S.2.1 d_Mo_change_1 rfl (lv_at hl 1 rfl) ?_
  refine lv_iload_n S.1 S.2.1 d_Mo_change_2 rfl (lv_at hl 2 rfl) ?_
  obtain ⟨t2, h1, hf⟩ := xb hf
  obtain ⟨h1b, h1⟩ := xkb h1
  refine x_callV (As := [.int x1, .int x2]) (rest := []) (st1 := [.int t2]) S hw (c_Mo_isCell h1) (cwV 2 S.2.2.2.2 gv_Mo_350 rfl rfl rfl hd_Mo_isCell ⟨Nat.le_of_ble_eq_true rfl, Nat.le_of_ble_eq_true rfl⟩) rfl h1b rfl hl.1 rfl rfl (Nat.le_of_ble_eq_true rfl) d_Mo_change_3 ⟨Nat.le_of_ble_eq_true rfl, Nat.le_of_ble_eq_true rfl⟩ (fun H locs hw => ?_)
  refine lv_if_eq (tgt := 26) S.1 S.2.1 d_Mo_change_6 (by decide) (fun c3 => ?_) (fun c3 => ?_)
  · replace hf := xt c3 hf
    refine lv_ldc2 (v := 4611686018427387904) S.1 S.2.1 S.2.2.2.1 (S.2.2.2.2 _ wd_6_175) d_Mo_change_26 ?_
    obtain ⟨rfl, rfl⟩ := xe2 hf
    exact x_lret S hr hlocks hw d_Mo_change_29
  · replace hf := xf c3 hf
    refine lv_iload_n S.1 S.2.1 d_Mo_change_9 rfl (lv_at hl 3 rfl) ?_
    obtain ⟨t5, h4, hf⟩ := xb hf
    refine x_callS (As := [.int x3]) (rest := []) (st1 := [.int t5]) S hw (c_Mo_isShift h4) (cwS 1 S.2.2.2.2 gs_Mo_347 rfl rfl rfl hd_Mo_isShift ⟨Nat.le_of_ble_eq_true rfl, Nat.le_of_ble_eq_true rfl⟩) rfl hl.1 rfl rfl (Nat.le_of_ble_eq_true rfl) d_Mo_change_10 ⟨Nat.le_of_ble_eq_true rfl, Nat.le_of_ble_eq_true rfl⟩ (fun H locs hw => ?_)
    refine lv_if_eq (tgt := 26) S.1 S.2.1 d_Mo_change_13 (by decide) (fun c6 => ?_) (fun c6 => ?_)
    · replace hf := xt c6 hf
      refine lv_ldc2 (v := 4611686018427387904) S.1 S.2.1 S.2.2.2.1 (S.2.2.2.2 _ wd_6_175) d_Mo_change_26 ?_
      obtain ⟨rfl, rfl⟩ := xe2 hf
      exact x_lret S hr hlocks hw d_Mo_change_29
    · replace hf := xf c6 hf
      refine lv_aload_n S.1 S.2.1 d_Mo_change_16 rfl (lv_at hl 0 rfl) ?_
      refine lv_iload_n S.1 S.2.1 d_Mo_change_17 rfl (lv_at hl 1 rfl) ?_
      refine lv_iload_n S.1 S.2.1 d_Mo_change_18 rfl (lv_at hl 2 rfl) ?_
      refine lv_iload_n S.1 S.2.1 d_Mo_change_19 rfl (lv_at hl 3 rfl) ?_
      obtain ⟨t8, w9, h7, hf⟩ := xcb hf
      obtain ⟨h7b, h7⟩ := xkb h7
      refine x_callV (As := [.int x1, .int x2, .int x3]) (rest := []) (st1 := [.long t8]) S hw (c_Mo_changed h7) (cwV 3 S.2.2.2.2 gv_Mo_386 rfl rfl rfl hd_Mo_changed ⟨Nat.le_of_ble_eq_true rfl, Nat.le_of_ble_eq_true rfl⟩) rfl h7b rfl hl.1 rfl rfl (Nat.le_of_ble_eq_true rfl) d_Mo_change_20 ⟨Nat.le_of_ble_eq_true rfl, Nat.le_of_ble_eq_true rfl⟩ (fun H locs hw => ?_)
      refine lv_goto (tgt := 29) S.1 S.2.1 d_Mo_change_23 (by decide) ?_
      obtain ⟨rfl, rfl⟩ := xe2 hf
      exact x_lret S hr hlocks hw d_Mo_change_29
def f_Mo_set1 (a0 : Nat) (x1 : Int32) (x2 : Int32) (ω : xS) : Option xS :=
  (xgi ω a0 12 31).bind fun t1 =>
  (xgi ω a0 12 32).bind fun t2 =>
  (xgr ω a0 12 29).bind fun t3 =>
  (xsi ω t3 ((t1 + t2) - (t1 + t2) / 200 * 200) x1).bind fun w4 =>
  (xgr w4 a0 12 30).bind fun t5 =>
  (xgr w4 a0 12 2).bind fun t6 =>
  (xai w4 t6 x1).bind fun t7 =>
  (xsi w4 t5 ((t1 + t2) - (t1 + t2) / 200 * 200) t7).bind fun w8 =>
  (xgi w8 a0 12 32).bind fun t9 =>
  if t9 = 200 then (
    (xgi w8 a0 12 31).bind fun t15 =>
    (xp w8 a0 12 31 (.int ((t15 + 1) - (t15 + 1) / 200 * 200))).bind fun w16 =>
    (xgr w16 a0 12 2).bind fun t17 =>
    (xsi w16 t17 x1 x2).bind fun w18 =>
    some w18)
  else (
    (xgi w8 a0 12 32).bind fun t11 =>
    (xp w8 a0 12 32 (.int (t11 + 1))).bind fun w12 =>
    (xgr w12 a0 12 2).bind fun t13 =>
    (xsi w12 t13 x1 x2).bind fun w14 =>
    some w14)
set_option maxHeartbeats 4000000 in
set_option maxRecDepth 100000 in
theorem c_Mo_set1 {l : Launch} {E : xV} {z : Nat} {a0 : Nat} {x1 : Int32} {x2 : Int32} {ω1 : xS} {ω : xS} (hf : f_Mo_set1 a0 x1 x2 ω = some ω1) : xM l E y_Mo_set1 ws_Mo_set1 { frames := 0, cells := 0, slots := 0, locals := 0 } [.ref a0, .int x1, .int x2] z ω none z ω1 := by
  refine x_start (cc := b_Mo_set1) (maxL := 4) (ret := none) (by decide) rfl (Nat.le_of_ble_eq_true rfl) ?_
  intro p e s m below meth c S hr hlocks hin ls hl hw
  have hl : lv_has ls 4 [(0, .ref a0), (1, .int x1), (2, .int x2)] := hl
  unfold f_Mo_set1 at hf
  refine lv_aload_n S.1 S.2.1 d_Mo_set1_0 rfl (lv_at hl 0 rfl) ?_
  obtain ⟨t1, ht1, hf⟩ := xb hf
  refine x_geti S hw lk_Mo_393 ht1 d_Mo_set1_1 ?_
  refine lv_aload_n S.1 S.2.1 d_Mo_set1_4 rfl (lv_at hl 0 rfl) ?_
  obtain ⟨t2, ht2, hf⟩ := xb hf
  refine x_geti S hw lk_Mo_396 ht2 d_Mo_set1_5 ?_
  refine lv_iadd S.1 S.2.1 d_Mo_set1_8 ?_
  refine lv_sipush (v := 200) S.1 S.2.1 d_Mo_set1_9 (by decide) ?_
  refine lv_irem S.1 S.2.1 d_Mo_set1_12 (by decide) ?_
  refine lv_istore_n (lv' := [(3, .int ((t1 + t2) - (t1 + t2) / 200 * 200)), (0, .ref a0), (1, .int x1), (2, .int x2)]) S.1 S.2.1 d_Mo_set1_13 rfl hl (by decide) rfl (fun ls hl => ?_)
  refine lv_aload_n S.1 S.2.1 d_Mo_set1_14 rfl (lv_at hl 1 rfl) ?_
  obtain ⟨t3, ht3, hf⟩ := xb hf
  refine x_getr S hw lk_Mo_89 ht3 d_Mo_set1_15 ?_
  refine lv_iload_n S.1 S.2.1 d_Mo_set1_18 rfl (lv_at hl 0 rfl) ?_
  refine lv_iload_n S.1 S.2.1 d_Mo_set1_19 rfl (lv_at hl 2 rfl) ?_
  obtain ⟨w4, hw4, hf⟩ := xb hf
  refine x_iast S hw hw4 d_Mo_set1_20 (fun H locs hw => ?_)
  refine lv_aload_n S.1 S.2.1 d_Mo_set1_21 rfl (lv_at hl 1 rfl) ?_
  obtain ⟨t5, ht5, hf⟩ := xb hf
  refine x_getr S hw lk_Mo_92 ht5 d_Mo_set1_22 ?_
  refine lv_iload_n S.1 S.2.1 d_Mo_set1_25 rfl (lv_at hl 0 rfl) ?_
  refine lv_aload_n S.1 S.2.1 d_Mo_set1_26 rfl (lv_at hl 1 rfl) ?_
  obtain ⟨t6, ht6, hf⟩ := xb hf
  refine x_getr S hw lk_Mo_7 ht6 d_Mo_set1_27 ?_
  refine lv_iload_n S.1 S.2.1 d_Mo_set1_30 rfl (lv_at hl 2 rfl) ?_
  obtain ⟨t7, ht7, hf⟩ := xb hf
  refine x_iald S hw ht7 d_Mo_set1_31 ?_
  obtain ⟨w8, hw8, hf⟩ := xb hf
  refine x_iast S hw hw8 d_Mo_set1_32 (fun H locs hw => ?_)
  refine lv_aload_n S.1 S.2.1 d_Mo_set1_33 rfl (lv_at hl 1 rfl) ?_
  obtain ⟨t9, ht9, hf⟩ := xb hf
  refine x_geti S hw lk_Mo_396 ht9 d_Mo_set1_34 ?_
  refine lv_sipush (v := 200) S.1 S.2.1 d_Mo_set1_37 (by decide) ?_
  refine lv_icmp_ne (tgt := 60) S.1 S.2.1 d_Mo_set1_40 (by decide) (fun c10 => ?_) (fun c10 => ?_)
  · replace hf := xf c10 hf
    refine lv_aload_n S.1 S.2.1 d_Mo_set1_60 rfl (lv_at hl 1 rfl) ?_
    refine lv_dup S.1 S.2.1 d_Mo_set1_61 rfl ?_
    obtain ⟨t11, ht11, hf⟩ := xb hf
    refine x_geti S hw lk_Mo_396 ht11 d_Mo_set1_62 ?_
    refine lv_iconst (v := 1) S.1 S.2.1 d_Mo_set1_65 (by decide) ?_
    refine lv_iadd S.1 S.2.1 d_Mo_set1_66 ?_
    obtain ⟨w12, hw12, hf⟩ := xb hf
    refine x_puti S hw lp_Mo_396 hw12 d_Mo_set1_67 (fun H locs hw => ?_)
    refine lv_aload_n S.1 S.2.1 d_Mo_set1_70 rfl (lv_at hl 1 rfl) ?_
    obtain ⟨t13, ht13, hf⟩ := xb hf
    refine x_getr S hw lk_Mo_7 ht13 d_Mo_set1_71 ?_
    refine lv_iload_n S.1 S.2.1 d_Mo_set1_74 rfl (lv_at hl 2 rfl) ?_
    refine lv_iload_n S.1 S.2.1 d_Mo_set1_75 rfl (lv_at hl 3 rfl) ?_
    obtain ⟨w14, hw14, hf⟩ := xb hf
    refine x_iast S hw hw14 d_Mo_set1_76 (fun H locs hw => ?_)
    cases hf
    exact x_vret S hr hlocks hw d_Mo_set1_77
  · replace hf := xt c10 hf
    refine lv_aload_n S.1 S.2.1 d_Mo_set1_43 rfl (lv_at hl 1 rfl) ?_
    refine lv_aload_n S.1 S.2.1 d_Mo_set1_44 rfl (lv_at hl 1 rfl) ?_
    obtain ⟨t15, ht15, hf⟩ := xb hf
    refine x_geti S hw lk_Mo_393 ht15 d_Mo_set1_45 ?_
    refine lv_iconst (v := 1) S.1 S.2.1 d_Mo_set1_48 (by decide) ?_
    refine lv_iadd S.1 S.2.1 d_Mo_set1_49 ?_
    refine lv_sipush (v := 200) S.1 S.2.1 d_Mo_set1_50 (by decide) ?_
    refine lv_irem S.1 S.2.1 d_Mo_set1_53 (by decide) ?_
    obtain ⟨w16, hw16, hf⟩ := xb hf
    refine x_puti S hw lp_Mo_393 hw16 d_Mo_set1_54 (fun H locs hw => ?_)
    refine lv_goto (tgt := 70) S.1 S.2.1 d_Mo_set1_57 (by decide) ?_
    refine lv_aload_n S.1 S.2.1 d_Mo_set1_70 rfl (lv_at hl 1 rfl) ?_
    obtain ⟨t17, ht17, hf⟩ := xb hf
    refine x_getr S hw lk_Mo_7 ht17 d_Mo_set1_71 ?_
    refine lv_iload_n S.1 S.2.1 d_Mo_set1_74 rfl (lv_at hl 2 rfl) ?_
    refine lv_iload_n S.1 S.2.1 d_Mo_set1_75 rfl (lv_at hl 3 rfl) ?_
    obtain ⟨w18, hw18, hf⟩ := xb hf
    refine x_iast S hw hw18 d_Mo_set1_76 (fun H locs hw => ?_)
    cases hf
    exact x_vret S hr hlocks hw d_Mo_set1_77
def f_Mo_put (a0 : Nat) (x1 : Int32) (x2 : Int32) (x3 : Int32) (ω : xS) : Option (Int64 × xS) :=
  (xk ω a0 12 (f_Mo_isCell a0 x1 x2 ω)).bind fun t2 =>
  if t2 = 0 then (
    some (4611686018427387904, ω))
  else (
    (f_Mo_isShift x3 ω).bind fun t5 =>
    if t5 = 0 then (
      some (4611686018427387904, ω))
    else (
      xc (xk ω a0 12 (f_Mo_changed a0 x1 x2 x3 ω)) fun t8 w9 =>
      (xk w9 a0 12 (f_Mo_set1 a0 ((21 * x1) + x2) x3 w9)).bind fun w12 =>
      some (t8, w12)))
set_option maxHeartbeats 4000000 in
set_option maxRecDepth 100000 in
theorem c_Mo_put {l : Launch} {E : xV} {z : Nat} {a0 : Nat} {x1 : Int32} {x2 : Int32} {x3 : Int32} {r : Int64} {ω1 : xS} {ω : xS} (hf : f_Mo_put a0 x1 x2 x3 ω = some (r, ω1)) : xM l E y_Mo_put ws_Mo_put { frames := 6, cells := 0, slots := 0, locals := 149 } [.ref a0, .int x1, .int x2, .int x3] z ω (some (.long r)) z ω1 := by
  refine x_start (cc := b_Mo_put) (maxL := 6) (ret := (some .long)) (by decide) rfl (Nat.le_of_ble_eq_true rfl) ?_
  intro p e s m below meth c S hr hlocks hin ls hl hw
  have hl : lv_has ls 6 [(0, .ref a0), (1, .int x1), (2, .int x2), (3, .int x3)] := hl
  unfold f_Mo_put at hf
  refine lv_aload_n S.1 S.2.1 d_Mo_put_0 rfl (lv_at hl 0 rfl) ?_
  refine lv_iload_n S.1 S.2.1 d_Mo_put_1 rfl (lv_at hl 1 rfl) ?_
  refine lv_iload_n S.1 S.2.1 d_Mo_put_2 rfl (lv_at hl 2 rfl) ?_
  obtain ⟨t2, h1, hf⟩ := xb hf
  obtain ⟨h1b, h1⟩ := xkb h1
  refine x_callV (As := [.int x1, .int x2]) (rest := []) (st1 := [.int t2]) S hw (c_Mo_isCell h1) (cwV 2 S.2.2.2.2 gv_Mo_350 rfl rfl rfl hd_Mo_isCell ⟨Nat.le_of_ble_eq_true rfl, Nat.le_of_ble_eq_true rfl⟩) rfl h1b rfl hl.1 rfl rfl (Nat.le_of_ble_eq_true rfl) d_Mo_put_3 ⟨Nat.le_of_ble_eq_true rfl, Nat.le_of_ble_eq_true rfl⟩ (fun H locs hw => ?_)
  refine lv_if_eq (tgt := 16) S.1 S.2.1 d_Mo_put_6 (by decide) (fun c3 => ?_) (fun c3 => ?_)
  · replace hf := xt c3 hf
    refine lv_ldc2 (v := 4611686018427387904) S.1 S.2.1 S.2.2.2.1 (S.2.2.2.2 _ wd_6_175) d_Mo_put_16 ?_
    obtain ⟨rfl, rfl⟩ := xe2 hf
    exact x_lret S hr hlocks hw d_Mo_put_19
  · replace hf := xf c3 hf
    refine lv_iload_n S.1 S.2.1 d_Mo_put_9 rfl (lv_at hl 3 rfl) ?_
    obtain ⟨t5, h4, hf⟩ := xb hf
    refine x_callS (As := [.int x3]) (rest := []) (st1 := [.int t5]) S hw (c_Mo_isShift h4) (cwS 1 S.2.2.2.2 gs_Mo_347 rfl rfl rfl hd_Mo_isShift ⟨Nat.le_of_ble_eq_true rfl, Nat.le_of_ble_eq_true rfl⟩) rfl hl.1 rfl rfl (Nat.le_of_ble_eq_true rfl) d_Mo_put_10 ⟨Nat.le_of_ble_eq_true rfl, Nat.le_of_ble_eq_true rfl⟩ (fun H locs hw => ?_)
    refine lv_if_ne (tgt := 20) S.1 S.2.1 d_Mo_put_13 (by decide) (fun c6 => ?_) (fun c6 => ?_)
    · replace hf := xf c6 hf
      refine lv_aload_n S.1 S.2.1 d_Mo_put_20 rfl (lv_at hl 0 rfl) ?_
      refine lv_iload_n S.1 S.2.1 d_Mo_put_21 rfl (lv_at hl 1 rfl) ?_
      refine lv_iload_n S.1 S.2.1 d_Mo_put_22 rfl (lv_at hl 2 rfl) ?_
      refine lv_iload_n S.1 S.2.1 d_Mo_put_23 rfl (lv_at hl 3 rfl) ?_
      obtain ⟨t8, w9, h7, hf⟩ := xcb hf
      obtain ⟨h7b, h7⟩ := xkb h7
      refine x_callV (As := [.int x1, .int x2, .int x3]) (rest := []) (st1 := [.long t8]) S hw (c_Mo_changed h7) (cwV 3 S.2.2.2.2 gv_Mo_386 rfl rfl rfl hd_Mo_changed ⟨Nat.le_of_ble_eq_true rfl, Nat.le_of_ble_eq_true rfl⟩) rfl h7b rfl hl.1 rfl rfl (Nat.le_of_ble_eq_true rfl) d_Mo_put_24 ⟨Nat.le_of_ble_eq_true rfl, Nat.le_of_ble_eq_true rfl⟩ (fun H locs hw => ?_)
      refine lv_lstore (lv' := [(4, .long t8), (0, .ref a0), (1, .int x1), (2, .int x2), (3, .int x3)]) S.1 S.2.1 d_Mo_put_27 hl (by decide) rfl (fun ls hl => ?_)
      refine lv_aload_n S.1 S.2.1 d_Mo_put_29 rfl (lv_at hl 1 rfl) ?_
      refine lv_bipush (v := 21) S.1 S.2.1 d_Mo_put_30 (by decide) ?_
      refine lv_iload_n S.1 S.2.1 d_Mo_put_32 rfl (lv_at hl 2 rfl) ?_
      refine lv_imul S.1 S.2.1 d_Mo_put_33 ?_
      refine lv_iload_n S.1 S.2.1 d_Mo_put_34 rfl (lv_at hl 3 rfl) ?_
      refine lv_iadd S.1 S.2.1 d_Mo_put_35 ?_
      refine lv_iload_n S.1 S.2.1 d_Mo_put_36 rfl (lv_at hl 4 rfl) ?_
      obtain ⟨w12, h10, hf⟩ := xb hf
      obtain ⟨h10b, h10⟩ := xkb h10
      refine x_callV (As := [.int ((21 * x1) + x2), .int x3]) (rest := []) (st1 := []) S hw (c_Mo_set1 h10) (cwV 2 S.2.2.2.2 gv_Mo_391 rfl rfl rfl hd_Mo_set1 ⟨Nat.le_of_ble_eq_true rfl, Nat.le_of_ble_eq_true rfl⟩) rfl h10b rfl hl.1 rfl rfl (Nat.le_of_ble_eq_true rfl) d_Mo_put_37 ⟨Nat.le_of_ble_eq_true rfl, Nat.le_of_ble_eq_true rfl⟩ (fun H locs hw => ?_)
      refine lv_lload S.1 S.2.1 d_Mo_put_40 (lv_at hl 0 rfl) ?_
      obtain ⟨rfl, rfl⟩ := xe2 hf
      exact x_lret S hr hlocks hw d_Mo_put_42
    · replace hf := xt c6 hf
      refine lv_ldc2 (v := 4611686018427387904) S.1 S.2.1 S.2.2.2.1 (S.2.2.2.2 _ wd_6_175) d_Mo_put_16 ?_
      obtain ⟨rfl, rfl⟩ := xe2 hf
      exact x_lret S hr hlocks hw d_Mo_put_19
def f_Mo_undo (a0 : Nat) (ω : xS) : Option (Int32 × xS) :=
  (xgi ω a0 12 32).bind fun t1 =>
  if t1 = 0 then (
    some ((-2), ω))
  else (
    (xgi ω a0 12 32).bind fun t3 =>
    (xp ω a0 12 32 (.int (t3 - 1))).bind fun w4 =>
    (xgi w4 a0 12 31).bind fun t5 =>
    (xgi w4 a0 12 32).bind fun t6 =>
    (xgr w4 a0 12 2).bind fun t7 =>
    (xgr w4 a0 12 29).bind fun t8 =>
    (xai w4 t8 ((t5 + t6) - (t5 + t6) / 200 * 200)).bind fun t9 =>
    (xgr w4 a0 12 30).bind fun t10 =>
    (xai w4 t10 ((t5 + t6) - (t5 + t6) / 200 * 200)).bind fun t11 =>
    (xsi w4 t7 t9 t11).bind fun w12 =>
    (xgi w12 a0 12 32).bind fun t13 =>
    some (t13, w12))
set_option maxHeartbeats 4000000 in
set_option maxRecDepth 100000 in
theorem c_Mo_undo {l : Launch} {E : xV} {z : Nat} {a0 : Nat} {r : Int32} {ω1 : xS} {ω : xS} (hf : f_Mo_undo a0 ω = some (r, ω1)) : xM l E y_Mo_undo ws_Mo_undo { frames := 0, cells := 0, slots := 0, locals := 0 } [.ref a0] z ω (some (.int r)) z ω1 := by
  refine x_start (cc := b_Mo_undo) (maxL := 2) (ret := (some .int)) (by decide) rfl (Nat.le_of_ble_eq_true rfl) ?_
  intro p e s m below meth c S hr hlocks hin ls hl hw
  have hl : lv_has ls 2 [(0, .ref a0)] := hl
  unfold f_Mo_undo at hf
  refine lv_aload_n S.1 S.2.1 d_Mo_undo_0 rfl (lv_at hl 0 rfl) ?_
  obtain ⟨t1, ht1, hf⟩ := xb hf
  refine x_geti S hw lk_Mo_396 ht1 d_Mo_undo_1 ?_
  refine lv_if_ne (tgt := 10) S.1 S.2.1 d_Mo_undo_4 (by decide) (fun c2 => ?_) (fun c2 => ?_)
  · replace hf := xf c2 hf
    refine lv_aload_n S.1 S.2.1 d_Mo_undo_10 rfl (lv_at hl 0 rfl) ?_
    refine lv_dup S.1 S.2.1 d_Mo_undo_11 rfl ?_
    obtain ⟨t3, ht3, hf⟩ := xb hf
    refine x_geti S hw lk_Mo_396 ht3 d_Mo_undo_12 ?_
    refine lv_iconst (v := 1) S.1 S.2.1 d_Mo_undo_15 (by decide) ?_
    refine lv_isub S.1 S.2.1 d_Mo_undo_16 ?_
    obtain ⟨w4, hw4, hf⟩ := xb hf
    refine x_puti S hw lp_Mo_396 hw4 d_Mo_undo_17 (fun H locs hw => ?_)
    refine lv_aload_n S.1 S.2.1 d_Mo_undo_20 rfl (lv_at hl 0 rfl) ?_
    obtain ⟨t5, ht5, hf⟩ := xb hf
    refine x_geti S hw lk_Mo_393 ht5 d_Mo_undo_21 ?_
    refine lv_aload_n S.1 S.2.1 d_Mo_undo_24 rfl (lv_at hl 0 rfl) ?_
    obtain ⟨t6, ht6, hf⟩ := xb hf
    refine x_geti S hw lk_Mo_396 ht6 d_Mo_undo_25 ?_
    refine lv_iadd S.1 S.2.1 d_Mo_undo_28 ?_
    refine lv_sipush (v := 200) S.1 S.2.1 d_Mo_undo_29 (by decide) ?_
    refine lv_irem S.1 S.2.1 d_Mo_undo_32 (by decide) ?_
    refine lv_istore_n (lv' := [(1, .int ((t5 + t6) - (t5 + t6) / 200 * 200)), (0, .ref a0)]) S.1 S.2.1 d_Mo_undo_33 rfl hl (by decide) rfl (fun ls hl => ?_)
    refine lv_aload_n S.1 S.2.1 d_Mo_undo_34 rfl (lv_at hl 1 rfl) ?_
    obtain ⟨t7, ht7, hf⟩ := xb hf
    refine x_getr S hw lk_Mo_7 ht7 d_Mo_undo_35 ?_
    refine lv_aload_n S.1 S.2.1 d_Mo_undo_38 rfl (lv_at hl 1 rfl) ?_
    obtain ⟨t8, ht8, hf⟩ := xb hf
    refine x_getr S hw lk_Mo_89 ht8 d_Mo_undo_39 ?_
    refine lv_iload_n S.1 S.2.1 d_Mo_undo_42 rfl (lv_at hl 0 rfl) ?_
    obtain ⟨t9, ht9, hf⟩ := xb hf
    refine x_iald S hw ht9 d_Mo_undo_43 ?_
    refine lv_aload_n S.1 S.2.1 d_Mo_undo_44 rfl (lv_at hl 1 rfl) ?_
    obtain ⟨t10, ht10, hf⟩ := xb hf
    refine x_getr S hw lk_Mo_92 ht10 d_Mo_undo_45 ?_
    refine lv_iload_n S.1 S.2.1 d_Mo_undo_48 rfl (lv_at hl 0 rfl) ?_
    obtain ⟨t11, ht11, hf⟩ := xb hf
    refine x_iald S hw ht11 d_Mo_undo_49 ?_
    obtain ⟨w12, hw12, hf⟩ := xb hf
    refine x_iast S hw hw12 d_Mo_undo_50 (fun H locs hw => ?_)
    refine lv_aload_n S.1 S.2.1 d_Mo_undo_51 rfl (lv_at hl 1 rfl) ?_
    obtain ⟨t13, ht13, hf⟩ := xb hf
    refine x_geti S hw lk_Mo_396 ht13 d_Mo_undo_52 ?_
    obtain ⟨rfl, rfl⟩ := xe2 hf
    exact x_iret S hr hlocks hw d_Mo_undo_55
  · replace hf := xt c2 hf
    refine lv_bipush (v := (-2)) S.1 S.2.1 d_Mo_undo_7 (by decide) ?_
    obtain ⟨rfl, rfl⟩ := xe2 hf
    exact x_iret S hr hlocks hw d_Mo_undo_9
def f_Mo_best_17 : Nat → Nat → Int32 → Int32 → Int32 → Int32 → xS → Option (Int32 × xS)
  | 0, _, _, _, _, _, _ => none
  | n + 1, a0, x1, x2, x3, x4, ω =>
    if 8 ≤ x4 then (
      some (x3, ω))
    else (
      xc (xk ω a0 12 (f_Mo_changed a0 x1 x2 x4 ω)) fun t6 w7 =>
      xc (xk w7 a0 12 (f_Mo_changed a0 x1 x2 x3 w7)) fun t9 w10 =>
      if 0 ≤ (lg_cmp t6 t9) then (
        f_Mo_best_17  n a0 x1 x2 x3 (x4 + 1) w10)
      else (
        f_Mo_best_17  n a0 x1 x2 x4 (x4 + 1) w10))
set_option maxHeartbeats 4000000 in
set_option maxRecDepth 100000 in
theorem w_Mo_best_17 {p : Program} {l : Launch} {e : Env} {s : State} {m : MethodId} {args : Array Value} {below : List Frame} {meth : Method} {c : Code} {E : xV} {z : Nat} {r : Int32} {ω1 : xS} (S : CallFix p m c b_Mo_best 5 s args xTbl "RosterRulesModel") (hr : meth.sig.returnType = (some .int)) (hlocks : meth.locks = false) : ∀ n : Nat, ∀ (a0 : Nat) (x1 : Int32) (x2 : Int32) (x3 : Int32) (x4 : Int32) (ω : xS) (H : Heap) (locs : List Loc) (ls : Array Slot), xW E z ω s s.heap H locs → lv_has ls 5 [(0, .ref a0), (1, .int x1), (2, .int x2), (3, .int x3), (4, .int x4)] → f_Mo_best_17 n a0 x1 x2 x3 x4 ω = some (r, ω1) → W p l e (headSpec ws_Mo_best { frames := 6, cells := 0, slots := 0, locals := 149 }).room s m args below meth c H locs 0 0 (MQ below (xQ E (some (.int r)) z ω1) args s 0 0 (fun q => E.2.2 ≤ q)) (F0 m 17 ls []) := by
  intro n
  induction n with
  | zero =>
    intro a0 x1 x2 x3 x4 ω H locs ls hw hl hf
    have h2 : (none : Option (Int32 × xS)) = some (r, ω1) := hf
    cases h2
  | succ n ih =>
    intro a0 x1 x2 x3 x4 ω H locs ls hw hl hf
    rw [f_Mo_best_17] at hf
    refine lv_iload S.1 S.2.1 d_Mo_best_17 (lv_at hl 4 rfl) ?_
    refine lv_bipush (v := 8) S.1 S.2.1 d_Mo_best_19 (by decide) ?_
    refine lv_icmp_ge (tgt := 56) S.1 S.2.1 d_Mo_best_21 (by decide) (fun c4 => ?_) (fun c4 => ?_)
    · replace hf := xt c4 hf
      refine lv_iload_n S.1 S.2.1 d_Mo_best_56 rfl (lv_at hl 3 rfl) ?_
      obtain ⟨rfl, rfl⟩ := xe2 hf
      exact x_iret S hr hlocks hw d_Mo_best_57
    · replace hf := xf c4 hf
      refine lv_aload_n S.1 S.2.1 d_Mo_best_24 rfl (lv_at hl 0 rfl) ?_
      refine lv_iload_n S.1 S.2.1 d_Mo_best_25 rfl (lv_at hl 1 rfl) ?_
      refine lv_iload_n S.1 S.2.1 d_Mo_best_26 rfl (lv_at hl 2 rfl) ?_
      refine lv_iload S.1 S.2.1 d_Mo_best_27 (lv_at hl 4 rfl) ?_
      obtain ⟨t6, w7, h5, hf⟩ := xcb hf
      obtain ⟨h5b, h5⟩ := xkb h5
      refine x_callV (As := [.int x1, .int x2, .int x4]) (rest := []) (st1 := [.long t6]) S hw (c_Mo_changed h5) (cwV 3 S.2.2.2.2 gv_Mo_386 rfl rfl rfl hd_Mo_changed ⟨Nat.le_of_ble_eq_true rfl, Nat.le_of_ble_eq_true rfl⟩) rfl h5b rfl hl.1 rfl rfl (Nat.le_of_ble_eq_true rfl) d_Mo_best_29 ⟨Nat.le_of_ble_eq_true rfl, Nat.le_of_ble_eq_true rfl⟩ (fun H locs hw => ?_)
      refine lv_aload_n S.1 S.2.1 d_Mo_best_32 rfl (lv_at hl 0 rfl) ?_
      refine lv_iload_n S.1 S.2.1 d_Mo_best_33 rfl (lv_at hl 1 rfl) ?_
      refine lv_iload_n S.1 S.2.1 d_Mo_best_34 rfl (lv_at hl 2 rfl) ?_
      refine lv_iload_n S.1 S.2.1 d_Mo_best_35 rfl (lv_at hl 3 rfl) ?_
      obtain ⟨t9, w10, h8, hf⟩ := xcb hf
      obtain ⟨h8b, h8⟩ := xkb h8
      refine x_callV (As := [.int x1, .int x2, .int x3]) (rest := [.long t6]) (st1 := [.long t9, .long t6]) S hw (c_Mo_changed h8) (cwV 3 S.2.2.2.2 gv_Mo_386 rfl rfl rfl hd_Mo_changed ⟨Nat.le_of_ble_eq_true rfl, Nat.le_of_ble_eq_true rfl⟩) rfl h8b rfl hl.1 rfl rfl (Nat.le_of_ble_eq_true rfl) d_Mo_best_36 ⟨Nat.le_of_ble_eq_true rfl, Nat.le_of_ble_eq_true rfl⟩ (fun H locs hw => ?_)
      refine W.lcmp S.1 S.2.1 d_Mo_best_39 ?_
      refine lv_if_ge (tgt := 48) S.1 S.2.1 d_Mo_best_40 (by decide) (fun c11 => ?_) (fun c11 => ?_)
      · replace hf := xt c11 hf
        refine lv_iload_n S.1 S.2.1 d_Mo_best_48 rfl (lv_at hl 3 rfl) ?_
        refine lv_istore_n (lv' := [(3, .int x3), (0, .ref a0), (1, .int x1), (2, .int x2), (4, .int x4)]) S.1 S.2.1 d_Mo_best_49 rfl hl (by decide) rfl (fun ls hl => ?_)
        refine lv_iinc (v := (x4 + 1)) (lv' := [(4, .int (x4 + 1)), (3, .int x3), (0, .ref a0), (1, .int x1), (2, .int x2)]) S.1 S.2.1 d_Mo_best_50 hl (k := 4) rfl rfl (by decide) rfl (fun ls hl => ?_)
        refine lv_goto (tgt := 17) S.1 S.2.1 d_Mo_best_53 (by decide) ?_
        exact ih _ _ _ _ _ _ _ _ _ hw (lv_sub hl [2, 3, 4, 1, 0] rfl) hf
      · replace hf := xf c11 hf
        refine lv_iload S.1 S.2.1 d_Mo_best_43 (lv_at hl 4 rfl) ?_
        refine lv_goto (tgt := 49) S.1 S.2.1 d_Mo_best_45 (by decide) ?_
        refine lv_istore_n (lv' := [(3, .int x4), (0, .ref a0), (1, .int x1), (2, .int x2), (4, .int x4)]) S.1 S.2.1 d_Mo_best_49 rfl hl (by decide) rfl (fun ls hl => ?_)
        refine lv_iinc (v := (x4 + 1)) (lv' := [(4, .int (x4 + 1)), (3, .int x4), (0, .ref a0), (1, .int x1), (2, .int x2)]) S.1 S.2.1 d_Mo_best_50 hl (k := 4) rfl rfl (by decide) rfl (fun ls hl => ?_)
        refine lv_goto (tgt := 17) S.1 S.2.1 d_Mo_best_53 (by decide) ?_
        exact ih _ _ _ _ _ _ _ _ _ hw (lv_sub hl [2, 3, 4, 1, 0] rfl) hf
def f_Mo_best (a0 : Nat) (x1 : Int32) (x2 : Int32) (ω : xS) : Option (Int32 × xS) :=
  (xk ω a0 12 (f_Mo_isCell a0 x1 x2 ω)).bind fun t2 =>
  if t2 = 0 then (
    some ((-9), ω))
  else (
    f_Mo_best_17  xFU a0 x1 x2 (-1) 0 ω)
set_option maxHeartbeats 4000000 in
set_option maxRecDepth 100000 in
theorem c_Mo_best {l : Launch} {E : xV} {z : Nat} {a0 : Nat} {x1 : Int32} {x2 : Int32} {r : Int32} {ω1 : xS} {ω : xS} (hf : f_Mo_best a0 x1 x2 ω = some (r, ω1)) : xM l E y_Mo_best ws_Mo_best { frames := 6, cells := 0, slots := 0, locals := 149 } [.ref a0, .int x1, .int x2] z ω (some (.int r)) z ω1 := by
  refine x_start (cc := b_Mo_best) (maxL := 5) (ret := (some .int)) (by decide) rfl (Nat.le_of_ble_eq_true rfl) ?_
  intro p e s m below meth c S hr hlocks hin ls hl hw
  have hl : lv_has ls 5 [(0, .ref a0), (1, .int x1), (2, .int x2)] := hl
  unfold f_Mo_best at hf
  refine lv_aload_n S.1 S.2.1 d_Mo_best_0 rfl (lv_at hl 0 rfl) ?_
  refine lv_iload_n S.1 S.2.1 d_Mo_best_1 rfl (lv_at hl 1 rfl) ?_
  refine lv_iload_n S.1 S.2.1 d_Mo_best_2 rfl (lv_at hl 2 rfl) ?_
  obtain ⟨t2, h1, hf⟩ := xb hf
  obtain ⟨h1b, h1⟩ := xkb h1
  refine x_callV (As := [.int x1, .int x2]) (rest := []) (st1 := [.int t2]) S hw (c_Mo_isCell h1) (cwV 2 S.2.2.2.2 gv_Mo_350 rfl rfl rfl hd_Mo_isCell ⟨Nat.le_of_ble_eq_true rfl, Nat.le_of_ble_eq_true rfl⟩) rfl h1b rfl hl.1 rfl rfl (Nat.le_of_ble_eq_true rfl) d_Mo_best_3 ⟨Nat.le_of_ble_eq_true rfl, Nat.le_of_ble_eq_true rfl⟩ (fun H locs hw => ?_)
  refine lv_if_ne (tgt := 12) S.1 S.2.1 d_Mo_best_6 (by decide) (fun c3 => ?_) (fun c3 => ?_)
  · replace hf := xf c3 hf
    refine lv_iconst (v := (-1)) S.1 S.2.1 d_Mo_best_12 (by decide) ?_
    refine lv_istore_n (lv' := [(3, .int (-1)), (0, .ref a0), (1, .int x1), (2, .int x2)]) S.1 S.2.1 d_Mo_best_13 rfl hl (by decide) rfl (fun ls hl => ?_)
    refine lv_iconst (v := 0) S.1 S.2.1 d_Mo_best_14 (by decide) ?_
    refine lv_istore (lv' := [(4, .int 0), (3, .int (-1)), (0, .ref a0), (1, .int x1), (2, .int x2)]) S.1 S.2.1 d_Mo_best_15 hl (by decide) rfl (fun ls hl => ?_)
    exact w_Mo_best_17 S hr hlocks  _ _ _ _ _ _ _ _ _ _ hw (lv_sub hl [2, 3, 4, 1, 0] rfl) hf
  · replace hf := xt c3 hf
    refine lv_bipush (v := (-9)) S.1 S.2.1 d_Mo_best_9 (by decide) ?_
    obtain ⟨rfl, rfl⟩ := xe2 hf
    exact x_iret S hr hlocks hw d_Mo_best_11
def f_Mo_descend_60 (k15 : Nat → Int32 → Int32 → Int32 → xS → Option (Int32 × xS)) (k36 : Nat → Int32 → Int32 → Int64 → Int32 → Int32 → Int32 → xS → Option (Int32 × xS)) (k48 : Nat → Int32 → Int32 → Int64 → Int32 → Int32 → Int32 → Int32 → xS → Option (Int32 × xS)) : Nat → Nat → Int32 → Int32 → Int64 → Int32 → Int32 → Int32 → Int32 → Int32 → xS → Option (Int32 × xS)
  | 0, _, _, _, _, _, _, _, _, _, _ => none
  | n + 1, a0, x1, x2, x4, x6, x7, x8, x9, x10, ω =>
    if 8 ≤ x10 then (
      k48 a0 x1 x2 x4 x6 x7 x8 (x9 + 1) ω)
    else (
      xc (xk ω a0 12 (f_Mo_changed a0 x8 x9 x10 ω)) fun t20 w21 =>
      if 0 ≤ (lg_cmp t20 x4) then (
        f_Mo_descend_60 k15 k36 k48 n a0 x1 x2 x4 x6 x7 x8 x9 (x10 + 1) w21)
      else (
        f_Mo_descend_60 k15 k36 k48 n a0 x1 x2 t20 ((21 * x8) + x9) x10 x8 x9 (x10 + 1) w21))
set_option maxHeartbeats 4000000 in
set_option maxRecDepth 100000 in
theorem w_Mo_descend_60 {p : Program} {l : Launch} {e : Env} {s : State} {m : MethodId} {args : Array Value} {below : List Frame} {meth : Method} {c : Code} {E : xV} {z : Nat} {r : Int32} {ω1 : xS} {k15 : Nat → Int32 → Int32 → Int32 → xS → Option (Int32 × xS)} {k36 : Nat → Int32 → Int32 → Int64 → Int32 → Int32 → Int32 → xS → Option (Int32 × xS)} {k48 : Nat → Int32 → Int32 → Int64 → Int32 → Int32 → Int32 → Int32 → xS → Option (Int32 × xS)} (S : CallFix p m c b_Mo_descend 13 s args xTbl "RosterRulesModel") (hr : meth.sig.returnType = (some .int)) (hlocks : meth.locks = false) (hk15 : ∀ (a0 : Nat) (x1 : Int32) (x2 : Int32) (x3 : Int32) (ω : xS) (H : Heap) (locs : List Loc) (ls : Array Slot), xW E z ω s s.heap H locs → lv_has ls 13 [(0, .ref a0), (1, .int x1), (2, .int x2), (3, .int x3)] → k15 a0 x1 x2 x3 ω = some (r, ω1) → W p l e (headSpec ws_Mo_descend { frames := 6, cells := 0, slots := 0, locals := 149 }).room s m args below meth c H locs 0 0 (MQ below (xQ E (some (.int r)) z ω1) args s 0 0 (fun q => E.2.2 ≤ q)) (F0 m 15 ls [])) (hk36 : ∀ (a0 : Nat) (x1 : Int32) (x2 : Int32) (x4 : Int64) (x6 : Int32) (x7 : Int32) (x8 : Int32) (ω : xS) (H : Heap) (locs : List Loc) (ls : Array Slot), xW E z ω s s.heap H locs → lv_has ls 13 [(0, .ref a0), (1, .int x1), (2, .int x2), (4, .long x4), (6, .int x6), (7, .int x7), (8, .int x8)] → k36 a0 x1 x2 x4 x6 x7 x8 ω = some (r, ω1) → W p l e (headSpec ws_Mo_descend { frames := 6, cells := 0, slots := 0, locals := 149 }).room s m args below meth c H locs 0 0 (MQ below (xQ E (some (.int r)) z ω1) args s 0 0 (fun q => E.2.2 ≤ q)) (F0 m 36 ls [])) (hk48 : ∀ (a0 : Nat) (x1 : Int32) (x2 : Int32) (x4 : Int64) (x6 : Int32) (x7 : Int32) (x8 : Int32) (x9 : Int32) (ω : xS) (H : Heap) (locs : List Loc) (ls : Array Slot), xW E z ω s s.heap H locs → lv_has ls 13 [(0, .ref a0), (1, .int x1), (2, .int x2), (4, .long x4), (6, .int x6), (7, .int x7), (8, .int x8), (9, .int x9)] → k48 a0 x1 x2 x4 x6 x7 x8 x9 ω = some (r, ω1) → W p l e (headSpec ws_Mo_descend { frames := 6, cells := 0, slots := 0, locals := 149 }).room s m args below meth c H locs 0 0 (MQ below (xQ E (some (.int r)) z ω1) args s 0 0 (fun q => E.2.2 ≤ q)) (F0 m 48 ls [])) : ∀ n : Nat, ∀ (a0 : Nat) (x1 : Int32) (x2 : Int32) (x4 : Int64) (x6 : Int32) (x7 : Int32) (x8 : Int32) (x9 : Int32) (x10 : Int32) (ω : xS) (H : Heap) (locs : List Loc) (ls : Array Slot), xW E z ω s s.heap H locs → lv_has ls 13 [(0, .ref a0), (1, .int x1), (2, .int x2), (4, .long x4), (6, .int x6), (7, .int x7), (8, .int x8), (9, .int x9), (10, .int x10)] → f_Mo_descend_60 k15 k36 k48 n a0 x1 x2 x4 x6 x7 x8 x9 x10 ω = some (r, ω1) → W p l e (headSpec ws_Mo_descend { frames := 6, cells := 0, slots := 0, locals := 149 }).room s m args below meth c H locs 0 0 (MQ below (xQ E (some (.int r)) z ω1) args s 0 0 (fun q => E.2.2 ≤ q)) (F0 m 60 ls []) := by
  intro n
  induction n with
  | zero =>
    intro a0 x1 x2 x4 x6 x7 x8 x9 x10 ω H locs ls hw hl hf
    have h2 : (none : Option (Int32 × xS)) = some (r, ω1) := hf
    cases h2
  | succ n ih =>
    intro a0 x1 x2 x4 x6 x7 x8 x9 x10 ω H locs ls hw hl hf
    rw [f_Mo_descend_60] at hf
    refine lv_iload S.1 S.2.1 d_Mo_descend_60 (lv_at hl 8 rfl) ?_
    refine lv_bipush (v := 8) S.1 S.2.1 d_Mo_descend_62 (by decide) ?_
    refine lv_icmp_ge (tgt := 111) S.1 S.2.1 d_Mo_descend_64 (by decide) (fun c18 => ?_) (fun c18 => ?_)
    · replace hf := xt c18 hf
      refine lv_iinc (v := (x9 + 1)) (lv' := [(9, .int (x9 + 1)), (0, .ref a0), (1, .int x1), (2, .int x2), (4, .long x4), (6, .int x6), (7, .int x7), (8, .int x8), (10, .int x10)]) S.1 S.2.1 d_Mo_descend_111 hl (k := 7) rfl rfl (by decide) rfl (fun ls hl => ?_)
      refine lv_goto (tgt := 48) S.1 S.2.1 d_Mo_descend_114 (by decide) ?_
      exact hk48 _ _ _ _ _ _ _ _ _ _ _ _ hw (lv_sub hl [1, 2, 3, 4, 5, 6, 7, 0] rfl) hf
    · replace hf := xf c18 hf
      refine lv_aload_n S.1 S.2.1 d_Mo_descend_67 rfl (lv_at hl 0 rfl) ?_
      refine lv_iload S.1 S.2.1 d_Mo_descend_68 (lv_at hl 6 rfl) ?_
      refine lv_iload S.1 S.2.1 d_Mo_descend_70 (lv_at hl 7 rfl) ?_
      refine lv_iload S.1 S.2.1 d_Mo_descend_72 (lv_at hl 8 rfl) ?_
      obtain ⟨t20, w21, h19, hf⟩ := xcb hf
      obtain ⟨h19b, h19⟩ := xkb h19
      refine x_callV (As := [.int x8, .int x9, .int x10]) (rest := []) (st1 := [.long t20]) S hw (c_Mo_changed h19) (cwV 3 S.2.2.2.2 gv_Mo_386 rfl rfl rfl hd_Mo_changed ⟨Nat.le_of_ble_eq_true rfl, Nat.le_of_ble_eq_true rfl⟩) rfl h19b rfl hl.1 rfl rfl (Nat.le_of_ble_eq_true rfl) d_Mo_descend_74 ⟨Nat.le_of_ble_eq_true rfl, Nat.le_of_ble_eq_true rfl⟩ (fun H locs hw => ?_)
      refine lv_lstore (lv' := [(11, .long t20), (0, .ref a0), (1, .int x1), (2, .int x2), (4, .long x4), (6, .int x6), (7, .int x7), (8, .int x8), (9, .int x9), (10, .int x10)]) S.1 S.2.1 d_Mo_descend_77 hl (by decide) rfl (fun ls hl => ?_)
      refine lv_lload S.1 S.2.1 d_Mo_descend_79 (lv_at hl 0 rfl) ?_
      refine lv_lload S.1 S.2.1 d_Mo_descend_81 (lv_at hl 4 rfl) ?_
      refine W.lcmp S.1 S.2.1 d_Mo_descend_83 ?_
      refine lv_if_ge (tgt := 105) S.1 S.2.1 d_Mo_descend_84 (by decide) (fun c22 => ?_) (fun c22 => ?_)
      · replace hf := xt c22 hf
        refine lv_iinc (v := (x10 + 1)) (lv' := [(10, .int (x10 + 1)), (11, .long t20), (0, .ref a0), (1, .int x1), (2, .int x2), (4, .long x4), (6, .int x6), (7, .int x7), (8, .int x8), (9, .int x9)]) S.1 S.2.1 d_Mo_descend_105 hl (k := 9) rfl rfl (by decide) rfl (fun ls hl => ?_)
        refine lv_goto (tgt := 60) S.1 S.2.1 d_Mo_descend_108 (by decide) ?_
        exact ih _ _ _ _ _ _ _ _ _ _ _ _ _ hw (lv_sub hl [2, 3, 4, 5, 6, 7, 8, 9, 0] rfl) hf
      · replace hf := xf c22 hf
        refine lv_lload S.1 S.2.1 d_Mo_descend_87 (lv_at hl 0 rfl) ?_
        refine lv_lstore (lv' := [(4, .long t20), (11, .long t20), (0, .ref a0), (1, .int x1), (2, .int x2), (6, .int x6), (7, .int x7), (8, .int x8), (9, .int x9), (10, .int x10)]) S.1 S.2.1 d_Mo_descend_89 hl (by decide) rfl (fun ls hl => ?_)
        refine lv_bipush (v := 21) S.1 S.2.1 d_Mo_descend_91 (by decide) ?_
        refine lv_iload S.1 S.2.1 d_Mo_descend_93 (lv_at hl 7 rfl) ?_
        refine lv_imul S.1 S.2.1 d_Mo_descend_95 ?_
        refine lv_iload S.1 S.2.1 d_Mo_descend_96 (lv_at hl 8 rfl) ?_
        refine lv_iadd S.1 S.2.1 d_Mo_descend_98 ?_
        refine lv_istore (lv' := [(6, .int ((21 * x8) + x9)), (4, .long t20), (11, .long t20), (0, .ref a0), (1, .int x1), (2, .int x2), (7, .int x7), (8, .int x8), (9, .int x9), (10, .int x10)]) S.1 S.2.1 d_Mo_descend_99 hl (by decide) rfl (fun ls hl => ?_)
        refine lv_iload S.1 S.2.1 d_Mo_descend_101 (lv_at hl 9 rfl) ?_
        refine lv_istore (lv' := [(7, .int x10), (6, .int ((21 * x8) + x9)), (4, .long t20), (11, .long t20), (0, .ref a0), (1, .int x1), (2, .int x2), (8, .int x8), (9, .int x9), (10, .int x10)]) S.1 S.2.1 d_Mo_descend_103 hl (by decide) rfl (fun ls hl => ?_)
        refine lv_iinc (v := (x10 + 1)) (lv' := [(10, .int (x10 + 1)), (7, .int x10), (6, .int ((21 * x8) + x9)), (4, .long t20), (11, .long t20), (0, .ref a0), (1, .int x1), (2, .int x2), (8, .int x8), (9, .int x9)]) S.1 S.2.1 d_Mo_descend_105 hl (k := 9) rfl rfl (by decide) rfl (fun ls hl => ?_)
        refine lv_goto (tgt := 60) S.1 S.2.1 d_Mo_descend_108 (by decide) ?_
        exact ih _ _ _ _ _ _ _ _ _ _ _ _ _ hw (lv_sub hl [5, 6, 7, 3, 2, 1, 8, 9, 0] rfl) hf
def f_Mo_descend_48 (k15 : Nat → Int32 → Int32 → Int32 → xS → Option (Int32 × xS)) (k36 : Nat → Int32 → Int32 → Int64 → Int32 → Int32 → Int32 → xS → Option (Int32 × xS)) : Nat → Nat → Int32 → Int32 → Int64 → Int32 → Int32 → Int32 → Int32 → xS → Option (Int32 × xS)
  | 0, _, _, _, _, _, _, _, _, _ => none
  | n + 1, a0, x1, x2, x4, x6, x7, x8, x9, ω =>
    (xgi ω a0 12 1).bind fun t16 =>
    if t16 ≤ x9 then (
      k36 a0 x1 x2 x4 x6 x7 (x8 + 1) ω)
    else (
      f_Mo_descend_60 k15 k36 (f_Mo_descend_48 k15 k36 n) xFU a0 x1 x2 x4 x6 x7 x8 x9 (-1) ω)
set_option maxHeartbeats 4000000 in
set_option maxRecDepth 100000 in
theorem w_Mo_descend_48 {p : Program} {l : Launch} {e : Env} {s : State} {m : MethodId} {args : Array Value} {below : List Frame} {meth : Method} {c : Code} {E : xV} {z : Nat} {r : Int32} {ω1 : xS} {k15 : Nat → Int32 → Int32 → Int32 → xS → Option (Int32 × xS)} {k36 : Nat → Int32 → Int32 → Int64 → Int32 → Int32 → Int32 → xS → Option (Int32 × xS)} (S : CallFix p m c b_Mo_descend 13 s args xTbl "RosterRulesModel") (hr : meth.sig.returnType = (some .int)) (hlocks : meth.locks = false) (hk15 : ∀ (a0 : Nat) (x1 : Int32) (x2 : Int32) (x3 : Int32) (ω : xS) (H : Heap) (locs : List Loc) (ls : Array Slot), xW E z ω s s.heap H locs → lv_has ls 13 [(0, .ref a0), (1, .int x1), (2, .int x2), (3, .int x3)] → k15 a0 x1 x2 x3 ω = some (r, ω1) → W p l e (headSpec ws_Mo_descend { frames := 6, cells := 0, slots := 0, locals := 149 }).room s m args below meth c H locs 0 0 (MQ below (xQ E (some (.int r)) z ω1) args s 0 0 (fun q => E.2.2 ≤ q)) (F0 m 15 ls [])) (hk36 : ∀ (a0 : Nat) (x1 : Int32) (x2 : Int32) (x4 : Int64) (x6 : Int32) (x7 : Int32) (x8 : Int32) (ω : xS) (H : Heap) (locs : List Loc) (ls : Array Slot), xW E z ω s s.heap H locs → lv_has ls 13 [(0, .ref a0), (1, .int x1), (2, .int x2), (4, .long x4), (6, .int x6), (7, .int x7), (8, .int x8)] → k36 a0 x1 x2 x4 x6 x7 x8 ω = some (r, ω1) → W p l e (headSpec ws_Mo_descend { frames := 6, cells := 0, slots := 0, locals := 149 }).room s m args below meth c H locs 0 0 (MQ below (xQ E (some (.int r)) z ω1) args s 0 0 (fun q => E.2.2 ≤ q)) (F0 m 36 ls [])) : ∀ n : Nat, ∀ (a0 : Nat) (x1 : Int32) (x2 : Int32) (x4 : Int64) (x6 : Int32) (x7 : Int32) (x8 : Int32) (x9 : Int32) (ω : xS) (H : Heap) (locs : List Loc) (ls : Array Slot), xW E z ω s s.heap H locs → lv_has ls 13 [(0, .ref a0), (1, .int x1), (2, .int x2), (4, .long x4), (6, .int x6), (7, .int x7), (8, .int x8), (9, .int x9)] → f_Mo_descend_48 k15 k36 n a0 x1 x2 x4 x6 x7 x8 x9 ω = some (r, ω1) → W p l e (headSpec ws_Mo_descend { frames := 6, cells := 0, slots := 0, locals := 149 }).room s m args below meth c H locs 0 0 (MQ below (xQ E (some (.int r)) z ω1) args s 0 0 (fun q => E.2.2 ≤ q)) (F0 m 48 ls []) := by
  intro n
  induction n with
  | zero =>
    intro a0 x1 x2 x4 x6 x7 x8 x9 ω H locs ls hw hl hf
    have h2 : (none : Option (Int32 × xS)) = some (r, ω1) := hf
    cases h2
  | succ n ih =>
    intro a0 x1 x2 x4 x6 x7 x8 x9 ω H locs ls hw hl hf
    rw [f_Mo_descend_48] at hf
    refine lv_iload S.1 S.2.1 d_Mo_descend_48 (lv_at hl 7 rfl) ?_
    refine lv_aload_n S.1 S.2.1 d_Mo_descend_50 rfl (lv_at hl 0 rfl) ?_
    obtain ⟨t16, ht16, hf⟩ := xb hf
    refine x_geti S hw lk_Mo_159 ht16 d_Mo_descend_51 ?_
    refine lv_icmp_ge (tgt := 117) S.1 S.2.1 d_Mo_descend_54 (by decide) (fun c17 => ?_) (fun c17 => ?_)
    · replace hf := xt c17 hf
      refine lv_iinc (v := (x8 + 1)) (lv' := [(8, .int (x8 + 1)), (0, .ref a0), (1, .int x1), (2, .int x2), (4, .long x4), (6, .int x6), (7, .int x7), (9, .int x9)]) S.1 S.2.1 d_Mo_descend_117 hl (k := 6) rfl rfl (by decide) rfl (fun ls hl => ?_)
      refine lv_goto (tgt := 36) S.1 S.2.1 d_Mo_descend_120 (by decide) ?_
      exact hk36 _ _ _ _ _ _ _ _ _ _ _ hw (lv_sub hl [1, 2, 3, 4, 5, 6, 0] rfl) hf
    · replace hf := xf c17 hf
      refine lv_iconst (v := (-1)) S.1 S.2.1 d_Mo_descend_57 (by decide) ?_
      refine lv_istore (lv' := [(10, .int (-1)), (0, .ref a0), (1, .int x1), (2, .int x2), (4, .long x4), (6, .int x6), (7, .int x7), (8, .int x8), (9, .int x9)]) S.1 S.2.1 d_Mo_descend_58 hl (by decide) rfl (fun ls hl => ?_)
      exact w_Mo_descend_60 S hr hlocks hk15 hk36 ih _ _ _ _ _ _ _ _ _ _ _ _ _ _ hw (lv_sub hl [1, 2, 3, 4, 5, 6, 7, 8, 0] rfl) hf
def f_Mo_descend_36 (k15 : Nat → Int32 → Int32 → Int32 → xS → Option (Int32 × xS)) : Nat → Nat → Int32 → Int32 → Int64 → Int32 → Int32 → Int32 → xS → Option (Int32 × xS)
  | 0, _, _, _, _, _, _, _, _ => none
  | n + 1, a0, x1, x2, x4, x6, x7, x8, ω =>
    (xgi ω a0 12 0).bind fun t5 =>
    if t5 ≤ x8 then (
      if x6 < 0 then (
        if (0 : Int32) = 0 then (
          k15 a0 x1 x2 0 ω)
        else (
          (xk ω a0 12 (f_Mo_set1 a0 x6 x7 ω)).bind fun w11 =>
          k15 a0 x1 (x2 + 1) 0 w11))
      else (
        if (1 : Int32) = 0 then (
          k15 a0 x1 x2 1 ω)
        else (
          (xk ω a0 12 (f_Mo_set1 a0 x6 x7 ω)).bind fun w15 =>
          k15 a0 x1 (x2 + 1) 1 w15)))
    else (
      f_Mo_descend_48 k15 (f_Mo_descend_36 k15 n) xFU a0 x1 x2 x4 x6 x7 x8 0 ω)
set_option maxHeartbeats 4000000 in
set_option maxRecDepth 100000 in
theorem w_Mo_descend_36 {p : Program} {l : Launch} {e : Env} {s : State} {m : MethodId} {args : Array Value} {below : List Frame} {meth : Method} {c : Code} {E : xV} {z : Nat} {r : Int32} {ω1 : xS} {k15 : Nat → Int32 → Int32 → Int32 → xS → Option (Int32 × xS)} (S : CallFix p m c b_Mo_descend 13 s args xTbl "RosterRulesModel") (hr : meth.sig.returnType = (some .int)) (hlocks : meth.locks = false) (hk15 : ∀ (a0 : Nat) (x1 : Int32) (x2 : Int32) (x3 : Int32) (ω : xS) (H : Heap) (locs : List Loc) (ls : Array Slot), xW E z ω s s.heap H locs → lv_has ls 13 [(0, .ref a0), (1, .int x1), (2, .int x2), (3, .int x3)] → k15 a0 x1 x2 x3 ω = some (r, ω1) → W p l e (headSpec ws_Mo_descend { frames := 6, cells := 0, slots := 0, locals := 149 }).room s m args below meth c H locs 0 0 (MQ below (xQ E (some (.int r)) z ω1) args s 0 0 (fun q => E.2.2 ≤ q)) (F0 m 15 ls [])) : ∀ n : Nat, ∀ (a0 : Nat) (x1 : Int32) (x2 : Int32) (x4 : Int64) (x6 : Int32) (x7 : Int32) (x8 : Int32) (ω : xS) (H : Heap) (locs : List Loc) (ls : Array Slot), xW E z ω s s.heap H locs → lv_has ls 13 [(0, .ref a0), (1, .int x1), (2, .int x2), (4, .long x4), (6, .int x6), (7, .int x7), (8, .int x8)] → f_Mo_descend_36 k15 n a0 x1 x2 x4 x6 x7 x8 ω = some (r, ω1) → W p l e (headSpec ws_Mo_descend { frames := 6, cells := 0, slots := 0, locals := 149 }).room s m args below meth c H locs 0 0 (MQ below (xQ E (some (.int r)) z ω1) args s 0 0 (fun q => E.2.2 ≤ q)) (F0 m 36 ls []) := by
  intro n
  induction n with
  | zero =>
    intro a0 x1 x2 x4 x6 x7 x8 ω H locs ls hw hl hf
    have h2 : (none : Option (Int32 × xS)) = some (r, ω1) := hf
    cases h2
  | succ n ih =>
    intro a0 x1 x2 x4 x6 x7 x8 ω H locs ls hw hl hf
    rw [f_Mo_descend_36] at hf
    refine lv_iload S.1 S.2.1 d_Mo_descend_36 (lv_at hl 6 rfl) ?_
    refine lv_aload_n S.1 S.2.1 d_Mo_descend_38 rfl (lv_at hl 0 rfl) ?_
    obtain ⟨t5, ht5, hf⟩ := xb hf
    refine x_geti S hw lk_Mo_156 ht5 d_Mo_descend_39 ?_
    refine lv_icmp_ge (tgt := 123) S.1 S.2.1 d_Mo_descend_42 (by decide) (fun c6 => ?_) (fun c6 => ?_)
    · replace hf := xt c6 hf
      refine lv_iload S.1 S.2.1 d_Mo_descend_123 (lv_at hl 4 rfl) ?_
      refine lv_if_lt (tgt := 132) S.1 S.2.1 d_Mo_descend_125 (by decide) (fun c7 => ?_) (fun c7 => ?_)
      · replace hf := xt c7 hf
        refine lv_iconst (v := 0) S.1 S.2.1 d_Mo_descend_132 (by decide) ?_
        refine lv_istore_n (lv' := [(3, .int 0), (0, .ref a0), (1, .int x1), (2, .int x2), (4, .long x4), (6, .int x6), (7, .int x7), (8, .int x8)]) S.1 S.2.1 d_Mo_descend_133 rfl hl (by decide) rfl (fun ls hl => ?_)
        refine lv_iload_n S.1 S.2.1 d_Mo_descend_134 rfl (lv_at hl 0 rfl) ?_
        refine lv_if_eq (tgt := 149) S.1 S.2.1 d_Mo_descend_135 (by decide) (fun c8 => ?_) (fun c8 => ?_)
        · replace hf := xt c8 hf
          refine lv_goto (tgt := 15) S.1 S.2.1 d_Mo_descend_149 (by decide) ?_
          exact hk15 _ _ _ _ _ _ _ _ hw (lv_sub hl [1, 2, 3, 0] rfl) hf
        · replace hf := xf c8 hf
          refine lv_aload_n S.1 S.2.1 d_Mo_descend_138 rfl (lv_at hl 1 rfl) ?_
          refine lv_iload S.1 S.2.1 d_Mo_descend_139 (lv_at hl 5 rfl) ?_
          refine lv_iload S.1 S.2.1 d_Mo_descend_141 (lv_at hl 6 rfl) ?_
          obtain ⟨w11, h9, hf⟩ := xb hf
          obtain ⟨h9b, h9⟩ := xkb h9
          refine x_callV (As := [.int x6, .int x7]) (rest := []) (st1 := []) S hw (c_Mo_set1 h9) (cwV 2 S.2.2.2.2 gv_Mo_391 rfl rfl rfl hd_Mo_set1 ⟨Nat.le_of_ble_eq_true rfl, Nat.le_of_ble_eq_true rfl⟩) rfl h9b rfl hl.1 rfl rfl (Nat.le_of_ble_eq_true rfl) d_Mo_descend_143 ⟨Nat.le_of_ble_eq_true rfl, Nat.le_of_ble_eq_true rfl⟩ (fun H locs hw => ?_)
          refine lv_iinc (v := (x2 + 1)) (lv' := [(2, .int (x2 + 1)), (3, .int 0), (0, .ref a0), (1, .int x1), (4, .long x4), (6, .int x6), (7, .int x7), (8, .int x8)]) S.1 S.2.1 d_Mo_descend_146 hl (k := 3) rfl rfl (by decide) rfl (fun ls hl => ?_)
          refine lv_goto (tgt := 15) S.1 S.2.1 d_Mo_descend_149 (by decide) ?_
          exact hk15 _ _ _ _ _ _ _ _ hw (lv_sub hl [2, 3, 0, 1] rfl) hf
      · replace hf := xf c7 hf
        refine lv_iconst (v := 1) S.1 S.2.1 d_Mo_descend_128 (by decide) ?_
        refine lv_goto (tgt := 133) S.1 S.2.1 d_Mo_descend_129 (by decide) ?_
        refine lv_istore_n (lv' := [(3, .int 1), (0, .ref a0), (1, .int x1), (2, .int x2), (4, .long x4), (6, .int x6), (7, .int x7), (8, .int x8)]) S.1 S.2.1 d_Mo_descend_133 rfl hl (by decide) rfl (fun ls hl => ?_)
        refine lv_iload_n S.1 S.2.1 d_Mo_descend_134 rfl (lv_at hl 0 rfl) ?_
        refine lv_if_eq (tgt := 149) S.1 S.2.1 d_Mo_descend_135 (by decide) (fun c12 => ?_) (fun c12 => ?_)
        · replace hf := xt c12 hf
          refine lv_goto (tgt := 15) S.1 S.2.1 d_Mo_descend_149 (by decide) ?_
          exact hk15 _ _ _ _ _ _ _ _ hw (lv_sub hl [1, 2, 3, 0] rfl) hf
        · replace hf := xf c12 hf
          refine lv_aload_n S.1 S.2.1 d_Mo_descend_138 rfl (lv_at hl 1 rfl) ?_
          refine lv_iload S.1 S.2.1 d_Mo_descend_139 (lv_at hl 5 rfl) ?_
          refine lv_iload S.1 S.2.1 d_Mo_descend_141 (lv_at hl 6 rfl) ?_
          obtain ⟨w15, h13, hf⟩ := xb hf
          obtain ⟨h13b, h13⟩ := xkb h13
          refine x_callV (As := [.int x6, .int x7]) (rest := []) (st1 := []) S hw (c_Mo_set1 h13) (cwV 2 S.2.2.2.2 gv_Mo_391 rfl rfl rfl hd_Mo_set1 ⟨Nat.le_of_ble_eq_true rfl, Nat.le_of_ble_eq_true rfl⟩) rfl h13b rfl hl.1 rfl rfl (Nat.le_of_ble_eq_true rfl) d_Mo_descend_143 ⟨Nat.le_of_ble_eq_true rfl, Nat.le_of_ble_eq_true rfl⟩ (fun H locs hw => ?_)
          refine lv_iinc (v := (x2 + 1)) (lv' := [(2, .int (x2 + 1)), (3, .int 1), (0, .ref a0), (1, .int x1), (4, .long x4), (6, .int x6), (7, .int x7), (8, .int x8)]) S.1 S.2.1 d_Mo_descend_146 hl (k := 3) rfl rfl (by decide) rfl (fun ls hl => ?_)
          refine lv_goto (tgt := 15) S.1 S.2.1 d_Mo_descend_149 (by decide) ?_
          exact hk15 _ _ _ _ _ _ _ _ hw (lv_sub hl [2, 3, 0, 1] rfl) hf
    · replace hf := xf c6 hf
      refine lv_iconst (v := 0) S.1 S.2.1 d_Mo_descend_45 (by decide) ?_
      refine lv_istore (lv' := [(9, .int 0), (0, .ref a0), (1, .int x1), (2, .int x2), (4, .long x4), (6, .int x6), (7, .int x7), (8, .int x8)]) S.1 S.2.1 d_Mo_descend_46 hl (by decide) rfl (fun ls hl => ?_)
      exact w_Mo_descend_48 S hr hlocks hk15 ih _ _ _ _ _ _ _ _ _ _ _ _ _ hw (lv_sub hl [1, 2, 3, 4, 5, 6, 7, 0] rfl) hf
def f_Mo_descend_15 : Nat → Nat → Int32 → Int32 → Int32 → xS → Option (Int32 × xS)
  | 0, _, _, _, _, _ => none
  | n + 1, a0, x1, x2, x3, ω =>
    if x1 ≤ x2 then (
      some (x2, ω))
    else (
      if x3 = 0 then (
        some (x2, ω))
      else (
        f_Mo_descend_36 (f_Mo_descend_15  n) xFU a0 x1 x2 0 (-1) (-1) 0 ω))
set_option maxHeartbeats 4000000 in
set_option maxRecDepth 100000 in
theorem w_Mo_descend_15 {p : Program} {l : Launch} {e : Env} {s : State} {m : MethodId} {args : Array Value} {below : List Frame} {meth : Method} {c : Code} {E : xV} {z : Nat} {r : Int32} {ω1 : xS} (S : CallFix p m c b_Mo_descend 13 s args xTbl "RosterRulesModel") (hr : meth.sig.returnType = (some .int)) (hlocks : meth.locks = false) : ∀ n : Nat, ∀ (a0 : Nat) (x1 : Int32) (x2 : Int32) (x3 : Int32) (ω : xS) (H : Heap) (locs : List Loc) (ls : Array Slot), xW E z ω s s.heap H locs → lv_has ls 13 [(0, .ref a0), (1, .int x1), (2, .int x2), (3, .int x3)] → f_Mo_descend_15 n a0 x1 x2 x3 ω = some (r, ω1) → W p l e (headSpec ws_Mo_descend { frames := 6, cells := 0, slots := 0, locals := 149 }).room s m args below meth c H locs 0 0 (MQ below (xQ E (some (.int r)) z ω1) args s 0 0 (fun q => E.2.2 ≤ q)) (F0 m 15 ls []) := by
  intro n
  induction n with
  | zero =>
    intro a0 x1 x2 x3 ω H locs ls hw hl hf
    have h2 : (none : Option (Int32 × xS)) = some (r, ω1) := hf
    cases h2
  | succ n ih =>
    intro a0 x1 x2 x3 ω H locs ls hw hl hf
    rw [f_Mo_descend_15] at hf
    refine lv_iload_n S.1 S.2.1 d_Mo_descend_15 rfl (lv_at hl 2 rfl) ?_
    refine lv_iload_n S.1 S.2.1 d_Mo_descend_16 rfl (lv_at hl 1 rfl) ?_
    refine lv_icmp_ge (tgt := 152) S.1 S.2.1 d_Mo_descend_17 (by decide) (fun c3 => ?_) (fun c3 => ?_)
    · replace hf := xt c3 hf
      refine lv_iload_n S.1 S.2.1 d_Mo_descend_152 rfl (lv_at hl 2 rfl) ?_
      obtain ⟨rfl, rfl⟩ := xe2 hf
      exact x_iret S hr hlocks hw d_Mo_descend_153
    · replace hf := xf c3 hf
      refine lv_iload_n S.1 S.2.1 d_Mo_descend_20 rfl (lv_at hl 3 rfl) ?_
      refine lv_if_eq (tgt := 152) S.1 S.2.1 d_Mo_descend_21 (by decide) (fun c4 => ?_) (fun c4 => ?_)
      · replace hf := xt c4 hf
        refine lv_iload_n S.1 S.2.1 d_Mo_descend_152 rfl (lv_at hl 2 rfl) ?_
        obtain ⟨rfl, rfl⟩ := xe2 hf
        exact x_iret S hr hlocks hw d_Mo_descend_153
      · replace hf := xf c4 hf
        refine lv_lconst (v := 0) S.1 S.2.1 d_Mo_descend_24 (by decide) ?_
        refine lv_lstore (lv' := [(4, .long 0), (0, .ref a0), (1, .int x1), (2, .int x2), (3, .int x3)]) S.1 S.2.1 d_Mo_descend_25 hl (by decide) rfl (fun ls hl => ?_)
        refine lv_iconst (v := (-1)) S.1 S.2.1 d_Mo_descend_27 (by decide) ?_
        refine lv_istore (lv' := [(6, .int (-1)), (4, .long 0), (0, .ref a0), (1, .int x1), (2, .int x2), (3, .int x3)]) S.1 S.2.1 d_Mo_descend_28 hl (by decide) rfl (fun ls hl => ?_)
        refine lv_iconst (v := (-1)) S.1 S.2.1 d_Mo_descend_30 (by decide) ?_
        refine lv_istore (lv' := [(7, .int (-1)), (6, .int (-1)), (4, .long 0), (0, .ref a0), (1, .int x1), (2, .int x2), (3, .int x3)]) S.1 S.2.1 d_Mo_descend_31 hl (by decide) rfl (fun ls hl => ?_)
        refine lv_iconst (v := 0) S.1 S.2.1 d_Mo_descend_33 (by decide) ?_
        refine lv_istore (lv' := [(8, .int 0), (7, .int (-1)), (6, .int (-1)), (4, .long 0), (0, .ref a0), (1, .int x1), (2, .int x2), (3, .int x3)]) S.1 S.2.1 d_Mo_descend_34 hl (by decide) rfl (fun ls hl => ?_)
        exact w_Mo_descend_36 S hr hlocks ih _ _ _ _ _ _ _ _ _ _ _ _ hw (lv_sub hl [4, 5, 6, 3, 2, 1, 0] rfl) hf
def f_Mo_descend (a0 : Nat) (x1 : Int32) (ω : xS) : Option (Int32 × xS) :=
  if x1 < 0 then (
    some ((-1), ω))
  else (
    if x1 ≤ 3 then (
      f_Mo_descend_15  xFU a0 x1 0 1 ω)
    else (
      some ((-1), ω)))
set_option maxHeartbeats 4000000 in
set_option maxRecDepth 100000 in
theorem c_Mo_descend {l : Launch} {E : xV} {z : Nat} {a0 : Nat} {x1 : Int32} {r : Int32} {ω1 : xS} {ω : xS} (hf : f_Mo_descend a0 x1 ω = some (r, ω1)) : xM l E y_Mo_descend ws_Mo_descend { frames := 6, cells := 0, slots := 0, locals := 149 } [.ref a0, .int x1] z ω (some (.int r)) z ω1 := by
  refine x_start (cc := b_Mo_descend) (maxL := 13) (ret := (some .int)) (by decide) rfl (Nat.le_of_ble_eq_true rfl) ?_
  intro p e s m below meth c S hr hlocks hin ls hl hw
  have hl : lv_has ls 13 [(0, .ref a0), (1, .int x1)] := hl
  unfold f_Mo_descend at hf
  refine lv_iload_n S.1 S.2.1 d_Mo_descend_0 rfl (lv_at hl 1 rfl) ?_
  refine lv_if_lt (tgt := 9) S.1 S.2.1 d_Mo_descend_1 (by decide) (fun c1 => ?_) (fun c1 => ?_)
  · replace hf := xt c1 hf
    refine lv_iconst (v := (-1)) S.1 S.2.1 d_Mo_descend_9 (by decide) ?_
    obtain ⟨rfl, rfl⟩ := xe2 hf
    exact x_iret S hr hlocks hw d_Mo_descend_10
  · replace hf := xf c1 hf
    refine lv_iload_n S.1 S.2.1 d_Mo_descend_4 rfl (lv_at hl 1 rfl) ?_
    refine lv_iconst (v := 3) S.1 S.2.1 d_Mo_descend_5 (by decide) ?_
    refine lv_icmp_le (tgt := 11) S.1 S.2.1 d_Mo_descend_6 (by decide) (fun c2 => ?_) (fun c2 => ?_)
    · replace hf := xt c2 hf
      refine lv_iconst (v := 0) S.1 S.2.1 d_Mo_descend_11 (by decide) ?_
      refine lv_istore_n (lv' := [(2, .int 0), (0, .ref a0), (1, .int x1)]) S.1 S.2.1 d_Mo_descend_12 rfl hl (by decide) rfl (fun ls hl => ?_)
      refine lv_iconst (v := 1) S.1 S.2.1 d_Mo_descend_13 (by decide) ?_
      refine lv_istore_n (lv' := [(3, .int 1), (2, .int 0), (0, .ref a0), (1, .int x1)]) S.1 S.2.1 d_Mo_descend_14 rfl hl (by decide) rfl (fun ls hl => ?_)
      exact w_Mo_descend_15 S hr hlocks  _ _ _ _ _ _ _ _ _ hw (lv_sub hl [2, 3, 1, 0] rfl) hf
    · replace hf := xf c2 hf
      refine lv_iconst (v := (-1)) S.1 S.2.1 d_Mo_descend_9 (by decide) ?_
      obtain ⟨rfl, rfl⟩ := xe2 hf
      exact x_iret S hr hlocks hw d_Mo_descend_10
