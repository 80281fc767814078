def f_Judge_matches_19 : Nat → Nat → Nat → Int64 → Int32 → Int32 → xS → Option Int64
  | 0, _, _, _, _, _, _ => none
  | n + 1, a1, a3, x4, x6, x7, ω =>
    (xan ω a3).bind fun t4 =>
    if t4 ≤ x7 then (
      some x4)
    else (
      (xk ω a1 7 (f_Positions_after a1 x6 ω)).bind fun t7 =>
      (xgi ω a1 7 6).bind fun t8 =>
      (xgr ω a1 7 0).bind fun t9 =>
      (xai ω a3 x7).bind fun t10 =>
      (xai ω t9 t10).bind fun t11 =>
      if x7 < 7 then (
        f_Judge_matches_19  n a1 a3 x4 ((t7 ||| t8) &&& t11) (x7 + 1) ω)
      else (
        (xgi ω a1 7 7).bind fun t13 =>
        if (((t7 ||| t8) &&& t11) &&& t13) = 0 then (
          f_Judge_matches_19  n a1 a3 x4 ((t7 ||| t8) &&& t11) (x7 + 1) ω)
        else (
          f_Judge_matches_19  n a1 a3 (x4 + 1) ((t7 ||| t8) &&& t11) (x7 + 1) ω)))
set_option maxHeartbeats 4000000 in
set_option maxRecDepth 100000 in
theorem w_Judge_matches_19 {p : Program} {l : Launch} {e : Env} {s : State} {m : MethodId} {args : Array Value} {below : List Frame} {meth : Method} {c : Code} {E : xV} {z : Nat} {r : Int64} {ω : xS} (S : CallFix p m c b_Judge_matches 8 s args xTbl "RosterRules$Judge") (hr : meth.sig.returnType = (some .long)) (hlocks : meth.locks = false) : ∀ n : Nat, ∀ (a1 : Nat) (a3 : Nat) (x4 : Int64) (x6 : Int32) (x7 : Int32) (H : Heap) (locs : List Loc) (ls : Array Slot), xW E z ω s s.heap H locs → lv_has ls 8 [(1, .ref a1), (3, .ref a3), (4, .long x4), (6, .int x6), (7, .int x7)] → f_Judge_matches_19 n a1 a3 x4 x6 x7 ω = some r → W p l e (headSpec ws_Judge_matches { frames := 1, cells := 0, slots := 0, locals := 21 }).room s m args below meth c H locs 0 0 (MQ below (xQ E (some (.long r)) z ω) args s 0 0 (fun q => E.2.2 ≤ q)) (F0 m 19 ls []) := by
  intro n
  induction n with
  | zero =>
    intro a1 a3 x4 x6 x7 H locs ls hw hl hf
    have h2 : (none : Option Int64) = some r := hf
    cases h2
  | succ n ih =>
    intro a1 a3 x4 x6 x7 H locs ls hw hl hf
    rw [f_Judge_matches_19] at hf
    refine lv_iload S.1 S.2.1 d_Judge_matches_19 (lv_at hl 4 rfl) ?_
    refine lv_aload_n S.1 S.2.1 d_Judge_matches_21 rfl (lv_at hl 1 rfl) ?_
    obtain ⟨t4, ht4, hf⟩ := xb hf
    refine x_alen S hw ht4 d_Judge_matches_22 ?_
    refine lv_icmp_ge (tgt := 78) S.1 S.2.1 d_Judge_matches_23 (by decide) (fun c5 => ?_) (fun c5 => ?_)
    · replace hf := xt c5 hf
      refine lv_lload S.1 S.2.1 d_Judge_matches_78 (lv_at hl 2 rfl) ?_
      obtain rfl := xe1 hf
      exact x_lret S hr hlocks hw d_Judge_matches_80
    · replace hf := xf c5 hf
      refine lv_aload_n S.1 S.2.1 d_Judge_matches_26 rfl (lv_at hl 0 rfl) ?_
      refine lv_iload S.1 S.2.1 d_Judge_matches_27 (lv_at hl 3 rfl) ?_
      obtain ⟨t7, h6, hf⟩ := xb hf
      obtain ⟨h6b, h6⟩ := xkb h6
      refine x_callV (As := [.int x6]) (rest := []) (st1 := [.int t7]) S hw (c_Positions_after h6) (cwV 1 S.2.2.2.2 gv_Judge_122 rfl rfl rfl hd_Positions_after ⟨Nat.le_of_ble_eq_true rfl, Nat.le_of_ble_eq_true rfl⟩) rfl h6b rfl hl.1 rfl rfl (Nat.le_of_ble_eq_true rfl) d_Judge_matches_29 ⟨Nat.le_of_ble_eq_true rfl, Nat.le_of_ble_eq_true rfl⟩ (fun H locs hw => ?_)
      refine lv_aload_n S.1 S.2.1 d_Judge_matches_32 rfl (lv_at hl 0 rfl) ?_
      obtain ⟨t8, ht8, hf⟩ := xb hf
      refine x_geti S hw lk_Judge_128 ht8 d_Judge_matches_33 ?_
      refine lv_ior S.1 S.2.1 d_Judge_matches_36 ?_
      refine lv_aload_n S.1 S.2.1 d_Judge_matches_37 rfl (lv_at hl 0 rfl) ?_
      obtain ⟨t9, ht9, hf⟩ := xb hf
      refine x_getr S hw lk_Judge_131 ht9 d_Judge_matches_38 ?_
      refine lv_aload_n S.1 S.2.1 d_Judge_matches_41 rfl (lv_at hl 1 rfl) ?_
      refine lv_iload S.1 S.2.1 d_Judge_matches_42 (lv_at hl 4 rfl) ?_
      obtain ⟨t10, ht10, hf⟩ := xb hf
      refine x_iald S hw ht10 d_Judge_matches_44 ?_
      obtain ⟨t11, ht11, hf⟩ := xb hf
      refine x_iald S hw ht11 d_Judge_matches_45 ?_
      refine lv_iand S.1 S.2.1 d_Judge_matches_46 ?_
      refine lv_istore (lv' := [(6, .int ((t7 ||| t8) &&& t11)), (1, .ref a1), (3, .ref a3), (4, .long x4), (7, .int x7)]) S.1 S.2.1 d_Judge_matches_47 hl (by decide) rfl (fun ls hl => ?_)
      refine lv_iload S.1 S.2.1 d_Judge_matches_49 (lv_at hl 4 rfl) ?_
      refine lv_bipush (v := 7) S.1 S.2.1 d_Judge_matches_51 (by decide) ?_
      refine lv_icmp_lt (tgt := 72) S.1 S.2.1 d_Judge_matches_53 (by decide) (fun c12 => ?_) (fun c12 => ?_)
      · replace hf := xt c12 hf
        refine lv_iinc (v := (x7 + 1)) (lv' := [(7, .int (x7 + 1)), (6, .int ((t7 ||| t8) &&& t11)), (1, .ref a1), (3, .ref a3), (4, .long x4)]) S.1 S.2.1 d_Judge_matches_72 hl (k := 4) rfl rfl (by decide) rfl (fun ls hl => ?_)
        refine lv_goto (tgt := 19) S.1 S.2.1 d_Judge_matches_75 (by decide) ?_
        exact ih _ _ _ _ _ _ _ _ hw (lv_sub hl [2, 3, 4, 1, 0] rfl) hf
      · replace hf := xf c12 hf
        refine lv_iload S.1 S.2.1 d_Judge_matches_56 (lv_at hl 0 rfl) ?_
        refine lv_aload_n S.1 S.2.1 d_Judge_matches_58 rfl (lv_at hl 1 rfl) ?_
        obtain ⟨t13, ht13, hf⟩ := xb hf
        refine x_geti S hw lk_Judge_134 ht13 d_Judge_matches_59 ?_
        refine lv_iand S.1 S.2.1 d_Judge_matches_62 ?_
        refine lv_if_eq (tgt := 72) S.1 S.2.1 d_Judge_matches_63 (by decide) (fun c14 => ?_) (fun c14 => ?_)
        · replace hf := xt c14 hf
          refine lv_iinc (v := (x7 + 1)) (lv' := [(7, .int (x7 + 1)), (6, .int ((t7 ||| t8) &&& t11)), (1, .ref a1), (3, .ref a3), (4, .long x4)]) S.1 S.2.1 d_Judge_matches_72 hl (k := 4) rfl rfl (by decide) rfl (fun ls hl => ?_)
          refine lv_goto (tgt := 19) S.1 S.2.1 d_Judge_matches_75 (by decide) ?_
          exact ih _ _ _ _ _ _ _ _ hw (lv_sub hl [2, 3, 4, 1, 0] rfl) hf
        · replace hf := xf c14 hf
          refine lv_lload S.1 S.2.1 d_Judge_matches_66 (lv_at hl 3 rfl) ?_
          refine lv_lconst (v := 1) S.1 S.2.1 d_Judge_matches_68 (by decide) ?_
          refine lv_ladd S.1 S.2.1 d_Judge_matches_69 ?_
          refine lv_lstore (lv' := [(4, .long (x4 + 1)), (6, .int ((t7 ||| t8) &&& t11)), (1, .ref a1), (3, .ref a3), (7, .int x7)]) S.1 S.2.1 d_Judge_matches_70 hl (by decide) rfl (fun ls hl => ?_)
          refine lv_iinc (v := (x7 + 1)) (lv' := [(7, .int (x7 + 1)), (4, .long (x4 + 1)), (6, .int ((t7 ||| t8) &&& t11)), (1, .ref a1), (3, .ref a3)]) S.1 S.2.1 d_Judge_matches_72 hl (k := 4) rfl rfl (by decide) rfl (fun ls hl => ?_)
          refine lv_goto (tgt := 19) S.1 S.2.1 d_Judge_matches_75 (by decide) ?_
          exact ih _ _ _ _ _ _ _ _ hw (lv_sub hl [3, 4, 1, 2, 0] rfl) hf
def f_Judge_matches (a0 : Nat) (a1 : Nat) (x2 : Int32) (ω : xS) : Option Int64 :=
  (xgr ω a0 3 0).bind fun t1 =>
  (xgr ω t1 8 6).bind fun t2 =>
  (xar ω 2 t2 x2).bind fun t3 =>
  f_Judge_matches_19  xFU a1 t3 0 0 0 ω
set_option maxHeartbeats 4000000 in
set_option maxRecDepth 100000 in
theorem c_Judge_matches {l : Launch} {E : xV} {z : Nat} {a0 : Nat} {a1 : Nat} {x2 : Int32} {r : Int64} {ω : xS} (hf : f_Judge_matches a0 a1 x2 ω = some r) : xM l E y_Judge_matches ws_Judge_matches { frames := 1, cells := 0, slots := 0, locals := 21 } [.ref a0, .ref a1, .int x2] z ω (some (.long r)) z ω := by
  refine x_start (cc := b_Judge_matches) (maxL := 8) (ret := (some .long)) (by decide) rfl (Nat.le_of_ble_eq_true rfl) ?_
  intro p e s m below meth c S hr hlocks hin ls hl hw
  have hl : lv_has ls 8 [(0, .ref a0), (1, .ref a1), (2, .int x2)] := hl
  unfold f_Judge_matches at hf
  refine lv_aload_n S.1 S.2.1 d_Judge_matches_0 rfl (lv_at hl 0 rfl) ?_
  obtain ⟨t1, ht1, hf⟩ := xb hf
  refine x_getr S hw lk_Judge_9 ht1 d_Judge_matches_1 ?_
  obtain ⟨t2, ht2, hf⟩ := xb hf
  refine x_getr S hw lk_Judge_109 ht2 d_Judge_matches_4 ?_
  refine lv_iload_n S.1 S.2.1 d_Judge_matches_7 rfl (lv_at hl 2 rfl) ?_
  obtain ⟨t3, ht3, hf⟩ := xb hf
  refine x_aald S hw (t := 2) rfl rfl ht3 d_Judge_matches_8 ?_
  refine lv_astore_n (lv' := [(3, .ref t3), (0, .ref a0), (1, .ref a1), (2, .int x2)]) S.1 S.2.1 d_Judge_matches_9 rfl hl (by decide) rfl (fun ls hl => ?_)
  refine lv_lconst (v := 0) S.1 S.2.1 d_Judge_matches_10 (by decide) ?_
  refine lv_lstore (lv' := [(4, .long 0), (3, .ref t3), (0, .ref a0), (1, .ref a1), (2, .int x2)]) S.1 S.2.1 d_Judge_matches_11 hl (by decide) rfl (fun ls hl => ?_)
  refine lv_iconst (v := 0) S.1 S.2.1 d_Judge_matches_13 (by decide) ?_
  refine lv_istore (lv' := [(6, .int 0), (4, .long 0), (3, .ref t3), (0, .ref a0), (1, .ref a1), (2, .int x2)]) S.1 S.2.1 d_Judge_matches_14 hl (by decide) rfl (fun ls hl => ?_)
  refine lv_iconst (v := 0) S.1 S.2.1 d_Judge_matches_16 (by decide) ?_
  refine lv_istore (lv' := [(7, .int 0), (6, .int 0), (4, .long 0), (3, .ref t3), (0, .ref a0), (1, .ref a1), (2, .int x2)]) S.1 S.2.1 d_Judge_matches_17 hl (by decide) rfl (fun ls hl => ?_)
  exact w_Judge_matches_19 S hr hlocks  _ _ _ _ _ _ _ _ _ hw (lv_sub hl [5, 3, 2, 1, 0] rfl) hf
def f_Judge_isWord_23 : Nat → Nat → Nat → Int32 → Int32 → Int32 → xS → Option Int32
  | 0, _, _, _, _, _, _ => none
  | n + 1, a1, a3, x4, x5, x6, ω =>
    (xan ω a3).bind fun t5 =>
    if t5 ≤ x6 then (
      (xgi ω a1 7 7).bind fun t7 =>
      if (x5 &&& t7) = 0 then (
        some 0)
      else (
        some 1))
    else (
      (xgr ω a1 7 0).bind fun t9 =>
      (xai ω a3 x6).bind fun t10 =>
      (xai ω t9 t10).bind fun t11 =>
      (xk ω a1 7 (f_Positions_after a1 (x4 &&& t11) ω)).bind fun t13 =>
      f_Judge_isWord_23  n a1 a3 t13 (x4 &&& t11) (x6 + 1) ω)
set_option maxHeartbeats 4000000 in
set_option maxRecDepth 100000 in
theorem w_Judge_isWord_23 {p : Program} {l : Launch} {e : Env} {s : State} {m : MethodId} {args : Array Value} {below : List Frame} {meth : Method} {c : Code} {E : xV} {z : Nat} {r : Int32} {ω : xS} (S : CallFix p m c b_Judge_isWord 7 s args xTbl "RosterRules$Judge") (hr : meth.sig.returnType = (some .boolean)) (hlocks : meth.locks = false) : ∀ n : Nat, ∀ (a1 : Nat) (a3 : Nat) (x4 : Int32) (x5 : Int32) (x6 : Int32) (H : Heap) (locs : List Loc) (ls : Array Slot), xW E z ω s s.heap H locs → lv_has ls 7 [(1, .ref a1), (3, .ref a3), (4, .int x4), (5, .int x5), (6, .int x6)] → f_Judge_isWord_23 n a1 a3 x4 x5 x6 ω = some r → W p l e (headSpec ws_Judge_isWord { frames := 1, cells := 0, slots := 0, locals := 21 }).room s m args below meth c H locs 0 0 (MQ below (xQ E (some (.int r)) z ω) args s 0 0 (fun q => E.2.2 ≤ q)) (F0 m 23 ls []) := by
  intro n
  induction n with
  | zero =>
    intro a1 a3 x4 x5 x6 H locs ls hw hl hf
    have h2 : (none : Option Int32) = some r := hf
    cases h2
  | succ n ih =>
    intro a1 a3 x4 x5 x6 H locs ls hw hl hf
    rw [f_Judge_isWord_23] at hf
    refine lv_iload S.1 S.2.1 d_Judge_isWord_23 (lv_at hl 4 rfl) ?_
    refine lv_aload_n S.1 S.2.1 d_Judge_isWord_25 rfl (lv_at hl 1 rfl) ?_
    obtain ⟨t5, ht5, hf⟩ := xb hf
    refine x_alen S hw ht5 d_Judge_isWord_26 ?_
    refine lv_icmp_ge (tgt := 58) S.1 S.2.1 d_Judge_isWord_27 (by decide) (fun c6 => ?_) (fun c6 => ?_)
    · replace hf := xt c6 hf
      refine lv_iload S.1 S.2.1 d_Judge_isWord_58 (lv_at hl 3 rfl) ?_
      refine lv_aload_n S.1 S.2.1 d_Judge_isWord_60 rfl (lv_at hl 0 rfl) ?_
      obtain ⟨t7, ht7, hf⟩ := xb hf
      refine x_geti S hw lk_Judge_134 ht7 d_Judge_isWord_61 ?_
      refine lv_iand S.1 S.2.1 d_Judge_isWord_64 ?_
      refine lv_if_eq (tgt := 72) S.1 S.2.1 d_Judge_isWord_65 (by decide) (fun c8 => ?_) (fun c8 => ?_)
      · replace hf := xt c8 hf
        refine lv_iconst (v := 0) S.1 S.2.1 d_Judge_isWord_72 (by decide) ?_
        obtain rfl := xe1 hf
        exact x_zret S hr hlocks hw (by decide) d_Judge_isWord_73
      · replace hf := xf c8 hf
        refine lv_iconst (v := 1) S.1 S.2.1 d_Judge_isWord_68 (by decide) ?_
        refine lv_goto (tgt := 73) S.1 S.2.1 d_Judge_isWord_69 (by decide) ?_
        obtain rfl := xe1 hf
        exact x_zret S hr hlocks hw (by decide) d_Judge_isWord_73
    · replace hf := xf c6 hf
      refine lv_iload S.1 S.2.1 d_Judge_isWord_30 (lv_at hl 2 rfl) ?_
      refine lv_aload_n S.1 S.2.1 d_Judge_isWord_32 rfl (lv_at hl 0 rfl) ?_
      obtain ⟨t9, ht9, hf⟩ := xb hf
      refine x_getr S hw lk_Judge_131 ht9 d_Judge_isWord_33 ?_
      refine lv_aload_n S.1 S.2.1 d_Judge_isWord_36 rfl (lv_at hl 1 rfl) ?_
      refine lv_iload S.1 S.2.1 d_Judge_isWord_37 (lv_at hl 4 rfl) ?_
      obtain ⟨t10, ht10, hf⟩ := xb hf
      refine x_iald S hw ht10 d_Judge_isWord_39 ?_
      obtain ⟨t11, ht11, hf⟩ := xb hf
      refine x_iald S hw ht11 d_Judge_isWord_40 ?_
      refine lv_iand S.1 S.2.1 d_Judge_isWord_41 ?_
      refine lv_istore (lv' := [(5, .int (x4 &&& t11)), (1, .ref a1), (3, .ref a3), (4, .int x4), (6, .int x6)]) S.1 S.2.1 d_Judge_isWord_42 hl (by decide) rfl (fun ls hl => ?_)
      refine lv_aload_n S.1 S.2.1 d_Judge_isWord_44 rfl (lv_at hl 1 rfl) ?_
      refine lv_iload S.1 S.2.1 d_Judge_isWord_45 (lv_at hl 0 rfl) ?_
      obtain ⟨t13, h12, hf⟩ := xb hf
      obtain ⟨h12b, h12⟩ := xkb h12
      refine x_callV (As := [.int (x4 &&& t11)]) (rest := []) (st1 := [.int t13]) S hw (c_Positions_after h12) (cwV 1 S.2.2.2.2 gv_Judge_122 rfl rfl rfl hd_Positions_after ⟨Nat.le_of_ble_eq_true rfl, Nat.le_of_ble_eq_true rfl⟩) rfl h12b rfl hl.1 rfl rfl (Nat.le_of_ble_eq_true rfl) d_Judge_isWord_47 ⟨Nat.le_of_ble_eq_true rfl, Nat.le_of_ble_eq_true rfl⟩ (fun H locs hw => ?_)
      refine lv_istore (lv' := [(4, .int t13), (5, .int (x4 &&& t11)), (1, .ref a1), (3, .ref a3), (6, .int x6)]) S.1 S.2.1 d_Judge_isWord_50 hl (by decide) rfl (fun ls hl => ?_)
      refine lv_iinc (v := (x6 + 1)) (lv' := [(6, .int (x6 + 1)), (4, .int t13), (5, .int (x4 &&& t11)), (1, .ref a1), (3, .ref a3)]) S.1 S.2.1 d_Judge_isWord_52 hl (k := 4) rfl rfl (by decide) rfl (fun ls hl => ?_)
      refine lv_goto (tgt := 23) S.1 S.2.1 d_Judge_isWord_55 (by decide) ?_
      exact ih _ _ _ _ _ _ _ _ hw (lv_sub hl [3, 4, 1, 2, 0] rfl) hf
def f_Judge_isWord (a0 : Nat) (a1 : Nat) (x2 : Int32) (ω : xS) : Option Int32 :=
  (xgr ω a0 3 0).bind fun t1 =>
  (xgr ω t1 8 6).bind fun t2 =>
  (xar ω 2 t2 x2).bind fun t3 =>
  (xgi ω a1 7 6).bind fun t4 =>
  f_Judge_isWord_23  xFU a1 t3 t4 0 7 ω
set_option maxHeartbeats 4000000 in
set_option maxRecDepth 100000 in
theorem c_Judge_isWord {l : Launch} {E : xV} {z : Nat} {a0 : Nat} {a1 : Nat} {x2 : Int32} {r : Int32} {ω : xS} (hf : f_Judge_isWord a0 a1 x2 ω = some r) : xM l E y_Judge_isWord ws_Judge_isWord { frames := 1, cells := 0, slots := 0, locals := 21 } [.ref a0, .ref a1, .int x2] z ω (some (.int r)) z ω := by
  refine x_start (cc := b_Judge_isWord) (maxL := 7) (ret := (some .boolean)) (by decide) rfl (Nat.le_of_ble_eq_true rfl) ?_
  intro p e s m below meth c S hr hlocks hin ls hl hw
  have hl : lv_has ls 7 [(0, .ref a0), (1, .ref a1), (2, .int x2)] := hl
  unfold f_Judge_isWord at hf
  refine lv_aload_n S.1 S.2.1 d_Judge_isWord_0 rfl (lv_at hl 0 rfl) ?_
  obtain ⟨t1, ht1, hf⟩ := xb hf
  refine x_getr S hw lk_Judge_9 ht1 d_Judge_isWord_1 ?_
  obtain ⟨t2, ht2, hf⟩ := xb hf
  refine x_getr S hw lk_Judge_109 ht2 d_Judge_isWord_4 ?_
  refine lv_iload_n S.1 S.2.1 d_Judge_isWord_7 rfl (lv_at hl 2 rfl) ?_
  obtain ⟨t3, ht3, hf⟩ := xb hf
  refine x_aald S hw (t := 2) rfl rfl ht3 d_Judge_isWord_8 ?_
  refine lv_astore_n (lv' := [(3, .ref t3), (0, .ref a0), (1, .ref a1), (2, .int x2)]) S.1 S.2.1 d_Judge_isWord_9 rfl hl (by decide) rfl (fun ls hl => ?_)
  refine lv_aload_n S.1 S.2.1 d_Judge_isWord_10 rfl (lv_at hl 2 rfl) ?_
  obtain ⟨t4, ht4, hf⟩ := xb hf
  refine x_geti S hw lk_Judge_128 ht4 d_Judge_isWord_11 ?_
  refine lv_istore (lv' := [(4, .int t4), (3, .ref t3), (0, .ref a0), (1, .ref a1), (2, .int x2)]) S.1 S.2.1 d_Judge_isWord_14 hl (by decide) rfl (fun ls hl => ?_)
  refine lv_iconst (v := 0) S.1 S.2.1 d_Judge_isWord_16 (by decide) ?_
  refine lv_istore (lv' := [(5, .int 0), (4, .int t4), (3, .ref t3), (0, .ref a0), (1, .ref a1), (2, .int x2)]) S.1 S.2.1 d_Judge_isWord_17 hl (by decide) rfl (fun ls hl => ?_)
  refine lv_bipush (v := 7) S.1 S.2.1 d_Judge_isWord_19 (by decide) ?_
  refine lv_istore (lv' := [(6, .int 7), (5, .int 0), (4, .int t4), (3, .ref t3), (0, .ref a0), (1, .ref a1), (2, .int x2)]) S.1 S.2.1 d_Judge_isWord_21 hl (by decide) rfl (fun ls hl => ?_)
  exact w_Judge_isWord_23 S hr hlocks  _ _ _ _ _ _ _ _ _ hw (lv_sub hl [5, 3, 2, 1, 0] rfl) hf
def f_Judge_ofPerson (a0 : Nat) (a1 : Nat) (x2 : Int32) (ω : xS) : Option Int64 :=
  (xgi ω a1 4 2).bind fun t1 =>
  if t1 = 0 then (
    (xgr ω a0 3 0).bind fun t3 =>
    (xgi ω t3 8 1).bind fun t4 =>
    (xk ω a0 3 (f_Judge_unskilled a0 x2 0 (t4 - 1) ω)).bind fun t6 =>
    some t6)
  else (
  if t1 = 1 then (
    (xgi ω a1 4 5).bind fun t8 =>
    (xk ω a0 3 (f_Judge_shortRests a0 t8 x2 ω)).bind fun t10 =>
    some t10)
  else (
  if t1 = 2 then (
    (xgr ω a0 3 0).bind fun t12 =>
    (xgi ω t12 8 1).bind fun t13 =>
    (xgi ω a1 4 7).bind fun t14 =>
    (xk ω a0 3 (f_Judge_hoursAmiss a0 a1 x2 0 (t13 - t14) ω)).bind fun t16 =>
    some t16)
  else (
  if t1 = 3 then (
    (xgr ω a1 4 0).bind fun t18 =>
    (xk ω a0 3 (f_Judge_matches a0 t18 x2 ω)).bind fun t20 =>
    some t20)
  else (
  if t1 = 4 then (
    (xgr ω a1 4 0).bind fun t22 =>
    (xk ω a0 3 (f_Judge_isWord a0 t22 x2 ω)).bind fun t24 =>
    if t24 = 0 then (
      some 1)
    else (
      some 0))
  else (
  some 0)))))
set_option maxHeartbeats 4000000 in
set_option maxRecDepth 100000 in
theorem c_Judge_ofPerson {l : Launch} {E : xV} {z : Nat} {a0 : Nat} {a1 : Nat} {x2 : Int32} {r : Int64} {ω : xS} (hf : f_Judge_ofPerson a0 a1 x2 ω = some r) : xM l E y_Judge_ofPerson ws_Judge_ofPerson { frames := 3, cells := 0, slots := 0, locals := 77 } [.ref a0, .ref a1, .int x2] z ω (some (.long r)) z ω := by
  refine x_start (cc := b_Judge_ofPerson) (maxL := 3) (ret := (some .long)) (by decide) rfl (Nat.le_of_ble_eq_true rfl) ?_
  intro p e s m below meth c S hr hlocks hin ls hl hw
  have hl : lv_has ls 3 [(0, .ref a0), (1, .ref a1), (2, .int x2)] := hl
  unfold f_Judge_ofPerson at hf
  refine lv_aload_n S.1 S.2.1 d_Judge_ofPerson_0 rfl (lv_at hl 1 rfl) ?_
  obtain ⟨t1, ht1, hf⟩ := xb hf
  refine x_geti S hw lk_Judge_15 ht1 d_Judge_ofPerson_1 ?_
  by_cases c2 : t1 = 0
  · replace hf := xt c2 hf
    refine lv_tableIn (tgt := 40) S.1 S.2.1 d_Judge_ofPerson_4 (by rw [c2]; decide) (by rw [c2]; decide) (by rw [c2]; rfl) (by decide) ?_
    refine lv_aload_n S.1 S.2.1 d_Judge_ofPerson_40 rfl (lv_at hl 0 rfl) ?_
    refine lv_iload_n S.1 S.2.1 d_Judge_ofPerson_41 rfl (lv_at hl 2 rfl) ?_
    refine lv_iconst (v := 0) S.1 S.2.1 d_Judge_ofPerson_42 (by decide) ?_
    refine lv_aload_n S.1 S.2.1 d_Judge_ofPerson_43 rfl (lv_at hl 0 rfl) ?_
    obtain ⟨t3, ht3, hf⟩ := xb hf
    refine x_getr S hw lk_Judge_9 ht3 d_Judge_ofPerson_44 ?_
    obtain ⟨t4, ht4, hf⟩ := xb hf
    refine x_geti S hw lk_Judge_28 ht4 d_Judge_ofPerson_47 ?_
    refine lv_iconst (v := 1) S.1 S.2.1 d_Judge_ofPerson_50 (by decide) ?_
    refine lv_isub S.1 S.2.1 d_Judge_ofPerson_51 ?_
    obtain ⟨t6, h5, hf⟩ := xb hf
    obtain ⟨h5b, h5⟩ := xkb h5
    refine x_callV (As := [.int x2, .int 0, .int (t4 - 1)]) (rest := []) (st1 := [.long t6]) S hw (c_Judge_unskilled h5) (cwV 3 S.2.2.2.2 gv_Judge_43 rfl rfl rfl hd_Judge_unskilled ⟨Nat.le_of_ble_eq_true rfl, Nat.le_of_ble_eq_true rfl⟩) rfl h5b rfl hl.1 rfl rfl (Nat.le_of_ble_eq_true rfl) d_Judge_ofPerson_52 ⟨Nat.le_of_ble_eq_true rfl, Nat.le_of_ble_eq_true rfl⟩ (fun H locs hw => ?_)
    obtain rfl := xe1 hf
    exact x_lret S hr hlocks hw d_Judge_ofPerson_55
  replace hf := xf c2 hf
  by_cases c7 : t1 = 1
  · replace hf := xt c7 hf
    refine lv_tableIn (tgt := 56) S.1 S.2.1 d_Judge_ofPerson_4 (by rw [c7]; decide) (by rw [c7]; decide) (by rw [c7]; rfl) (by decide) ?_
    refine lv_aload_n S.1 S.2.1 d_Judge_ofPerson_56 rfl (lv_at hl 0 rfl) ?_
    refine lv_aload_n S.1 S.2.1 d_Judge_ofPerson_57 rfl (lv_at hl 1 rfl) ?_
    obtain ⟨t8, ht8, hf⟩ := xb hf
    refine x_geti S hw lk_Judge_47 ht8 d_Judge_ofPerson_58 ?_
    refine lv_iload_n S.1 S.2.1 d_Judge_ofPerson_61 rfl (lv_at hl 2 rfl) ?_
    obtain ⟨t10, h9, hf⟩ := xb hf
    obtain ⟨h9b, h9⟩ := xkb h9
    refine x_callV (As := [.int t8, .int x2]) (rest := []) (st1 := [.long t10]) S hw (c_Judge_shortRests h9) (cwV 2 S.2.2.2.2 gv_Judge_50 rfl rfl rfl hd_Judge_shortRests ⟨Nat.le_of_ble_eq_true rfl, Nat.le_of_ble_eq_true rfl⟩) rfl h9b rfl hl.1 rfl rfl (Nat.le_of_ble_eq_true rfl) d_Judge_ofPerson_62 ⟨Nat.le_of_ble_eq_true rfl, Nat.le_of_ble_eq_true rfl⟩ (fun H locs hw => ?_)
    obtain rfl := xe1 hf
    exact x_lret S hr hlocks hw d_Judge_ofPerson_65
  replace hf := xf c7 hf
  by_cases c11 : t1 = 2
  · replace hf := xt c11 hf
    refine lv_tableIn (tgt := 66) S.1 S.2.1 d_Judge_ofPerson_4 (by rw [c11]; decide) (by rw [c11]; decide) (by rw [c11]; rfl) (by decide) ?_
    refine lv_aload_n S.1 S.2.1 d_Judge_ofPerson_66 rfl (lv_at hl 0 rfl) ?_
    refine lv_aload_n S.1 S.2.1 d_Judge_ofPerson_67 rfl (lv_at hl 1 rfl) ?_
    refine lv_iload_n S.1 S.2.1 d_Judge_ofPerson_68 rfl (lv_at hl 2 rfl) ?_
    refine lv_iconst (v := 0) S.1 S.2.1 d_Judge_ofPerson_69 (by decide) ?_
    refine lv_aload_n S.1 S.2.1 d_Judge_ofPerson_70 rfl (lv_at hl 0 rfl) ?_
    obtain ⟨t12, ht12, hf⟩ := xb hf
    refine x_getr S hw lk_Judge_9 ht12 d_Judge_ofPerson_71 ?_
    obtain ⟨t13, ht13, hf⟩ := xb hf
    refine x_geti S hw lk_Judge_28 ht13 d_Judge_ofPerson_74 ?_
    refine lv_aload_n S.1 S.2.1 d_Judge_ofPerson_77 rfl (lv_at hl 1 rfl) ?_
    obtain ⟨t14, ht14, hf⟩ := xb hf
    refine x_geti S hw lk_Judge_54 ht14 d_Judge_ofPerson_78 ?_
    refine lv_isub S.1 S.2.1 d_Judge_ofPerson_81 ?_
    obtain ⟨t16, h15, hf⟩ := xb hf
    obtain ⟨h15b, h15⟩ := xkb h15
    refine x_callV (As := [.ref a1, .int x2, .int 0, .int (t13 - t14)]) (rest := []) (st1 := [.long t16]) S hw (c_Judge_hoursAmiss h15) (cwV 4 S.2.2.2.2 gv_Judge_57 rfl rfl rfl hd_Judge_hoursAmiss ⟨Nat.le_of_ble_eq_true rfl, Nat.le_of_ble_eq_true rfl⟩) rfl h15b rfl hl.1 rfl rfl (Nat.le_of_ble_eq_true rfl) d_Judge_ofPerson_82 ⟨Nat.le_of_ble_eq_true rfl, Nat.le_of_ble_eq_true rfl⟩ (fun H locs hw => ?_)
    obtain rfl := xe1 hf
    exact x_lret S hr hlocks hw d_Judge_ofPerson_85
  replace hf := xf c11 hf
  by_cases c17 : t1 = 3
  · replace hf := xt c17 hf
    refine lv_tableIn (tgt := 86) S.1 S.2.1 d_Judge_ofPerson_4 (by rw [c17]; decide) (by rw [c17]; decide) (by rw [c17]; rfl) (by decide) ?_
    refine lv_aload_n S.1 S.2.1 d_Judge_ofPerson_86 rfl (lv_at hl 0 rfl) ?_
    refine lv_aload_n S.1 S.2.1 d_Judge_ofPerson_87 rfl (lv_at hl 1 rfl) ?_
    obtain ⟨t18, ht18, hf⟩ := xb hf
    refine x_getr S hw lk_Judge_61 ht18 d_Judge_ofPerson_88 ?_
    refine lv_iload_n S.1 S.2.1 d_Judge_ofPerson_91 rfl (lv_at hl 2 rfl) ?_
    obtain ⟨t20, h19, hf⟩ := xb hf
    obtain ⟨h19b, h19⟩ := xkb h19
    refine x_callV (As := [.ref t18, .int x2]) (rest := []) (st1 := [.long t20]) S hw (c_Judge_matches h19) (cwV 2 S.2.2.2.2 gv_Judge_65 rfl rfl rfl hd_Judge_matches ⟨Nat.le_of_ble_eq_true rfl, Nat.le_of_ble_eq_true rfl⟩) rfl h19b rfl hl.1 rfl rfl (Nat.le_of_ble_eq_true rfl) d_Judge_ofPerson_92 ⟨Nat.le_of_ble_eq_true rfl, Nat.le_of_ble_eq_true rfl⟩ (fun H locs hw => ?_)
    obtain rfl := xe1 hf
    exact x_lret S hr hlocks hw d_Judge_ofPerson_95
  replace hf := xf c17 hf
  by_cases c21 : t1 = 4
  · replace hf := xt c21 hf
    refine lv_tableIn (tgt := 96) S.1 S.2.1 d_Judge_ofPerson_4 (by rw [c21]; decide) (by rw [c21]; decide) (by rw [c21]; rfl) (by decide) ?_
    refine lv_aload_n S.1 S.2.1 d_Judge_ofPerson_96 rfl (lv_at hl 0 rfl) ?_
    refine lv_aload_n S.1 S.2.1 d_Judge_ofPerson_97 rfl (lv_at hl 1 rfl) ?_
    obtain ⟨t22, ht22, hf⟩ := xb hf
    refine x_getr S hw lk_Judge_61 ht22 d_Judge_ofPerson_98 ?_
    refine lv_iload_n S.1 S.2.1 d_Judge_ofPerson_101 rfl (lv_at hl 2 rfl) ?_
    obtain ⟨t24, h23, hf⟩ := xb hf
    obtain ⟨h23b, h23⟩ := xkb h23
    refine x_callV (As := [.ref t22, .int x2]) (rest := []) (st1 := [.int t24]) S hw (c_Judge_isWord h23) (cwV 2 S.2.2.2.2 gv_Judge_69 rfl rfl rfl hd_Judge_isWord ⟨Nat.le_of_ble_eq_true rfl, Nat.le_of_ble_eq_true rfl⟩) rfl h23b rfl hl.1 rfl rfl (Nat.le_of_ble_eq_true rfl) d_Judge_ofPerson_102 ⟨Nat.le_of_ble_eq_true rfl, Nat.le_of_ble_eq_true rfl⟩ (fun H locs hw => ?_)
    refine lv_if_eq (tgt := 112) S.1 S.2.1 d_Judge_ofPerson_105 (by decide) (fun c25 => ?_) (fun c25 => ?_)
    · replace hf := xt c25 hf
      refine lv_lconst (v := 1) S.1 S.2.1 d_Judge_ofPerson_112 (by decide) ?_
      obtain rfl := xe1 hf
      exact x_lret S hr hlocks hw d_Judge_ofPerson_113
    · replace hf := xf c25 hf
      refine lv_lconst (v := 0) S.1 S.2.1 d_Judge_ofPerson_108 (by decide) ?_
      refine lv_goto (tgt := 113) S.1 S.2.1 d_Judge_ofPerson_109 (by decide) ?_
      obtain rfl := xe1 hf
      exact x_lret S hr hlocks hw d_Judge_ofPerson_113
  replace hf := xf c21 hf
  refine lv_tableOut (tgt := 114) S.1 S.2.1 d_Judge_ofPerson_4 (by have h_c2 := lv_neT (a := 0) c2 (by decide); have h_c7 := lv_neT (a := 1) c7 (by decide); have h_c11 := lv_neT (a := 2) c11 (by decide); have h_c17 := lv_neT (a := 3) c17 (by decide); have h_c21 := lv_neT (a := 4) c21 (by decide); omega) (by decide) ?_
  refine lv_lconst (v := 0) S.1 S.2.1 d_Judge_ofPerson_114 (by decide) ?_
  obtain rfl := xe1 hf
  exact x_lret S hr hlocks hw d_Judge_ofPerson_115
def f_Judge_everywhere_64 : Nat → Nat → Nat → Int64 → Int32 → xS → Option Int64
  | 0, _, _, _, _, _ => none
  | n + 1, a0, a1, x2, x4, ω =>
    (xgr ω a0 3 0).bind fun t8 =>
    (xgi ω t8 8 0).bind fun t9 =>
    if t9 ≤ x4 then (
      some x2)
    else (
      (xk ω a0 3 (f_Judge_ofPerson a0 a1 x4 ω)).bind fun t12 =>
      f_Judge_everywhere_64  n a0 a1 (x2 + t12) (x4 + 1) ω)
set_option maxHeartbeats 4000000 in
set_option maxRecDepth 100000 in
theorem w_Judge_everywhere_64 {p : Program} {l : Launch} {e : Env} {s : State} {m : MethodId} {args : Array Value} {below : List Frame} {meth : Method} {c : Code} {E : xV} {z : Nat} {r : Int64} {ω : xS} (S : CallFix p m c b_Judge_everywhere 5 s args xTbl "RosterRules$Judge") (hr : meth.sig.returnType = (some .long)) (hlocks : meth.locks = false) : ∀ n : Nat, ∀ (a0 : Nat) (a1 : Nat) (x2 : Int64) (x4 : Int32) (H : Heap) (locs : List Loc) (ls : Array Slot), xW E z ω s s.heap H locs → lv_has ls 5 [(0, .ref a0), (1, .ref a1), (2, .long x2), (4, .int x4)] → f_Judge_everywhere_64 n a0 a1 x2 x4 ω = some r → W p l e (headSpec ws_Judge_everywhere { frames := 4, cells := 0, slots := 0, locals := 99 }).room s m args below meth c H locs 0 0 (MQ below (xQ E (some (.long r)) z ω) args s 0 0 (fun q => E.2.2 ≤ q)) (F0 m 64 ls []) := by
  intro n
  induction n with
  | zero =>
    intro a0 a1 x2 x4 H locs ls hw hl hf
    have h2 : (none : Option Int64) = some r := hf
    cases h2
  | succ n ih =>
    intro a0 a1 x2 x4 H locs ls hw hl hf
    rw [f_Judge_everywhere_64] at hf
    refine lv_iload S.1 S.2.1 d_Judge_everywhere_64 (lv_at hl 3 rfl) ?_
    refine lv_aload_n S.1 S.2.1 d_Judge_everywhere_66 rfl (lv_at hl 0 rfl) ?_
    obtain ⟨t8, ht8, hf⟩ := xb hf
    refine x_getr S hw lk_Judge_9 ht8 d_Judge_everywhere_67 ?_
    obtain ⟨t9, ht9, hf⟩ := xb hf
    refine x_geti S hw lk_Judge_37 ht9 d_Judge_everywhere_70 ?_
    refine lv_icmp_ge (tgt := 92) S.1 S.2.1 d_Judge_everywhere_73 (by decide) (fun c10 => ?_) (fun c10 => ?_)
    · replace hf := xt c10 hf
      refine lv_lload_n S.1 S.2.1 d_Judge_everywhere_92 rfl (lv_at hl 2 rfl) ?_
      obtain rfl := xe1 hf
      exact x_lret S hr hlocks hw d_Judge_everywhere_93
    · replace hf := xf c10 hf
      refine lv_lload_n S.1 S.2.1 d_Judge_everywhere_76 rfl (lv_at hl 2 rfl) ?_
      refine lv_aload_n S.1 S.2.1 d_Judge_everywhere_77 rfl (lv_at hl 0 rfl) ?_
      refine lv_aload_n S.1 S.2.1 d_Judge_everywhere_78 rfl (lv_at hl 1 rfl) ?_
      refine lv_iload S.1 S.2.1 d_Judge_everywhere_79 (lv_at hl 3 rfl) ?_
      obtain ⟨t12, h11, hf⟩ := xb hf
      obtain ⟨h11b, h11⟩ := xkb h11
      refine x_callV (As := [.ref a1, .int x4]) (rest := [.long x2]) (st1 := [.long t12, .long x2]) S hw (c_Judge_ofPerson h11) (cwV 2 S.2.2.2.2 gv_Judge_40 rfl rfl rfl hd_Judge_ofPerson ⟨Nat.le_of_ble_eq_true rfl, Nat.le_of_ble_eq_true rfl⟩) rfl h11b rfl hl.1 rfl rfl (Nat.le_of_ble_eq_true rfl) d_Judge_everywhere_81 ⟨Nat.le_of_ble_eq_true rfl, Nat.le_of_ble_eq_true rfl⟩ (fun H locs hw => ?_)
      refine lv_ladd S.1 S.2.1 d_Judge_everywhere_84 ?_
      refine lv_lstore_n (lv' := [(2, .long (x2 + t12)), (0, .ref a0), (1, .ref a1), (4, .int x4)]) S.1 S.2.1 d_Judge_everywhere_85 rfl hl (by decide) rfl (fun ls hl => ?_)
      refine lv_iinc (v := (x4 + 1)) (lv' := [(4, .int (x4 + 1)), (2, .long (x2 + t12)), (0, .ref a0), (1, .ref a1)]) S.1 S.2.1 d_Judge_everywhere_86 hl (k := 3) rfl rfl (by decide) rfl (fun ls hl => ?_)
      refine lv_goto (tgt := 64) S.1 S.2.1 d_Judge_everywhere_89 (by decide) ?_
      exact ih _ _ _ _ _ _ _ hw (lv_sub hl [2, 3, 1, 0] rfl) hf
def f_Judge_everywhere_31 : Nat → Nat → Nat → Int64 → Int32 → xS → Option Int64
  | 0, _, _, _, _, _ => none
  | n + 1, a0, a1, x2, x4, ω =>
    (xgr ω a0 3 0).bind fun t13 =>
    (xgi ω t13 8 1).bind fun t14 =>
    if t14 ≤ x4 then (
      some x2)
    else (
      (xk ω a0 3 (f_Judge_coverAmiss a0 a1 x4 ω)).bind fun t17 =>
      f_Judge_everywhere_31  n a0 a1 (x2 + t17) (x4 + 1) ω)
set_option maxHeartbeats 4000000 in
set_option maxRecDepth 100000 in
theorem w_Judge_everywhere_31 {p : Program} {l : Launch} {e : Env} {s : State} {m : MethodId} {args : Array Value} {below : List Frame} {meth : Method} {c : Code} {E : xV} {z : Nat} {r : Int64} {ω : xS} (S : CallFix p m c b_Judge_everywhere 5 s args xTbl "RosterRules$Judge") (hr : meth.sig.returnType = (some .long)) (hlocks : meth.locks = false) : ∀ n : Nat, ∀ (a0 : Nat) (a1 : Nat) (x2 : Int64) (x4 : Int32) (H : Heap) (locs : List Loc) (ls : Array Slot), xW E z ω s s.heap H locs → lv_has ls 5 [(0, .ref a0), (1, .ref a1), (2, .long x2), (4, .int x4)] → f_Judge_everywhere_31 n a0 a1 x2 x4 ω = some r → W p l e (headSpec ws_Judge_everywhere { frames := 4, cells := 0, slots := 0, locals := 99 }).room s m args below meth c H locs 0 0 (MQ below (xQ E (some (.long r)) z ω) args s 0 0 (fun q => E.2.2 ≤ q)) (F0 m 31 ls []) := by
  intro n
  induction n with
  | zero =>
    intro a0 a1 x2 x4 H locs ls hw hl hf
    have h2 : (none : Option Int64) = some r := hf
    cases h2
  | succ n ih =>
    intro a0 a1 x2 x4 H locs ls hw hl hf
    rw [f_Judge_everywhere_31] at hf
    refine lv_iload S.1 S.2.1 d_Judge_everywhere_31 (lv_at hl 3 rfl) ?_
    refine lv_aload_n S.1 S.2.1 d_Judge_everywhere_33 rfl (lv_at hl 0 rfl) ?_
    obtain ⟨t13, ht13, hf⟩ := xb hf
    refine x_getr S hw lk_Judge_9 ht13 d_Judge_everywhere_34 ?_
    obtain ⟨t14, ht14, hf⟩ := xb hf
    refine x_geti S hw lk_Judge_28 ht14 d_Judge_everywhere_37 ?_
    refine lv_icmp_ge (tgt := 59) S.1 S.2.1 d_Judge_everywhere_40 (by decide) (fun c15 => ?_) (fun c15 => ?_)
    · replace hf := xt c15 hf
      refine lv_lload_n S.1 S.2.1 d_Judge_everywhere_59 rfl (lv_at hl 2 rfl) ?_
      obtain rfl := xe1 hf
      exact x_lret S hr hlocks hw d_Judge_everywhere_60
    · replace hf := xf c15 hf
      refine lv_lload_n S.1 S.2.1 d_Judge_everywhere_43 rfl (lv_at hl 2 rfl) ?_
      refine lv_aload_n S.1 S.2.1 d_Judge_everywhere_44 rfl (lv_at hl 0 rfl) ?_
      refine lv_aload_n S.1 S.2.1 d_Judge_everywhere_45 rfl (lv_at hl 1 rfl) ?_
      refine lv_iload S.1 S.2.1 d_Judge_everywhere_46 (lv_at hl 3 rfl) ?_
      obtain ⟨t17, h16, hf⟩ := xb hf
      obtain ⟨h16b, h16⟩ := xkb h16
      refine x_callV (As := [.ref a1, .int x4]) (rest := [.long x2]) (st1 := [.long t17, .long x2]) S hw (c_Judge_coverAmiss h16) (cwV 2 S.2.2.2.2 gv_Judge_33 rfl rfl rfl hd_Judge_coverAmiss ⟨Nat.le_of_ble_eq_true rfl, Nat.le_of_ble_eq_true rfl⟩) rfl h16b rfl hl.1 rfl rfl (Nat.le_of_ble_eq_true rfl) d_Judge_everywhere_48 ⟨Nat.le_of_ble_eq_true rfl, Nat.le_of_ble_eq_true rfl⟩ (fun H locs hw => ?_)
      refine lv_ladd S.1 S.2.1 d_Judge_everywhere_51 ?_
      refine lv_lstore_n (lv' := [(2, .long (x2 + t17)), (0, .ref a0), (1, .ref a1), (4, .int x4)]) S.1 S.2.1 d_Judge_everywhere_52 rfl hl (by decide) rfl (fun ls hl => ?_)
      refine lv_iinc (v := (x4 + 1)) (lv' := [(4, .int (x4 + 1)), (2, .long (x2 + t17)), (0, .ref a0), (1, .ref a1)]) S.1 S.2.1 d_Judge_everywhere_53 hl (k := 3) rfl rfl (by decide) rfl (fun ls hl => ?_)
      refine lv_goto (tgt := 31) S.1 S.2.1 d_Judge_everywhere_56 (by decide) ?_
      exact ih _ _ _ _ _ _ _ hw (lv_sub hl [2, 3, 1, 0] rfl) hf
def f_Judge_everywhere (a0 : Nat) (a1 : Nat) (ω : xS) : Option Int64 :=
  (xgi ω a1 4 2).bind fun t1 =>
  if t1 = 5 then (
    (xgi ω a1 4 8).bind fun t5 =>
    (xk ω a0 3 (f_Judge_unfairness a0 t5 ω)).bind fun t7 =>
    some t7)
  else (
    (xgi ω a1 4 2).bind fun t3 =>
    if t3 = 6 then (
      f_Judge_everywhere_31  xFU a0 a1 0 0 ω)
    else (
      f_Judge_everywhere_64  xFU a0 a1 0 0 ω))
set_option maxHeartbeats 4000000 in
set_option maxRecDepth 100000 in
theorem c_Judge_everywhere {l : Launch} {E : xV} {z : Nat} {a0 : Nat} {a1 : Nat} {r : Int64} {ω : xS} (hf : f_Judge_everywhere a0 a1 ω = some r) : xM l E y_Judge_everywhere ws_Judge_everywhere { frames := 4, cells := 0, slots := 0, locals := 99 } [.ref a0, .ref a1] z ω (some (.long r)) z ω := by
  refine x_start (cc := b_Judge_everywhere) (maxL := 5) (ret := (some .long)) (by decide) rfl (Nat.le_of_ble_eq_true rfl) ?_
  intro p e s m below meth c S hr hlocks hin ls hl hw
  have hl : lv_has ls 5 [(0, .ref a0), (1, .ref a1)] := hl
  unfold f_Judge_everywhere at hf
  refine lv_aload_n S.1 S.2.1 d_Judge_everywhere_0 rfl (lv_at hl 1 rfl) ?_
  obtain ⟨t1, ht1, hf⟩ := xb hf
  refine x_geti S hw lk_Judge_15 ht1 d_Judge_everywhere_1 ?_
  refine lv_iconst (v := 5) S.1 S.2.1 d_Judge_everywhere_4 (by decide) ?_
  refine lv_icmp_ne (tgt := 17) S.1 S.2.1 d_Judge_everywhere_5 (by decide) (fun c2 => ?_) (fun c2 => ?_)
  · replace hf := xf c2 hf
    refine lv_lconst (v := 0) S.1 S.2.1 d_Judge_everywhere_17 (by decide) ?_
    refine lv_lstore_n (lv' := [(2, .long 0), (0, .ref a0), (1, .ref a1)]) S.1 S.2.1 d_Judge_everywhere_18 rfl hl (by decide) rfl (fun ls hl => ?_)
    refine lv_aload_n S.1 S.2.1 d_Judge_everywhere_19 rfl (lv_at hl 2 rfl) ?_
    obtain ⟨t3, ht3, hf⟩ := xb hf
    refine x_geti S hw lk_Judge_15 ht3 d_Judge_everywhere_20 ?_
    refine lv_bipush (v := 6) S.1 S.2.1 d_Judge_everywhere_23 (by decide) ?_
    refine lv_icmp_ne (tgt := 61) S.1 S.2.1 d_Judge_everywhere_25 (by decide) (fun c4 => ?_) (fun c4 => ?_)
    · replace hf := xf c4 hf
      refine lv_iconst (v := 0) S.1 S.2.1 d_Judge_everywhere_61 (by decide) ?_
      refine lv_istore (lv' := [(4, .int 0), (2, .long 0), (0, .ref a0), (1, .ref a1)]) S.1 S.2.1 d_Judge_everywhere_62 hl (by decide) rfl (fun ls hl => ?_)
      exact w_Judge_everywhere_64 S hr hlocks  _ _ _ _ _ _ _ _ hw (lv_sub hl [2, 3, 1, 0] rfl) hf
    · replace hf := xt c4 hf
      refine lv_iconst (v := 0) S.1 S.2.1 d_Judge_everywhere_28 (by decide) ?_
      refine lv_istore (lv' := [(4, .int 0), (2, .long 0), (0, .ref a0), (1, .ref a1)]) S.1 S.2.1 d_Judge_everywhere_29 hl (by decide) rfl (fun ls hl => ?_)
      exact w_Judge_everywhere_31 S hr hlocks  _ _ _ _ _ _ _ _ hw (lv_sub hl [2, 3, 1, 0] rfl) hf
  · replace hf := xt c2 hf
    refine lv_aload_n S.1 S.2.1 d_Judge_everywhere_8 rfl (lv_at hl 0 rfl) ?_
    refine lv_aload_n S.1 S.2.1 d_Judge_everywhere_9 rfl (lv_at hl 1 rfl) ?_
    obtain ⟨t5, ht5, hf⟩ := xb hf
    refine x_geti S hw lk_Judge_21 ht5 d_Judge_everywhere_10 ?_
    obtain ⟨t7, h6, hf⟩ := xb hf
    obtain ⟨h6b, h6⟩ := xkb h6
    refine x_callV (As := [.int t5]) (rest := []) (st1 := [.long t7]) S hw (c_Judge_unfairness h6) (cwV 1 S.2.2.2.2 gv_Judge_24 rfl rfl rfl hd_Judge_unfairness ⟨Nat.le_of_ble_eq_true rfl, Nat.le_of_ble_eq_true rfl⟩) rfl h6b rfl hl.1 rfl rfl (Nat.le_of_ble_eq_true rfl) d_Judge_everywhere_13 ⟨Nat.le_of_ble_eq_true rfl, Nat.le_of_ble_eq_true rfl⟩ (fun H locs hw => ?_)
    obtain rfl := xe1 hf
    exact x_lret S hr hlocks hw d_Judge_everywhere_16
def f_Judge_aroundCell (a0 : Nat) (a1 : Nat) (x2 : Int32) (x3 : Int32) (ω : xS) : Option Int64 :=
  (xgi ω a1 4 2).bind fun t1 =>
  if t1 = 0 then (
    (xk ω a0 3 (f_Judge_unskilled a0 x2 x3 x3 ω)).bind fun t4 =>
    some t4)
  else (
  if t1 = 1 then (
    (xk ω a0 3 (f_Judge_ofPerson a0 a1 x2 ω)).bind fun t7 =>
    some t7)
  else (
  if t1 = 2 then (
    (xgi ω a1 4 7).bind fun t9 =>
    (xgr ω a0 3 0).bind fun t10 =>
    (xgi ω t10 8 1).bind fun t11 =>
    (xgi ω a1 4 7).bind fun t12 =>
    (xk ω a0 3 (f_Judge_hoursAmiss a0 a1 x2 (xmax 0 ((x3 - t9) + 1)) (xmin x3 (t11 - t12)) ω)).bind fun t14 =>
    some t14)
  else (
  if t1 = 3 then (
    (xk ω a0 3 (f_Judge_ofPerson a0 a1 x2 ω)).bind fun t17 =>
    some t17)
  else (
  if t1 = 4 then (
    (xk ω a0 3 (f_Judge_ofPerson a0 a1 x2 ω)).bind fun t20 =>
    some t20)
  else (
  if t1 = 5 then (
    (xgi ω a1 4 8).bind fun t22 =>
    (xk ω a0 3 (f_Judge_unfairness a0 t22 ω)).bind fun t24 =>
    some t24)
  else (
  if t1 = 6 then (
    (xk ω a0 3 (f_Judge_coverAmiss a0 a1 x3 ω)).bind fun t27 =>
    some t27)
  else (
  (xk ω a0 3 (f_Judge_ofPerson a0 a1 x2 ω)).bind fun t29 =>
  some t29)))))))
set_option maxHeartbeats 4000000 in
set_option maxRecDepth 100000 in
theorem c_Judge_aroundCell {l : Launch} {E : xV} {z : Nat} {a0 : Nat} {a1 : Nat} {x2 : Int32} {x3 : Int32} {r : Int64} {ω : xS} (hf : f_Judge_aroundCell a0 a1 x2 x3 ω = some r) : xM l E y_Judge_aroundCell ws_Judge_aroundCell { frames := 4, cells := 0, slots := 0, locals := 99 } [.ref a0, .ref a1, .int x2, .int x3] z ω (some (.long r)) z ω := by
  refine x_start (cc := b_Judge_aroundCell) (maxL := 4) (ret := (some .long)) (by decide) rfl (Nat.le_of_ble_eq_true rfl) ?_
  intro p e s m below meth c S hr hlocks hin ls hl hw
  have hl : lv_has ls 4 [(0, .ref a0), (1, .ref a1), (2, .int x2), (3, .int x3)] := hl
  unfold f_Judge_aroundCell at hf
  refine lv_aload_n S.1 S.2.1 d_Judge_aroundCell_0 rfl (lv_at hl 1 rfl) ?_
  obtain ⟨t1, ht1, hf⟩ := xb hf
  refine x_geti S hw lk_Judge_15 ht1 d_Judge_aroundCell_1 ?_
  by_cases c2 : t1 = 0
  · replace hf := xt c2 hf
    refine lv_tableIn (tgt := 48) S.1 S.2.1 d_Judge_aroundCell_4 (by rw [c2]; decide) (by rw [c2]; decide) (by rw [c2]; rfl) (by decide) ?_
    refine lv_aload_n S.1 S.2.1 d_Judge_aroundCell_48 rfl (lv_at hl 0 rfl) ?_
    refine lv_iload_n S.1 S.2.1 d_Judge_aroundCell_49 rfl (lv_at hl 2 rfl) ?_
    refine lv_iload_n S.1 S.2.1 d_Judge_aroundCell_50 rfl (lv_at hl 3 rfl) ?_
    refine lv_iload_n S.1 S.2.1 d_Judge_aroundCell_51 rfl (lv_at hl 3 rfl) ?_
    obtain ⟨t4, h3, hf⟩ := xb hf
    obtain ⟨h3b, h3⟩ := xkb h3
    refine x_callV (As := [.int x2, .int x3, .int x3]) (rest := []) (st1 := [.long t4]) S hw (c_Judge_unskilled h3) (cwV 3 S.2.2.2.2 gv_Judge_43 rfl rfl rfl hd_Judge_unskilled ⟨Nat.le_of_ble_eq_true rfl, Nat.le_of_ble_eq_true rfl⟩) rfl h3b rfl hl.1 rfl rfl (Nat.le_of_ble_eq_true rfl) d_Judge_aroundCell_52 ⟨Nat.le_of_ble_eq_true rfl, Nat.le_of_ble_eq_true rfl⟩ (fun H locs hw => ?_)
    obtain rfl := xe1 hf
    exact x_lret S hr hlocks hw d_Judge_aroundCell_55
  replace hf := xf c2 hf
  by_cases c5 : t1 = 1
  · replace hf := xt c5 hf
    refine lv_tableIn (tgt := 107) S.1 S.2.1 d_Judge_aroundCell_4 (by rw [c5]; decide) (by rw [c5]; decide) (by rw [c5]; rfl) (by decide) ?_
    refine lv_aload_n S.1 S.2.1 d_Judge_aroundCell_107 rfl (lv_at hl 0 rfl) ?_
    refine lv_aload_n S.1 S.2.1 d_Judge_aroundCell_108 rfl (lv_at hl 1 rfl) ?_
    refine lv_iload_n S.1 S.2.1 d_Judge_aroundCell_109 rfl (lv_at hl 2 rfl) ?_
    obtain ⟨t7, h6, hf⟩ := xb hf
    obtain ⟨h6b, h6⟩ := xkb h6
    refine x_callV (As := [.ref a1, .int x2]) (rest := []) (st1 := [.long t7]) S hw (c_Judge_ofPerson h6) (cwV 2 S.2.2.2.2 gv_Judge_40 rfl rfl rfl hd_Judge_ofPerson ⟨Nat.le_of_ble_eq_true rfl, Nat.le_of_ble_eq_true rfl⟩) rfl h6b rfl hl.1 rfl rfl (Nat.le_of_ble_eq_true rfl) d_Judge_aroundCell_110 ⟨Nat.le_of_ble_eq_true rfl, Nat.le_of_ble_eq_true rfl⟩ (fun H locs hw => ?_)
    obtain rfl := xe1 hf
    exact x_lret S hr hlocks hw d_Judge_aroundCell_113
  replace hf := xf c5 hf
  by_cases c8 : t1 = 2
  · replace hf := xt c8 hf
    refine lv_tableIn (tgt := 56) S.1 S.2.1 d_Judge_aroundCell_4 (by rw [c8]; decide) (by rw [c8]; decide) (by rw [c8]; rfl) (by decide) ?_
    refine lv_aload_n S.1 S.2.1 d_Judge_aroundCell_56 rfl (lv_at hl 0 rfl) ?_
    refine lv_aload_n S.1 S.2.1 d_Judge_aroundCell_57 rfl (lv_at hl 1 rfl) ?_
    refine lv_iload_n S.1 S.2.1 d_Judge_aroundCell_58 rfl (lv_at hl 2 rfl) ?_
    refine lv_iconst (v := 0) S.1 S.2.1 d_Judge_aroundCell_59 (by decide) ?_
    refine lv_iload_n S.1 S.2.1 d_Judge_aroundCell_60 rfl (lv_at hl 3 rfl) ?_
    refine lv_aload_n S.1 S.2.1 d_Judge_aroundCell_61 rfl (lv_at hl 1 rfl) ?_
    obtain ⟨t9, ht9, hf⟩ := xb hf
    refine x_geti S hw lk_Judge_54 ht9 d_Judge_aroundCell_62 ?_
    refine lv_isub S.1 S.2.1 d_Judge_aroundCell_65 ?_
    refine lv_iconst (v := 1) S.1 S.2.1 d_Judge_aroundCell_66 (by decide) ?_
    refine lv_iadd S.1 S.2.1 d_Judge_aroundCell_67 ?_
    refine x_mmax S hl.1 lm_Judge_73 d_Judge_aroundCell_68 (Nat.le_of_ble_eq_true rfl) (Nat.le_of_ble_eq_true rfl) (Nat.zero_le _) (Nat.zero_le _) ?_
    refine lv_iload_n S.1 S.2.1 d_Judge_aroundCell_71 rfl (lv_at hl 3 rfl) ?_
    refine lv_aload_n S.1 S.2.1 d_Judge_aroundCell_72 rfl (lv_at hl 0 rfl) ?_
    obtain ⟨t10, ht10, hf⟩ := xb hf
    refine x_getr S hw lk_Judge_9 ht10 d_Judge_aroundCell_73 ?_
    obtain ⟨t11, ht11, hf⟩ := xb hf
    refine x_geti S hw lk_Judge_28 ht11 d_Judge_aroundCell_76 ?_
    refine lv_aload_n S.1 S.2.1 d_Judge_aroundCell_79 rfl (lv_at hl 1 rfl) ?_
    obtain ⟨t12, ht12, hf⟩ := xb hf
    refine x_geti S hw lk_Judge_54 ht12 d_Judge_aroundCell_80 ?_
    refine lv_isub S.1 S.2.1 d_Judge_aroundCell_83 ?_
    refine x_mmin S hl.1 lm_Judge_79 d_Judge_aroundCell_84 (Nat.le_of_ble_eq_true rfl) (Nat.le_of_ble_eq_true rfl) (Nat.zero_le _) (Nat.zero_le _) ?_
    obtain ⟨t14, h13, hf⟩ := xb hf
    obtain ⟨h13b, h13⟩ := xkb h13
    refine x_callV (As := [.ref a1, .int x2, .int (xmax 0 ((x3 - t9) + 1)), .int (xmin x3 (t11 - t12))]) (rest := []) (st1 := [.long t14]) S hw (c_Judge_hoursAmiss h13) (cwV 4 S.2.2.2.2 gv_Judge_57 rfl rfl rfl hd_Judge_hoursAmiss ⟨Nat.le_of_ble_eq_true rfl, Nat.le_of_ble_eq_true rfl⟩) rfl h13b rfl hl.1 rfl rfl (Nat.le_of_ble_eq_true rfl) d_Judge_aroundCell_87 ⟨Nat.le_of_ble_eq_true rfl, Nat.le_of_ble_eq_true rfl⟩ (fun H locs hw => ?_)
    obtain rfl := xe1 hf
    exact x_lret S hr hlocks hw d_Judge_aroundCell_90
  replace hf := xf c8 hf
  by_cases c15 : t1 = 3
  · replace hf := xt c15 hf
    refine lv_tableIn (tgt := 107) S.1 S.2.1 d_Judge_aroundCell_4 (by rw [c15]; decide) (by rw [c15]; decide) (by rw [c15]; rfl) (by decide) ?_
    refine lv_aload_n S.1 S.2.1 d_Judge_aroundCell_107 rfl (lv_at hl 0 rfl) ?_
    refine lv_aload_n S.1 S.2.1 d_Judge_aroundCell_108 rfl (lv_at hl 1 rfl) ?_
    refine lv_iload_n S.1 S.2.1 d_Judge_aroundCell_109 rfl (lv_at hl 2 rfl) ?_
    obtain ⟨t17, h16, hf⟩ := xb hf
    obtain ⟨h16b, h16⟩ := xkb h16
    refine x_callV (As := [.ref a1, .int x2]) (rest := []) (st1 := [.long t17]) S hw (c_Judge_ofPerson h16) (cwV 2 S.2.2.2.2 gv_Judge_40 rfl rfl rfl hd_Judge_ofPerson ⟨Nat.le_of_ble_eq_true rfl, Nat.le_of_ble_eq_true rfl⟩) rfl h16b rfl hl.1 rfl rfl (Nat.le_of_ble_eq_true rfl) d_Judge_aroundCell_110 ⟨Nat.le_of_ble_eq_true rfl, Nat.le_of_ble_eq_true rfl⟩ (fun H locs hw => ?_)
    obtain rfl := xe1 hf
    exact x_lret S hr hlocks hw d_Judge_aroundCell_113
  replace hf := xf c15 hf
  by_cases c18 : t1 = 4
  · replace hf := xt c18 hf
    refine lv_tableIn (tgt := 107) S.1 S.2.1 d_Judge_aroundCell_4 (by rw [c18]; decide) (by rw [c18]; decide) (by rw [c18]; rfl) (by decide) ?_
    refine lv_aload_n S.1 S.2.1 d_Judge_aroundCell_107 rfl (lv_at hl 0 rfl) ?_
    refine lv_aload_n S.1 S.2.1 d_Judge_aroundCell_108 rfl (lv_at hl 1 rfl) ?_
    refine lv_iload_n S.1 S.2.1 d_Judge_aroundCell_109 rfl (lv_at hl 2 rfl) ?_
    obtain ⟨t20, h19, hf⟩ := xb hf
    obtain ⟨h19b, h19⟩ := xkb h19
    refine x_callV (As := [.ref a1, .int x2]) (rest := []) (st1 := [.long t20]) S hw (c_Judge_ofPerson h19) (cwV 2 S.2.2.2.2 gv_Judge_40 rfl rfl rfl hd_Judge_ofPerson ⟨Nat.le_of_ble_eq_true rfl, Nat.le_of_ble_eq_true rfl⟩) rfl h19b rfl hl.1 rfl rfl (Nat.le_of_ble_eq_true rfl) d_Judge_aroundCell_110 ⟨Nat.le_of_ble_eq_true rfl, Nat.le_of_ble_eq_true rfl⟩ (fun H locs hw => ?_)
    obtain rfl := xe1 hf
    exact x_lret S hr hlocks hw d_Judge_aroundCell_113
  replace hf := xf c18 hf
  by_cases c21 : t1 = 5
  · replace hf := xt c21 hf
    refine lv_tableIn (tgt := 91) S.1 S.2.1 d_Judge_aroundCell_4 (by rw [c21]; decide) (by rw [c21]; decide) (by rw [c21]; rfl) (by decide) ?_
    refine lv_aload_n S.1 S.2.1 d_Judge_aroundCell_91 rfl (lv_at hl 0 rfl) ?_
    refine lv_aload_n S.1 S.2.1 d_Judge_aroundCell_92 rfl (lv_at hl 1 rfl) ?_
    obtain ⟨t22, ht22, hf⟩ := xb hf
    refine x_geti S hw lk_Judge_21 ht22 d_Judge_aroundCell_93 ?_
    obtain ⟨t24, h23, hf⟩ := xb hf
    obtain ⟨h23b, h23⟩ := xkb h23
    refine x_callV (As := [.int t22]) (rest := []) (st1 := [.long t24]) S hw (c_Judge_unfairness h23) (cwV 1 S.2.2.2.2 gv_Judge_24 rfl rfl rfl hd_Judge_unfairness ⟨Nat.le_of_ble_eq_true rfl, Nat.le_of_ble_eq_true rfl⟩) rfl h23b rfl hl.1 rfl rfl (Nat.le_of_ble_eq_true rfl) d_Judge_aroundCell_96 ⟨Nat.le_of_ble_eq_true rfl, Nat.le_of_ble_eq_true rfl⟩ (fun H locs hw => ?_)
    obtain rfl := xe1 hf
    exact x_lret S hr hlocks hw d_Judge_aroundCell_99
  replace hf := xf c21 hf
  by_cases c25 : t1 = 6
  · replace hf := xt c25 hf
    refine lv_tableIn (tgt := 100) S.1 S.2.1 d_Judge_aroundCell_4 (by rw [c25]; decide) (by rw [c25]; decide) (by rw [c25]; rfl) (by decide) ?_
    refine lv_aload_n S.1 S.2.1 d_Judge_aroundCell_100 rfl (lv_at hl 0 rfl) ?_
    refine lv_aload_n S.1 S.2.1 d_Judge_aroundCell_101 rfl (lv_at hl 1 rfl) ?_
    refine lv_iload_n S.1 S.2.1 d_Judge_aroundCell_102 rfl (lv_at hl 3 rfl) ?_
    obtain ⟨t27, h26, hf⟩ := xb hf
    obtain ⟨h26b, h26⟩ := xkb h26
    refine x_callV (As := [.ref a1, .int x3]) (rest := []) (st1 := [.long t27]) S hw (c_Judge_coverAmiss h26) (cwV 2 S.2.2.2.2 gv_Judge_33 rfl rfl rfl hd_Judge_coverAmiss ⟨Nat.le_of_ble_eq_true rfl, Nat.le_of_ble_eq_true rfl⟩) rfl h26b rfl hl.1 rfl rfl (Nat.le_of_ble_eq_true rfl) d_Judge_aroundCell_103 ⟨Nat.le_of_ble_eq_true rfl, Nat.le_of_ble_eq_true rfl⟩ (fun H locs hw => ?_)
    obtain rfl := xe1 hf
    exact x_lret S hr hlocks hw d_Judge_aroundCell_106
  replace hf := xf c25 hf
  refine lv_tableOut (tgt := 107) S.1 S.2.1 d_Judge_aroundCell_4 (by have h_c2 := lv_neT (a := 0) c2 (by decide); have h_c5 := lv_neT (a := 1) c5 (by decide); have h_c8 := lv_neT (a := 2) c8 (by decide); have h_c15 := lv_neT (a := 3) c15 (by decide); have h_c18 := lv_neT (a := 4) c18 (by decide); have h_c21 := lv_neT (a := 5) c21 (by decide); have h_c25 := lv_neT (a := 6) c25 (by decide); omega) (by decide) ?_
  refine lv_aload_n S.1 S.2.1 d_Judge_aroundCell_107 rfl (lv_at hl 0 rfl) ?_
  refine lv_aload_n S.1 S.2.1 d_Judge_aroundCell_108 rfl (lv_at hl 1 rfl) ?_
  refine lv_iload_n S.1 S.2.1 d_Judge_aroundCell_109 rfl (lv_at hl 2 rfl) ?_
  obtain ⟨t29, h28, hf⟩ := xb hf
  obtain ⟨h28b, h28⟩ := xkb h28
  refine x_callV (As := [.ref a1, .int x2]) (rest := []) (st1 := [.long t29]) S hw (c_Judge_ofPerson h28) (cwV 2 S.2.2.2.2 gv_Judge_40 rfl rfl rfl hd_Judge_ofPerson ⟨Nat.le_of_ble_eq_true rfl, Nat.le_of_ble_eq_true rfl⟩) rfl h28b rfl hl.1 rfl rfl (Nat.le_of_ble_eq_true rfl) d_Judge_aroundCell_110 ⟨Nat.le_of_ble_eq_true rfl, Nat.le_of_ble_eq_true rfl⟩ (fun H locs hw => ?_)
  obtain rfl := xe1 hf
  exact x_lret S hr hlocks hw d_Judge_aroundCell_113
def f_Positions_init (a0 : Nat) (z : Nat) (ω : xS) : Option xS :=
  xl (xu ω z (.inl (0, 9, .inl (fun _ => 0)))) fun w1 =>
  (xp w1 a0 7 0 (.ref z)).bind fun w2 =>
  xl (xu w2 (z + 1) (.inl (0, 10, .inl (fun _ => 0)))) fun w3 =>
  (xp w3 a0 7 1 (.ref (z + 1))).bind fun w4 =>
  xl (xu w4 (z + 2) (.inl (0, 32, .inl (fun _ => 0)))) fun w5 =>
  (xp w5 a0 7 2 (.ref (z + 2))).bind fun w6 =>
  xl (xu w6 (z + 3) (.inl (0, 32, .inl (fun _ => 0)))) fun w7 =>
  (xp w7 a0 7 3 (.ref (z + 3))).bind fun w8 =>
  some w8
set_option maxHeartbeats 4000000 in
set_option maxRecDepth 100000 in
theorem c_Positions_init {l : Launch} {E : xV} {z : Nat} {a0 : Nat} {ω1 : xS} {ω : xS} (hf : f_Positions_init a0 z ω = some ω1) : xM l E y_Positions_init ws_Positions_init { frames := 1, cells := 4, slots := 83, locals := 20 } [.ref a0] z ω none (z + 4) ω1 := by
  refine x_start (cc := b_Positions_init) (maxL := 1) (ret := none) (by decide) rfl (Nat.le_of_ble_eq_true rfl) ?_
  intro p e s m below meth c S hr hlocks hin ls hl hw
  have hl : lv_has ls 1 [(0, .ref a0)] := hl
  have hin := hin rfl
  unfold f_Positions_init at hf
  refine lv_aload_n S.1 S.2.1 d_Positions_init_0 rfl (lv_at hl 0 rfl) ?_
  refine x_obj S hl.1 ob_Positions_5 d_Positions_init_1 (Nat.le_of_ble_eq_true rfl) (Nat.le_of_ble_eq_true rfl) ?_
  refine lv_aload_n S.1 S.2.1 d_Positions_init_4 rfl (lv_at hl 0 rfl) ?_
  refine lv_bipush (v := 9) S.1 S.2.1 d_Positions_init_5 (by decide) ?_
  obtain ⟨w1, hw1, hf⟩ := xlb hf
  refine x_newi (N := 9) S hw xArr_i (by decide) (by decide) (by decide) hw1 (Nat.le_of_ble_eq_true rfl) (Nat.le_of_ble_eq_true rfl) d_Positions_init_7 (fun H hw => ?_)
  obtain ⟨w2, hw2, hf⟩ := xb hf
  refine x_putF S hin hw lf_Positions_11 rfl rfl hw2 d_Positions_init_9 (fun H locs hw => ?_)
  refine lv_aload_n S.1 S.2.1 d_Positions_init_12 rfl (lv_at hl 0 rfl) ?_
  refine lv_bipush (v := 10) S.1 S.2.1 d_Positions_init_13 (by decide) ?_
  obtain ⟨w3, hw3, hf⟩ := xlb hf
  refine x_newi (N := 10) S hw xArr_i (by decide) (by decide) (by decide) hw3 (Nat.le_of_ble_eq_true rfl) (Nat.le_of_ble_eq_true rfl) d_Positions_init_15 (fun H hw => ?_)
  obtain ⟨w4, hw4, hf⟩ := xb hf
  refine x_putF S hin hw lf_Positions_15 rfl rfl hw4 d_Positions_init_17 (fun H locs hw => ?_)
  refine lv_aload_n S.1 S.2.1 d_Positions_init_20 rfl (lv_at hl 0 rfl) ?_
  refine lv_bipush (v := 32) S.1 S.2.1 d_Positions_init_21 (by decide) ?_
  obtain ⟨w5, hw5, hf⟩ := xlb hf
  refine x_newi (N := 32) S hw xArr_i (by decide) (by decide) (by decide) hw5 (Nat.le_of_ble_eq_true rfl) (Nat.le_of_ble_eq_true rfl) d_Positions_init_23 (fun H hw => ?_)
  obtain ⟨w6, hw6, hf⟩ := xb hf
  refine x_putF S hin hw lf_Positions_18 rfl rfl hw6 d_Positions_init_25 (fun H locs hw => ?_)
  refine lv_aload_n S.1 S.2.1 d_Positions_init_28 rfl (lv_at hl 0 rfl) ?_
  refine lv_bipush (v := 32) S.1 S.2.1 d_Positions_init_29 (by decide) ?_
  obtain ⟨w7, hw7, hf⟩ := xlb hf
  refine x_newi (N := 32) S hw xArr_i (by decide) (by decide) (by decide) hw7 (Nat.le_of_ble_eq_true rfl) (Nat.le_of_ble_eq_true rfl) d_Positions_init_31 (fun H hw => ?_)
  obtain ⟨w8, hw8, hf⟩ := xb hf
  refine x_putF S hin hw lf_Positions_21 rfl rfl hw8 d_Positions_init_33 (fun H locs hw => ?_)
  cases hf
  exact x_vret S hr hlocks hw d_Positions_init_36
def f_Law_init (a0 : Nat) (z : Nat) (ω : xS) : Option xS :=
  xl (xu ω z (.inr (7, [.null, .null, .null, .null, .int 0, .int 0, .int 0, .int 0, .int 0]))) fun w1 =>
  (f_Positions_init z (z + 1) w1).bind fun w2 =>
  (xp w2 a0 4 0 (.ref z)).bind fun w4 =>
  xl (xu w4 (z + 5) (.inr (0, [.null, .int 0]))) fun w5 =>
  (f_Automaton_init (z + 5) (z + 6) w5).bind fun w6 =>
  (xp w6 a0 4 1 (.ref (z + 5))).bind fun w8 =>
  some w8
set_option maxHeartbeats 4000000 in
set_option maxRecDepth 100000 in
theorem c_Law_init {l : Launch} {E : xV} {z : Nat} {a0 : Nat} {ω1 : xS} {ω : xS} (hf : f_Law_init a0 z ω = some ω1) : xM l E y_Law_init ws_Law_init { frames := 2, cells := 7, slots := 94, locals := 40 } [.ref a0] z ω none (z + 7) ω1 := by
  refine x_start (cc := b_Law_init) (maxL := 1) (ret := none) (by decide) rfl (Nat.le_of_ble_eq_true rfl) ?_
  intro p e s m below meth c S hr hlocks hin ls hl hw
  have hl : lv_has ls 1 [(0, .ref a0)] := hl
  have hin := hin rfl
  unfold f_Law_init at hf
  refine lv_aload_n S.1 S.2.1 d_Law_init_0 rfl (lv_at hl 0 rfl) ?_
  refine x_obj S hl.1 ob_Law_1 d_Law_init_1 (Nat.le_of_ble_eq_true rfl) (Nat.le_of_ble_eq_true rfl) ?_
  refine lv_aload_n S.1 S.2.1 d_Law_init_4 rfl (lv_at hl 0 rfl) ?_
  obtain ⟨w1, hw1, hf⟩ := xlb hf
  refine x_new S hw nw_Law_7 hw1 (Nat.le_of_ble_eq_true rfl) (Nat.le_of_ble_eq_true rfl) d_Law_init_5 (fun H hw => ?_)
  refine lv_dup S.1 S.2.1 d_Law_init_8 rfl ?_
  obtain ⟨w2, h3, hf⟩ := xb hf
  refine x_callIN (As := []) (rest := [.ref z, .ref a0]) S hw (c_Positions_init h3) ⟨va_cnB (host := "RosterRules") 0 S.2.2.2.2 gi_Positions_init rfl rfl rfl (hw.1.2.2 _ wn_2_45) (S.2.2.2.2 _ wd_1_12) hi_Positions_init ⟨Nat.le_of_ble_eq_true rfl, Nat.le_of_ble_eq_true rfl⟩, rfl, S.2.2.2.2 _ wd_2_46⟩ rfl hl.1 rfl (Nat.le_of_ble_eq_true rfl) d_Law_init_9 ⟨Nat.le_of_ble_eq_true rfl, Nat.le_of_ble_eq_true rfl⟩ (fun H locs hw => ?_)
  obtain ⟨w4, hw4, hf⟩ := xb hf
  refine x_putF S hin hw lf_Law_10 rfl rfl hw4 d_Law_init_12 (fun H locs hw => ?_)
  refine lv_aload_n S.1 S.2.1 d_Law_init_15 rfl (lv_at hl 0 rfl) ?_
  obtain ⟨w5, hw5, hf⟩ := xlb hf
  refine x_new S hw nw_Law_16 hw5 (Nat.le_of_ble_eq_true rfl) (Nat.le_of_ble_eq_true rfl) d_Law_init_16 (fun H hw => ?_)
  refine lv_dup S.1 S.2.1 d_Law_init_19 rfl ?_
  obtain ⟨w6, h7, hf⟩ := xb hf
  refine x_callIN (As := []) (rest := [.ref (z + 5), .ref a0]) S hw (c_Automaton_init h7) ⟨va_cnB (host := "RosterRules") 0 S.2.2.2.2 gi_Automaton_init rfl rfl rfl (hw.1.2.2 _ wn_2_89) (S.2.2.2.2 _ wd_1_13) hi_Automaton_init ⟨Nat.le_of_ble_eq_true rfl, Nat.le_of_ble_eq_true rfl⟩, rfl, S.2.2.2.2 _ wd_2_90⟩ rfl hl.1 rfl (Nat.le_of_ble_eq_true rfl) d_Law_init_20 ⟨Nat.le_of_ble_eq_true rfl, Nat.le_of_ble_eq_true rfl⟩ (fun H locs hw => ?_)
  obtain ⟨w8, hw8, hf⟩ := xb hf
  refine x_putF S hin hw lf_Law_19 rfl rfl hw8 d_Law_init_23 (fun H locs hw => ?_)
  cases hf
  exact x_vret S hr hlocks hw d_Law_init_26
def f_Law_start (a0 : Nat) (x1 : Int32) (x2 : Int32) (ω : xS) : Option xS :=
  (xp ω a0 4 2 (.int x1)).bind fun w1 =>
  (xp w1 a0 4 4 (.int x2)).bind fun w2 =>
  (xgr w2 a0 4 1).bind fun t3 =>
  (xp w2 t3 0 1 (.int 0)).bind fun w4 =>
  some w4
set_option maxHeartbeats 4000000 in
set_option maxRecDepth 100000 in
theorem c_Law_start {l : Launch} {E : xV} {z : Nat} {a0 : Nat} {x1 : Int32} {x2 : Int32} {ω1 : xS} {ω : xS} (hf : f_Law_start a0 x1 x2 ω = some ω1) : xM l E y_Law_start ws_Law_start { frames := 0, cells := 0, slots := 0, locals := 0 } [.ref a0, .int x1, .int x2] z ω none z ω1 := by
  refine x_start (cc := b_Law_start) (maxL := 3) (ret := none) (by decide) rfl (Nat.le_of_ble_eq_true rfl) ?_
  intro p e s m below meth c S hr hlocks hin ls hl hw
  have hl : lv_has ls 3 [(0, .ref a0), (1, .int x1), (2, .int x2)] := hl
  unfold f_Law_start at hf
  refine lv_aload_n S.1 S.2.1 d_Law_start_0 rfl (lv_at hl 0 rfl) ?_
  refine lv_iload_n S.1 S.2.1 d_Law_start_1 rfl (lv_at hl 1 rfl) ?_
  obtain ⟨w1, hw1, hf⟩ := xb hf
  refine x_puti S hw lp_Law_37 hw1 d_Law_start_2 (fun H locs hw => ?_)
  refine lv_aload_n S.1 S.2.1 d_Law_start_5 rfl (lv_at hl 0 rfl) ?_
  refine lv_iload_n S.1 S.2.1 d_Law_start_6 rfl (lv_at hl 2 rfl) ?_
  obtain ⟨w2, hw2, hf⟩ := xb hf
  refine x_puti S hw lp_Law_41 hw2 d_Law_start_7 (fun H locs hw => ?_)
  refine lv_aload_n S.1 S.2.1 d_Law_start_10 rfl (lv_at hl 0 rfl) ?_
  obtain ⟨t3, ht3, hf⟩ := xb hf
  refine x_getr S hw lk_Law_19 ht3 d_Law_start_11 ?_
  refine lv_iconst (v := 0) S.1 S.2.1 d_Law_start_14 (by decide) ?_
  obtain ⟨w4, hw4, hf⟩ := xb hf
  refine x_puti S hw lp_Law_44 hw4 d_Law_start_15 (fun H locs hw => ?_)
  cases hf
  exact x_vret S hr hlocks hw d_Law_start_18
def f_Law_hasPattern (a0 : Nat) (ω : xS) : Option Int32 :=
  (xgi ω a0 4 2).bind fun t1 =>
  if t1 = 3 then (
    some 1)
  else (
    (xgi ω a0 4 2).bind fun t3 =>
    if t3 = 4 then (
      some 1)
    else (
      some 0))
set_option maxHeartbeats 4000000 in
set_option maxRecDepth 100000 in
theorem c_Law_hasPattern {l : Launch} {E : xV} {z : Nat} {a0 : Nat} {r : Int32} {ω : xS} (hf : f_Law_hasPattern a0 ω = some r) : xM l E y_Law_hasPattern ws_Law_hasPattern { frames := 0, cells := 0, slots := 0, locals := 0 } [.ref a0] z ω (some (.int r)) z ω := by
  refine x_start (cc := b_Law_hasPattern) (maxL := 1) (ret := (some .boolean)) (by decide) rfl (Nat.le_of_ble_eq_true rfl) ?_
  intro p e s m below meth c S hr hlocks hin ls hl hw
  have hl : lv_has ls 1 [(0, .ref a0)] := hl
  unfold f_Law_hasPattern at hf
  refine lv_aload_n S.1 S.2.1 d_Law_hasPattern_0 rfl (lv_at hl 0 rfl) ?_
  obtain ⟨t1, ht1, hf⟩ := xb hf
  refine x_geti S hw lk_Law_37 ht1 d_Law_hasPattern_1 ?_
  refine lv_iconst (v := 3) S.1 S.2.1 d_Law_hasPattern_4 (by decide) ?_
  refine lv_icmp_eq (tgt := 16) S.1 S.2.1 d_Law_hasPattern_5 (by decide) (fun c2 => ?_) (fun c2 => ?_)
  · replace hf := xt c2 hf
    refine lv_iconst (v := 1) S.1 S.2.1 d_Law_hasPattern_16 (by decide) ?_
    refine lv_goto (tgt := 21) S.1 S.2.1 d_Law_hasPattern_17 (by decide) ?_
    obtain rfl := xe1 hf
    exact x_zret S hr hlocks hw (by decide) d_Law_hasPattern_21
  · replace hf := xf c2 hf
    refine lv_aload_n S.1 S.2.1 d_Law_hasPattern_8 rfl (lv_at hl 0 rfl) ?_
    obtain ⟨t3, ht3, hf⟩ := xb hf
    refine x_geti S hw lk_Law_37 ht3 d_Law_hasPattern_9 ?_
    refine lv_iconst (v := 4) S.1 S.2.1 d_Law_hasPattern_12 (by decide) ?_
    refine lv_icmp_ne (tgt := 20) S.1 S.2.1 d_Law_hasPattern_13 (by decide) (fun c4 => ?_) (fun c4 => ?_)
    · replace hf := xf c4 hf
      refine lv_iconst (v := 0) S.1 S.2.1 d_Law_hasPattern_20 (by decide) ?_
      obtain rfl := xe1 hf
      exact x_zret S hr hlocks hw (by decide) d_Law_hasPattern_21
    · replace hf := xt c4 hf
      refine lv_iconst (v := 1) S.1 S.2.1 d_Law_hasPattern_16 (by decide) ?_
      refine lv_goto (tgt := 21) S.1 S.2.1 d_Law_hasPattern_17 (by decide) ?_
      obtain rfl := xe1 hf
      exact x_zret S hr hlocks hw (by decide) d_Law_hasPattern_21
def f_Tokens_init (a0 : Nat) (a1 : Nat) (ω : xS) : Option xS :=
  (xp ω a0 10 0 (.ref a1)).bind fun w1 =>
  some w1
set_option maxHeartbeats 4000000 in
set_option maxRecDepth 100000 in
theorem c_Tokens_init {l : Launch} {E : xV} {z : Nat} {a0 : Nat} {a1 : Nat} {ω1 : xS} {ω : xS} (hf : f_Tokens_init a0 a1 ω = some ω1) : xM l E y_Tokens_init ws_Tokens_init { frames := 1, cells := 0, slots := 0, locals := 20 } [.ref a0, .ref a1] z ω none z ω1 := by
  refine x_start (cc := b_Tokens_init) (maxL := 2) (ret := none) (by decide) rfl (Nat.le_of_ble_eq_true rfl) ?_
  intro p e s m below meth c S hr hlocks hin ls hl hw
  have hl : lv_has ls 2 [(0, .ref a0), (1, .ref a1)] := hl
  have hin := hin rfl
  unfold f_Tokens_init at hf
  refine lv_aload_n S.1 S.2.1 d_Tokens_init_0 rfl (lv_at hl 0 rfl) ?_
  refine x_obj S hl.1 ob_Tokens_3 d_Tokens_init_1 (Nat.le_of_ble_eq_true rfl) (Nat.le_of_ble_eq_true rfl) ?_
  refine lv_aload_n S.1 S.2.1 d_Tokens_init_4 rfl (lv_at hl 0 rfl) ?_
  refine lv_aload_n S.1 S.2.1 d_Tokens_init_5 rfl (lv_at hl 1 rfl) ?_
  obtain ⟨w1, hw1, hf⟩ := xb hf
  refine x_putF S hin hw lf_Tokens_9 rfl rfl hw1 d_Tokens_init_6 (fun H locs hw => ?_)
  cases hf
  exact x_vret S hr hlocks hw d_Tokens_init_9
def f_PatternParser_init (a0 : Nat) (a1 : Nat) (z : Nat) (ω : xS) : Option xS :=
  xl (xu ω z (.inl (0, 41, .inl (fun _ => 0)))) fun w1 =>
  (xp w1 a0 6 1 (.ref z)).bind fun w2 =>
  xl (xu w2 (z + 1) (.inl (0, 41, .inl (fun _ => 0)))) fun w3 =>
  (xp w3 a0 6 2 (.ref (z + 1))).bind fun w4 =>
  xl (xu w4 (z + 2) (.inl (0, 41, .inl (fun _ => 0)))) fun w5 =>
  (xp w5 a0 6 3 (.ref (z + 2))).bind fun w6 =>
  (xp w6 a0 6 0 (.ref a1)).bind fun w7 =>
  some w7
set_option maxHeartbeats 4000000 in
set_option maxRecDepth 100000 in
theorem c_PatternParser_init {l : Launch} {E : xV} {z : Nat} {a0 : Nat} {a1 : Nat} {ω1 : xS} {ω : xS} (hf : f_PatternParser_init a0 a1 z ω = some ω1) : xM l E y_PatternParser_init ws_PatternParser_init { frames := 1, cells := 3, slots := 123, locals := 20 } [.ref a0, .ref a1] z ω none (z + 3) ω1 := by
  refine x_start (cc := b_PatternParser_init) (maxL := 2) (ret := none) (by decide) rfl (Nat.le_of_ble_eq_true rfl) ?_
  intro p e s m below meth c S hr hlocks hin ls hl hw
  have hl : lv_has ls 2 [(0, .ref a0), (1, .ref a1)] := hl
  have hin := hin rfl
  unfold f_PatternParser_init at hf
  refine lv_aload_n S.1 S.2.1 d_PatternParser_init_0 rfl (lv_at hl 0 rfl) ?_
  refine x_obj S hl.1 ob_PatternParser_5 d_PatternParser_init_1 (Nat.le_of_ble_eq_true rfl) (Nat.le_of_ble_eq_true rfl) ?_
  refine lv_aload_n S.1 S.2.1 d_PatternParser_init_4 rfl (lv_at hl 0 rfl) ?_
  refine lv_bipush (v := 41) S.1 S.2.1 d_PatternParser_init_5 (by decide) ?_
  obtain ⟨w1, hw1, hf⟩ := xlb hf
  refine x_newi (N := 41) S hw xArr_i (by decide) (by decide) (by decide) hw1 (Nat.le_of_ble_eq_true rfl) (Nat.le_of_ble_eq_true rfl) d_PatternParser_init_7 (fun H hw => ?_)
  obtain ⟨w2, hw2, hf⟩ := xb hf
  refine x_putF S hin hw lf_PatternParser_13 rfl rfl hw2 d_PatternParser_init_9 (fun H locs hw => ?_)
  refine lv_aload_n S.1 S.2.1 d_PatternParser_init_12 rfl (lv_at hl 0 rfl) ?_
  refine lv_bipush (v := 41) S.1 S.2.1 d_PatternParser_init_13 (by decide) ?_
  obtain ⟨w3, hw3, hf⟩ := xlb hf
  refine x_newi (N := 41) S hw xArr_i (by decide) (by decide) (by decide) hw3 (Nat.le_of_ble_eq_true rfl) (Nat.le_of_ble_eq_true rfl) d_PatternParser_init_15 (fun H hw => ?_)
  obtain ⟨w4, hw4, hf⟩ := xb hf
  refine x_putF S hin hw lf_PatternParser_17 rfl rfl hw4 d_PatternParser_init_17 (fun H locs hw => ?_)
  refine lv_aload_n S.1 S.2.1 d_PatternParser_init_20 rfl (lv_at hl 0 rfl) ?_
  refine lv_bipush (v := 41) S.1 S.2.1 d_PatternParser_init_21 (by decide) ?_
  obtain ⟨w5, hw5, hf⟩ := xlb hf
  refine x_newi (N := 41) S hw xArr_i (by decide) (by decide) (by decide) hw5 (Nat.le_of_ble_eq_true rfl) (Nat.le_of_ble_eq_true rfl) d_PatternParser_init_23 (fun H hw => ?_)
  obtain ⟨w6, hw6, hf⟩ := xb hf
  refine x_putF S hin hw lf_PatternParser_20 rfl rfl hw6 d_PatternParser_init_25 (fun H locs hw => ?_)
  refine lv_aload_n S.1 S.2.1 d_PatternParser_init_28 rfl (lv_at hl 0 rfl) ?_
  refine lv_aload_n S.1 S.2.1 d_PatternParser_init_29 rfl (lv_at hl 1 rfl) ?_
  obtain ⟨w7, hw7, hf⟩ := xb hf
  refine x_putF S hin hw lf_PatternParser_23 rfl rfl hw7 d_PatternParser_init_30 (fun H locs hw => ?_)
  cases hf
  exact x_vret S hr hlocks hw d_PatternParser_init_33
