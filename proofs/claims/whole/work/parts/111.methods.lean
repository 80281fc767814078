def f_RR_descend_13 : Nat → Nat → Int32 → Int32 → xS → Option (Int32 × xS)
  | 0, _, _, _, _ => none
  | n + 1, a0, x1, x2, ω =>
    if x1 ≤ x2 then (
      some (x2, ω))
    else (
      xc (xk ω a0 11 (f_RR_stepDown a0  ω)) fun t5 w6 =>
      if t5 = 0 then (
        some (x2, w6))
      else (
        f_RR_descend_13  n a0 x1 (x2 + 1) w6))
set_option maxHeartbeats 4000000 in
set_option maxRecDepth 100000 in
theorem w_RR_descend_13 {p : Program} {l : Launch} {e : Env} {s : State} {m : MethodId} {args : Array Value} {below : List Frame} {meth : Method} {c : Code} {E : xV} {z : Nat} {r : Int32} {ω1 : xS} (S : CallFix p m c b_RR_descend 3 s args xTbl "RosterRules") (hr : meth.sig.returnType = (some .int)) (hlocks : meth.locks = false) : ∀ n : Nat, ∀ (a0 : Nat) (x1 : Int32) (x2 : Int32) (ω : xS) (H : Heap) (locs : List Loc) (ls : Array Slot), xW E z ω s s.heap H locs → lv_has ls 3 [(0, .ref a0), (1, .int x1), (2, .int x2)] → f_RR_descend_13 n a0 x1 x2 ω = some (r, ω1) → W p l e (headSpec ws_RR_descend { frames := 7, cells := 0, slots := 0, locals := 184 }).room s m args below meth c H locs 0 0 (MQ below (xQ E (some (.int r)) z ω1) args s 0 0 (fun q => E.2.2 ≤ q)) (F0 m 13 ls []) := by
  intro n
  induction n with
  | zero =>
    intro a0 x1 x2 ω H locs ls hw hl hf
    have h2 : (none : Option (Int32 × xS)) = some (r, ω1) := hf
    cases h2
  | succ n ih =>
    intro a0 x1 x2 ω H locs ls hw hl hf
    rw [f_RR_descend_13] at hf
    refine lv_iload_n S.1 S.2.1 d_RR_descend_13 rfl (lv_at hl 2 rfl) ?_
    refine lv_iload_n S.1 S.2.1 d_RR_descend_14 rfl (lv_at hl 1 rfl) ?_
    refine lv_icmp_ge (tgt := 31) S.1 S.2.1 d_RR_descend_15 (by decide) (fun c3 => ?_) (fun c3 => ?_)
    · replace hf := xt c3 hf
      refine lv_iload_n S.1 S.2.1 d_RR_descend_31 rfl (lv_at hl 2 rfl) ?_
      obtain ⟨rfl, rfl⟩ := xe2 hf
      exact x_iret S hr hlocks hw d_RR_descend_32
    · replace hf := xf c3 hf
      refine lv_aload_n S.1 S.2.1 d_RR_descend_18 rfl (lv_at hl 0 rfl) ?_
      obtain ⟨t5, w6, h4, hf⟩ := xcb hf
      obtain ⟨h4b, h4⟩ := xkb h4
      refine x_callV (As := []) (rest := []) (st1 := [.int t5]) S hw (c_RR_stepDown h4) (cwV 0 S.2.2.2.2 gv_RR_171 rfl rfl rfl hd_RR_stepDown ⟨Nat.le_of_ble_eq_true rfl, Nat.le_of_ble_eq_true rfl⟩) rfl h4b rfl hl.1 rfl rfl (Nat.le_of_ble_eq_true rfl) d_RR_descend_19 ⟨Nat.le_of_ble_eq_true rfl, Nat.le_of_ble_eq_true rfl⟩ (fun H locs hw => ?_)
      refine lv_if_eq (tgt := 31) S.1 S.2.1 d_RR_descend_22 (by decide) (fun c7 => ?_) (fun c7 => ?_)
      · replace hf := xt c7 hf
        refine lv_iload_n S.1 S.2.1 d_RR_descend_31 rfl (lv_at hl 2 rfl) ?_
        obtain ⟨rfl, rfl⟩ := xe2 hf
        exact x_iret S hr hlocks hw d_RR_descend_32
      · replace hf := xf c7 hf
        refine lv_iinc (v := (x2 + 1)) (lv' := [(2, .int (x2 + 1)), (0, .ref a0), (1, .int x1)]) S.1 S.2.1 d_RR_descend_25 hl (k := 2) rfl rfl (by decide) rfl (fun ls hl => ?_)
        refine lv_goto (tgt := 13) S.1 S.2.1 d_RR_descend_28 (by decide) ?_
        exact ih _ _ _ _ _ _ _ hw (lv_sub hl [1, 2, 0] rfl) hf
def f_RR_descend (a0 : Nat) (x1 : Int32) (ω : xS) : Option (Int32 × xS) :=
  if x1 < 0 then (
    some ((-1), ω))
  else (
    if x1 ≤ 3 then (
      f_RR_descend_13  xFU a0 x1 0 ω)
    else (
      some ((-1), ω)))
set_option maxHeartbeats 4000000 in
set_option maxRecDepth 100000 in
theorem c_RR_descend {l : Launch} {E : xV} {z : Nat} {a0 : Nat} {x1 : Int32} {r : Int32} {ω1 : xS} {ω : xS} (hf : f_RR_descend a0 x1 ω = some (r, ω1)) : xM l E y_RR_descend ws_RR_descend { frames := 7, cells := 0, slots := 0, locals := 184 } [.ref a0, .int x1] z ω (some (.int r)) z ω1 := by
  refine x_start (cc := b_RR_descend) (maxL := 3) (ret := (some .int)) (by decide) rfl (Nat.le_of_ble_eq_true rfl) ?_
  intro p e s m below meth c S hr hlocks hin ls hl hw
  have hl : lv_has ls 3 [(0, .ref a0), (1, .int x1)] := hl
  unfold f_RR_descend at hf
  refine lv_iload_n S.1 S.2.1 d_RR_descend_0 rfl (lv_at hl 1 rfl) ?_
  refine lv_if_lt (tgt := 9) S.1 S.2.1 d_RR_descend_1 (by decide) (fun c1 => ?_) (fun c1 => ?_)
  · replace hf := xt c1 hf
    refine lv_iconst (v := (-1)) S.1 S.2.1 d_RR_descend_9 (by decide) ?_
    obtain ⟨rfl, rfl⟩ := xe2 hf
    exact x_iret S hr hlocks hw d_RR_descend_10
  · replace hf := xf c1 hf
    refine lv_iload_n S.1 S.2.1 d_RR_descend_4 rfl (lv_at hl 1 rfl) ?_
    refine lv_iconst (v := 3) S.1 S.2.1 d_RR_descend_5 (by decide) ?_
    refine lv_icmp_le (tgt := 11) S.1 S.2.1 d_RR_descend_6 (by decide) (fun c2 => ?_) (fun c2 => ?_)
    · replace hf := xt c2 hf
      refine lv_iconst (v := 0) S.1 S.2.1 d_RR_descend_11 (by decide) ?_
      refine lv_istore_n (lv' := [(2, .int 0), (0, .ref a0), (1, .int x1)]) S.1 S.2.1 d_RR_descend_12 rfl hl (by decide) rfl (fun ls hl => ?_)
      exact w_RR_descend_13 S hr hlocks  _ _ _ _ _ _ _ _ hw (lv_sub hl [1, 2, 0] rfl) hf
    · replace hf := xf c2 hf
      refine lv_iconst (v := (-1)) S.1 S.2.1 d_RR_descend_9 (by decide) ?_
      obtain ⟨rfl, rfl⟩ := xe2 hf
      exact x_iret S hr hlocks hw d_RR_descend_10
def f_RR_isLaw (a0 : Nat) (x1 : Int32) (ω : xS) : Option Int32 :=
  if x1 < 0 then (
    some 0)
  else (
    (xgi ω a0 11 8).bind fun t2 =>
    if t2 ≤ x1 then (
      some 0)
    else (
      some 1))
set_option maxHeartbeats 4000000 in
set_option maxRecDepth 100000 in
theorem c_RR_isLaw {l : Launch} {E : xV} {z : Nat} {a0 : Nat} {x1 : Int32} {r : Int32} {ω : xS} (hf : f_RR_isLaw a0 x1 ω = some r) : xM l E y_RR_isLaw ws_RR_isLaw { frames := 0, cells := 0, slots := 0, locals := 0 } [.ref a0, .int x1] z ω (some (.int r)) z ω := by
  refine x_start (cc := b_RR_isLaw) (maxL := 2) (ret := (some .boolean)) (by decide) rfl (Nat.le_of_ble_eq_true rfl) ?_
  intro p e s m below meth c S hr hlocks hin ls hl hw
  have hl : lv_has ls 2 [(0, .ref a0), (1, .int x1)] := hl
  unfold f_RR_isLaw at hf
  refine lv_iload_n S.1 S.2.1 d_RR_isLaw_0 rfl (lv_at hl 1 rfl) ?_
  refine lv_if_lt (tgt := 16) S.1 S.2.1 d_RR_isLaw_1 (by decide) (fun c1 => ?_) (fun c1 => ?_)
  · replace hf := xt c1 hf
    refine lv_iconst (v := 0) S.1 S.2.1 d_RR_isLaw_16 (by decide) ?_
    obtain rfl := xe1 hf
    exact x_zret S hr hlocks hw (by decide) d_RR_isLaw_17
  · replace hf := xf c1 hf
    refine lv_iload_n S.1 S.2.1 d_RR_isLaw_4 rfl (lv_at hl 1 rfl) ?_
    refine lv_aload_n S.1 S.2.1 d_RR_isLaw_5 rfl (lv_at hl 0 rfl) ?_
    obtain ⟨t2, ht2, hf⟩ := xb hf
    refine x_geti S hw lk_RR_94 ht2 d_RR_isLaw_6 ?_
    refine lv_icmp_ge (tgt := 16) S.1 S.2.1 d_RR_isLaw_9 (by decide) (fun c3 => ?_) (fun c3 => ?_)
    · replace hf := xt c3 hf
      refine lv_iconst (v := 0) S.1 S.2.1 d_RR_isLaw_16 (by decide) ?_
      obtain rfl := xe1 hf
      exact x_zret S hr hlocks hw (by decide) d_RR_isLaw_17
    · replace hf := xf c3 hf
      refine lv_iconst (v := 1) S.1 S.2.1 d_RR_isLaw_12 (by decide) ?_
      refine lv_goto (tgt := 17) S.1 S.2.1 d_RR_isLaw_13 (by decide) ?_
      obtain rfl := xe1 hf
      exact x_zret S hr hlocks hw (by decide) d_RR_isLaw_17
def f_RR_broken (a0 : Nat) (x1 : Int32) (x2 : Int32) (ω : xS) : Option Int64 :=
  (xk ω a0 11 (f_RR_isLaw a0 x1 ω)).bind fun t2 =>
  if t2 = 0 then (
    some (-1))
  else (
    (xgr ω a0 11 6).bind fun t4 =>
    (xar ω 3 t4 x1).bind fun t5 =>
    if x2 = (-1) then (
      (xgr ω a0 11 2).bind fun t23 =>
      (xk ω t23 3 (f_Judge_everywhere t23 t5 ω)).bind fun t25 =>
      some t25)
    else (
      (xgi ω t5 4 2).bind fun t7 =>
      if t7 = 6 then (
        (xk ω a0 11 (f_RR_isDay a0 x2 ω)).bind fun t18 =>
        if t18 = 0 then (
          some (-1))
        else (
          (xgr ω a0 11 2).bind fun t20 =>
          (xk ω t20 3 (f_Judge_coverAmiss t20 t5 x2 ω)).bind fun t22 =>
          some t22))
      else (
        (xgi ω t5 4 2).bind fun t9 =>
        if t9 = 5 then (
          some (-1))
        else (
          (xk ω a0 11 (f_RR_isPerson a0 x2 ω)).bind fun t12 =>
          if t12 = 0 then (
            some (-1))
          else (
            (xgr ω a0 11 2).bind fun t14 =>
            (xk ω t14 3 (f_Judge_ofPerson t14 t5 x2 ω)).bind fun t16 =>
            some t16)))))
set_option maxHeartbeats 4000000 in
set_option maxRecDepth 100000 in
theorem c_RR_broken {l : Launch} {E : xV} {z : Nat} {a0 : Nat} {x1 : Int32} {x2 : Int32} {r : Int64} {ω : xS} (hf : f_RR_broken a0 x1 x2 ω = some r) : xM l E y_RR_broken ws_RR_broken { frames := 5, cells := 0, slots := 0, locals := 123 } [.ref a0, .int x1, .int x2] z ω (some (.long r)) z ω := by
  refine x_start (cc := b_RR_broken) (maxL := 4) (ret := (some .long)) (by decide) rfl (Nat.le_of_ble_eq_true rfl) ?_
  intro p e s m below meth c S hr hlocks hin ls hl hw
  have hl : lv_has ls 4 [(0, .ref a0), (1, .int x1), (2, .int x2)] := hl
  unfold f_RR_broken at hf
  refine lv_aload_n S.1 S.2.1 d_RR_broken_0 rfl (lv_at hl 0 rfl) ?_
  refine lv_iload_n S.1 S.2.1 d_RR_broken_1 rfl (lv_at hl 1 rfl) ?_
  obtain ⟨t2, h1, hf⟩ := xb hf
  obtain ⟨h1b, h1⟩ := xkb h1
  refine x_callV (As := [.int x1]) (rest := []) (st1 := [.int t2]) S hw (c_RR_isLaw h1) (cwV 1 S.2.2.2.2 gv_RR_175 rfl rfl rfl hd_RR_isLaw ⟨Nat.le_of_ble_eq_true rfl, Nat.le_of_ble_eq_true rfl⟩) rfl h1b rfl hl.1 rfl rfl (Nat.le_of_ble_eq_true rfl) d_RR_broken_2 ⟨Nat.le_of_ble_eq_true rfl, Nat.le_of_ble_eq_true rfl⟩ (fun H locs hw => ?_)
  refine lv_if_ne (tgt := 12) S.1 S.2.1 d_RR_broken_5 (by decide) (fun c3 => ?_) (fun c3 => ?_)
  · replace hf := xf c3 hf
    refine lv_aload_n S.1 S.2.1 d_RR_broken_12 rfl (lv_at hl 0 rfl) ?_
    obtain ⟨t4, ht4, hf⟩ := xb hf
    refine x_getr S hw lk_RR_32 ht4 d_RR_broken_13 ?_
    refine lv_iload_n S.1 S.2.1 d_RR_broken_16 rfl (lv_at hl 1 rfl) ?_
    obtain ⟨t5, ht5, hf⟩ := xb hf
    refine x_aald S hw (t := 3) rfl rfl ht5 d_RR_broken_17 ?_
    refine lv_astore_n (lv' := [(3, .ref t5), (0, .ref a0), (1, .int x1), (2, .int x2)]) S.1 S.2.1 d_RR_broken_18 rfl hl (by decide) rfl (fun ls hl => ?_)
    refine lv_iload_n S.1 S.2.1 d_RR_broken_19 rfl (lv_at hl 3 rfl) ?_
    refine lv_iconst (v := (-1)) S.1 S.2.1 d_RR_broken_20 (by decide) ?_
    refine lv_icmp_ne (tgt := 33) S.1 S.2.1 d_RR_broken_21 (by decide) (fun c6 => ?_) (fun c6 => ?_)
    · replace hf := xf c6 hf
      refine lv_aload_n S.1 S.2.1 d_RR_broken_33 rfl (lv_at hl 0 rfl) ?_
      obtain ⟨t7, ht7, hf⟩ := xb hf
      refine x_geti S hw lk_RR_184 ht7 d_RR_broken_34 ?_
      refine lv_bipush (v := 6) S.1 S.2.1 d_RR_broken_37 (by decide) ?_
      refine lv_icmp_ne (tgt := 66) S.1 S.2.1 d_RR_broken_39 (by decide) (fun c8 => ?_) (fun c8 => ?_)
      · replace hf := xf c8 hf
        refine lv_aload_n S.1 S.2.1 d_RR_broken_66 rfl (lv_at hl 0 rfl) ?_
        obtain ⟨t9, ht9, hf⟩ := xb hf
        refine x_geti S hw lk_RR_184 ht9 d_RR_broken_67 ?_
        refine lv_iconst (v := 5) S.1 S.2.1 d_RR_broken_70 (by decide) ?_
        refine lv_icmp_eq (tgt := 94) S.1 S.2.1 d_RR_broken_71 (by decide) (fun c10 => ?_) (fun c10 => ?_)
        · replace hf := xt c10 hf
          refine lv_ldc2 (v := (-1)) S.1 S.2.1 S.2.2.2.1 (S.2.2.2.2 _ wd_4_83) d_RR_broken_94 ?_
          obtain rfl := xe1 hf
          exact x_lret S hr hlocks hw d_RR_broken_97
        · replace hf := xf c10 hf
          refine lv_aload_n S.1 S.2.1 d_RR_broken_74 rfl (lv_at hl 1 rfl) ?_
          refine lv_iload_n S.1 S.2.1 d_RR_broken_75 rfl (lv_at hl 3 rfl) ?_
          obtain ⟨t12, h11, hf⟩ := xb hf
          obtain ⟨h11b, h11⟩ := xkb h11
          refine x_callV (As := [.int x2]) (rest := []) (st1 := [.int t12]) S hw (c_RR_isPerson h11) (cwV 1 S.2.2.2.2 gv_RR_114 rfl rfl rfl hd_RR_isPerson ⟨Nat.le_of_ble_eq_true rfl, Nat.le_of_ble_eq_true rfl⟩) rfl h11b rfl hl.1 rfl rfl (Nat.le_of_ble_eq_true rfl) d_RR_broken_76 ⟨Nat.le_of_ble_eq_true rfl, Nat.le_of_ble_eq_true rfl⟩ (fun H locs hw => ?_)
          refine lv_if_eq (tgt := 94) S.1 S.2.1 d_RR_broken_79 (by decide) (fun c13 => ?_) (fun c13 => ?_)
          · replace hf := xt c13 hf
            refine lv_ldc2 (v := (-1)) S.1 S.2.1 S.2.2.2.1 (S.2.2.2.2 _ wd_4_83) d_RR_broken_94 ?_
            obtain rfl := xe1 hf
            exact x_lret S hr hlocks hw d_RR_broken_97
          · replace hf := xf c13 hf
            refine lv_aload_n S.1 S.2.1 d_RR_broken_82 rfl (lv_at hl 1 rfl) ?_
            obtain ⟨t14, ht14, hf⟩ := xb hf
            refine x_getr S hw lk_RR_62 ht14 d_RR_broken_83 ?_
            refine lv_aload_n S.1 S.2.1 d_RR_broken_86 rfl (lv_at hl 0 rfl) ?_
            refine lv_iload_n S.1 S.2.1 d_RR_broken_87 rfl (lv_at hl 3 rfl) ?_
            obtain ⟨t16, h15, hf⟩ := xb hf
            obtain ⟨h15b, h15⟩ := xkb h15
            refine x_callV (As := [.ref t5, .int x2]) (rest := []) (st1 := [.long t16]) S hw (c_Judge_ofPerson h15) (cwV 2 S.2.2.2.2 gv_RR_194 rfl rfl rfl hd_Judge_ofPerson ⟨Nat.le_of_ble_eq_true rfl, Nat.le_of_ble_eq_true rfl⟩) rfl h15b rfl hl.1 rfl rfl (Nat.le_of_ble_eq_true rfl) d_RR_broken_88 ⟨Nat.le_of_ble_eq_true rfl, Nat.le_of_ble_eq_true rfl⟩ (fun H locs hw => ?_)
            refine lv_goto (tgt := 97) S.1 S.2.1 d_RR_broken_91 (by decide) ?_
            obtain rfl := xe1 hf
            exact x_lret S hr hlocks hw d_RR_broken_97
      · replace hf := xt c8 hf
        refine lv_aload_n S.1 S.2.1 d_RR_broken_42 rfl (lv_at hl 1 rfl) ?_
        refine lv_iload_n S.1 S.2.1 d_RR_broken_43 rfl (lv_at hl 3 rfl) ?_
        obtain ⟨t18, h17, hf⟩ := xb hf
        obtain ⟨h17b, h17⟩ := xkb h17
        refine x_callV (As := [.int x2]) (rest := []) (st1 := [.int t18]) S hw (c_RR_isDay h17) (cwV 1 S.2.2.2.2 gv_RR_187 rfl rfl rfl hd_RR_isDay ⟨Nat.le_of_ble_eq_true rfl, Nat.le_of_ble_eq_true rfl⟩) rfl h17b rfl hl.1 rfl rfl (Nat.le_of_ble_eq_true rfl) d_RR_broken_44 ⟨Nat.le_of_ble_eq_true rfl, Nat.le_of_ble_eq_true rfl⟩ (fun H locs hw => ?_)
        refine lv_if_eq (tgt := 62) S.1 S.2.1 d_RR_broken_47 (by decide) (fun c19 => ?_) (fun c19 => ?_)
        · replace hf := xt c19 hf
          refine lv_ldc2 (v := (-1)) S.1 S.2.1 S.2.2.2.1 (S.2.2.2.2 _ wd_4_83) d_RR_broken_62 ?_
          obtain rfl := xe1 hf
          exact x_lret S hr hlocks hw d_RR_broken_65
        · replace hf := xf c19 hf
          refine lv_aload_n S.1 S.2.1 d_RR_broken_50 rfl (lv_at hl 1 rfl) ?_
          obtain ⟨t20, ht20, hf⟩ := xb hf
          refine x_getr S hw lk_RR_62 ht20 d_RR_broken_51 ?_
          refine lv_aload_n S.1 S.2.1 d_RR_broken_54 rfl (lv_at hl 0 rfl) ?_
          refine lv_iload_n S.1 S.2.1 d_RR_broken_55 rfl (lv_at hl 3 rfl) ?_
          obtain ⟨t22, h21, hf⟩ := xb hf
          obtain ⟨h21b, h21⟩ := xkb h21
          refine x_callV (As := [.ref t5, .int x2]) (rest := []) (st1 := [.long t22]) S hw (c_Judge_coverAmiss h21) (cwV 2 S.2.2.2.2 gv_RR_190 rfl rfl rfl hd_Judge_coverAmiss ⟨Nat.le_of_ble_eq_true rfl, Nat.le_of_ble_eq_true rfl⟩) rfl h21b rfl hl.1 rfl rfl (Nat.le_of_ble_eq_true rfl) d_RR_broken_56 ⟨Nat.le_of_ble_eq_true rfl, Nat.le_of_ble_eq_true rfl⟩ (fun H locs hw => ?_)
          refine lv_goto (tgt := 65) S.1 S.2.1 d_RR_broken_59 (by decide) ?_
          obtain rfl := xe1 hf
          exact x_lret S hr hlocks hw d_RR_broken_65
    · replace hf := xt c6 hf
      refine lv_aload_n S.1 S.2.1 d_RR_broken_24 rfl (lv_at hl 1 rfl) ?_
      obtain ⟨t23, ht23, hf⟩ := xb hf
      refine x_getr S hw lk_RR_62 ht23 d_RR_broken_25 ?_
      refine lv_aload_n S.1 S.2.1 d_RR_broken_28 rfl (lv_at hl 0 rfl) ?_
      obtain ⟨t25, h24, hf⟩ := xb hf
      obtain ⟨h24b, h24⟩ := xkb h24
      refine x_callV (As := [.ref t5]) (rest := []) (st1 := [.long t25]) S hw (c_Judge_everywhere h24) (cwV 1 S.2.2.2.2 gv_RR_180 rfl rfl rfl hd_Judge_everywhere ⟨Nat.le_of_ble_eq_true rfl, Nat.le_of_ble_eq_true rfl⟩) rfl h24b rfl hl.1 rfl rfl (Nat.le_of_ble_eq_true rfl) d_RR_broken_29 ⟨Nat.le_of_ble_eq_true rfl, Nat.le_of_ble_eq_true rfl⟩ (fun H locs hw => ?_)
      obtain rfl := xe1 hf
      exact x_lret S hr hlocks hw d_RR_broken_32
  · replace hf := xt c3 hf
    refine lv_ldc2 (v := (-1)) S.1 S.2.1 S.2.2.2.1 (S.2.2.2.2 _ wd_4_83) d_RR_broken_8 ?_
    obtain rfl := xe1 hf
    exact x_lret S hr hlocks hw d_RR_broken_11
def f_RR_score_10 : Nat → Nat → Int64 → Int32 → xS → Option Int64
  | 0, _, _, _, _ => none
  | n + 1, a0, x1, x3, ω =>
    (xgi ω a0 11 8).bind fun t4 =>
    if t4 ≤ x3 then (
      some x1)
    else (
      (xgr ω a0 11 6).bind fun t6 =>
      (xar ω 3 t6 x3).bind fun t7 =>
      (xgi ω t7 4 3).bind fun t8 =>
      (xgr ω a0 11 2).bind fun t9 =>
      (xgr ω a0 11 6).bind fun t10 =>
      (xar ω 3 t10 x3).bind fun t11 =>
      (xk ω t9 3 (f_Judge_everywhere t9 t11 ω)).bind fun t13 =>
      f_RR_score_10  n a0 (x1 + ((Int32.toInt64 t8) * t13)) (x3 + 1) ω)
set_option maxHeartbeats 4000000 in
set_option maxRecDepth 100000 in
theorem w_RR_score_10 {p : Program} {l : Launch} {e : Env} {s : State} {m : MethodId} {args : Array Value} {below : List Frame} {meth : Method} {c : Code} {E : xV} {z : Nat} {r : Int64} {ω : xS} (S : CallFix p m c b_RR_score 4 s args xTbl "RosterRules") (hr : meth.sig.returnType = (some .long)) (hlocks : meth.locks = false) : ∀ n : Nat, ∀ (a0 : Nat) (x1 : Int64) (x3 : Int32) (H : Heap) (locs : List Loc) (ls : Array Slot), xW E z ω s s.heap H locs → lv_has ls 4 [(0, .ref a0), (1, .long x1), (3, .int x3)] → f_RR_score_10 n a0 x1 x3 ω = some r → W p l e (headSpec ws_RR_score { frames := 5, cells := 0, slots := 0, locals := 123 }).room s m args below meth c H locs 0 0 (MQ below (xQ E (some (.long r)) z ω) args s 0 0 (fun q => E.2.2 ≤ q)) (F0 m 10 ls []) := by
  intro n
  induction n with
  | zero =>
    intro a0 x1 x3 H locs ls hw hl hf
    have h2 : (none : Option Int64) = some r := hf
    cases h2
  | succ n ih =>
    intro a0 x1 x3 H locs ls hw hl hf
    rw [f_RR_score_10] at hf
    refine lv_iload_n S.1 S.2.1 d_RR_score_10 rfl (lv_at hl 2 rfl) ?_
    refine lv_aload_n S.1 S.2.1 d_RR_score_11 rfl (lv_at hl 0 rfl) ?_
    obtain ⟨t4, ht4, hf⟩ := xb hf
    refine x_geti S hw lk_RR_94 ht4 d_RR_score_12 ?_
    refine lv_icmp_ge (tgt := 51) S.1 S.2.1 d_RR_score_15 (by decide) (fun c5 => ?_) (fun c5 => ?_)
    · replace hf := xt c5 hf
      refine lv_lload_n S.1 S.2.1 d_RR_score_51 rfl (lv_at hl 1 rfl) ?_
      obtain rfl := xe1 hf
      exact x_lret S hr hlocks hw d_RR_score_52
    · replace hf := xf c5 hf
      refine lv_lload_n S.1 S.2.1 d_RR_score_18 rfl (lv_at hl 1 rfl) ?_
      refine lv_aload_n S.1 S.2.1 d_RR_score_19 rfl (lv_at hl 0 rfl) ?_
      obtain ⟨t6, ht6, hf⟩ := xb hf
      refine x_getr S hw lk_RR_32 ht6 d_RR_score_20 ?_
      refine lv_iload_n S.1 S.2.1 d_RR_score_23 rfl (lv_at hl 2 rfl) ?_
      obtain ⟨t7, ht7, hf⟩ := xb hf
      refine x_aald S hw (t := 3) rfl rfl ht7 d_RR_score_24 ?_
      obtain ⟨t8, ht8, hf⟩ := xb hf
      refine x_geti S hw lk_RR_201 ht8 d_RR_score_25 ?_
      refine lv_i2l (v := (Int32.toInt64 t8)) S.1 S.2.1 d_RR_score_28 rfl ?_
      refine lv_aload_n S.1 S.2.1 d_RR_score_29 rfl (lv_at hl 0 rfl) ?_
      obtain ⟨t9, ht9, hf⟩ := xb hf
      refine x_getr S hw lk_RR_62 ht9 d_RR_score_30 ?_
      refine lv_aload_n S.1 S.2.1 d_RR_score_33 rfl (lv_at hl 0 rfl) ?_
      obtain ⟨t10, ht10, hf⟩ := xb hf
      refine x_getr S hw lk_RR_32 ht10 d_RR_score_34 ?_
      refine lv_iload_n S.1 S.2.1 d_RR_score_37 rfl (lv_at hl 2 rfl) ?_
      obtain ⟨t11, ht11, hf⟩ := xb hf
      refine x_aald S hw (t := 3) rfl rfl ht11 d_RR_score_38 ?_
      obtain ⟨t13, h12, hf⟩ := xb hf
      obtain ⟨h12b, h12⟩ := xkb h12
      refine x_callV (As := [.ref t11]) (rest := [.long (Int32.toInt64 t8), .long x1]) (st1 := [.long t13, .long (Int32.toInt64 t8), .long x1]) S hw (c_Judge_everywhere h12) (cwV 1 S.2.2.2.2 gv_RR_180 rfl rfl rfl hd_Judge_everywhere ⟨Nat.le_of_ble_eq_true rfl, Nat.le_of_ble_eq_true rfl⟩) rfl h12b rfl hl.1 rfl rfl (Nat.le_of_ble_eq_true rfl) d_RR_score_39 ⟨Nat.le_of_ble_eq_true rfl, Nat.le_of_ble_eq_true rfl⟩ (fun H locs hw => ?_)
      refine lv_lmul S.1 S.2.1 d_RR_score_42 ?_
      refine lv_ladd S.1 S.2.1 d_RR_score_43 ?_
      refine lv_lstore_n (lv' := [(1, .long (x1 + ((Int32.toInt64 t8) * t13))), (0, .ref a0), (3, .int x3)]) S.1 S.2.1 d_RR_score_44 rfl hl (by decide) rfl (fun ls hl => ?_)
      refine lv_iinc (v := (x3 + 1)) (lv' := [(3, .int (x3 + 1)), (1, .long (x1 + ((Int32.toInt64 t8) * t13))), (0, .ref a0)]) S.1 S.2.1 d_RR_score_45 hl (k := 2) rfl rfl (by decide) rfl (fun ls hl => ?_)
      refine lv_goto (tgt := 10) S.1 S.2.1 d_RR_score_48 (by decide) ?_
      exact ih _ _ _ _ _ _ hw (lv_sub hl [2, 1, 0] rfl) hf
def f_RR_score (a0 : Nat) (ω : xS) : Option Int64 :=
  (xgr ω a0 11 1).bind fun t1 =>
  (xk ω t1 8 (f_Roster_allWishesCost t1  ω)).bind fun t3 =>
  f_RR_score_10  xFU a0 t3 0 ω
set_option maxHeartbeats 4000000 in
set_option maxRecDepth 100000 in
theorem c_RR_score {l : Launch} {E : xV} {z : Nat} {a0 : Nat} {r : Int64} {ω : xS} (hf : f_RR_score a0 ω = some r) : xM l E y_RR_score ws_RR_score { frames := 5, cells := 0, slots := 0, locals := 123 } [.ref a0] z ω (some (.long r)) z ω := by
  refine x_start (cc := b_RR_score) (maxL := 4) (ret := (some .long)) (by decide) rfl (Nat.le_of_ble_eq_true rfl) ?_
  intro p e s m below meth c S hr hlocks hin ls hl hw
  have hl : lv_has ls 4 [(0, .ref a0)] := hl
  unfold f_RR_score at hf
  refine lv_aload_n S.1 S.2.1 d_RR_score_0 rfl (lv_at hl 0 rfl) ?_
  obtain ⟨t1, ht1, hf⟩ := xb hf
  refine x_getr S hw lk_RR_53 ht1 d_RR_score_1 ?_
  obtain ⟨t3, h2, hf⟩ := xb hf
  obtain ⟨h2b, h2⟩ := xkb h2
  refine x_callV (As := []) (rest := []) (st1 := [.long t3]) S hw (c_Roster_allWishesCost h2) (cwV 0 S.2.2.2.2 gv_RR_197 rfl rfl rfl hd_Roster_allWishesCost ⟨Nat.le_of_ble_eq_true rfl, Nat.le_of_ble_eq_true rfl⟩) rfl h2b rfl hl.1 rfl rfl (Nat.le_of_ble_eq_true rfl) d_RR_score_4 ⟨Nat.le_of_ble_eq_true rfl, Nat.le_of_ble_eq_true rfl⟩ (fun H locs hw => ?_)
  refine lv_lstore_n (lv' := [(1, .long t3), (0, .ref a0)]) S.1 S.2.1 d_RR_score_7 rfl hl (by decide) rfl (fun ls hl => ?_)
  refine lv_iconst (v := 0) S.1 S.2.1 d_RR_score_8 (by decide) ?_
  refine lv_istore_n (lv' := [(3, .int 0), (1, .long t3), (0, .ref a0)]) S.1 S.2.1 d_RR_score_9 rfl hl (by decide) rfl (fun ls hl => ?_)
  exact w_RR_score_10 S hr hlocks  _ _ _ _ _ _ _ hw (lv_sub hl [2, 1, 0] rfl) hf
def f_RR_minutes (a0 : Nat) (x1 : Int32) (x2 : Int32) (x3 : Int32) (ω : xS) : Option Int64 :=
  (xk ω a0 11 (f_RR_isCell a0 x1 x2 ω)).bind fun t2 =>
  if t2 = 0 then (
    some (-1))
  else (
    (xk ω a0 11 (f_RR_isDay a0 x3 ω)).bind fun t5 =>
    if t5 = 0 then (
      some (-1))
    else (
      if x2 ≤ x3 then (
        (xgr ω a0 11 1).bind fun t8 =>
        (xk ω t8 8 (f_Roster_minutesBetween t8 x1 x2 x3 ω)).bind fun t10 =>
        some t10)
      else (
        some (-1))))
set_option maxHeartbeats 4000000 in
set_option maxRecDepth 100000 in
theorem c_RR_minutes {l : Launch} {E : xV} {z : Nat} {a0 : Nat} {x1 : Int32} {x2 : Int32} {x3 : Int32} {r : Int64} {ω : xS} (hf : f_RR_minutes a0 x1 x2 x3 ω = some r) : xM l E y_RR_minutes ws_RR_minutes { frames := 2, cells := 0, slots := 0, locals := 48 } [.ref a0, .int x1, .int x2, .int x3] z ω (some (.long r)) z ω := by
  refine x_start (cc := b_RR_minutes) (maxL := 4) (ret := (some .long)) (by decide) rfl (Nat.le_of_ble_eq_true rfl) ?_
  intro p e s m below meth c S hr hlocks hin ls hl hw
  have hl : lv_has ls 4 [(0, .ref a0), (1, .int x1), (2, .int x2), (3, .int x3)] := hl
  unfold f_RR_minutes at hf
  refine lv_aload_n S.1 S.2.1 d_RR_minutes_0 rfl (lv_at hl 0 rfl) ?_
  refine lv_iload_n S.1 S.2.1 d_RR_minutes_1 rfl (lv_at hl 1 rfl) ?_
  refine lv_iload_n S.1 S.2.1 d_RR_minutes_2 rfl (lv_at hl 2 rfl) ?_
  obtain ⟨t2, h1, hf⟩ := xb hf
  obtain ⟨h1b, h1⟩ := xkb h1
  refine x_callV (As := [.int x1, .int x2]) (rest := []) (st1 := [.int t2]) S hw (c_RR_isCell h1) (cwV 2 S.2.2.2.2 gv_RR_127 rfl rfl rfl hd_RR_isCell ⟨Nat.le_of_ble_eq_true rfl, Nat.le_of_ble_eq_true rfl⟩) rfl h1b rfl hl.1 rfl rfl (Nat.le_of_ble_eq_true rfl) d_RR_minutes_3 ⟨Nat.le_of_ble_eq_true rfl, Nat.le_of_ble_eq_true rfl⟩ (fun H locs hw => ?_)
  refine lv_if_eq (tgt := 22) S.1 S.2.1 d_RR_minutes_6 (by decide) (fun c3 => ?_) (fun c3 => ?_)
  · replace hf := xt c3 hf
    refine lv_ldc2 (v := (-1)) S.1 S.2.1 S.2.2.2.1 (S.2.2.2.2 _ wd_4_83) d_RR_minutes_22 ?_
    obtain rfl := xe1 hf
    exact x_lret S hr hlocks hw d_RR_minutes_25
  · replace hf := xf c3 hf
    refine lv_aload_n S.1 S.2.1 d_RR_minutes_9 rfl (lv_at hl 0 rfl) ?_
    refine lv_iload_n S.1 S.2.1 d_RR_minutes_10 rfl (lv_at hl 3 rfl) ?_
    obtain ⟨t5, h4, hf⟩ := xb hf
    obtain ⟨h4b, h4⟩ := xkb h4
    refine x_callV (As := [.int x3]) (rest := []) (st1 := [.int t5]) S hw (c_RR_isDay h4) (cwV 1 S.2.2.2.2 gv_RR_187 rfl rfl rfl hd_RR_isDay ⟨Nat.le_of_ble_eq_true rfl, Nat.le_of_ble_eq_true rfl⟩) rfl h4b rfl hl.1 rfl rfl (Nat.le_of_ble_eq_true rfl) d_RR_minutes_11 ⟨Nat.le_of_ble_eq_true rfl, Nat.le_of_ble_eq_true rfl⟩ (fun H locs hw => ?_)
    refine lv_if_eq (tgt := 22) S.1 S.2.1 d_RR_minutes_14 (by decide) (fun c6 => ?_) (fun c6 => ?_)
    · replace hf := xt c6 hf
      refine lv_ldc2 (v := (-1)) S.1 S.2.1 S.2.2.2.1 (S.2.2.2.2 _ wd_4_83) d_RR_minutes_22 ?_
      obtain rfl := xe1 hf
      exact x_lret S hr hlocks hw d_RR_minutes_25
    · replace hf := xf c6 hf
      refine lv_iload_n S.1 S.2.1 d_RR_minutes_17 rfl (lv_at hl 3 rfl) ?_
      refine lv_iload_n S.1 S.2.1 d_RR_minutes_18 rfl (lv_at hl 2 rfl) ?_
      refine lv_icmp_ge (tgt := 26) S.1 S.2.1 d_RR_minutes_19 (by decide) (fun c7 => ?_) (fun c7 => ?_)
      · replace hf := xt c7 hf
        refine lv_aload_n S.1 S.2.1 d_RR_minutes_26 rfl (lv_at hl 0 rfl) ?_
        obtain ⟨t8, ht8, hf⟩ := xb hf
        refine x_getr S hw lk_RR_53 ht8 d_RR_minutes_27 ?_
        refine lv_iload_n S.1 S.2.1 d_RR_minutes_30 rfl (lv_at hl 1 rfl) ?_
        refine lv_iload_n S.1 S.2.1 d_RR_minutes_31 rfl (lv_at hl 2 rfl) ?_
        refine lv_iload_n S.1 S.2.1 d_RR_minutes_32 rfl (lv_at hl 3 rfl) ?_
        obtain ⟨t10, h9, hf⟩ := xb hf
        obtain ⟨h9b, h9⟩ := xkb h9
        refine x_callV (As := [.int x1, .int x2, .int x3]) (rest := []) (st1 := [.long t10]) S hw (c_Roster_minutesBetween h9) (cwV 3 S.2.2.2.2 gv_RR_204 rfl rfl rfl hd_Roster_minutesBetween ⟨Nat.le_of_ble_eq_true rfl, Nat.le_of_ble_eq_true rfl⟩) rfl h9b rfl hl.1 rfl rfl (Nat.le_of_ble_eq_true rfl) d_RR_minutes_33 ⟨Nat.le_of_ble_eq_true rfl, Nat.le_of_ble_eq_true rfl⟩ (fun H locs hw => ?_)
        obtain rfl := xe1 hf
        exact x_lret S hr hlocks hw d_RR_minutes_36
      · replace hf := xf c7 hf
        refine lv_ldc2 (v := (-1)) S.1 S.2.1 S.2.2.2.1 (S.2.2.2.2 _ wd_4_83) d_RR_minutes_22 ?_
        obtain rfl := xe1 hf
        exact x_lret S hr hlocks hw d_RR_minutes_25
def f_RR_automatonOf (a0 : Nat) (a1 : Nat) (z : Nat) (ω : xS) : Option (Nat × Nat × Nat × xS) :=
  (xgr ω a1 4 1).bind fun t1 =>
  (xgi ω t1 0 1).bind fun t2 =>
  if t2 = 0 then (
    (xgr ω a0 11 5).bind fun t5 =>
    (xgr ω a1 4 0).bind fun t6 =>
    (xgr ω a1 4 1).bind fun t7 =>
    xc3 (xk ω t5 1 (f_AutomatonMaker_make t5 t6 t7 z ω)) fun c10 u11 w12 =>
    (xgr w12 a1 4 1).bind fun t13 =>
    some (t13, c10, u11, w12))
  else (
    (xgr ω a1 4 1).bind fun t4 =>
    some (t4, 0, 0, ω))
set_option maxHeartbeats 4000000 in
set_option maxRecDepth 100000 in
theorem c_RR_automatonOf {l : Launch} {E : xV} {z : Nat} {a0 : Nat} {a1 : Nat} {r : Nat} {ω1 : xS} {kc ku : Nat} {ω : xS} (hf : f_RR_automatonOf a0 a1 z ω = some (r, kc, ku, ω1)) : xM l E y_RR_automatonOf ws_RR_automatonOf { frames := 4, cells := kc, slots := ku, locals := 97 } [.ref a0, .ref a1] z ω (some (.ref r)) (z + kc) ω1 := by
  refine x_start (cc := b_RR_automatonOf) (maxL := 2) (ret := (some (.object "RosterRules$Automaton"))) (by decide) rfl (Nat.le_of_ble_eq_true rfl) ?_
  intro p e s m below meth c S hr hlocks hin ls hl hw
  have hl : lv_has ls 2 [(0, .ref a0), (1, .ref a1)] := hl
  unfold f_RR_automatonOf at hf
  refine lv_aload_n S.1 S.2.1 d_RR_automatonOf_0 rfl (lv_at hl 1 rfl) ?_
  obtain ⟨t1, ht1, hf⟩ := xb hf
  refine x_getr S hw lk_RR_254 ht1 d_RR_automatonOf_1 ?_
  obtain ⟨t2, ht2, hf⟩ := xb hf
  refine x_geti S hw lk_RR_217 ht2 d_RR_automatonOf_4 ?_
  refine lv_if_ne (tgt := 25) S.1 S.2.1 d_RR_automatonOf_7 (by decide) (fun c3 => ?_) (fun c3 => ?_)
  · replace hf := xf c3 hf
    refine lv_aload_n S.1 S.2.1 d_RR_automatonOf_25 rfl (lv_at hl 1 rfl) ?_
    obtain ⟨t4, ht4, hf⟩ := xb hf
    refine x_getr S hw lk_RR_254 ht4 d_RR_automatonOf_26 ?_
    obtain ⟨rfl, rfl, rfl, rfl⟩ := xe4 hf
    exact x_aret S hr (by first | exact Or.inl ⟨_, rfl⟩ | exact Or.inr ⟨_, rfl⟩) hlocks hw d_RR_automatonOf_29
  · replace hf := xt c3 hf
    refine lv_aload_n S.1 S.2.1 d_RR_automatonOf_10 rfl (lv_at hl 0 rfl) ?_
    obtain ⟨t5, ht5, hf⟩ := xb hf
    refine x_getr S hw lk_RR_26 ht5 d_RR_automatonOf_11 ?_
    refine lv_aload_n S.1 S.2.1 d_RR_automatonOf_14 rfl (lv_at hl 1 rfl) ?_
    obtain ⟨t6, ht6, hf⟩ := xb hf
    refine x_getr S hw lk_RR_222 ht6 d_RR_automatonOf_15 ?_
    refine lv_aload_n S.1 S.2.1 d_RR_automatonOf_18 rfl (lv_at hl 1 rfl) ?_
    obtain ⟨t7, ht7, hf⟩ := xb hf
    refine x_getr S hw lk_RR_254 ht7 d_RR_automatonOf_19 ?_
    obtain ⟨c10, u11, w12, h8, hf⟩ := xc3b hf
    obtain ⟨h8b, h8⟩ := xkb h8
    have hle : c10 ≤ kc ∧ u11 ≤ ku := by
      obtain ⟨t13, ht13, hf⟩ := xb hf
      obtain ⟨rfl, rfl, rfl, rfl⟩ := xe4 hf
      constructor <;> omega
    refine x_callV (As := [.ref t6, .ref t7]) (rest := []) (st1 := []) S hw (c_AutomatonMaker_make h8) (cwV 2 S.2.2.2.2 gv_RR_258 rfl rfl rfl hd_AutomatonMaker_make ⟨Nat.le_of_ble_eq_true rfl, Nat.le_of_ble_eq_true rfl⟩) rfl h8b rfl hl.1 rfl rfl (Nat.le_of_ble_eq_true rfl) d_RR_automatonOf_22 ⟨(show _ ≤ kc by (try dsimp only); omega), (show _ ≤ ku by (try dsimp only); omega)⟩ (fun H locs hw => ?_)
    refine lv_aload_n S.1 S.2.1 d_RR_automatonOf_25 rfl (lv_at hl 1 rfl) ?_
    obtain ⟨t13, ht13, hf⟩ := xb hf
    refine x_getr S hw lk_RR_254 ht13 d_RR_automatonOf_26 ?_
    obtain ⟨rfl, rfl, rfl, rfl⟩ := xe4 hf
    exact W.widen (by (try dsimp only); omega) (by (try dsimp only); omega) (x_aret S hr (by first | exact Or.inl ⟨_, rfl⟩ | exact Or.inr ⟨_, rfl⟩) hlocks hw d_RR_automatonOf_29)
def f_RR_law (a0 : Nat) (x1 : Int32) (x2 : Int32) (z : Nat) (ω : xS) : Option (Int32 × Nat × Nat × xS) :=
  (xk ω a0 11 (f_RR_isLaw a0 x1 ω)).bind fun t2 =>
  if t2 = 0 then (
    some ((-1), 0, 0, ω))
  else (
    if x2 < 0 then (
      some ((-1), 0, 0, ω))
    else (
      if x2 ≤ 4 then (
        (xgr ω a0 11 6).bind fun t6 =>
        (xar ω 3 t6 x1).bind fun t7 =>
        if x2 = 0 then (
          (xgi ω t7 4 2).bind fun t9 =>
          some (t9, 0, 0, ω))
        else (
        if x2 = 1 then (
          (xgi ω t7 4 3).bind fun t11 =>
          some (t11, 0, 0, ω))
        else (
        if x2 = 2 then (
          (xgi ω t7 4 4).bind fun t13 =>
          some (t13, 0, 0, ω))
        else (
        if x2 = 3 then (
          (xk ω t7 4 (f_Law_hasPattern t7  ω)).bind fun t16 =>
          if t16 = 0 then (
            some ((-2), 0, 0, ω))
          else (
            xc4 (xk ω a0 11 (f_RR_automatonOf a0 t7 z ω)) fun t19 c20 u21 w22 =>
            (xgi w22 t19 0 1).bind fun t23 =>
            some (t23, c20, u21, w22)))
        else (
        (xk ω t7 4 (f_Law_hasPattern t7  ω)).bind fun t25 =>
        if t25 = 0 then (
          some ((-2), 0, 0, ω))
        else (
          (xgr ω t7 4 0).bind fun t27 =>
          (xgi ω t27 7 4).bind fun t28 =>
          some (t28, 0, 0, ω)))))))
      else (
        some ((-1), 0, 0, ω))))
set_option maxHeartbeats 4000000 in
set_option maxRecDepth 100000 in
theorem c_RR_law {l : Launch} {E : xV} {z : Nat} {a0 : Nat} {x1 : Int32} {x2 : Int32} {r : Int32} {ω1 : xS} {kc ku : Nat} {ω : xS} (hf : f_RR_law a0 x1 x2 z ω = some (r, kc, ku, ω1)) : xM l E y_RR_law ws_RR_law { frames := 5, cells := kc, slots := ku, locals := 118 } [.ref a0, .int x1, .int x2] z ω (some (.int r)) (z + kc) ω1 := by
  refine x_start (cc := b_RR_law) (maxL := 4) (ret := (some .int)) (by decide) rfl (Nat.le_of_ble_eq_true rfl) ?_
  intro p e s m below meth c S hr hlocks hin ls hl hw
  have hl : lv_has ls 4 [(0, .ref a0), (1, .int x1), (2, .int x2)] := hl
  unfold f_RR_law at hf
  refine lv_aload_n S.1 S.2.1 d_RR_law_0 rfl (lv_at hl 0 rfl) ?_
  refine lv_iload_n S.1 S.2.1 d_RR_law_1 rfl (lv_at hl 1 rfl) ?_
  obtain ⟨t2, h1, hf⟩ := xb hf
  obtain ⟨h1b, h1⟩ := xkb h1
  refine x_callV (As := [.int x1]) (rest := []) (st1 := [.int t2]) S hw (c_RR_isLaw h1) (cwV 1 S.2.2.2.2 gv_RR_175 rfl rfl rfl hd_RR_isLaw ⟨Nat.le_of_ble_eq_true rfl, Nat.le_of_ble_eq_true rfl⟩) rfl h1b rfl hl.1 rfl rfl (Nat.le_of_ble_eq_true rfl) d_RR_law_2 ⟨(show _ ≤ kc by (try dsimp only); omega), (show _ ≤ ku by (try dsimp only); omega)⟩ (fun H locs hw => ?_)
  refine lv_if_eq (tgt := 17) S.1 S.2.1 d_RR_law_5 (by decide) (fun c3 => ?_) (fun c3 => ?_)
  · replace hf := xt c3 hf
    refine lv_iconst (v := (-1)) S.1 S.2.1 d_RR_law_17 (by decide) ?_
    obtain ⟨rfl, rfl, rfl, rfl⟩ := xe4 hf
    exact x_iret S hr hlocks hw d_RR_law_18
  · replace hf := xf c3 hf
    refine lv_iload_n S.1 S.2.1 d_RR_law_8 rfl (lv_at hl 2 rfl) ?_
    refine lv_if_lt (tgt := 17) S.1 S.2.1 d_RR_law_9 (by decide) (fun c4 => ?_) (fun c4 => ?_)
    · replace hf := xt c4 hf
      refine lv_iconst (v := (-1)) S.1 S.2.1 d_RR_law_17 (by decide) ?_
      obtain ⟨rfl, rfl, rfl, rfl⟩ := xe4 hf
      exact x_iret S hr hlocks hw d_RR_law_18
    · replace hf := xf c4 hf
      refine lv_iload_n S.1 S.2.1 d_RR_law_12 rfl (lv_at hl 2 rfl) ?_
      refine lv_iconst (v := 4) S.1 S.2.1 d_RR_law_13 (by decide) ?_
      refine lv_icmp_le (tgt := 19) S.1 S.2.1 d_RR_law_14 (by decide) (fun c5 => ?_) (fun c5 => ?_)
      · replace hf := xt c5 hf
        refine lv_aload_n S.1 S.2.1 d_RR_law_19 rfl (lv_at hl 0 rfl) ?_
        obtain ⟨t6, ht6, hf⟩ := xb hf
        refine x_getr S hw lk_RR_32 ht6 d_RR_law_20 ?_
        refine lv_iload_n S.1 S.2.1 d_RR_law_23 rfl (lv_at hl 1 rfl) ?_
        obtain ⟨t7, ht7, hf⟩ := xb hf
        refine x_aald S hw (t := 3) rfl rfl ht7 d_RR_law_24 ?_
        refine lv_astore_n (lv' := [(3, .ref t7), (0, .ref a0), (1, .int x1), (2, .int x2)]) S.1 S.2.1 d_RR_law_25 rfl hl (by decide) rfl (fun ls hl => ?_)
        refine lv_iload_n S.1 S.2.1 d_RR_law_26 rfl (lv_at hl 3 rfl) ?_
        by_cases c8 : x2 = 0
        · replace hf := xt c8 hf
          refine lv_tableIn (tgt := 56) S.1 S.2.1 d_RR_law_27 (by rw [c8]; decide) (by rw [c8]; decide) (by rw [c8]; rfl) (by decide) ?_
          refine lv_aload_n S.1 S.2.1 d_RR_law_56 rfl (lv_at hl 0 rfl) ?_
          obtain ⟨t9, ht9, hf⟩ := xb hf
          refine x_geti S hw lk_RR_184 ht9 d_RR_law_57 ?_
          obtain ⟨rfl, rfl, rfl, rfl⟩ := xe4 hf
          exact x_iret S hr hlocks hw d_RR_law_60
        replace hf := xf c8 hf
        by_cases c10 : x2 = 1
        · replace hf := xt c10 hf
          refine lv_tableIn (tgt := 61) S.1 S.2.1 d_RR_law_27 (by rw [c10]; decide) (by rw [c10]; decide) (by rw [c10]; rfl) (by decide) ?_
          refine lv_aload_n S.1 S.2.1 d_RR_law_61 rfl (lv_at hl 0 rfl) ?_
          obtain ⟨t11, ht11, hf⟩ := xb hf
          refine x_geti S hw lk_RR_201 ht11 d_RR_law_62 ?_
          obtain ⟨rfl, rfl, rfl, rfl⟩ := xe4 hf
          exact x_iret S hr hlocks hw d_RR_law_65
        replace hf := xf c10 hf
        by_cases c12 : x2 = 2
        · replace hf := xt c12 hf
          refine lv_tableIn (tgt := 66) S.1 S.2.1 d_RR_law_27 (by rw [c12]; decide) (by rw [c12]; decide) (by rw [c12]; rfl) (by decide) ?_
          refine lv_aload_n S.1 S.2.1 d_RR_law_66 rfl (lv_at hl 0 rfl) ?_
          obtain ⟨t13, ht13, hf⟩ := xb hf
          refine x_geti S hw lk_RR_207 ht13 d_RR_law_67 ?_
          obtain ⟨rfl, rfl, rfl, rfl⟩ := xe4 hf
          exact x_iret S hr hlocks hw d_RR_law_70
        replace hf := xf c12 hf
        by_cases c14 : x2 = 3
        · replace hf := xt c14 hf
          refine lv_tableIn (tgt := 71) S.1 S.2.1 d_RR_law_27 (by rw [c14]; decide) (by rw [c14]; decide) (by rw [c14]; rfl) (by decide) ?_
          refine lv_aload_n S.1 S.2.1 d_RR_law_71 rfl (lv_at hl 0 rfl) ?_
          obtain ⟨t16, h15, hf⟩ := xb hf
          obtain ⟨h15b, h15⟩ := xkb h15
          refine x_callV (As := []) (rest := []) (st1 := [.int t16]) S hw (c_Law_hasPattern h15) (cwV 0 S.2.2.2.2 gv_RR_210 rfl rfl rfl hd_Law_hasPattern ⟨Nat.le_of_ble_eq_true rfl, Nat.le_of_ble_eq_true rfl⟩) rfl h15b rfl hl.1 rfl rfl (Nat.le_of_ble_eq_true rfl) d_RR_law_72 ⟨(show _ ≤ kc by (try dsimp only); omega), (show _ ≤ ku by (try dsimp only); omega)⟩ (fun H locs hw => ?_)
          refine lv_if_eq (tgt := 89) S.1 S.2.1 d_RR_law_75 (by decide) (fun c17 => ?_) (fun c17 => ?_)
          · replace hf := xt c17 hf
            refine lv_bipush (v := (-2)) S.1 S.2.1 d_RR_law_89 (by decide) ?_
            obtain ⟨rfl, rfl, rfl, rfl⟩ := xe4 hf
            exact x_iret S hr hlocks hw d_RR_law_91
          · replace hf := xf c17 hf
            refine lv_aload_n S.1 S.2.1 d_RR_law_78 rfl (lv_at hl 1 rfl) ?_
            refine lv_aload_n S.1 S.2.1 d_RR_law_79 rfl (lv_at hl 0 rfl) ?_
            obtain ⟨t19, c20, u21, w22, h18, hf⟩ := xc4b hf
            obtain ⟨h18b, h18⟩ := xkb h18
            have hle : c20 ≤ kc ∧ u21 ≤ ku := by
              obtain ⟨t23, ht23, hf⟩ := xb hf
              obtain ⟨rfl, rfl, rfl, rfl⟩ := xe4 hf
              constructor <;> omega
            refine x_callV (As := [.ref t7]) (rest := []) (st1 := [.ref t19]) S hw (c_RR_automatonOf h18) (cwV 1 S.2.2.2.2 gv_RR_213 rfl rfl rfl hd_RR_automatonOf ⟨Nat.le_of_ble_eq_true rfl, Nat.le_of_ble_eq_true rfl⟩) rfl h18b rfl hl.1 rfl rfl (Nat.le_of_ble_eq_true rfl) d_RR_law_80 ⟨(show _ ≤ kc by (try dsimp only); omega), (show _ ≤ ku by (try dsimp only); omega)⟩ (fun H locs hw => ?_)
            obtain ⟨t23, ht23, hf⟩ := xb hf
            refine x_geti S hw lk_RR_217 ht23 d_RR_law_83 ?_
            refine lv_goto (tgt := 91) S.1 S.2.1 d_RR_law_86 (by decide) ?_
            obtain ⟨rfl, rfl, rfl, rfl⟩ := xe4 hf
            exact W.widen (by (try dsimp only); omega) (by (try dsimp only); omega) (x_iret S hr hlocks hw d_RR_law_91)
        replace hf := xf c14 hf
        refine lv_tableOut (tgt := 92) S.1 S.2.1 d_RR_law_27 (by have h_c8 := lv_neT (a := 0) c8 (by decide); have h_c10 := lv_neT (a := 1) c10 (by decide); have h_c12 := lv_neT (a := 2) c12 (by decide); have h_c14 := lv_neT (a := 3) c14 (by decide); omega) (by decide) ?_
        refine lv_aload_n S.1 S.2.1 d_RR_law_92 rfl (lv_at hl 0 rfl) ?_
        obtain ⟨t25, h24, hf⟩ := xb hf
        obtain ⟨h24b, h24⟩ := xkb h24
        refine x_callV (As := []) (rest := []) (st1 := [.int t25]) S hw (c_Law_hasPattern h24) (cwV 0 S.2.2.2.2 gv_RR_210 rfl rfl rfl hd_Law_hasPattern ⟨Nat.le_of_ble_eq_true rfl, Nat.le_of_ble_eq_true rfl⟩) rfl h24b rfl hl.1 rfl rfl (Nat.le_of_ble_eq_true rfl) d_RR_law_93 ⟨(show _ ≤ kc by (try dsimp only); omega), (show _ ≤ ku by (try dsimp only); omega)⟩ (fun H locs hw => ?_)
        refine lv_if_eq (tgt := 109) S.1 S.2.1 d_RR_law_96 (by decide) (fun c26 => ?_) (fun c26 => ?_)
        · replace hf := xt c26 hf
          refine lv_bipush (v := (-2)) S.1 S.2.1 d_RR_law_109 (by decide) ?_
          obtain ⟨rfl, rfl, rfl, rfl⟩ := xe4 hf
          exact x_iret S hr hlocks hw d_RR_law_111
        · replace hf := xf c26 hf
          refine lv_aload_n S.1 S.2.1 d_RR_law_99 rfl (lv_at hl 0 rfl) ?_
          obtain ⟨t27, ht27, hf⟩ := xb hf
          refine x_getr S hw lk_RR_222 ht27 d_RR_law_100 ?_
          obtain ⟨t28, ht28, hf⟩ := xb hf
          refine x_geti S hw lk_RR_226 ht28 d_RR_law_103 ?_
          refine lv_goto (tgt := 111) S.1 S.2.1 d_RR_law_106 (by decide) ?_
          obtain ⟨rfl, rfl, rfl, rfl⟩ := xe4 hf
          exact x_iret S hr hlocks hw d_RR_law_111
      · replace hf := xf c5 hf
        refine lv_iconst (v := (-1)) S.1 S.2.1 d_RR_law_17 (by decide) ?_
        obtain ⟨rfl, rfl, rfl, rfl⟩ := xe4 hf
        exact x_iret S hr hlocks hw d_RR_law_18
def f_RR_state_49 (x2 : Int32) (x3 : Int32) (y0 : Nat) (ω : xS) : Option (Int32 × xS) :=
  (xgi ω y0 0 1).bind fun t22 =>
  if t22 ≤ x2 then (
    some ((-1), ω))
  else (
    (xk ω y0 0 (f_Automaton_entry y0 x2 x3 ω)).bind fun t25 =>
    some (t25, ω))
set_option maxHeartbeats 4000000 in
set_option maxRecDepth 100000 in
theorem w_RR_state_49 {p : Program} {l : Launch} {e : Env} {s : State} {m : MethodId} {args : Array Value} {below : List Frame} {meth : Method} {c : Code} {E : xV} {z : Nat} {r : Int32} {ω1 : xS} {cc0 uu0 : Nat} (S : CallFix p m c b_RR_state 5 s args xTbl "RosterRules") (hr : meth.sig.returnType = (some .int)) (hlocks : meth.locks = false) : ∀ (x2 : Int32) (x3 : Int32) (y0 : Nat) (ω : xS) (H : Heap) (locs : List Loc) (ls : Array Slot), xW E z ω s s.heap H locs → lv_has ls 5 [(2, .int x2), (3, .int x3)] → f_RR_state_49 x2 x3 y0 ω = some (r, ω1) → W p l e (headSpec ws_RR_state { frames := 5, cells := cc0, slots := uu0, locals := 118 }).room s m args below meth c H locs cc0 uu0 (MQ below (xQ E (some (.int r)) z ω1) args s cc0 uu0 (fun q => E.2.2 ≤ q)) (F0 m 49 ls [.ref y0]) := by
  intro x2 x3 y0 ω H locs ls hw hl hf
  unfold f_RR_state_49 at hf
  refine lv_astore (lv' := [(4, .ref y0), (2, .int x2), (3, .int x3)]) S.1 S.2.1 d_RR_state_49 hl (by decide) rfl (fun ls hl => ?_)
  refine lv_iload_n S.1 S.2.1 d_RR_state_51 rfl (lv_at hl 1 rfl) ?_
  refine lv_aload S.1 S.2.1 d_RR_state_52 (lv_at hl 0 rfl) ?_
  obtain ⟨t22, ht22, hf⟩ := xb hf
  refine x_geti S hw lk_RR_217 ht22 d_RR_state_54 ?_
  refine lv_icmp_ge (tgt := 70) S.1 S.2.1 d_RR_state_57 (by decide) (fun c23 => ?_) (fun c23 => ?_)
  · replace hf := xt c23 hf
    refine lv_iconst (v := (-1)) S.1 S.2.1 d_RR_state_70 (by decide) ?_
    obtain ⟨rfl, rfl⟩ := xe2 hf
    exact x_iret S hr hlocks hw d_RR_state_71
  · replace hf := xf c23 hf
    refine lv_aload S.1 S.2.1 d_RR_state_60 (lv_at hl 0 rfl) ?_
    refine lv_iload_n S.1 S.2.1 d_RR_state_62 rfl (lv_at hl 1 rfl) ?_
    refine lv_iload_n S.1 S.2.1 d_RR_state_63 rfl (lv_at hl 2 rfl) ?_
    obtain ⟨t25, h24, hf⟩ := xb hf
    obtain ⟨h24b, h24⟩ := xkb h24
    refine x_callV (As := [.int x2, .int x3]) (rest := []) (st1 := [.int t25]) S hw (c_Automaton_entry h24) (cwV 2 S.2.2.2.2 gv_RR_231 rfl rfl rfl hd_Automaton_entry ⟨Nat.le_of_ble_eq_true rfl, Nat.le_of_ble_eq_true rfl⟩) rfl h24b rfl hl.1 rfl rfl (Nat.le_of_ble_eq_true rfl) d_RR_state_64 ⟨(Nat.le_refl _), (Nat.le_refl _)⟩ (fun H locs hw => ?_)
    refine lv_goto (tgt := 71) S.1 S.2.1 d_RR_state_67 (by decide) ?_
    obtain ⟨rfl, rfl⟩ := xe2 hf
    exact x_iret S hr hlocks hw d_RR_state_71
def f_RR_state (a0 : Nat) (x1 : Int32) (x2 : Int32) (x3 : Int32) (z : Nat) (ω : xS) : Option (Int32 × Nat × Nat × xS) :=
  (xk ω a0 11 (f_RR_isLaw a0 x1 ω)).bind fun t2 =>
  if t2 = 0 then (
    some ((-1), 0, 0, ω))
  else (
    if x2 < 0 then (
      some ((-1), 0, 0, ω))
    else (
      if x3 < 0 then (
        some ((-1), 0, 0, ω))
      else (
        if x3 ≤ 9 then (
          (xgr ω a0 11 6).bind fun t7 =>
          (xar ω 3 t7 x1).bind fun t8 =>
          (xk ω t8 4 (f_Law_hasPattern t8  ω)).bind fun t10 =>
          if t10 = 0 then (
            some ((-2), 0, 0, ω))
          else (
            (xgr ω a0 11 6).bind fun t12 =>
            (xar ω 3 t12 x1).bind fun t13 =>
            xc4 (xk ω a0 11 (f_RR_automatonOf a0 t13 z ω)) fun t15 c16 u17 w18 =>
            xc (f_RR_state_49 x2 x3 t15 w18) fun r21 w19 => some (r21, c16, u17, w19)))
        else (
          some ((-1), 0, 0, ω)))))
set_option maxHeartbeats 4000000 in
set_option maxRecDepth 100000 in
theorem c_RR_state {l : Launch} {E : xV} {z : Nat} {a0 : Nat} {x1 : Int32} {x2 : Int32} {x3 : Int32} {r : Int32} {ω1 : xS} {kc ku : Nat} {ω : xS} (hf : f_RR_state a0 x1 x2 x3 z ω = some (r, kc, ku, ω1)) : xM l E y_RR_state ws_RR_state { frames := 5, cells := kc, slots := ku, locals := 118 } [.ref a0, .int x1, .int x2, .int x3] z ω (some (.int r)) (z + kc) ω1 := by
  refine x_start (cc := b_RR_state) (maxL := 5) (ret := (some .int)) (by decide) rfl (Nat.le_of_ble_eq_true rfl) ?_
  intro p e s m below meth c S hr hlocks hin ls hl hw
  have hl : lv_has ls 5 [(0, .ref a0), (1, .int x1), (2, .int x2), (3, .int x3)] := hl
  unfold f_RR_state at hf
  refine lv_aload_n S.1 S.2.1 d_RR_state_0 rfl (lv_at hl 0 rfl) ?_
  refine lv_iload_n S.1 S.2.1 d_RR_state_1 rfl (lv_at hl 1 rfl) ?_
  obtain ⟨t2, h1, hf⟩ := xb hf
  obtain ⟨h1b, h1⟩ := xkb h1
  refine x_callV (As := [.int x1]) (rest := []) (st1 := [.int t2]) S hw (c_RR_isLaw h1) (cwV 1 S.2.2.2.2 gv_RR_175 rfl rfl rfl hd_RR_isLaw ⟨Nat.le_of_ble_eq_true rfl, Nat.le_of_ble_eq_true rfl⟩) rfl h1b rfl hl.1 rfl rfl (Nat.le_of_ble_eq_true rfl) d_RR_state_2 ⟨(show _ ≤ kc by (try dsimp only); omega), (show _ ≤ ku by (try dsimp only); omega)⟩ (fun H locs hw => ?_)
  refine lv_if_eq (tgt := 22) S.1 S.2.1 d_RR_state_5 (by decide) (fun c3 => ?_) (fun c3 => ?_)
  · replace hf := xt c3 hf
    refine lv_iconst (v := (-1)) S.1 S.2.1 d_RR_state_22 (by decide) ?_
    obtain ⟨rfl, rfl, rfl, rfl⟩ := xe4 hf
    exact x_iret S hr hlocks hw d_RR_state_23
  · replace hf := xf c3 hf
    refine lv_iload_n S.1 S.2.1 d_RR_state_8 rfl (lv_at hl 2 rfl) ?_
    refine lv_if_lt (tgt := 22) S.1 S.2.1 d_RR_state_9 (by decide) (fun c4 => ?_) (fun c4 => ?_)
    · replace hf := xt c4 hf
      refine lv_iconst (v := (-1)) S.1 S.2.1 d_RR_state_22 (by decide) ?_
      obtain ⟨rfl, rfl, rfl, rfl⟩ := xe4 hf
      exact x_iret S hr hlocks hw d_RR_state_23
    · replace hf := xf c4 hf
      refine lv_iload_n S.1 S.2.1 d_RR_state_12 rfl (lv_at hl 3 rfl) ?_
      refine lv_if_lt (tgt := 22) S.1 S.2.1 d_RR_state_13 (by decide) (fun c5 => ?_) (fun c5 => ?_)
      · replace hf := xt c5 hf
        refine lv_iconst (v := (-1)) S.1 S.2.1 d_RR_state_22 (by decide) ?_
        obtain ⟨rfl, rfl, rfl, rfl⟩ := xe4 hf
        exact x_iret S hr hlocks hw d_RR_state_23
      · replace hf := xf c5 hf
        refine lv_iload_n S.1 S.2.1 d_RR_state_16 rfl (lv_at hl 3 rfl) ?_
        refine lv_bipush (v := 9) S.1 S.2.1 d_RR_state_17 (by decide) ?_
        refine lv_icmp_le (tgt := 24) S.1 S.2.1 d_RR_state_19 (by decide) (fun c6 => ?_) (fun c6 => ?_)
        · replace hf := xt c6 hf
          refine lv_aload_n S.1 S.2.1 d_RR_state_24 rfl (lv_at hl 0 rfl) ?_
          obtain ⟨t7, ht7, hf⟩ := xb hf
          refine x_getr S hw lk_RR_32 ht7 d_RR_state_25 ?_
          refine lv_iload_n S.1 S.2.1 d_RR_state_28 rfl (lv_at hl 1 rfl) ?_
          obtain ⟨t8, ht8, hf⟩ := xb hf
          refine x_aald S hw (t := 3) rfl rfl ht8 d_RR_state_29 ?_
          obtain ⟨t10, h9, hf⟩ := xb hf
          obtain ⟨h9b, h9⟩ := xkb h9
          refine x_callV (As := []) (rest := []) (st1 := [.int t10]) S hw (c_Law_hasPattern h9) (cwV 0 S.2.2.2.2 gv_RR_210 rfl rfl rfl hd_Law_hasPattern ⟨Nat.le_of_ble_eq_true rfl, Nat.le_of_ble_eq_true rfl⟩) rfl h9b rfl hl.1 rfl rfl (Nat.le_of_ble_eq_true rfl) d_RR_state_30 ⟨(show _ ≤ kc by (try dsimp only); omega), (show _ ≤ ku by (try dsimp only); omega)⟩ (fun H locs hw => ?_)
          refine lv_if_ne (tgt := 39) S.1 S.2.1 d_RR_state_33 (by decide) (fun c11 => ?_) (fun c11 => ?_)
          · replace hf := xf c11 hf
            refine lv_aload_n S.1 S.2.1 d_RR_state_39 rfl (lv_at hl 0 rfl) ?_
            refine lv_aload_n S.1 S.2.1 d_RR_state_40 rfl (lv_at hl 0 rfl) ?_
            obtain ⟨t12, ht12, hf⟩ := xb hf
            refine x_getr S hw lk_RR_32 ht12 d_RR_state_41 ?_
            refine lv_iload_n S.1 S.2.1 d_RR_state_44 rfl (lv_at hl 1 rfl) ?_
            obtain ⟨t13, ht13, hf⟩ := xb hf
            refine x_aald S hw (t := 3) rfl rfl ht13 d_RR_state_45 ?_
            obtain ⟨t15, c16, u17, w18, h14, hf⟩ := xc4b hf
            obtain ⟨h14b, h14⟩ := xkb h14
            have hle : c16 ≤ kc ∧ u17 ≤ ku := by
              obtain ⟨r21, w19, h20, hf⟩ := xcb hf
              obtain ⟨rfl, rfl, rfl, rfl⟩ := xe4 hf
              constructor <;> omega
            refine x_callV (As := [.ref t13]) (rest := []) (st1 := [.ref t15]) S hw (c_RR_automatonOf h14) (cwV 1 S.2.2.2.2 gv_RR_213 rfl rfl rfl hd_RR_automatonOf ⟨Nat.le_of_ble_eq_true rfl, Nat.le_of_ble_eq_true rfl⟩) rfl h14b rfl hl.1 rfl rfl (Nat.le_of_ble_eq_true rfl) d_RR_state_46 ⟨(show _ ≤ kc by (try dsimp only); omega), (show _ ≤ ku by (try dsimp only); omega)⟩ (fun H locs hw => ?_)
            obtain ⟨r21, w19, h20, hf⟩ := xcb hf
            obtain ⟨rfl, rfl, rfl, rfl⟩ := xe4 hf
            exact W.widen (by (try dsimp only); omega) (by (try dsimp only); omega) (w_RR_state_49 S hr hlocks _ _ _ _ _ _ _ hw (lv_sub hl [2, 3] rfl) h20)
          · replace hf := xt c11 hf
            refine lv_bipush (v := (-2)) S.1 S.2.1 d_RR_state_36 (by decide) ?_
            obtain ⟨rfl, rfl, rfl, rfl⟩ := xe4 hf
            exact x_iret S hr hlocks hw d_RR_state_38
        · replace hf := xf c6 hf
          refine lv_iconst (v := (-1)) S.1 S.2.1 d_RR_state_22 (by decide) ?_
          obtain ⟨rfl, rfl, rfl, rfl⟩ := xe4 hf
          exact x_iret S hr hlocks hw d_RR_state_23
def f_RR_alike_65 (y0 : Nat) (y1 : Nat) (ω : xS) : Option (Int32 × xS) :=
  (xk ω y1 0 (f_Automaton_equalTo y1 y0 ω)).bind fun t35 =>
  if t35 = 0 then (
    some (0, ω))
  else (
    some (1, ω))
set_option maxHeartbeats 4000000 in
set_option maxRecDepth 100000 in
theorem w_RR_alike_65 {p : Program} {l : Launch} {e : Env} {s : State} {m : MethodId} {args : Array Value} {below : List Frame} {meth : Method} {c : Code} {E : xV} {z : Nat} {r : Int32} {ω1 : xS} {cc0 uu0 : Nat} (S : CallFix p m c b_RR_alike 3 s args xTbl "RosterRules") (hr : meth.sig.returnType = (some .int)) (hlocks : meth.locks = false) : ∀ (y0 : Nat) (y1 : Nat) (ω : xS) (H : Heap) (locs : List Loc) (ls : Array Slot), xW E z ω s s.heap H locs → lv_has ls 3 [] → f_RR_alike_65 y0 y1 ω = some (r, ω1) → W p l e (headSpec ws_RR_alike { frames := 5, cells := cc0, slots := uu0, locals := 118 }).room s m args below meth c H locs cc0 uu0 (MQ below (xQ E (some (.int r)) z ω1) args s cc0 uu0 (fun q => E.2.2 ≤ q)) (F0 m 65 ls [.ref y0, .ref y1]) := by
  intro y0 y1 ω H locs ls hw hl hf
  unfold f_RR_alike_65 at hf
  obtain ⟨t35, h34, hf⟩ := xb hf
  obtain ⟨h34b, h34⟩ := xkb h34
  refine x_callV (As := [.ref y0]) (rest := []) (st1 := [.int t35]) S hw (c_Automaton_equalTo h34) (cwV 1 S.2.2.2.2 gv_RR_234 rfl rfl rfl hd_Automaton_equalTo ⟨Nat.le_of_ble_eq_true rfl, Nat.le_of_ble_eq_true rfl⟩) rfl h34b rfl hl.1 rfl rfl (Nat.le_of_ble_eq_true rfl) d_RR_alike_65 ⟨(Nat.le_refl _), (Nat.le_refl _)⟩ (fun H locs hw => ?_)
  refine lv_if_eq (tgt := 75) S.1 S.2.1 d_RR_alike_68 (by decide) (fun c36 => ?_) (fun c36 => ?_)
  · replace hf := xt c36 hf
    refine lv_iconst (v := 0) S.1 S.2.1 d_RR_alike_75 (by decide) ?_
    obtain ⟨rfl, rfl⟩ := xe2 hf
    exact x_iret S hr hlocks hw d_RR_alike_76
  · replace hf := xf c36 hf
    refine lv_iconst (v := 1) S.1 S.2.1 d_RR_alike_71 (by decide) ?_
    refine lv_goto (tgt := 76) S.1 S.2.1 d_RR_alike_72 (by decide) ?_
    obtain ⟨rfl, rfl⟩ := xe2 hf
    exact x_iret S hr hlocks hw d_RR_alike_76
def f_RR_alike (a0 : Nat) (x1 : Int32) (x2 : Int32) (z : Nat) (ω : xS) : Option (Int32 × Nat × Nat × xS) :=
  (xk ω a0 11 (f_RR_isLaw a0 x1 ω)).bind fun t2 =>
  if t2 = 0 then (
    some ((-1), 0, 0, ω))
  else (
    (xk ω a0 11 (f_RR_isLaw a0 x2 ω)).bind fun t5 =>
    if t5 = 0 then (
      some ((-1), 0, 0, ω))
    else (
      (xgr ω a0 11 6).bind fun t7 =>
      (xar ω 3 t7 x1).bind fun t8 =>
      (xk ω t8 4 (f_Law_hasPattern t8  ω)).bind fun t10 =>
      if t10 = 0 then (
        some ((-2), 0, 0, ω))
      else (
        (xgr ω a0 11 6).bind fun t12 =>
        (xar ω 3 t12 x2).bind fun t13 =>
        (xk ω t13 4 (f_Law_hasPattern t13  ω)).bind fun t15 =>
        if t15 = 0 then (
          some ((-2), 0, 0, ω))
        else (
          (xgr ω a0 11 6).bind fun t17 =>
          (xar ω 3 t17 x1).bind fun t18 =>
          xc4 (xk ω a0 11 (f_RR_automatonOf a0 t18 z ω)) fun t20 c21 u22 w23 =>
          (xgr w23 a0 11 6).bind fun t24 =>
          (xar w23 3 t24 x2).bind fun t25 =>
          xc4 (xk w23 a0 11 (f_RR_automatonOf a0 t25 (z + c21) w23)) fun t27 c28 u29 w30 =>
          xc (f_RR_alike_65 t27 t20 w30) fun r33 w31 => some (r33, (c21 + c28), (u22 + u29), w31)))))
set_option maxHeartbeats 4000000 in
set_option maxRecDepth 100000 in
theorem c_RR_alike {l : Launch} {E : xV} {z : Nat} {a0 : Nat} {x1 : Int32} {x2 : Int32} {r : Int32} {ω1 : xS} {kc ku : Nat} {ω : xS} (hf : f_RR_alike a0 x1 x2 z ω = some (r, kc, ku, ω1)) : xM l E y_RR_alike ws_RR_alike { frames := 5, cells := kc, slots := ku, locals := 118 } [.ref a0, .int x1, .int x2] z ω (some (.int r)) (z + kc) ω1 := by
  refine x_start (cc := b_RR_alike) (maxL := 3) (ret := (some .int)) (by decide) rfl (Nat.le_of_ble_eq_true rfl) ?_
  intro p e s m below meth c S hr hlocks hin ls hl hw
  have hl : lv_has ls 3 [(0, .ref a0), (1, .int x1), (2, .int x2)] := hl
  unfold f_RR_alike at hf
  refine lv_aload_n S.1 S.2.1 d_RR_alike_0 rfl (lv_at hl 0 rfl) ?_
  refine lv_iload_n S.1 S.2.1 d_RR_alike_1 rfl (lv_at hl 1 rfl) ?_
  obtain ⟨t2, h1, hf⟩ := xb hf
  obtain ⟨h1b, h1⟩ := xkb h1
  refine x_callV (As := [.int x1]) (rest := []) (st1 := [.int t2]) S hw (c_RR_isLaw h1) (cwV 1 S.2.2.2.2 gv_RR_175 rfl rfl rfl hd_RR_isLaw ⟨Nat.le_of_ble_eq_true rfl, Nat.le_of_ble_eq_true rfl⟩) rfl h1b rfl hl.1 rfl rfl (Nat.le_of_ble_eq_true rfl) d_RR_alike_2 ⟨(show _ ≤ kc by (try dsimp only); omega), (show _ ≤ ku by (try dsimp only); omega)⟩ (fun H locs hw => ?_)
  refine lv_if_eq (tgt := 16) S.1 S.2.1 d_RR_alike_5 (by decide) (fun c3 => ?_) (fun c3 => ?_)
  · replace hf := xt c3 hf
    refine lv_iconst (v := (-1)) S.1 S.2.1 d_RR_alike_16 (by decide) ?_
    obtain ⟨rfl, rfl, rfl, rfl⟩ := xe4 hf
    exact x_iret S hr hlocks hw d_RR_alike_17
  · replace hf := xf c3 hf
    refine lv_aload_n S.1 S.2.1 d_RR_alike_8 rfl (lv_at hl 0 rfl) ?_
    refine lv_iload_n S.1 S.2.1 d_RR_alike_9 rfl (lv_at hl 2 rfl) ?_
    obtain ⟨t5, h4, hf⟩ := xb hf
    obtain ⟨h4b, h4⟩ := xkb h4
    refine x_callV (As := [.int x2]) (rest := []) (st1 := [.int t5]) S hw (c_RR_isLaw h4) (cwV 1 S.2.2.2.2 gv_RR_175 rfl rfl rfl hd_RR_isLaw ⟨Nat.le_of_ble_eq_true rfl, Nat.le_of_ble_eq_true rfl⟩) rfl h4b rfl hl.1 rfl rfl (Nat.le_of_ble_eq_true rfl) d_RR_alike_10 ⟨(show _ ≤ kc by (try dsimp only); omega), (show _ ≤ ku by (try dsimp only); omega)⟩ (fun H locs hw => ?_)
    refine lv_if_ne (tgt := 18) S.1 S.2.1 d_RR_alike_13 (by decide) (fun c6 => ?_) (fun c6 => ?_)
    · replace hf := xf c6 hf
      refine lv_aload_n S.1 S.2.1 d_RR_alike_18 rfl (lv_at hl 0 rfl) ?_
      obtain ⟨t7, ht7, hf⟩ := xb hf
      refine x_getr S hw lk_RR_32 ht7 d_RR_alike_19 ?_
      refine lv_iload_n S.1 S.2.1 d_RR_alike_22 rfl (lv_at hl 1 rfl) ?_
      obtain ⟨t8, ht8, hf⟩ := xb hf
      refine x_aald S hw (t := 3) rfl rfl ht8 d_RR_alike_23 ?_
      obtain ⟨t10, h9, hf⟩ := xb hf
      obtain ⟨h9b, h9⟩ := xkb h9
      refine x_callV (As := []) (rest := []) (st1 := [.int t10]) S hw (c_Law_hasPattern h9) (cwV 0 S.2.2.2.2 gv_RR_210 rfl rfl rfl hd_Law_hasPattern ⟨Nat.le_of_ble_eq_true rfl, Nat.le_of_ble_eq_true rfl⟩) rfl h9b rfl hl.1 rfl rfl (Nat.le_of_ble_eq_true rfl) d_RR_alike_24 ⟨(show _ ≤ kc by (try dsimp only); omega), (show _ ≤ ku by (try dsimp only); omega)⟩ (fun H locs hw => ?_)
      refine lv_if_eq (tgt := 42) S.1 S.2.1 d_RR_alike_27 (by decide) (fun c11 => ?_) (fun c11 => ?_)
      · replace hf := xt c11 hf
        refine lv_bipush (v := (-2)) S.1 S.2.1 d_RR_alike_42 (by decide) ?_
        obtain ⟨rfl, rfl, rfl, rfl⟩ := xe4 hf
        exact x_iret S hr hlocks hw d_RR_alike_44
      · replace hf := xf c11 hf
        refine lv_aload_n S.1 S.2.1 d_RR_alike_30 rfl (lv_at hl 0 rfl) ?_
        obtain ⟨t12, ht12, hf⟩ := xb hf
        refine x_getr S hw lk_RR_32 ht12 d_RR_alike_31 ?_
        refine lv_iload_n S.1 S.2.1 d_RR_alike_34 rfl (lv_at hl 2 rfl) ?_
        obtain ⟨t13, ht13, hf⟩ := xb hf
        refine x_aald S hw (t := 3) rfl rfl ht13 d_RR_alike_35 ?_
        obtain ⟨t15, h14, hf⟩ := xb hf
        obtain ⟨h14b, h14⟩ := xkb h14
        refine x_callV (As := []) (rest := []) (st1 := [.int t15]) S hw (c_Law_hasPattern h14) (cwV 0 S.2.2.2.2 gv_RR_210 rfl rfl rfl hd_Law_hasPattern ⟨Nat.le_of_ble_eq_true rfl, Nat.le_of_ble_eq_true rfl⟩) rfl h14b rfl hl.1 rfl rfl (Nat.le_of_ble_eq_true rfl) d_RR_alike_36 ⟨(show _ ≤ kc by (try dsimp only); omega), (show _ ≤ ku by (try dsimp only); omega)⟩ (fun H locs hw => ?_)
        refine lv_if_ne (tgt := 45) S.1 S.2.1 d_RR_alike_39 (by decide) (fun c16 => ?_) (fun c16 => ?_)
        · replace hf := xf c16 hf
          refine lv_aload_n S.1 S.2.1 d_RR_alike_45 rfl (lv_at hl 0 rfl) ?_
          refine lv_aload_n S.1 S.2.1 d_RR_alike_46 rfl (lv_at hl 0 rfl) ?_
          obtain ⟨t17, ht17, hf⟩ := xb hf
          refine x_getr S hw lk_RR_32 ht17 d_RR_alike_47 ?_
          refine lv_iload_n S.1 S.2.1 d_RR_alike_50 rfl (lv_at hl 1 rfl) ?_
          obtain ⟨t18, ht18, hf⟩ := xb hf
          refine x_aald S hw (t := 3) rfl rfl ht18 d_RR_alike_51 ?_
          obtain ⟨t20, c21, u22, w23, h19, hf⟩ := xc4b hf
          obtain ⟨h19b, h19⟩ := xkb h19
          have hle : c21 ≤ kc ∧ u22 ≤ ku := by
            obtain ⟨t24, ht24, hf⟩ := xb hf
            obtain ⟨t25, ht25, hf⟩ := xb hf
            obtain ⟨t27, c28, u29, w30, h26, hf⟩ := xc4b hf
            obtain ⟨h26b, h26⟩ := xkb h26
            obtain ⟨r33, w31, h32, hf⟩ := xcb hf
            obtain ⟨rfl, rfl, rfl, rfl⟩ := xe4 hf
            constructor <;> omega
          refine x_callV (As := [.ref t18]) (rest := []) (st1 := [.ref t20]) S hw (c_RR_automatonOf h19) (cwV 1 S.2.2.2.2 gv_RR_213 rfl rfl rfl hd_RR_automatonOf ⟨Nat.le_of_ble_eq_true rfl, Nat.le_of_ble_eq_true rfl⟩) rfl h19b rfl hl.1 rfl rfl (Nat.le_of_ble_eq_true rfl) d_RR_alike_52 ⟨(show _ ≤ kc by (try dsimp only); omega), (show _ ≤ ku by (try dsimp only); omega)⟩ (fun H locs hw => ?_)
          refine lv_aload_n S.1 S.2.1 d_RR_alike_55 rfl (lv_at hl 0 rfl) ?_
          refine lv_aload_n S.1 S.2.1 d_RR_alike_56 rfl (lv_at hl 0 rfl) ?_
          obtain ⟨t24, ht24, hf⟩ := xb hf
          refine x_getr S hw lk_RR_32 ht24 d_RR_alike_57 ?_
          refine lv_iload_n S.1 S.2.1 d_RR_alike_60 rfl (lv_at hl 2 rfl) ?_
          obtain ⟨t25, ht25, hf⟩ := xb hf
          refine x_aald S hw (t := 3) rfl rfl ht25 d_RR_alike_61 ?_
          obtain ⟨t27, c28, u29, w30, h26, hf⟩ := xc4b hf
          obtain ⟨h26b, h26⟩ := xkb h26
          have hle : (c21 + c28) ≤ kc ∧ (u22 + u29) ≤ ku := by
            obtain ⟨r33, w31, h32, hf⟩ := xcb hf
            obtain ⟨rfl, rfl, rfl, rfl⟩ := xe4 hf
            constructor <;> omega
          refine x_callV (As := [.ref t25]) (rest := [.ref t20]) (st1 := [.ref t27, .ref t20]) S hw (c_RR_automatonOf h26) (cwV 1 S.2.2.2.2 gv_RR_213 rfl rfl rfl hd_RR_automatonOf ⟨Nat.le_of_ble_eq_true rfl, Nat.le_of_ble_eq_true rfl⟩) rfl h26b rfl hl.1 rfl rfl (Nat.le_of_ble_eq_true rfl) d_RR_alike_62 ⟨(show _ ≤ kc by (try dsimp only); omega), (show _ ≤ ku by (try dsimp only); omega)⟩ (fun H locs hw => ?_)
          rw [Nat.add_assoc] at hw
          obtain ⟨r33, w31, h32, hf⟩ := xcb hf
          obtain ⟨rfl, rfl, rfl, rfl⟩ := xe4 hf
          exact W.widen (by (try dsimp only); omega) (by (try dsimp only); omega) (w_RR_alike_65 S hr hlocks _ _ _ _ _ _ hw (lv_sub hl [] rfl) h32)
        · replace hf := xt c16 hf
          refine lv_bipush (v := (-2)) S.1 S.2.1 d_RR_alike_42 (by decide) ?_
          obtain ⟨rfl, rfl, rfl, rfl⟩ := xe4 hf
          exact x_iret S hr hlocks hw d_RR_alike_44
    · replace hf := xt c6 hf
      refine lv_iconst (v := (-1)) S.1 S.2.1 d_RR_alike_16 (by decide) ?_
      obtain ⟨rfl, rfl, rfl, rfl⟩ := xe4 hf
      exact x_iret S hr hlocks hw d_RR_alike_17
def f_RR_words (a0 : Nat) (x1 : Int32) (x2 : Int32) (z : Nat) (ω : xS) : Option (Int64 × Nat × Nat × xS) :=
  (xk ω a0 11 (f_RR_isLaw a0 x1 ω)).bind fun t2 =>
  if t2 = 0 then (
    some ((-1), 0, 0, ω))
  else (
    (xgr ω a0 11 6).bind fun t4 =>
    (xar ω 3 t4 x1).bind fun t5 =>
    (xk ω t5 4 (f_Law_hasPattern t5  ω)).bind fun t7 =>
    if t7 = 0 then (
      some ((-1), 0, 0, ω))
    else (
      if x2 < 0 then (
        some ((-1), 0, 0, ω))
      else (
        if x2 ≤ 40 then (
          (xgr ω a0 11 5).bind fun t11 =>
          (xgr ω a0 11 6).bind fun t12 =>
          (xar ω 3 t12 x1).bind fun t13 =>
          xc4 (xk ω a0 11 (f_RR_automatonOf a0 t13 z ω)) fun t15 c16 u17 w18 =>
          xc (xk w18 t11 1 (f_AutomatonMaker_wordsOf t11 t15 x2 w18)) fun t20 w21 =>
          some (t20, c16, u17, w21))
        else (
          some ((-1), 0, 0, ω)))))
set_option maxHeartbeats 4000000 in
set_option maxRecDepth 100000 in
theorem c_RR_words {l : Launch} {E : xV} {z : Nat} {a0 : Nat} {x1 : Int32} {x2 : Int32} {r : Int64} {ω1 : xS} {kc ku : Nat} {ω : xS} (hf : f_RR_words a0 x1 x2 z ω = some (r, kc, ku, ω1)) : xM l E y_RR_words ws_RR_words { frames := 5, cells := kc, slots := ku, locals := 118 } [.ref a0, .int x1, .int x2] z ω (some (.long r)) (z + kc) ω1 := by
  refine x_start (cc := b_RR_words) (maxL := 3) (ret := (some .long)) (by decide) rfl (Nat.le_of_ble_eq_true rfl) ?_
  intro p e s m below meth c S hr hlocks hin ls hl hw
  have hl : lv_has ls 3 [(0, .ref a0), (1, .int x1), (2, .int x2)] := hl
  unfold f_RR_words at hf
  refine lv_aload_n S.1 S.2.1 d_RR_words_0 rfl (lv_at hl 0 rfl) ?_
  refine lv_iload_n S.1 S.2.1 d_RR_words_1 rfl (lv_at hl 1 rfl) ?_
  obtain ⟨t2, h1, hf⟩ := xb hf
  obtain ⟨h1b, h1⟩ := xkb h1
  refine x_callV (As := [.int x1]) (rest := []) (st1 := [.int t2]) S hw (c_RR_isLaw h1) (cwV 1 S.2.2.2.2 gv_RR_175 rfl rfl rfl hd_RR_isLaw ⟨Nat.le_of_ble_eq_true rfl, Nat.le_of_ble_eq_true rfl⟩) rfl h1b rfl hl.1 rfl rfl (Nat.le_of_ble_eq_true rfl) d_RR_words_2 ⟨(show _ ≤ kc by (try dsimp only); omega), (show _ ≤ ku by (try dsimp only); omega)⟩ (fun H locs hw => ?_)
  refine lv_if_eq (tgt := 30) S.1 S.2.1 d_RR_words_5 (by decide) (fun c3 => ?_) (fun c3 => ?_)
  · replace hf := xt c3 hf
    refine lv_ldc2 (v := (-1)) S.1 S.2.1 S.2.2.2.1 (S.2.2.2.2 _ wd_4_83) d_RR_words_30 ?_
    obtain ⟨rfl, rfl, rfl, rfl⟩ := xe4 hf
    exact x_lret S hr hlocks hw d_RR_words_33
  · replace hf := xf c3 hf
    refine lv_aload_n S.1 S.2.1 d_RR_words_8 rfl (lv_at hl 0 rfl) ?_
    obtain ⟨t4, ht4, hf⟩ := xb hf
    refine x_getr S hw lk_RR_32 ht4 d_RR_words_9 ?_
    refine lv_iload_n S.1 S.2.1 d_RR_words_12 rfl (lv_at hl 1 rfl) ?_
    obtain ⟨t5, ht5, hf⟩ := xb hf
    refine x_aald S hw (t := 3) rfl rfl ht5 d_RR_words_13 ?_
    obtain ⟨t7, h6, hf⟩ := xb hf
    obtain ⟨h6b, h6⟩ := xkb h6
    refine x_callV (As := []) (rest := []) (st1 := [.int t7]) S hw (c_Law_hasPattern h6) (cwV 0 S.2.2.2.2 gv_RR_210 rfl rfl rfl hd_Law_hasPattern ⟨Nat.le_of_ble_eq_true rfl, Nat.le_of_ble_eq_true rfl⟩) rfl h6b rfl hl.1 rfl rfl (Nat.le_of_ble_eq_true rfl) d_RR_words_14 ⟨(show _ ≤ kc by (try dsimp only); omega), (show _ ≤ ku by (try dsimp only); omega)⟩ (fun H locs hw => ?_)
    refine lv_if_eq (tgt := 30) S.1 S.2.1 d_RR_words_17 (by decide) (fun c8 => ?_) (fun c8 => ?_)
    · replace hf := xt c8 hf
      refine lv_ldc2 (v := (-1)) S.1 S.2.1 S.2.2.2.1 (S.2.2.2.2 _ wd_4_83) d_RR_words_30 ?_
      obtain ⟨rfl, rfl, rfl, rfl⟩ := xe4 hf
      exact x_lret S hr hlocks hw d_RR_words_33
    · replace hf := xf c8 hf
      refine lv_iload_n S.1 S.2.1 d_RR_words_20 rfl (lv_at hl 2 rfl) ?_
      refine lv_if_lt (tgt := 30) S.1 S.2.1 d_RR_words_21 (by decide) (fun c9 => ?_) (fun c9 => ?_)
      · replace hf := xt c9 hf
        refine lv_ldc2 (v := (-1)) S.1 S.2.1 S.2.2.2.1 (S.2.2.2.2 _ wd_4_83) d_RR_words_30 ?_
        obtain ⟨rfl, rfl, rfl, rfl⟩ := xe4 hf
        exact x_lret S hr hlocks hw d_RR_words_33
      · replace hf := xf c9 hf
        refine lv_iload_n S.1 S.2.1 d_RR_words_24 rfl (lv_at hl 2 rfl) ?_
        refine lv_bipush (v := 40) S.1 S.2.1 d_RR_words_25 (by decide) ?_
        refine lv_icmp_le (tgt := 34) S.1 S.2.1 d_RR_words_27 (by decide) (fun c10 => ?_) (fun c10 => ?_)
        · replace hf := xt c10 hf
          refine lv_aload_n S.1 S.2.1 d_RR_words_34 rfl (lv_at hl 0 rfl) ?_
          obtain ⟨t11, ht11, hf⟩ := xb hf
          refine x_getr S hw lk_RR_26 ht11 d_RR_words_35 ?_
          refine lv_aload_n S.1 S.2.1 d_RR_words_38 rfl (lv_at hl 0 rfl) ?_
          refine lv_aload_n S.1 S.2.1 d_RR_words_39 rfl (lv_at hl 0 rfl) ?_
          obtain ⟨t12, ht12, hf⟩ := xb hf
          refine x_getr S hw lk_RR_32 ht12 d_RR_words_40 ?_
          refine lv_iload_n S.1 S.2.1 d_RR_words_43 rfl (lv_at hl 1 rfl) ?_
          obtain ⟨t13, ht13, hf⟩ := xb hf
          refine x_aald S hw (t := 3) rfl rfl ht13 d_RR_words_44 ?_
          obtain ⟨t15, c16, u17, w18, h14, hf⟩ := xc4b hf
          obtain ⟨h14b, h14⟩ := xkb h14
          have hle : c16 ≤ kc ∧ u17 ≤ ku := by
            obtain ⟨t20, w21, h19, hf⟩ := xcb hf
            obtain ⟨h19b, h19⟩ := xkb h19
            obtain ⟨rfl, rfl, rfl, rfl⟩ := xe4 hf
            constructor <;> omega
          refine x_callV (As := [.ref t13]) (rest := [.ref t11]) (st1 := [.ref t15, .ref t11]) S hw (c_RR_automatonOf h14) (cwV 1 S.2.2.2.2 gv_RR_213 rfl rfl rfl hd_RR_automatonOf ⟨Nat.le_of_ble_eq_true rfl, Nat.le_of_ble_eq_true rfl⟩) rfl h14b rfl hl.1 rfl rfl (Nat.le_of_ble_eq_true rfl) d_RR_words_45 ⟨(show _ ≤ kc by (try dsimp only); omega), (show _ ≤ ku by (try dsimp only); omega)⟩ (fun H locs hw => ?_)
          refine lv_iload_n S.1 S.2.1 d_RR_words_48 rfl (lv_at hl 2 rfl) ?_
          obtain ⟨t20, w21, h19, hf⟩ := xcb hf
          obtain ⟨h19b, h19⟩ := xkb h19
          refine x_callV (As := [.ref t15, .int x2]) (rest := []) (st1 := [.long t20]) S hw (c_AutomatonMaker_wordsOf h19) (cwV 2 S.2.2.2.2 gv_RR_238 rfl rfl rfl hd_AutomatonMaker_wordsOf ⟨Nat.le_of_ble_eq_true rfl, Nat.le_of_ble_eq_true rfl⟩) rfl h19b rfl hl.1 rfl rfl (Nat.le_of_ble_eq_true rfl) d_RR_words_49 ⟨(show _ ≤ kc by (try dsimp only); omega), (show _ ≤ ku by (try dsimp only); omega)⟩ (fun H locs hw => ?_)
          obtain ⟨rfl, rfl, rfl, rfl⟩ := xe4 hf
          exact W.widen (by (try dsimp only); omega) (by (try dsimp only); omega) (x_lret S hr hlocks hw d_RR_words_52)
        · replace hf := xf c10 hf
          refine lv_ldc2 (v := (-1)) S.1 S.2.1 S.2.2.2.1 (S.2.2.2.2 _ wd_4_83) d_RR_words_30 ?_
          obtain ⟨rfl, rfl, rfl, rfl⟩ := xe4 hf
          exact x_lret S hr hlocks hw d_RR_words_33
