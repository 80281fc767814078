def f_RR_word (a0 : Nat) (x1 : Int32) (x2 : Int32) (z : Nat) (ω : xS) : Option (Int32 × Nat × Nat × xS) :=
  (xk ω a0 11 (f_RR_isLaw a0 x1 ω)).bind fun t2 =>
  if t2 = 0 then (
    some ((-1), 0, 0, ω))
  else (
    if 0 ≤ x2 then (
      (xgr ω a0 11 6).bind fun t5 =>
      (xar ω 3 t5 x1).bind fun t6 =>
      (xk ω t6 4 (f_Law_hasPattern t6  ω)).bind fun t8 =>
      if t8 = 0 then (
        some ((-2), 0, 0, ω))
      else (
        (xgr ω a0 11 6).bind fun t10 =>
        (xar ω 3 t10 x1).bind fun t11 =>
        xc4 (xk ω a0 11 (f_RR_automatonOf a0 t11 z ω)) fun t13 c14 u15 w16 =>
        (xk w16 t13 0 (f_Automaton_letterOfShortest t13 x2 w16)).bind fun t18 =>
        some (t18, c14, u15, w16)))
    else (
      some ((-1), 0, 0, ω)))
set_option maxHeartbeats 4000000 in
set_option maxRecDepth 100000 in
theorem c_RR_word {l : Launch} {E : xV} {z : Nat} {a0 : Nat} {x1 : Int32} {x2 : Int32} {r : Int32} {ω1 : xS} {kc ku : Nat} {ω : xS} (hf : f_RR_word a0 x1 x2 z ω = some (r, kc, ku, ω1)) : xM l E y_RR_word ws_RR_word { frames := 5, cells := kc, slots := ku, locals := 118 } [.ref a0, .int x1, .int x2] z ω (some (.int r)) (z + kc) ω1 := by
  refine x_start (cc := b_RR_word) (maxL := 3) (ret := (some .int)) (by decide) rfl (Nat.le_of_ble_eq_true rfl) ?_
  intro p e s m below meth c S hr hlocks hin ls hl hw
  have hl : lv_has ls 3 [(0, .ref a0), (1, .int x1), (2, .int x2)] := hl
  unfold f_RR_word at hf
  refine lv_aload_n S.1 S.2.1 d_RR_word_0 rfl (lv_at hl 0 rfl) ?_
  refine lv_iload_n S.1 S.2.1 d_RR_word_1 rfl (lv_at hl 1 rfl) ?_
  obtain ⟨t2, h1, hf⟩ := xb hf
  obtain ⟨h1b, h1⟩ := xkb h1
  refine x_callV (As := [.int x1]) (rest := []) (st1 := [.int t2]) S hw (c_RR_isLaw h1) (cwV 1 S.2.2.2.2 gv_RR_175 rfl rfl rfl hd_RR_isLaw ⟨Nat.le_of_ble_eq_true rfl, Nat.le_of_ble_eq_true rfl⟩) rfl h1b rfl hl.1 rfl rfl (Nat.le_of_ble_eq_true rfl) d_RR_word_2 ⟨(show _ ≤ kc by (try dsimp only); omega), (show _ ≤ ku by (try dsimp only); omega)⟩ (fun H locs hw => ?_)
  refine lv_if_eq (tgt := 12) S.1 S.2.1 d_RR_word_5 (by decide) (fun c3 => ?_) (fun c3 => ?_)
  · replace hf := xt c3 hf
    refine lv_iconst (v := (-1)) S.1 S.2.1 d_RR_word_12 (by decide) ?_
    obtain ⟨rfl, rfl, rfl, rfl⟩ := xe4 hf
    exact x_iret S hr hlocks hw d_RR_word_13
  · replace hf := xf c3 hf
    refine lv_iload_n S.1 S.2.1 d_RR_word_8 rfl (lv_at hl 2 rfl) ?_
    refine lv_if_ge (tgt := 14) S.1 S.2.1 d_RR_word_9 (by decide) (fun c4 => ?_) (fun c4 => ?_)
    · replace hf := xt c4 hf
      refine lv_aload_n S.1 S.2.1 d_RR_word_14 rfl (lv_at hl 0 rfl) ?_
      obtain ⟨t5, ht5, hf⟩ := xb hf
      refine x_getr S hw lk_RR_32 ht5 d_RR_word_15 ?_
      refine lv_iload_n S.1 S.2.1 d_RR_word_18 rfl (lv_at hl 1 rfl) ?_
      obtain ⟨t6, ht6, hf⟩ := xb hf
      refine x_aald S hw (t := 3) rfl rfl ht6 d_RR_word_19 ?_
      obtain ⟨t8, h7, hf⟩ := xb hf
      obtain ⟨h7b, h7⟩ := xkb h7
      refine x_callV (As := []) (rest := []) (st1 := [.int t8]) S hw (c_Law_hasPattern h7) (cwV 0 S.2.2.2.2 gv_RR_210 rfl rfl rfl hd_Law_hasPattern ⟨Nat.le_of_ble_eq_true rfl, Nat.le_of_ble_eq_true rfl⟩) rfl h7b rfl hl.1 rfl rfl (Nat.le_of_ble_eq_true rfl) d_RR_word_20 ⟨(show _ ≤ kc by (try dsimp only); omega), (show _ ≤ ku by (try dsimp only); omega)⟩ (fun H locs hw => ?_)
      refine lv_if_eq (tgt := 43) S.1 S.2.1 d_RR_word_23 (by decide) (fun c9 => ?_) (fun c9 => ?_)
      · replace hf := xt c9 hf
        refine lv_bipush (v := (-2)) S.1 S.2.1 d_RR_word_43 (by decide) ?_
        obtain ⟨rfl, rfl, rfl, rfl⟩ := xe4 hf
        exact x_iret S hr hlocks hw d_RR_word_45
      · replace hf := xf c9 hf
        refine lv_aload_n S.1 S.2.1 d_RR_word_26 rfl (lv_at hl 0 rfl) ?_
        refine lv_aload_n S.1 S.2.1 d_RR_word_27 rfl (lv_at hl 0 rfl) ?_
        obtain ⟨t10, ht10, hf⟩ := xb hf
        refine x_getr S hw lk_RR_32 ht10 d_RR_word_28 ?_
        refine lv_iload_n S.1 S.2.1 d_RR_word_31 rfl (lv_at hl 1 rfl) ?_
        obtain ⟨t11, ht11, hf⟩ := xb hf
        refine x_aald S hw (t := 3) rfl rfl ht11 d_RR_word_32 ?_
        obtain ⟨t13, c14, u15, w16, h12, hf⟩ := xc4b hf
        obtain ⟨h12b, h12⟩ := xkb h12
        have hle : c14 ≤ kc ∧ u15 ≤ ku := by
          obtain ⟨t18, h17, hf⟩ := xb hf
          obtain ⟨h17b, h17⟩ := xkb h17
          obtain ⟨rfl, rfl, rfl, rfl⟩ := xe4 hf
          constructor <;> omega
        refine x_callV (As := [.ref t11]) (rest := []) (st1 := [.ref t13]) S hw (c_RR_automatonOf h12) (cwV 1 S.2.2.2.2 gv_RR_213 rfl rfl rfl hd_RR_automatonOf ⟨Nat.le_of_ble_eq_true rfl, Nat.le_of_ble_eq_true rfl⟩) rfl h12b rfl hl.1 rfl rfl (Nat.le_of_ble_eq_true rfl) d_RR_word_33 ⟨(show _ ≤ kc by (try dsimp only); omega), (show _ ≤ ku by (try dsimp only); omega)⟩ (fun H locs hw => ?_)
        refine lv_iload_n S.1 S.2.1 d_RR_word_36 rfl (lv_at hl 2 rfl) ?_
        obtain ⟨t18, h17, hf⟩ := xb hf
        obtain ⟨h17b, h17⟩ := xkb h17
        refine x_callV (As := [.int x2]) (rest := []) (st1 := [.int t18]) S hw (c_Automaton_letterOfShortest h17) (cwV 1 S.2.2.2.2 gv_RR_242 rfl rfl rfl hd_Automaton_letterOfShortest ⟨Nat.le_of_ble_eq_true rfl, Nat.le_of_ble_eq_true rfl⟩) rfl h17b rfl hl.1 rfl rfl (Nat.le_of_ble_eq_true rfl) d_RR_word_37 ⟨(show _ ≤ kc by (try dsimp only); omega), (show _ ≤ ku by (try dsimp only); omega)⟩ (fun H locs hw => ?_)
        refine lv_goto (tgt := 45) S.1 S.2.1 d_RR_word_40 (by decide) ?_
        obtain ⟨rfl, rfl, rfl, rfl⟩ := xe4 hf
        exact W.widen (by (try dsimp only); omega) (by (try dsimp only); omega) (x_iret S hr hlocks hw d_RR_word_45)
    · replace hf := xf c4 hf
      refine lv_iconst (v := (-1)) S.1 S.2.1 d_RR_word_12 (by decide) ?_
      obtain ⟨rfl, rfl, rfl, rfl⟩ := xe4 hf
      exact x_iret S hr hlocks hw d_RR_word_13
def f_RR_count (a0 : Nat) (x1 : Int32) (ω : xS) : Option Int32 :=
  if x1 = 0 then (
    (xgi ω a0 11 8).bind fun t2 =>
    some t2)
  else (
  if x1 = 1 then (
    (xgr ω a0 11 0).bind fun t4 =>
    (xgi ω t4 9 1).bind fun t5 =>
    some t5)
  else (
  if x1 = 2 then (
    (xgr ω a0 11 1).bind fun t7 =>
    (xgi ω t7 8 11).bind fun t8 =>
    some t8)
  else (
  if x1 = 3 then (
    (xgr ω a0 11 1).bind fun t10 =>
    (xgi ω t10 8 12).bind fun t11 =>
    some t11)
  else (
  if x1 = 4 then (
    (xgr ω a0 11 3).bind fun t13 =>
    (xgi ω t13 2 4).bind fun t14 =>
    some t14)
  else (
  some (-1))))))
set_option maxHeartbeats 4000000 in
set_option maxRecDepth 100000 in
theorem c_RR_count {l : Launch} {E : xV} {z : Nat} {a0 : Nat} {x1 : Int32} {r : Int32} {ω : xS} (hf : f_RR_count a0 x1 ω = some r) : xM l E y_RR_count ws_RR_count { frames := 0, cells := 0, slots := 0, locals := 0 } [.ref a0, .int x1] z ω (some (.int r)) z ω := by
  refine x_start (cc := b_RR_count) (maxL := 2) (ret := (some .int)) (by decide) rfl (Nat.le_of_ble_eq_true rfl) ?_
  intro p e s m below meth c S hr hlocks hin ls hl hw
  have hl : lv_has ls 2 [(0, .ref a0), (1, .int x1)] := hl
  unfold f_RR_count at hf
  refine lv_iload_n S.1 S.2.1 d_RR_count_0 rfl (lv_at hl 1 rfl) ?_
  by_cases c1 : x1 = 0
  · replace hf := xt c1 hf
    refine lv_tableIn (tgt := 36) S.1 S.2.1 d_RR_count_1 (by rw [c1]; decide) (by rw [c1]; decide) (by rw [c1]; rfl) (by decide) ?_
    refine lv_aload_n S.1 S.2.1 d_RR_count_36 rfl (lv_at hl 0 rfl) ?_
    obtain ⟨t2, ht2, hf⟩ := xb hf
    refine x_geti S hw lk_RR_94 ht2 d_RR_count_37 ?_
    obtain rfl := xe1 hf
    exact x_iret S hr hlocks hw d_RR_count_40
  replace hf := xf c1 hf
  by_cases c3 : x1 = 1
  · replace hf := xt c3 hf
    refine lv_tableIn (tgt := 41) S.1 S.2.1 d_RR_count_1 (by rw [c3]; decide) (by rw [c3]; decide) (by rw [c3]; rfl) (by decide) ?_
    refine lv_aload_n S.1 S.2.1 d_RR_count_41 rfl (lv_at hl 0 rfl) ?_
    obtain ⟨t4, ht4, hf⟩ := xb hf
    refine x_getr S hw lk_RR_10 ht4 d_RR_count_42 ?_
    obtain ⟨t5, ht5, hf⟩ := xb hf
    refine x_geti S hw lk_RR_80 ht5 d_RR_count_45 ?_
    obtain rfl := xe1 hf
    exact x_iret S hr hlocks hw d_RR_count_48
  replace hf := xf c3 hf
  by_cases c6 : x1 = 2
  · replace hf := xt c6 hf
    refine lv_tableIn (tgt := 49) S.1 S.2.1 d_RR_count_1 (by rw [c6]; decide) (by rw [c6]; decide) (by rw [c6]; rfl) (by decide) ?_
    refine lv_aload_n S.1 S.2.1 d_RR_count_49 rfl (lv_at hl 0 rfl) ?_
    obtain ⟨t7, ht7, hf⟩ := xb hf
    refine x_getr S hw lk_RR_53 ht7 d_RR_count_50 ?_
    obtain ⟨t8, ht8, hf⟩ := xb hf
    refine x_geti S hw lk_RR_246 ht8 d_RR_count_53 ?_
    obtain rfl := xe1 hf
    exact x_iret S hr hlocks hw d_RR_count_56
  replace hf := xf c6 hf
  by_cases c9 : x1 = 3
  · replace hf := xt c9 hf
    refine lv_tableIn (tgt := 57) S.1 S.2.1 d_RR_count_1 (by rw [c9]; decide) (by rw [c9]; decide) (by rw [c9]; rfl) (by decide) ?_
    refine lv_aload_n S.1 S.2.1 d_RR_count_57 rfl (lv_at hl 0 rfl) ?_
    obtain ⟨t10, ht10, hf⟩ := xb hf
    refine x_getr S hw lk_RR_53 ht10 d_RR_count_58 ?_
    obtain ⟨t11, ht11, hf⟩ := xb hf
    refine x_geti S hw lk_RR_249 ht11 d_RR_count_61 ?_
    obtain rfl := xe1 hf
    exact x_iret S hr hlocks hw d_RR_count_64
  replace hf := xf c9 hf
  by_cases c12 : x1 = 4
  · replace hf := xt c12 hf
    refine lv_tableIn (tgt := 65) S.1 S.2.1 d_RR_count_1 (by rw [c12]; decide) (by rw [c12]; decide) (by rw [c12]; rfl) (by decide) ?_
    refine lv_aload_n S.1 S.2.1 d_RR_count_65 rfl (lv_at hl 0 rfl) ?_
    obtain ⟨t13, ht13, hf⟩ := xb hf
    refine x_getr S hw lk_RR_19 ht13 d_RR_count_66 ?_
    obtain ⟨t14, ht14, hf⟩ := xb hf
    refine x_geti S hw lk_RR_148 ht14 d_RR_count_69 ?_
    obtain rfl := xe1 hf
    exact x_iret S hr hlocks hw d_RR_count_72
  replace hf := xf c12 hf
  refine lv_tableOut (tgt := 73) S.1 S.2.1 d_RR_count_1 (by have h_c1 := lv_neT (a := 0) c1 (by decide); have h_c3 := lv_neT (a := 1) c3 (by decide); have h_c6 := lv_neT (a := 2) c6 (by decide); have h_c9 := lv_neT (a := 3) c9 (by decide); have h_c12 := lv_neT (a := 4) c12 (by decide); omega) (by decide) ?_
  refine lv_iconst (v := (-1)) S.1 S.2.1 d_RR_count_73 (by decide) ?_
  obtain rfl := xe1 hf
  exact x_iret S hr hlocks hw d_RR_count_74
def f_Mo_init_491 : Nat → Nat → Int32 → xS → Option xS
  | 0, _, _, _ => none
  | n + 1, a0, x3, ω =>
    if 8 ≤ x3 then (
      some ω)
    else (
      (xgr ω a0 12 4).bind fun t109 =>
      (xsi ω t109 x3 480).bind fun w110 =>
      (xgr w110 a0 12 5).bind fun t111 =>
      (xsi w110 t111 x3 480).bind fun w112 =>
      (xgr w112 a0 12 7).bind fun t113 =>
      (xsi w112 t113 x3 1023).bind fun w114 =>
      f_Mo_init_491  n a0 (x3 + 1) w114)
set_option maxHeartbeats 4000000 in
set_option maxRecDepth 100000 in
theorem w_Mo_init_491 {p : Program} {l : Launch} {e : Env} {s : State} {m : MethodId} {args : Array Value} {below : List Frame} {meth : Method} {c : Code} {E : xV} {z : Nat} {ω1 : xS} (S : CallFix p m c b_Mo_init 4 s args xTbl "RosterRulesModel") (hr : meth.sig.returnType = none) (hlocks : meth.locks = false) (hin : meth.name = "<init>") : ∀ n : Nat, ∀ (a0 : Nat) (x3 : Int32) (ω : xS) (H : Heap) (locs : List Loc) (ls : Array Slot), xW E (z + 46) ω s s.heap H locs → lv_has ls 4 [(0, .ref a0), (3, .int x3)] → f_Mo_init_491 n a0 x3 ω = some ω1 → W p l e (headSpec ws_Mo_init { frames := 1, cells := 46, slots := 184924, locals := 20 }).room s m args below meth c H locs 46 184924 (MQ below (xQ E none (z + 46) ω1) args s 46 184924 (fun q => E.2.2 ≤ q)) (F0 m 491 ls []) := by
  intro n
  induction n with
  | zero =>
    intro a0 x3 ω H locs ls hw hl hf
    have h2 : (none : Option xS) = some ω1 := hf
    cases h2
  | succ n ih =>
    intro a0 x3 ω H locs ls hw hl hf
    rw [f_Mo_init_491] at hf
    refine lv_iload_n S.1 S.2.1 d_Mo_init_491 rfl (lv_at hl 1 rfl) ?_
    refine lv_bipush (v := 8) S.1 S.2.1 d_Mo_init_492 (by decide) ?_
    refine lv_icmp_ge (tgt := 530) S.1 S.2.1 d_Mo_init_494 (by decide) (fun c108 => ?_) (fun c108 => ?_)
    · replace hf := xt c108 hf
      cases hf
      exact x_vret S hr hlocks hw d_Mo_init_530
    · replace hf := xf c108 hf
      refine lv_aload_n S.1 S.2.1 d_Mo_init_497 rfl (lv_at hl 0 rfl) ?_
      obtain ⟨t109, ht109, hf⟩ := xb hf
      refine x_getr S hw lk_Mo_16 ht109 d_Mo_init_498 ?_
      refine lv_iload_n S.1 S.2.1 d_Mo_init_501 rfl (lv_at hl 1 rfl) ?_
      refine lv_sipush (v := 480) S.1 S.2.1 d_Mo_init_502 (by decide) ?_
      obtain ⟨w110, hw110, hf⟩ := xb hf
      refine x_iast S hw hw110 d_Mo_init_505 (fun H locs hw => ?_)
      refine lv_aload_n S.1 S.2.1 d_Mo_init_506 rfl (lv_at hl 0 rfl) ?_
      obtain ⟨t111, ht111, hf⟩ := xb hf
      refine x_getr S hw lk_Mo_19 ht111 d_Mo_init_507 ?_
      refine lv_iload_n S.1 S.2.1 d_Mo_init_510 rfl (lv_at hl 1 rfl) ?_
      refine lv_sipush (v := 480) S.1 S.2.1 d_Mo_init_511 (by decide) ?_
      obtain ⟨w112, hw112, hf⟩ := xb hf
      refine x_iast S hw hw112 d_Mo_init_514 (fun H locs hw => ?_)
      refine lv_aload_n S.1 S.2.1 d_Mo_init_515 rfl (lv_at hl 0 rfl) ?_
      obtain ⟨t113, ht113, hf⟩ := xb hf
      refine x_getr S hw lk_Mo_25 ht113 d_Mo_init_516 ?_
      refine lv_iload_n S.1 S.2.1 d_Mo_init_519 rfl (lv_at hl 1 rfl) ?_
      refine lv_sipush (v := 1023) S.1 S.2.1 d_Mo_init_520 (by decide) ?_
      obtain ⟨w114, hw114, hf⟩ := xb hf
      refine x_iast S hw hw114 d_Mo_init_523 (fun H locs hw => ?_)
      refine lv_iinc (v := (x3 + 1)) (lv' := [(3, .int (x3 + 1)), (0, .ref a0)]) S.1 S.2.1 d_Mo_init_524 hl (k := 1) rfl rfl (by decide) rfl (fun ls hl => ?_)
      refine lv_goto (tgt := 491) S.1 S.2.1 d_Mo_init_527 (by decide) ?_
      exact ih _ _ _ _ _ _ hw (lv_sub hl [1, 0] rfl) hf
def f_Mo_init_470 : Nat → Nat → Int32 → xS → Option xS
  | 0, _, _, _ => none
  | n + 1, a0, x3, ω =>
    if 56 ≤ x3 then (
      f_Mo_init_491  xFU a0 0 ω)
    else (
      (xgr ω a0 12 3).bind fun t106 =>
      (xsi ω t106 x3 (-1)).bind fun w107 =>
      f_Mo_init_470  n a0 (x3 + 1) w107)
set_option maxHeartbeats 4000000 in
set_option maxRecDepth 100000 in
theorem w_Mo_init_470 {p : Program} {l : Launch} {e : Env} {s : State} {m : MethodId} {args : Array Value} {below : List Frame} {meth : Method} {c : Code} {E : xV} {z : Nat} {ω1 : xS} (S : CallFix p m c b_Mo_init 4 s args xTbl "RosterRulesModel") (hr : meth.sig.returnType = none) (hlocks : meth.locks = false) (hin : meth.name = "<init>") : ∀ n : Nat, ∀ (a0 : Nat) (x3 : Int32) (ω : xS) (H : Heap) (locs : List Loc) (ls : Array Slot), xW E (z + 46) ω s s.heap H locs → lv_has ls 4 [(0, .ref a0), (3, .int x3)] → f_Mo_init_470 n a0 x3 ω = some ω1 → W p l e (headSpec ws_Mo_init { frames := 1, cells := 46, slots := 184924, locals := 20 }).room s m args below meth c H locs 46 184924 (MQ below (xQ E none (z + 46) ω1) args s 46 184924 (fun q => E.2.2 ≤ q)) (F0 m 470 ls []) := by
  intro n
  induction n with
  | zero =>
    intro a0 x3 ω H locs ls hw hl hf
    have h2 : (none : Option xS) = some ω1 := hf
    cases h2
  | succ n ih =>
    intro a0 x3 ω H locs ls hw hl hf
    rw [f_Mo_init_470] at hf
    refine lv_iload_n S.1 S.2.1 d_Mo_init_470 rfl (lv_at hl 1 rfl) ?_
    refine lv_bipush (v := 56) S.1 S.2.1 d_Mo_init_471 (by decide) ?_
    refine lv_icmp_ge (tgt := 489) S.1 S.2.1 d_Mo_init_473 (by decide) (fun c105 => ?_) (fun c105 => ?_)
    · replace hf := xt c105 hf
      refine lv_iconst (v := 0) S.1 S.2.1 d_Mo_init_489 (by decide) ?_
      refine lv_istore_n (lv' := [(3, .int 0), (0, .ref a0)]) S.1 S.2.1 d_Mo_init_490 rfl hl (by decide) rfl (fun ls hl => ?_)
      exact w_Mo_init_491 S hr hlocks hin  _ _ _ _ _ _ _ hw (lv_sub hl [1, 0] rfl) hf
    · replace hf := xf c105 hf
      refine lv_aload_n S.1 S.2.1 d_Mo_init_476 rfl (lv_at hl 0 rfl) ?_
      obtain ⟨t106, ht106, hf⟩ := xb hf
      refine x_getr S hw lk_Mo_13 ht106 d_Mo_init_477 ?_
      refine lv_iload_n S.1 S.2.1 d_Mo_init_480 rfl (lv_at hl 1 rfl) ?_
      refine lv_iconst (v := (-1)) S.1 S.2.1 d_Mo_init_481 (by decide) ?_
      obtain ⟨w107, hw107, hf⟩ := xb hf
      refine x_iast S hw hw107 d_Mo_init_482 (fun H locs hw => ?_)
      refine lv_iinc (v := (x3 + 1)) (lv' := [(3, .int (x3 + 1)), (0, .ref a0)]) S.1 S.2.1 d_Mo_init_483 hl (k := 1) rfl rfl (by decide) rfl (fun ls hl => ?_)
      refine lv_goto (tgt := 470) S.1 S.2.1 d_Mo_init_486 (by decide) ?_
      exact ih _ _ _ _ _ _ hw (lv_sub hl [1, 0] rfl) hf
def f_Mo_init_448 : Nat → Nat → Int32 → xS → Option xS
  | 0, _, _, _ => none
  | n + 1, a0, x3, ω =>
    if 168 ≤ x3 then (
      f_Mo_init_470  xFU a0 0 ω)
    else (
      (xgr ω a0 12 2).bind fun t103 =>
      (xsi ω t103 x3 (-1)).bind fun w104 =>
      f_Mo_init_448  n a0 (x3 + 1) w104)
set_option maxHeartbeats 4000000 in
set_option maxRecDepth 100000 in
theorem w_Mo_init_448 {p : Program} {l : Launch} {e : Env} {s : State} {m : MethodId} {args : Array Value} {below : List Frame} {meth : Method} {c : Code} {E : xV} {z : Nat} {ω1 : xS} (S : CallFix p m c b_Mo_init 4 s args xTbl "RosterRulesModel") (hr : meth.sig.returnType = none) (hlocks : meth.locks = false) (hin : meth.name = "<init>") : ∀ n : Nat, ∀ (a0 : Nat) (x3 : Int32) (ω : xS) (H : Heap) (locs : List Loc) (ls : Array Slot), xW E (z + 46) ω s s.heap H locs → lv_has ls 4 [(0, .ref a0), (3, .int x3)] → f_Mo_init_448 n a0 x3 ω = some ω1 → W p l e (headSpec ws_Mo_init { frames := 1, cells := 46, slots := 184924, locals := 20 }).room s m args below meth c H locs 46 184924 (MQ below (xQ E none (z + 46) ω1) args s 46 184924 (fun q => E.2.2 ≤ q)) (F0 m 448 ls []) := by
  intro n
  induction n with
  | zero =>
    intro a0 x3 ω H locs ls hw hl hf
    have h2 : (none : Option xS) = some ω1 := hf
    cases h2
  | succ n ih =>
    intro a0 x3 ω H locs ls hw hl hf
    rw [f_Mo_init_448] at hf
    refine lv_iload_n S.1 S.2.1 d_Mo_init_448 rfl (lv_at hl 1 rfl) ?_
    refine lv_sipush (v := 168) S.1 S.2.1 d_Mo_init_449 (by decide) ?_
    refine lv_icmp_ge (tgt := 468) S.1 S.2.1 d_Mo_init_452 (by decide) (fun c102 => ?_) (fun c102 => ?_)
    · replace hf := xt c102 hf
      refine lv_iconst (v := 0) S.1 S.2.1 d_Mo_init_468 (by decide) ?_
      refine lv_istore_n (lv' := [(3, .int 0), (0, .ref a0)]) S.1 S.2.1 d_Mo_init_469 rfl hl (by decide) rfl (fun ls hl => ?_)
      exact w_Mo_init_470 S hr hlocks hin  _ _ _ _ _ _ _ hw (lv_sub hl [1, 0] rfl) hf
    · replace hf := xf c102 hf
      refine lv_aload_n S.1 S.2.1 d_Mo_init_455 rfl (lv_at hl 0 rfl) ?_
      obtain ⟨t103, ht103, hf⟩ := xb hf
      refine x_getr S hw lk_Mo_7 ht103 d_Mo_init_456 ?_
      refine lv_iload_n S.1 S.2.1 d_Mo_init_459 rfl (lv_at hl 1 rfl) ?_
      refine lv_iconst (v := (-1)) S.1 S.2.1 d_Mo_init_460 (by decide) ?_
      obtain ⟨w104, hw104, hf⟩ := xb hf
      refine x_iast S hw hw104 d_Mo_init_461 (fun H locs hw => ?_)
      refine lv_iinc (v := (x3 + 1)) (lv' := [(3, .int (x3 + 1)), (0, .ref a0)]) S.1 S.2.1 d_Mo_init_462 hl (k := 1) rfl rfl (by decide) rfl (fun ls hl => ?_)
      refine lv_goto (tgt := 448) S.1 S.2.1 d_Mo_init_465 (by decide) ?_
      exact ih _ _ _ _ _ _ hw (lv_sub hl [1, 0] rfl) hf
def f_Mo_init_418 (a0 : Nat) (x2 : Int32) (y0 : Int32) (y1 : Nat) (ω : xS) : Option xS :=
  (xp ω y1 12 0 (.int y0)).bind fun w96 =>
  if 1 ≤ x2 then (
    if x2 ≤ 21 then (
      (xp w96 a0 12 1 (.int x2)).bind fun w99 =>
      f_Mo_init_448  xFU a0 0 w99)
    else (
      (xp w96 a0 12 1 (.int 21)).bind fun w100 =>
      f_Mo_init_448  xFU a0 0 w100))
  else (
    (xp w96 a0 12 1 (.int 1)).bind fun w101 =>
    f_Mo_init_448  xFU a0 0 w101)
set_option maxHeartbeats 4000000 in
set_option maxRecDepth 100000 in
theorem w_Mo_init_418 {p : Program} {l : Launch} {e : Env} {s : State} {m : MethodId} {args : Array Value} {below : List Frame} {meth : Method} {c : Code} {E : xV} {z : Nat} {ω1 : xS} (S : CallFix p m c b_Mo_init 4 s args xTbl "RosterRulesModel") (hr : meth.sig.returnType = none) (hlocks : meth.locks = false) (hin : meth.name = "<init>") : ∀ (a0 : Nat) (x2 : Int32) (y0 : Int32) (y1 : Nat) (ω : xS) (H : Heap) (locs : List Loc) (ls : Array Slot), xW E (z + 46) ω s s.heap H locs → lv_has ls 4 [(0, .ref a0), (2, .int x2)] → f_Mo_init_418 a0 x2 y0 y1 ω = some ω1 → W p l e (headSpec ws_Mo_init { frames := 1, cells := 46, slots := 184924, locals := 20 }).room s m args below meth c H locs 46 184924 (MQ below (xQ E none (z + 46) ω1) args s 46 184924 (fun q => E.2.2 ≤ q)) (F0 m 418 ls [.int y0, .ref y1]) := by
  intro a0 x2 y0 y1 ω H locs ls hw hl hf
  unfold f_Mo_init_418 at hf
  obtain ⟨w96, hw96, hf⟩ := xb hf
  refine x_putF S hin hw lf_Mo_156 rfl rfl hw96 d_Mo_init_418 (fun H locs hw => ?_)
  refine lv_aload_n S.1 S.2.1 d_Mo_init_421 rfl (lv_at hl 0 rfl) ?_
  refine lv_iload_n S.1 S.2.1 d_Mo_init_422 rfl (lv_at hl 1 rfl) ?_
  refine lv_iconst (v := 1) S.1 S.2.1 d_Mo_init_423 (by decide) ?_
  refine lv_icmp_ge (tgt := 431) S.1 S.2.1 d_Mo_init_424 (by decide) (fun c97 => ?_) (fun c97 => ?_)
  · replace hf := xt c97 hf
    refine lv_iload_n S.1 S.2.1 d_Mo_init_431 rfl (lv_at hl 1 rfl) ?_
    refine lv_bipush (v := 21) S.1 S.2.1 d_Mo_init_432 (by decide) ?_
    refine lv_icmp_le (tgt := 442) S.1 S.2.1 d_Mo_init_434 (by decide) (fun c98 => ?_) (fun c98 => ?_)
    · replace hf := xt c98 hf
      refine lv_iload_n S.1 S.2.1 d_Mo_init_442 rfl (lv_at hl 1 rfl) ?_
      obtain ⟨w99, hw99, hf⟩ := xb hf
      refine x_putF S hin hw lf_Mo_159 rfl rfl hw99 d_Mo_init_443 (fun H locs hw => ?_)
      refine lv_iconst (v := 0) S.1 S.2.1 d_Mo_init_446 (by decide) ?_
      refine lv_istore_n (lv' := [(3, .int 0), (0, .ref a0), (2, .int x2)]) S.1 S.2.1 d_Mo_init_447 rfl hl (by decide) rfl (fun ls hl => ?_)
      exact w_Mo_init_448 S hr hlocks hin  _ _ _ _ _ _ _ hw (lv_sub hl [1, 0] rfl) hf
    · replace hf := xf c98 hf
      refine lv_bipush (v := 21) S.1 S.2.1 d_Mo_init_437 (by decide) ?_
      refine lv_goto (tgt := 443) S.1 S.2.1 d_Mo_init_439 (by decide) ?_
      obtain ⟨w100, hw100, hf⟩ := xb hf
      refine x_putF S hin hw lf_Mo_159 rfl rfl hw100 d_Mo_init_443 (fun H locs hw => ?_)
      refine lv_iconst (v := 0) S.1 S.2.1 d_Mo_init_446 (by decide) ?_
      refine lv_istore_n (lv' := [(3, .int 0), (0, .ref a0), (2, .int x2)]) S.1 S.2.1 d_Mo_init_447 rfl hl (by decide) rfl (fun ls hl => ?_)
      exact w_Mo_init_448 S hr hlocks hin  _ _ _ _ _ _ _ hw (lv_sub hl [1, 0] rfl) hf
  · replace hf := xf c97 hf
    refine lv_iconst (v := 1) S.1 S.2.1 d_Mo_init_427 (by decide) ?_
    refine lv_goto (tgt := 443) S.1 S.2.1 d_Mo_init_428 (by decide) ?_
    obtain ⟨w101, hw101, hf⟩ := xb hf
    refine x_putF S hin hw lf_Mo_159 rfl rfl hw101 d_Mo_init_443 (fun H locs hw => ?_)
    refine lv_iconst (v := 0) S.1 S.2.1 d_Mo_init_446 (by decide) ?_
    refine lv_istore_n (lv' := [(3, .int 0), (0, .ref a0), (2, .int x2)]) S.1 S.2.1 d_Mo_init_447 rfl hl (by decide) rfl (fun ls hl => ?_)
    exact w_Mo_init_448 S hr hlocks hin  _ _ _ _ _ _ _ hw (lv_sub hl [1, 0] rfl) hf
def f_Mo_init (a0 : Nat) (x1 : Int32) (x2 : Int32) (z : Nat) (ω : xS) : Option xS :=
  xl (xu ω z (.inl (0, 168, .inl (fun _ => 0)))) fun w1 =>
  (xp w1 a0 12 2 (.ref z)).bind fun w2 =>
  xl (xu w2 (z + 1) (.inl (0, 56, .inl (fun _ => 0)))) fun w3 =>
  (xp w3 a0 12 3 (.ref (z + 1))).bind fun w4 =>
  xl (xu w4 (z + 2) (.inl (0, 8, .inl (fun _ => 0)))) fun w5 =>
  (xp w5 a0 12 4 (.ref (z + 2))).bind fun w6 =>
  xl (xu w6 (z + 3) (.inl (0, 8, .inl (fun _ => 0)))) fun w7 =>
  (xp w7 a0 12 5 (.ref (z + 3))).bind fun w8 =>
  xl (xu w8 (z + 4) (.inl (0, 8, .inl (fun _ => 0)))) fun w9 =>
  (xp w9 a0 12 6 (.ref (z + 4))).bind fun w10 =>
  xl (xu w10 (z + 5) (.inl (0, 8, .inl (fun _ => 0)))) fun w11 =>
  (xp w11 a0 12 7 (.ref (z + 5))).bind fun w12 =>
  xl (xu w12 (z + 6) (.inl (0, 168, .inl (fun _ => 0)))) fun w13 =>
  (xp w13 a0 12 8 (.ref (z + 6))).bind fun w14 =>
  xl (xu w14 (z + 7) (.inl (0, 168, .inl (fun _ => 0)))) fun w15 =>
  (xp w15 a0 12 9 (.ref (z + 7))).bind fun w16 =>
  xl (xu w16 (z + 8) (.inl (4, 1500, .inl (fun _ => 0)))) fun w17 =>
  (xp w17 a0 12 10 (.ref (z + 8))).bind fun w18 =>
  (xp w18 a0 12 12 (.int (-2))).bind fun w19 =>
  xl (xu w19 (z + 9) (.inl (0, 16, .inl (fun _ => 0)))) fun w20 =>
  (xp w20 a0 12 13 (.ref (z + 9))).bind fun w21 =>
  xl (xu w21 (z + 10) (.inl (0, 16, .inl (fun _ => 0)))) fun w22 =>
  (xp w22 a0 12 14 (.ref (z + 10))).bind fun w23 =>
  xl (xu w23 (z + 11) (.inl (0, 16, .inl (fun _ => 0)))) fun w24 =>
  (xp w24 a0 12 15 (.ref (z + 11))).bind fun w25 =>
  xl (xu w25 (z + 12) (.inl (0, 16, .inl (fun _ => 0)))) fun w26 =>
  (xp w26 a0 12 16 (.ref (z + 12))).bind fun w27 =>
  xl (xu w27 (z + 13) (.inl (0, 16, .inl (fun _ => 0)))) fun w28 =>
  (xp w28 a0 12 17 (.ref (z + 13))).bind fun w29 =>
  xl (xu w29 (z + 14) (.inl (0, 16, .inl (fun _ => 0)))) fun w30 =>
  (xp w30 a0 12 18 (.ref (z + 14))).bind fun w31 =>
  xl (xu w31 (z + 15) (.inl (0, 16, .inl (fun _ => 0)))) fun w32 =>
  (xp w32 a0 12 19 (.ref (z + 15))).bind fun w33 =>
  xl (xu w33 (z + 16) (.inl (0, 160, .inl (fun _ => 0)))) fun w34 =>
  (xp w34 a0 12 21 (.ref (z + 16))).bind fun w35 =>
  xl (xu w35 (z + 17) (.inl (0, 176, .inl (fun _ => 0)))) fun w36 =>
  (xp w36 a0 12 22 (.ref (z + 17))).bind fun w37 =>
  xl (xu w37 (z + 18) (.inl (0, 16, .inl (fun _ => 0)))) fun w38 =>
  (xp w38 a0 12 23 (.ref (z + 18))).bind fun w39 =>
  xl (xu w39 (z + 19) (.inl (5, 16, .inl (fun _ => 0)))) fun w40 =>
  (xp w40 a0 12 24 (.ref (z + 19))).bind fun w41 =>
  xl (xu w41 (z + 20) (.inl (0, 16, .inl (fun _ => 0)))) fun w42 =>
  (xp w42 a0 12 25 (.ref (z + 20))).bind fun w43 =>
  xl (xu w43 (z + 21) (.inl (0, 16, .inl (fun _ => 0)))) fun w44 =>
  (xp w44 a0 12 26 (.ref (z + 21))).bind fun w45 =>
  xl (xu w45 (z + 22) (.inl (0, 147600, .inl (fun _ => 0)))) fun w46 =>
  (xp w46 a0 12 27 (.ref (z + 22))).bind fun w47 =>
  xl (xu w47 (z + 23) (.inl (5, 16400, .inl (fun _ => 0)))) fun w48 =>
  (xp w48 a0 12 28 (.ref (z + 23))).bind fun w49 =>
  xl (xu w49 (z + 24) (.inl (0, 200, .inl (fun _ => 0)))) fun w50 =>
  (xp w50 a0 12 29 (.ref (z + 24))).bind fun w51 =>
  xl (xu w51 (z + 25) (.inl (0, 200, .inl (fun _ => 0)))) fun w52 =>
  (xp w52 a0 12 30 (.ref (z + 25))).bind fun w53 =>
  xl (xu w53 (z + 26) (.inl (0, 45, .inl (fun _ => 0)))) fun w54 =>
  (xp w54 a0 12 45 (.ref (z + 26))).bind fun w55 =>
  xl (xu w55 (z + 27) (.inl (0, 45, .inl (fun _ => 0)))) fun w56 =>
  (xp w56 a0 12 46 (.ref (z + 27))).bind fun w57 =>
  xl (xu w57 (z + 28) (.inl (0, 45, .inl (fun _ => 0)))) fun w58 =>
  (xp w58 a0 12 47 (.ref (z + 28))).bind fun w59 =>
  xl (xu w59 (z + 29) (.inl (5, 45, .inl (fun _ => 0)))) fun w60 =>
  (xp w60 a0 12 48 (.ref (z + 29))).bind fun w61 =>
  xl (xu w61 (z + 30) (.inl (1, 45, .inr (.inl (fun _ => 0))))) fun w62 =>
  (xp w62 a0 12 49 (.ref (z + 30))).bind fun w63 =>
  xl (xu w63 (z + 31) (.inl (1, 45, .inr (.inl (fun _ => 0))))) fun w64 =>
  (xp w64 a0 12 50 (.ref (z + 31))).bind fun w65 =>
  xl (xu w65 (z + 32) (.inl (1, 45, .inr (.inl (fun _ => 0))))) fun w66 =>
  (xp w66 a0 12 51 (.ref (z + 32))).bind fun w67 =>
  xl (xu w67 (z + 33) (.inl (5, 45, .inl (fun _ => 0)))) fun w68 =>
  (xp w68 a0 12 52 (.ref (z + 33))).bind fun w69 =>
  xl (xu w69 (z + 34) (.inl (5, 45, .inl (fun _ => 0)))) fun w70 =>
  (xp w70 a0 12 53 (.ref (z + 34))).bind fun w71 =>
  xl (xu w71 (z + 35) (.inl (0, 45, .inl (fun _ => 0)))) fun w72 =>
  (xp w72 a0 12 54 (.ref (z + 35))).bind fun w73 =>
  xl (xu w73 (z + 36) (.inl (0, 45, .inl (fun _ => 0)))) fun w74 =>
  (xp w74 a0 12 55 (.ref (z + 36))).bind fun w75 =>
  xl (xu w75 (z + 37) (.inl (0, 1025, .inl (fun _ => 0)))) fun w76 =>
  (xp w76 a0 12 56 (.ref (z + 37))).bind fun w77 =>
  xl (xu w77 (z + 38) (.inl (0, 1025, .inl (fun _ => 0)))) fun w78 =>
  (xp w78 a0 12 57 (.ref (z + 38))).bind fun w79 =>
  xl (xu w79 (z + 39) (.inl (0, 9225, .inl (fun _ => 0)))) fun w80 =>
  (xp w80 a0 12 58 (.ref (z + 39))).bind fun w81 =>
  xl (xu w81 (z + 40) (.inl (0, 1025, .inl (fun _ => 0)))) fun w82 =>
  (xp w82 a0 12 59 (.ref (z + 40))).bind fun w83 =>
  xl (xu w83 (z + 41) (.inl (0, 1025, .inl (fun _ => 0)))) fun w84 =>
  (xp w84 a0 12 60 (.ref (z + 41))).bind fun w85 =>
  xl (xu w85 (z + 42) (.inl (0, 1025, .inl (fun _ => 0)))) fun w86 =>
  (xp w86 a0 12 61 (.ref (z + 42))).bind fun w87 =>
  xl (xu w87 (z + 43) (.inl (0, 1025, .inl (fun _ => 0)))) fun w88 =>
  (xp w88 a0 12 62 (.ref (z + 43))).bind fun w89 =>
  xl (xu w89 (z + 44) (.inl (1, 1025, .inr (.inl (fun _ => 0))))) fun w90 =>
  (xp w90 a0 12 63 (.ref (z + 44))).bind fun w91 =>
  xl (xu w91 (z + 45) (.inl (1, 1025, .inr (.inl (fun _ => 0))))) fun w92 =>
  (xp w92 a0 12 64 (.ref (z + 45))).bind fun w93 =>
  if 1 ≤ x1 then (
    if x1 ≤ 8 then (
      f_Mo_init_418  a0 x2 x1 a0 w93)
    else (
      f_Mo_init_418  a0 x2 8 a0 w93))
  else (
    f_Mo_init_418  a0 x2 1 a0 w93)
set_option maxHeartbeats 4000000 in
set_option maxRecDepth 100000 in
theorem c_Mo_init {l : Launch} {E : xV} {z : Nat} {a0 : Nat} {x1 : Int32} {x2 : Int32} {ω1 : xS} {ω : xS} (hf : f_Mo_init a0 x1 x2 z ω = some ω1) : xM l E y_Mo_init ws_Mo_init { frames := 1, cells := 46, slots := 184924, locals := 20 } [.ref a0, .int x1, .int x2] z ω none (z + 46) ω1 := by
  refine x_start (cc := b_Mo_init) (maxL := 4) (ret := none) (by decide) rfl (Nat.le_of_ble_eq_true rfl) ?_
  intro p e s m below meth c S hr hlocks hin ls hl hw
  have hl : lv_has ls 4 [(0, .ref a0), (1, .int x1), (2, .int x2)] := hl
  have hin := hin rfl
  unfold f_Mo_init at hf
  refine lv_aload_n S.1 S.2.1 d_Mo_init_0 rfl (lv_at hl 0 rfl) ?_
  refine x_obj S hl.1 ob_Mo_1 d_Mo_init_1 (Nat.le_of_ble_eq_true rfl) (Nat.le_of_ble_eq_true rfl) ?_
  refine lv_aload_n S.1 S.2.1 d_Mo_init_4 rfl (lv_at hl 0 rfl) ?_
  refine lv_sipush (v := 168) S.1 S.2.1 d_Mo_init_5 (by decide) ?_
  obtain ⟨w1, hw1, hf⟩ := xlb hf
  refine x_newi (N := 168) S hw xArr_i (by decide) (by decide) (by decide) hw1 (Nat.le_of_ble_eq_true rfl) (Nat.le_of_ble_eq_true rfl) d_Mo_init_8 (fun H hw => ?_)
  obtain ⟨w2, hw2, hf⟩ := xb hf
  refine x_putF S hin hw lf_Mo_7 rfl rfl hw2 d_Mo_init_10 (fun H locs hw => ?_)
  refine lv_aload_n S.1 S.2.1 d_Mo_init_13 rfl (lv_at hl 0 rfl) ?_
  refine lv_bipush (v := 56) S.1 S.2.1 d_Mo_init_14 (by decide) ?_
  obtain ⟨w3, hw3, hf⟩ := xlb hf
  refine x_newi (N := 56) S hw xArr_i (by decide) (by decide) (by decide) hw3 (Nat.le_of_ble_eq_true rfl) (Nat.le_of_ble_eq_true rfl) d_Mo_init_16 (fun H hw => ?_)
  obtain ⟨w4, hw4, hf⟩ := xb hf
  refine x_putF S hin hw lf_Mo_13 rfl rfl hw4 d_Mo_init_18 (fun H locs hw => ?_)
  refine lv_aload_n S.1 S.2.1 d_Mo_init_21 rfl (lv_at hl 0 rfl) ?_
  refine lv_bipush (v := 8) S.1 S.2.1 d_Mo_init_22 (by decide) ?_
  obtain ⟨w5, hw5, hf⟩ := xlb hf
  refine x_newi (N := 8) S hw xArr_i (by decide) (by decide) (by decide) hw5 (Nat.le_of_ble_eq_true rfl) (Nat.le_of_ble_eq_true rfl) d_Mo_init_24 (fun H hw => ?_)
  obtain ⟨w6, hw6, hf⟩ := xb hf
  refine x_putF S hin hw lf_Mo_16 rfl rfl hw6 d_Mo_init_26 (fun H locs hw => ?_)
  refine lv_aload_n S.1 S.2.1 d_Mo_init_29 rfl (lv_at hl 0 rfl) ?_
  refine lv_bipush (v := 8) S.1 S.2.1 d_Mo_init_30 (by decide) ?_
  obtain ⟨w7, hw7, hf⟩ := xlb hf
  refine x_newi (N := 8) S hw xArr_i (by decide) (by decide) (by decide) hw7 (Nat.le_of_ble_eq_true rfl) (Nat.le_of_ble_eq_true rfl) d_Mo_init_32 (fun H hw => ?_)
  obtain ⟨w8, hw8, hf⟩ := xb hf
  refine x_putF S hin hw lf_Mo_19 rfl rfl hw8 d_Mo_init_34 (fun H locs hw => ?_)
  refine lv_aload_n S.1 S.2.1 d_Mo_init_37 rfl (lv_at hl 0 rfl) ?_
  refine lv_bipush (v := 8) S.1 S.2.1 d_Mo_init_38 (by decide) ?_
  obtain ⟨w9, hw9, hf⟩ := xlb hf
  refine x_newi (N := 8) S hw xArr_i (by decide) (by decide) (by decide) hw9 (Nat.le_of_ble_eq_true rfl) (Nat.le_of_ble_eq_true rfl) d_Mo_init_40 (fun H hw => ?_)
  obtain ⟨w10, hw10, hf⟩ := xb hf
  refine x_putF S hin hw lf_Mo_22 rfl rfl hw10 d_Mo_init_42 (fun H locs hw => ?_)
  refine lv_aload_n S.1 S.2.1 d_Mo_init_45 rfl (lv_at hl 0 rfl) ?_
  refine lv_bipush (v := 8) S.1 S.2.1 d_Mo_init_46 (by decide) ?_
  obtain ⟨w11, hw11, hf⟩ := xlb hf
  refine x_newi (N := 8) S hw xArr_i (by decide) (by decide) (by decide) hw11 (Nat.le_of_ble_eq_true rfl) (Nat.le_of_ble_eq_true rfl) d_Mo_init_48 (fun H hw => ?_)
  obtain ⟨w12, hw12, hf⟩ := xb hf
  refine x_putF S hin hw lf_Mo_25 rfl rfl hw12 d_Mo_init_50 (fun H locs hw => ?_)
  refine lv_aload_n S.1 S.2.1 d_Mo_init_53 rfl (lv_at hl 0 rfl) ?_
  refine lv_sipush (v := 168) S.1 S.2.1 d_Mo_init_54 (by decide) ?_
  obtain ⟨w13, hw13, hf⟩ := xlb hf
  refine x_newi (N := 168) S hw xArr_i (by decide) (by decide) (by decide) hw13 (Nat.le_of_ble_eq_true rfl) (Nat.le_of_ble_eq_true rfl) d_Mo_init_57 (fun H hw => ?_)
  obtain ⟨w14, hw14, hf⟩ := xb hf
  refine x_putF S hin hw lf_Mo_28 rfl rfl hw14 d_Mo_init_59 (fun H locs hw => ?_)
  refine lv_aload_n S.1 S.2.1 d_Mo_init_62 rfl (lv_at hl 0 rfl) ?_
  refine lv_sipush (v := 168) S.1 S.2.1 d_Mo_init_63 (by decide) ?_
  obtain ⟨w15, hw15, hf⟩ := xlb hf
  refine x_newi (N := 168) S hw xArr_i (by decide) (by decide) (by decide) hw15 (Nat.le_of_ble_eq_true rfl) (Nat.le_of_ble_eq_true rfl) d_Mo_init_66 (fun H hw => ?_)
  obtain ⟨w16, hw16, hf⟩ := xb hf
  refine x_putF S hin hw lf_Mo_31 rfl rfl hw16 d_Mo_init_68 (fun H locs hw => ?_)
  refine lv_aload_n S.1 S.2.1 d_Mo_init_71 rfl (lv_at hl 0 rfl) ?_
  refine lv_sipush (v := 1500) S.1 S.2.1 d_Mo_init_72 (by decide) ?_
  obtain ⟨w17, hw17, hf⟩ := xlb hf
  refine x_newb (N := 1500) S hw xArr_b (by decide) (by decide) (by decide) hw17 (Nat.le_of_ble_eq_true rfl) (Nat.le_of_ble_eq_true rfl) d_Mo_init_75 (fun H hw => ?_)
  obtain ⟨w18, hw18, hf⟩ := xb hf
  refine x_putF S hin hw lf_Mo_34 rfl rfl hw18 d_Mo_init_77 (fun H locs hw => ?_)
  refine lv_aload_n S.1 S.2.1 d_Mo_init_80 rfl (lv_at hl 0 rfl) ?_
  refine lv_bipush (v := (-2)) S.1 S.2.1 d_Mo_init_81 (by decide) ?_
  obtain ⟨w19, hw19, hf⟩ := xb hf
  refine x_puti S hw lp_Mo_38 hw19 d_Mo_init_83 (fun H locs hw => ?_)
  refine lv_aload_n S.1 S.2.1 d_Mo_init_86 rfl (lv_at hl 0 rfl) ?_
  refine lv_bipush (v := 16) S.1 S.2.1 d_Mo_init_87 (by decide) ?_
  obtain ⟨w20, hw20, hf⟩ := xlb hf
  refine x_newi (N := 16) S hw xArr_i (by decide) (by decide) (by decide) hw20 (Nat.le_of_ble_eq_true rfl) (Nat.le_of_ble_eq_true rfl) d_Mo_init_89 (fun H hw => ?_)
  obtain ⟨w21, hw21, hf⟩ := xb hf
  refine x_putF S hin hw lf_Mo_42 rfl rfl hw21 d_Mo_init_91 (fun H locs hw => ?_)
  refine lv_aload_n S.1 S.2.1 d_Mo_init_94 rfl (lv_at hl 0 rfl) ?_
  refine lv_bipush (v := 16) S.1 S.2.1 d_Mo_init_95 (by decide) ?_
  obtain ⟨w22, hw22, hf⟩ := xlb hf
  refine x_newi (N := 16) S hw xArr_i (by decide) (by decide) (by decide) hw22 (Nat.le_of_ble_eq_true rfl) (Nat.le_of_ble_eq_true rfl) d_Mo_init_97 (fun H hw => ?_)
  obtain ⟨w23, hw23, hf⟩ := xb hf
  refine x_putF S hin hw lf_Mo_45 rfl rfl hw23 d_Mo_init_99 (fun H locs hw => ?_)
  refine lv_aload_n S.1 S.2.1 d_Mo_init_102 rfl (lv_at hl 0 rfl) ?_
  refine lv_bipush (v := 16) S.1 S.2.1 d_Mo_init_103 (by decide) ?_
  obtain ⟨w24, hw24, hf⟩ := xlb hf
  refine x_newi (N := 16) S hw xArr_i (by decide) (by decide) (by decide) hw24 (Nat.le_of_ble_eq_true rfl) (Nat.le_of_ble_eq_true rfl) d_Mo_init_105 (fun H hw => ?_)
  obtain ⟨w25, hw25, hf⟩ := xb hf
  refine x_putF S hin hw lf_Mo_48 rfl rfl hw25 d_Mo_init_107 (fun H locs hw => ?_)
  refine lv_aload_n S.1 S.2.1 d_Mo_init_110 rfl (lv_at hl 0 rfl) ?_
  refine lv_bipush (v := 16) S.1 S.2.1 d_Mo_init_111 (by decide) ?_
  obtain ⟨w26, hw26, hf⟩ := xlb hf
  refine x_newi (N := 16) S hw xArr_i (by decide) (by decide) (by decide) hw26 (Nat.le_of_ble_eq_true rfl) (Nat.le_of_ble_eq_true rfl) d_Mo_init_113 (fun H hw => ?_)
  obtain ⟨w27, hw27, hf⟩ := xb hf
  refine x_putF S hin hw lf_Mo_51 rfl rfl hw27 d_Mo_init_115 (fun H locs hw => ?_)
  refine lv_aload_n S.1 S.2.1 d_Mo_init_118 rfl (lv_at hl 0 rfl) ?_
  refine lv_bipush (v := 16) S.1 S.2.1 d_Mo_init_119 (by decide) ?_
  obtain ⟨w28, hw28, hf⟩ := xlb hf
  refine x_newi (N := 16) S hw xArr_i (by decide) (by decide) (by decide) hw28 (Nat.le_of_ble_eq_true rfl) (Nat.le_of_ble_eq_true rfl) d_Mo_init_121 (fun H hw => ?_)
  obtain ⟨w29, hw29, hf⟩ := xb hf
  refine x_putF S hin hw lf_Mo_54 rfl rfl hw29 d_Mo_init_123 (fun H locs hw => ?_)
  refine lv_aload_n S.1 S.2.1 d_Mo_init_126 rfl (lv_at hl 0 rfl) ?_
  refine lv_bipush (v := 16) S.1 S.2.1 d_Mo_init_127 (by decide) ?_
  obtain ⟨w30, hw30, hf⟩ := xlb hf
  refine x_newi (N := 16) S hw xArr_i (by decide) (by decide) (by decide) hw30 (Nat.le_of_ble_eq_true rfl) (Nat.le_of_ble_eq_true rfl) d_Mo_init_129 (fun H hw => ?_)
  obtain ⟨w31, hw31, hf⟩ := xb hf
  refine x_putF S hin hw lf_Mo_57 rfl rfl hw31 d_Mo_init_131 (fun H locs hw => ?_)
  refine lv_aload_n S.1 S.2.1 d_Mo_init_134 rfl (lv_at hl 0 rfl) ?_
  refine lv_bipush (v := 16) S.1 S.2.1 d_Mo_init_135 (by decide) ?_
  obtain ⟨w32, hw32, hf⟩ := xlb hf
  refine x_newi (N := 16) S hw xArr_i (by decide) (by decide) (by decide) hw32 (Nat.le_of_ble_eq_true rfl) (Nat.le_of_ble_eq_true rfl) d_Mo_init_137 (fun H hw => ?_)
  obtain ⟨w33, hw33, hf⟩ := xb hf
  refine x_putF S hin hw lf_Mo_60 rfl rfl hw33 d_Mo_init_139 (fun H locs hw => ?_)
  refine lv_aload_n S.1 S.2.1 d_Mo_init_142 rfl (lv_at hl 0 rfl) ?_
  refine lv_sipush (v := 160) S.1 S.2.1 d_Mo_init_143 (by decide) ?_
  obtain ⟨w34, hw34, hf⟩ := xlb hf
  refine x_newi (N := 160) S hw xArr_i (by decide) (by decide) (by decide) hw34 (Nat.le_of_ble_eq_true rfl) (Nat.le_of_ble_eq_true rfl) d_Mo_init_146 (fun H hw => ?_)
  obtain ⟨w35, hw35, hf⟩ := xb hf
  refine x_putF S hin hw lf_Mo_63 rfl rfl hw35 d_Mo_init_148 (fun H locs hw => ?_)
  refine lv_aload_n S.1 S.2.1 d_Mo_init_151 rfl (lv_at hl 0 rfl) ?_
  refine lv_sipush (v := 176) S.1 S.2.1 d_Mo_init_152 (by decide) ?_
  obtain ⟨w36, hw36, hf⟩ := xlb hf
  refine x_newi (N := 176) S hw xArr_i (by decide) (by decide) (by decide) hw36 (Nat.le_of_ble_eq_true rfl) (Nat.le_of_ble_eq_true rfl) d_Mo_init_155 (fun H hw => ?_)
  obtain ⟨w37, hw37, hf⟩ := xb hf
  refine x_putF S hin hw lf_Mo_66 rfl rfl hw37 d_Mo_init_157 (fun H locs hw => ?_)
  refine lv_aload_n S.1 S.2.1 d_Mo_init_160 rfl (lv_at hl 0 rfl) ?_
  refine lv_bipush (v := 16) S.1 S.2.1 d_Mo_init_161 (by decide) ?_
  obtain ⟨w38, hw38, hf⟩ := xlb hf
  refine x_newi (N := 16) S hw xArr_i (by decide) (by decide) (by decide) hw38 (Nat.le_of_ble_eq_true rfl) (Nat.le_of_ble_eq_true rfl) d_Mo_init_163 (fun H hw => ?_)
  obtain ⟨w39, hw39, hf⟩ := xb hf
  refine x_putF S hin hw lf_Mo_69 rfl rfl hw39 d_Mo_init_165 (fun H locs hw => ?_)
  refine lv_aload_n S.1 S.2.1 d_Mo_init_168 rfl (lv_at hl 0 rfl) ?_
  refine lv_bipush (v := 16) S.1 S.2.1 d_Mo_init_169 (by decide) ?_
  obtain ⟨w40, hw40, hf⟩ := xlb hf
  refine x_newz (N := 16) S hw xArr_z (by decide) (by decide) (by decide) hw40 (Nat.le_of_ble_eq_true rfl) (Nat.le_of_ble_eq_true rfl) d_Mo_init_171 (fun H hw => ?_)
  obtain ⟨w41, hw41, hf⟩ := xb hf
  refine x_putF S hin hw lf_Mo_72 rfl rfl hw41 d_Mo_init_173 (fun H locs hw => ?_)
  refine lv_aload_n S.1 S.2.1 d_Mo_init_176 rfl (lv_at hl 0 rfl) ?_
  refine lv_bipush (v := 16) S.1 S.2.1 d_Mo_init_177 (by decide) ?_
  obtain ⟨w42, hw42, hf⟩ := xlb hf
  refine x_newi (N := 16) S hw xArr_i (by decide) (by decide) (by decide) hw42 (Nat.le_of_ble_eq_true rfl) (Nat.le_of_ble_eq_true rfl) d_Mo_init_179 (fun H hw => ?_)
  obtain ⟨w43, hw43, hf⟩ := xb hf
  refine x_putF S hin hw lf_Mo_76 rfl rfl hw43 d_Mo_init_181 (fun H locs hw => ?_)
  refine lv_aload_n S.1 S.2.1 d_Mo_init_184 rfl (lv_at hl 0 rfl) ?_
  refine lv_bipush (v := 16) S.1 S.2.1 d_Mo_init_185 (by decide) ?_
  obtain ⟨w44, hw44, hf⟩ := xlb hf
  refine x_newi (N := 16) S hw xArr_i (by decide) (by decide) (by decide) hw44 (Nat.le_of_ble_eq_true rfl) (Nat.le_of_ble_eq_true rfl) d_Mo_init_187 (fun H hw => ?_)
  obtain ⟨w45, hw45, hf⟩ := xb hf
  refine x_putF S hin hw lf_Mo_79 rfl rfl hw45 d_Mo_init_189 (fun H locs hw => ?_)
  refine lv_aload_n S.1 S.2.1 d_Mo_init_192 rfl (lv_at hl 0 rfl) ?_
  refine lv_ldc (v := 147600) S.1 S.2.1 S.2.2.2.1 (S.2.2.2.2 _ wd_4_216) d_Mo_init_193 ?_
  obtain ⟨w46, hw46, hf⟩ := xlb hf
  refine x_newi (N := 147600) S hw xArr_i (by decide) (by decide) (by decide) hw46 (Nat.le_of_ble_eq_true rfl) (Nat.le_of_ble_eq_true rfl) d_Mo_init_195 (fun H hw => ?_)
  obtain ⟨w47, hw47, hf⟩ := xb hf
  refine x_putF S hin hw lf_Mo_83 rfl rfl hw47 d_Mo_init_197 (fun H locs hw => ?_)
  refine lv_aload_n S.1 S.2.1 d_Mo_init_200 rfl (lv_at hl 0 rfl) ?_
  refine lv_sipush (v := 16400) S.1 S.2.1 d_Mo_init_201 (by decide) ?_
  obtain ⟨w48, hw48, hf⟩ := xlb hf
  refine x_newz (N := 16400) S hw xArr_z (by decide) (by decide) (by decide) hw48 (Nat.le_of_ble_eq_true rfl) (Nat.le_of_ble_eq_true rfl) d_Mo_init_204 (fun H hw => ?_)
  obtain ⟨w49, hw49, hf⟩ := xb hf
  refine x_putF S hin hw lf_Mo_86 rfl rfl hw49 d_Mo_init_206 (fun H locs hw => ?_)
  refine lv_aload_n S.1 S.2.1 d_Mo_init_209 rfl (lv_at hl 0 rfl) ?_
  refine lv_sipush (v := 200) S.1 S.2.1 d_Mo_init_210 (by decide) ?_
  obtain ⟨w50, hw50, hf⟩ := xlb hf
  refine x_newi (N := 200) S hw xArr_i (by decide) (by decide) (by decide) hw50 (Nat.le_of_ble_eq_true rfl) (Nat.le_of_ble_eq_true rfl) d_Mo_init_213 (fun H hw => ?_)
  obtain ⟨w51, hw51, hf⟩ := xb hf
  refine x_putF S hin hw lf_Mo_89 rfl rfl hw51 d_Mo_init_215 (fun H locs hw => ?_)
  refine lv_aload_n S.1 S.2.1 d_Mo_init_218 rfl (lv_at hl 0 rfl) ?_
  refine lv_sipush (v := 200) S.1 S.2.1 d_Mo_init_219 (by decide) ?_
  obtain ⟨w52, hw52, hf⟩ := xlb hf
  refine x_newi (N := 200) S hw xArr_i (by decide) (by decide) (by decide) hw52 (Nat.le_of_ble_eq_true rfl) (Nat.le_of_ble_eq_true rfl) d_Mo_init_222 (fun H hw => ?_)
  obtain ⟨w53, hw53, hf⟩ := xb hf
  refine x_putF S hin hw lf_Mo_92 rfl rfl hw53 d_Mo_init_224 (fun H locs hw => ?_)
  refine lv_aload_n S.1 S.2.1 d_Mo_init_227 rfl (lv_at hl 0 rfl) ?_
  refine lv_bipush (v := 45) S.1 S.2.1 d_Mo_init_228 (by decide) ?_
  obtain ⟨w54, hw54, hf⟩ := xlb hf
  refine x_newi (N := 45) S hw xArr_i (by decide) (by decide) (by decide) hw54 (Nat.le_of_ble_eq_true rfl) (Nat.le_of_ble_eq_true rfl) d_Mo_init_230 (fun H hw => ?_)
  obtain ⟨w55, hw55, hf⟩ := xb hf
  refine x_putF S hin hw lf_Mo_95 rfl rfl hw55 d_Mo_init_232 (fun H locs hw => ?_)
  refine lv_aload_n S.1 S.2.1 d_Mo_init_235 rfl (lv_at hl 0 rfl) ?_
  refine lv_bipush (v := 45) S.1 S.2.1 d_Mo_init_236 (by decide) ?_
  obtain ⟨w56, hw56, hf⟩ := xlb hf
  refine x_newi (N := 45) S hw xArr_i (by decide) (by decide) (by decide) hw56 (Nat.le_of_ble_eq_true rfl) (Nat.le_of_ble_eq_true rfl) d_Mo_init_238 (fun H hw => ?_)
  obtain ⟨w57, hw57, hf⟩ := xb hf
  refine x_putF S hin hw lf_Mo_98 rfl rfl hw57 d_Mo_init_240 (fun H locs hw => ?_)
  refine lv_aload_n S.1 S.2.1 d_Mo_init_243 rfl (lv_at hl 0 rfl) ?_
  refine lv_bipush (v := 45) S.1 S.2.1 d_Mo_init_244 (by decide) ?_
  obtain ⟨w58, hw58, hf⟩ := xlb hf
  refine x_newi (N := 45) S hw xArr_i (by decide) (by decide) (by decide) hw58 (Nat.le_of_ble_eq_true rfl) (Nat.le_of_ble_eq_true rfl) d_Mo_init_246 (fun H hw => ?_)
  obtain ⟨w59, hw59, hf⟩ := xb hf
  refine x_putF S hin hw lf_Mo_101 rfl rfl hw59 d_Mo_init_248 (fun H locs hw => ?_)
  refine lv_aload_n S.1 S.2.1 d_Mo_init_251 rfl (lv_at hl 0 rfl) ?_
  refine lv_bipush (v := 45) S.1 S.2.1 d_Mo_init_252 (by decide) ?_
  obtain ⟨w60, hw60, hf⟩ := xlb hf
  refine x_newz (N := 45) S hw xArr_z (by decide) (by decide) (by decide) hw60 (Nat.le_of_ble_eq_true rfl) (Nat.le_of_ble_eq_true rfl) d_Mo_init_254 (fun H hw => ?_)
  obtain ⟨w61, hw61, hf⟩ := xb hf
  refine x_putF S hin hw lf_Mo_104 rfl rfl hw61 d_Mo_init_256 (fun H locs hw => ?_)
  refine lv_aload_n S.1 S.2.1 d_Mo_init_259 rfl (lv_at hl 0 rfl) ?_
  refine lv_bipush (v := 45) S.1 S.2.1 d_Mo_init_260 (by decide) ?_
  obtain ⟨w62, hw62, hf⟩ := xlb hf
  refine x_newl (N := 45) S hw xArr_l (by decide) (by decide) (by decide) hw62 (Nat.le_of_ble_eq_true rfl) (Nat.le_of_ble_eq_true rfl) d_Mo_init_262 (fun H hw => ?_)
  obtain ⟨w63, hw63, hf⟩ := xb hf
  refine x_putF S hin hw lf_Mo_107 rfl rfl hw63 d_Mo_init_264 (fun H locs hw => ?_)
  refine lv_aload_n S.1 S.2.1 d_Mo_init_267 rfl (lv_at hl 0 rfl) ?_
  refine lv_bipush (v := 45) S.1 S.2.1 d_Mo_init_268 (by decide) ?_
  obtain ⟨w64, hw64, hf⟩ := xlb hf
  refine x_newl (N := 45) S hw xArr_l (by decide) (by decide) (by decide) hw64 (Nat.le_of_ble_eq_true rfl) (Nat.le_of_ble_eq_true rfl) d_Mo_init_270 (fun H hw => ?_)
  obtain ⟨w65, hw65, hf⟩ := xb hf
  refine x_putF S hin hw lf_Mo_111 rfl rfl hw65 d_Mo_init_272 (fun H locs hw => ?_)
  refine lv_aload_n S.1 S.2.1 d_Mo_init_275 rfl (lv_at hl 0 rfl) ?_
  refine lv_bipush (v := 45) S.1 S.2.1 d_Mo_init_276 (by decide) ?_
  obtain ⟨w66, hw66, hf⟩ := xlb hf
  refine x_newl (N := 45) S hw xArr_l (by decide) (by decide) (by decide) hw66 (Nat.le_of_ble_eq_true rfl) (Nat.le_of_ble_eq_true rfl) d_Mo_init_278 (fun H hw => ?_)
  obtain ⟨w67, hw67, hf⟩ := xb hf
  refine x_putF S hin hw lf_Mo_114 rfl rfl hw67 d_Mo_init_280 (fun H locs hw => ?_)
  refine lv_aload_n S.1 S.2.1 d_Mo_init_283 rfl (lv_at hl 0 rfl) ?_
  refine lv_bipush (v := 45) S.1 S.2.1 d_Mo_init_284 (by decide) ?_
  obtain ⟨w68, hw68, hf⟩ := xlb hf
  refine x_newz (N := 45) S hw xArr_z (by decide) (by decide) (by decide) hw68 (Nat.le_of_ble_eq_true rfl) (Nat.le_of_ble_eq_true rfl) d_Mo_init_286 (fun H hw => ?_)
  obtain ⟨w69, hw69, hf⟩ := xb hf
  refine x_putF S hin hw lf_Mo_117 rfl rfl hw69 d_Mo_init_288 (fun H locs hw => ?_)
  refine lv_aload_n S.1 S.2.1 d_Mo_init_291 rfl (lv_at hl 0 rfl) ?_
  refine lv_bipush (v := 45) S.1 S.2.1 d_Mo_init_292 (by decide) ?_
  obtain ⟨w70, hw70, hf⟩ := xlb hf
  refine x_newz (N := 45) S hw xArr_z (by decide) (by decide) (by decide) hw70 (Nat.le_of_ble_eq_true rfl) (Nat.le_of_ble_eq_true rfl) d_Mo_init_294 (fun H hw => ?_)
  obtain ⟨w71, hw71, hf⟩ := xb hf
  refine x_putF S hin hw lf_Mo_120 rfl rfl hw71 d_Mo_init_296 (fun H locs hw => ?_)
  refine lv_aload_n S.1 S.2.1 d_Mo_init_299 rfl (lv_at hl 0 rfl) ?_
  refine lv_bipush (v := 45) S.1 S.2.1 d_Mo_init_300 (by decide) ?_
  obtain ⟨w72, hw72, hf⟩ := xlb hf
  refine x_newi (N := 45) S hw xArr_i (by decide) (by decide) (by decide) hw72 (Nat.le_of_ble_eq_true rfl) (Nat.le_of_ble_eq_true rfl) d_Mo_init_302 (fun H hw => ?_)
  obtain ⟨w73, hw73, hf⟩ := xb hf
  refine x_putF S hin hw lf_Mo_123 rfl rfl hw73 d_Mo_init_304 (fun H locs hw => ?_)
  refine lv_aload_n S.1 S.2.1 d_Mo_init_307 rfl (lv_at hl 0 rfl) ?_
  refine lv_bipush (v := 45) S.1 S.2.1 d_Mo_init_308 (by decide) ?_
  obtain ⟨w74, hw74, hf⟩ := xlb hf
  refine x_newi (N := 45) S hw xArr_i (by decide) (by decide) (by decide) hw74 (Nat.le_of_ble_eq_true rfl) (Nat.le_of_ble_eq_true rfl) d_Mo_init_310 (fun H hw => ?_)
  obtain ⟨w75, hw75, hf⟩ := xb hf
  refine x_putF S hin hw lf_Mo_126 rfl rfl hw75 d_Mo_init_312 (fun H locs hw => ?_)
  refine lv_aload_n S.1 S.2.1 d_Mo_init_315 rfl (lv_at hl 0 rfl) ?_
  refine lv_sipush (v := 1025) S.1 S.2.1 d_Mo_init_316 (by decide) ?_
  obtain ⟨w76, hw76, hf⟩ := xlb hf
  refine x_newi (N := 1025) S hw xArr_i (by decide) (by decide) (by decide) hw76 (Nat.le_of_ble_eq_true rfl) (Nat.le_of_ble_eq_true rfl) d_Mo_init_319 (fun H hw => ?_)
  obtain ⟨w77, hw77, hf⟩ := xb hf
  refine x_putF S hin hw lf_Mo_129 rfl rfl hw77 d_Mo_init_321 (fun H locs hw => ?_)
  refine lv_aload_n S.1 S.2.1 d_Mo_init_324 rfl (lv_at hl 0 rfl) ?_
  refine lv_sipush (v := 1025) S.1 S.2.1 d_Mo_init_325 (by decide) ?_
  obtain ⟨w78, hw78, hf⟩ := xlb hf
  refine x_newi (N := 1025) S hw xArr_i (by decide) (by decide) (by decide) hw78 (Nat.le_of_ble_eq_true rfl) (Nat.le_of_ble_eq_true rfl) d_Mo_init_328 (fun H hw => ?_)
  obtain ⟨w79, hw79, hf⟩ := xb hf
  refine x_putF S hin hw lf_Mo_132 rfl rfl hw79 d_Mo_init_330 (fun H locs hw => ?_)
  refine lv_aload_n S.1 S.2.1 d_Mo_init_333 rfl (lv_at hl 0 rfl) ?_
  refine lv_sipush (v := 9225) S.1 S.2.1 d_Mo_init_334 (by decide) ?_
  obtain ⟨w80, hw80, hf⟩ := xlb hf
  refine x_newi (N := 9225) S hw xArr_i (by decide) (by decide) (by decide) hw80 (Nat.le_of_ble_eq_true rfl) (Nat.le_of_ble_eq_true rfl) d_Mo_init_337 (fun H hw => ?_)
  obtain ⟨w81, hw81, hf⟩ := xb hf
  refine x_putF S hin hw lf_Mo_135 rfl rfl hw81 d_Mo_init_339 (fun H locs hw => ?_)
  refine lv_aload_n S.1 S.2.1 d_Mo_init_342 rfl (lv_at hl 0 rfl) ?_
  refine lv_sipush (v := 1025) S.1 S.2.1 d_Mo_init_343 (by decide) ?_
  obtain ⟨w82, hw82, hf⟩ := xlb hf
  refine x_newi (N := 1025) S hw xArr_i (by decide) (by decide) (by decide) hw82 (Nat.le_of_ble_eq_true rfl) (Nat.le_of_ble_eq_true rfl) d_Mo_init_346 (fun H hw => ?_)
  obtain ⟨w83, hw83, hf⟩ := xb hf
  refine x_putF S hin hw lf_Mo_138 rfl rfl hw83 d_Mo_init_348 (fun H locs hw => ?_)
  refine lv_aload_n S.1 S.2.1 d_Mo_init_351 rfl (lv_at hl 0 rfl) ?_
  refine lv_sipush (v := 1025) S.1 S.2.1 d_Mo_init_352 (by decide) ?_
  obtain ⟨w84, hw84, hf⟩ := xlb hf
  refine x_newi (N := 1025) S hw xArr_i (by decide) (by decide) (by decide) hw84 (Nat.le_of_ble_eq_true rfl) (Nat.le_of_ble_eq_true rfl) d_Mo_init_355 (fun H hw => ?_)
  obtain ⟨w85, hw85, hf⟩ := xb hf
  refine x_putF S hin hw lf_Mo_141 rfl rfl hw85 d_Mo_init_357 (fun H locs hw => ?_)
  refine lv_aload_n S.1 S.2.1 d_Mo_init_360 rfl (lv_at hl 0 rfl) ?_
  refine lv_sipush (v := 1025) S.1 S.2.1 d_Mo_init_361 (by decide) ?_
  obtain ⟨w86, hw86, hf⟩ := xlb hf
  refine x_newi (N := 1025) S hw xArr_i (by decide) (by decide) (by decide) hw86 (Nat.le_of_ble_eq_true rfl) (Nat.le_of_ble_eq_true rfl) d_Mo_init_364 (fun H hw => ?_)
  obtain ⟨w87, hw87, hf⟩ := xb hf
  refine x_putF S hin hw lf_Mo_144 rfl rfl hw87 d_Mo_init_366 (fun H locs hw => ?_)
  refine lv_aload_n S.1 S.2.1 d_Mo_init_369 rfl (lv_at hl 0 rfl) ?_
  refine lv_sipush (v := 1025) S.1 S.2.1 d_Mo_init_370 (by decide) ?_
  obtain ⟨w88, hw88, hf⟩ := xlb hf
  refine x_newi (N := 1025) S hw xArr_i (by decide) (by decide) (by decide) hw88 (Nat.le_of_ble_eq_true rfl) (Nat.le_of_ble_eq_true rfl) d_Mo_init_373 (fun H hw => ?_)
  obtain ⟨w89, hw89, hf⟩ := xb hf
  refine x_putF S hin hw lf_Mo_147 rfl rfl hw89 d_Mo_init_375 (fun H locs hw => ?_)
  refine lv_aload_n S.1 S.2.1 d_Mo_init_378 rfl (lv_at hl 0 rfl) ?_
  refine lv_sipush (v := 1025) S.1 S.2.1 d_Mo_init_379 (by decide) ?_
  obtain ⟨w90, hw90, hf⟩ := xlb hf
  refine x_newl (N := 1025) S hw xArr_l (by decide) (by decide) (by decide) hw90 (Nat.le_of_ble_eq_true rfl) (Nat.le_of_ble_eq_true rfl) d_Mo_init_382 (fun H hw => ?_)
  obtain ⟨w91, hw91, hf⟩ := xb hf
  refine x_putF S hin hw lf_Mo_150 rfl rfl hw91 d_Mo_init_384 (fun H locs hw => ?_)
  refine lv_aload_n S.1 S.2.1 d_Mo_init_387 rfl (lv_at hl 0 rfl) ?_
  refine lv_sipush (v := 1025) S.1 S.2.1 d_Mo_init_388 (by decide) ?_
  obtain ⟨w92, hw92, hf⟩ := xlb hf
  refine x_newl (N := 1025) S hw xArr_l (by decide) (by decide) (by decide) hw92 (Nat.le_of_ble_eq_true rfl) (Nat.le_of_ble_eq_true rfl) d_Mo_init_391 (fun H hw => ?_)
  obtain ⟨w93, hw93, hf⟩ := xb hf
  refine x_putF S hin hw lf_Mo_153 rfl rfl hw93 d_Mo_init_393 (fun H locs hw => ?_)
  refine lv_aload_n S.1 S.2.1 d_Mo_init_396 rfl (lv_at hl 0 rfl) ?_
  refine lv_iload_n S.1 S.2.1 d_Mo_init_397 rfl (lv_at hl 1 rfl) ?_
  refine lv_iconst (v := 1) S.1 S.2.1 d_Mo_init_398 (by decide) ?_
  refine lv_icmp_ge (tgt := 406) S.1 S.2.1 d_Mo_init_399 (by decide) (fun c94 => ?_) (fun c94 => ?_)
  · replace hf := xt c94 hf
    refine lv_iload_n S.1 S.2.1 d_Mo_init_406 rfl (lv_at hl 1 rfl) ?_
    refine lv_bipush (v := 8) S.1 S.2.1 d_Mo_init_407 (by decide) ?_
    refine lv_icmp_le (tgt := 417) S.1 S.2.1 d_Mo_init_409 (by decide) (fun c95 => ?_) (fun c95 => ?_)
    · replace hf := xt c95 hf
      refine lv_iload_n S.1 S.2.1 d_Mo_init_417 rfl (lv_at hl 1 rfl) ?_
      exact w_Mo_init_418 S hr hlocks hin  _ _ _ _ _ _ _ _ hw (lv_sub hl [0, 2] rfl) hf
    · replace hf := xf c95 hf
      refine lv_bipush (v := 8) S.1 S.2.1 d_Mo_init_412 (by decide) ?_
      refine lv_goto (tgt := 418) S.1 S.2.1 d_Mo_init_414 (by decide) ?_
      exact w_Mo_init_418 S hr hlocks hin  _ _ _ _ _ _ _ _ hw (lv_sub hl [0, 2] rfl) hf
  · replace hf := xf c94 hf
    refine lv_iconst (v := 1) S.1 S.2.1 d_Mo_init_402 (by decide) ?_
    refine lv_goto (tgt := 418) S.1 S.2.1 d_Mo_init_403 (by decide) ?_
    exact w_Mo_init_418 S hr hlocks hin  _ _ _ _ _ _ _ _ hw (lv_sub hl [0, 2] rfl) hf
def f_Mo_isPerson (a0 : Nat) (x1 : Int32) (ω : xS) : Option Int32 :=
  if x1 < 0 then (
    some 0)
  else (
    (xgi ω a0 12 0).bind fun t2 =>
    if t2 ≤ x1 then (
      some 0)
    else (
      some 1))
set_option maxHeartbeats 4000000 in
set_option maxRecDepth 100000 in
theorem c_Mo_isPerson {l : Launch} {E : xV} {z : Nat} {a0 : Nat} {x1 : Int32} {r : Int32} {ω : xS} (hf : f_Mo_isPerson a0 x1 ω = some r) : xM l E y_Mo_isPerson ws_Mo_isPerson { frames := 0, cells := 0, slots := 0, locals := 0 } [.ref a0, .int x1] z ω (some (.int r)) z ω := by
  refine x_start (cc := b_Mo_isPerson) (maxL := 2) (ret := (some .boolean)) (by decide) rfl (Nat.le_of_ble_eq_true rfl) ?_
  intro p e s m below meth c S hr hlocks hin ls hl hw
  have hl : lv_has ls 2 [(0, .ref a0), (1, .int x1)] := hl
  unfold f_Mo_isPerson at hf
  refine lv_iload_n S.1 S.2.1 d_Mo_isPerson_0 rfl (lv_at hl 1 rfl) ?_
  refine lv_if_lt (tgt := 16) S.1 S.2.1 d_Mo_isPerson_1 (by decide) (fun c1 => ?_) (fun c1 => ?_)
  · replace hf := xt c1 hf
    refine lv_iconst (v := 0) S.1 S.2.1 d_Mo_isPerson_16 (by decide) ?_
    obtain rfl := xe1 hf
    exact x_zret S hr hlocks hw (by decide) d_Mo_isPerson_17
  · replace hf := xf c1 hf
    refine lv_iload_n S.1 S.2.1 d_Mo_isPerson_4 rfl (lv_at hl 1 rfl) ?_
    refine lv_aload_n S.1 S.2.1 d_Mo_isPerson_5 rfl (lv_at hl 0 rfl) ?_
    obtain ⟨t2, ht2, hf⟩ := xb hf
    refine x_geti S hw lk_Mo_156 ht2 d_Mo_isPerson_6 ?_
    refine lv_icmp_ge (tgt := 16) S.1 S.2.1 d_Mo_isPerson_9 (by decide) (fun c3 => ?_) (fun c3 => ?_)
    · replace hf := xt c3 hf
      refine lv_iconst (v := 0) S.1 S.2.1 d_Mo_isPerson_16 (by decide) ?_
      obtain rfl := xe1 hf
      exact x_zret S hr hlocks hw (by decide) d_Mo_isPerson_17
    · replace hf := xf c3 hf
      refine lv_iconst (v := 1) S.1 S.2.1 d_Mo_isPerson_12 (by decide) ?_
      refine lv_goto (tgt := 17) S.1 S.2.1 d_Mo_isPerson_13 (by decide) ?_
      obtain rfl := xe1 hf
      exact x_zret S hr hlocks hw (by decide) d_Mo_isPerson_17
def f_Mo_isCell (a0 : Nat) (x1 : Int32) (x2 : Int32) (ω : xS) : Option Int32 :=
  (xk ω a0 12 (f_Mo_isPerson a0 x1 ω)).bind fun t2 =>
  if t2 = 0 then (
    some 0)
  else (
    if x2 < 0 then (
      some 0)
    else (
      (xgi ω a0 12 1).bind fun t5 =>
      if t5 ≤ x2 then (
        some 0)
      else (
        some 1)))
set_option maxHeartbeats 4000000 in
set_option maxRecDepth 100000 in
theorem c_Mo_isCell {l : Launch} {E : xV} {z : Nat} {a0 : Nat} {x1 : Int32} {x2 : Int32} {r : Int32} {ω : xS} (hf : f_Mo_isCell a0 x1 x2 ω = some r) : xM l E y_Mo_isCell ws_Mo_isCell { frames := 1, cells := 0, slots := 0, locals := 21 } [.ref a0, .int x1, .int x2] z ω (some (.int r)) z ω := by
  refine x_start (cc := b_Mo_isCell) (maxL := 3) (ret := (some .boolean)) (by decide) rfl (Nat.le_of_ble_eq_true rfl) ?_
  intro p e s m below meth c S hr hlocks hin ls hl hw
  have hl : lv_has ls 3 [(0, .ref a0), (1, .int x1), (2, .int x2)] := hl
  unfold f_Mo_isCell at hf
  refine lv_aload_n S.1 S.2.1 d_Mo_isCell_0 rfl (lv_at hl 0 rfl) ?_
  refine lv_iload_n S.1 S.2.1 d_Mo_isCell_1 rfl (lv_at hl 1 rfl) ?_
  obtain ⟨t2, h1, hf⟩ := xb hf
  obtain ⟨h1b, h1⟩ := xkb h1
  refine x_callV (As := [.int x1]) (rest := []) (st1 := [.int t2]) S hw (c_Mo_isPerson h1) (cwV 1 S.2.2.2.2 gv_Mo_165 rfl rfl rfl hd_Mo_isPerson ⟨Nat.le_of_ble_eq_true rfl, Nat.le_of_ble_eq_true rfl⟩) rfl h1b rfl hl.1 rfl rfl (Nat.le_of_ble_eq_true rfl) d_Mo_isCell_2 ⟨Nat.le_of_ble_eq_true rfl, Nat.le_of_ble_eq_true rfl⟩ (fun H locs hw => ?_)
  refine lv_if_eq (tgt := 24) S.1 S.2.1 d_Mo_isCell_5 (by decide) (fun c3 => ?_) (fun c3 => ?_)
  · replace hf := xt c3 hf
    refine lv_iconst (v := 0) S.1 S.2.1 d_Mo_isCell_24 (by decide) ?_
    obtain rfl := xe1 hf
    exact x_zret S hr hlocks hw (by decide) d_Mo_isCell_25
  · replace hf := xf c3 hf
    refine lv_iload_n S.1 S.2.1 d_Mo_isCell_8 rfl (lv_at hl 2 rfl) ?_
    refine lv_if_lt (tgt := 24) S.1 S.2.1 d_Mo_isCell_9 (by decide) (fun c4 => ?_) (fun c4 => ?_)
    · replace hf := xt c4 hf
      refine lv_iconst (v := 0) S.1 S.2.1 d_Mo_isCell_24 (by decide) ?_
      obtain rfl := xe1 hf
      exact x_zret S hr hlocks hw (by decide) d_Mo_isCell_25
    · replace hf := xf c4 hf
      refine lv_iload_n S.1 S.2.1 d_Mo_isCell_12 rfl (lv_at hl 2 rfl) ?_
      refine lv_aload_n S.1 S.2.1 d_Mo_isCell_13 rfl (lv_at hl 0 rfl) ?_
      obtain ⟨t5, ht5, hf⟩ := xb hf
      refine x_geti S hw lk_Mo_159 ht5 d_Mo_isCell_14 ?_
      refine lv_icmp_ge (tgt := 24) S.1 S.2.1 d_Mo_isCell_17 (by decide) (fun c6 => ?_) (fun c6 => ?_)
      · replace hf := xt c6 hf
        refine lv_iconst (v := 0) S.1 S.2.1 d_Mo_isCell_24 (by decide) ?_
        obtain rfl := xe1 hf
        exact x_zret S hr hlocks hw (by decide) d_Mo_isCell_25
      · replace hf := xf c6 hf
        refine lv_iconst (v := 1) S.1 S.2.1 d_Mo_isCell_20 (by decide) ?_
        refine lv_goto (tgt := 25) S.1 S.2.1 d_Mo_isCell_21 (by decide) ?_
        obtain rfl := xe1 hf
        exact x_zret S hr hlocks hw (by decide) d_Mo_isCell_25
def f_Mo_isShift (x0 : Int32) (ω : xS) : Option Int32 :=
  if x0 < (-1) then (
    some 0)
  else (
    if 8 ≤ x0 then (
      some 0)
    else (
      some 1))
set_option maxHeartbeats 4000000 in
set_option maxRecDepth 100000 in
theorem c_Mo_isShift {l : Launch} {E : xV} {z : Nat} {x0 : Int32} {r : Int32} {ω : xS} (hf : f_Mo_isShift x0 ω = some r) : xM l E y_Mo_isShift ws_Mo_isShift { frames := 0, cells := 0, slots := 0, locals := 0 } [.int x0] z ω (some (.int r)) z ω := by
  refine x_start (cc := b_Mo_isShift) (maxL := 1) (ret := (some .boolean)) (by decide) rfl (Nat.le_of_ble_eq_true rfl) ?_
  intro p e s m below meth c S hr hlocks hin ls hl hw
  have hl : lv_has ls 1 [(0, .int x0)] := hl
  unfold f_Mo_isShift at hf
  refine lv_iload_n S.1 S.2.1 d_Mo_isShift_0 rfl (lv_at hl 0 rfl) ?_
  refine lv_iconst (v := (-1)) S.1 S.2.1 d_Mo_isShift_1 (by decide) ?_
  refine lv_icmp_lt (tgt := 15) S.1 S.2.1 d_Mo_isShift_2 (by decide) (fun c1 => ?_) (fun c1 => ?_)
  · replace hf := xt c1 hf
    refine lv_iconst (v := 0) S.1 S.2.1 d_Mo_isShift_15 (by decide) ?_
    obtain rfl := xe1 hf
    exact x_zret S hr hlocks hw (by decide) d_Mo_isShift_16
  · replace hf := xf c1 hf
    refine lv_iload_n S.1 S.2.1 d_Mo_isShift_5 rfl (lv_at hl 0 rfl) ?_
    refine lv_bipush (v := 8) S.1 S.2.1 d_Mo_isShift_6 (by decide) ?_
    refine lv_icmp_ge (tgt := 15) S.1 S.2.1 d_Mo_isShift_8 (by decide) (fun c2 => ?_) (fun c2 => ?_)
    · replace hf := xt c2 hf
      refine lv_iconst (v := 0) S.1 S.2.1 d_Mo_isShift_15 (by decide) ?_
      obtain rfl := xe1 hf
      exact x_zret S hr hlocks hw (by decide) d_Mo_isShift_16
    · replace hf := xf c2 hf
      refine lv_iconst (v := 1) S.1 S.2.1 d_Mo_isShift_11 (by decide) ?_
      refine lv_goto (tgt := 16) S.1 S.2.1 d_Mo_isShift_12 (by decide) ?_
      obtain rfl := xe1 hf
      exact x_zret S hr hlocks hw (by decide) d_Mo_isShift_16
def f_Mo_feed_31 : Nat → Nat → Int32 → Int64 → Int32 → xS → Option (Int32 × xS)
  | 0, _, _, _, _, _ => none
  | n + 1, a0, x1, x2, x4, ω =>
    if x1 ≤ x4 then (
      (xgi ω a0 12 11).bind fun t6 =>
      some (t6, ω))
    else (
      (xgr ω a0 12 10).bind fun t7 =>
      (xgi ω a0 12 11).bind fun t8 =>
      (xsb ω t7 t8 (xi2b (Int64.toInt32 (xlshr x2 (8 * x4))))).bind fun w9 =>
      (xgi w9 a0 12 11).bind fun t10 =>
      (xp w9 a0 12 11 (.int (t10 + 1))).bind fun w11 =>
      f_Mo_feed_31  n a0 x1 x2 (x4 + 1) w11)
set_option maxHeartbeats 4000000 in
set_option maxRecDepth 100000 in
theorem w_Mo_feed_31 {p : Program} {l : Launch} {e : Env} {s : State} {m : MethodId} {args : Array Value} {below : List Frame} {meth : Method} {c : Code} {E : xV} {z : Nat} {r : Int32} {ω1 : xS} (S : CallFix p m c b_Mo_feed 5 s args xTbl "RosterRulesModel") (hr : meth.sig.returnType = (some .int)) (hlocks : meth.locks = false) : ∀ n : Nat, ∀ (a0 : Nat) (x1 : Int32) (x2 : Int64) (x4 : Int32) (ω : xS) (H : Heap) (locs : List Loc) (ls : Array Slot), xW E z ω s s.heap H locs → lv_has ls 5 [(0, .ref a0), (1, .int x1), (2, .long x2), (4, .int x4)] → f_Mo_feed_31 n a0 x1 x2 x4 ω = some (r, ω1) → W p l e (headSpec ws_Mo_feed { frames := 0, cells := 0, slots := 0, locals := 0 }).room s m args below meth c H locs 0 0 (MQ below (xQ E (some (.int r)) z ω1) args s 0 0 (fun q => E.2.2 ≤ q)) (F0 m 31 ls []) := by
  intro n
  induction n with
  | zero =>
    intro a0 x1 x2 x4 ω H locs ls hw hl hf
    have h2 : (none : Option (Int32 × xS)) = some (r, ω1) := hf
    cases h2
  | succ n ih =>
    intro a0 x1 x2 x4 ω H locs ls hw hl hf
    rw [f_Mo_feed_31] at hf
    refine lv_iload S.1 S.2.1 d_Mo_feed_31 (lv_at hl 3 rfl) ?_
    refine lv_iload_n S.1 S.2.1 d_Mo_feed_33 rfl (lv_at hl 1 rfl) ?_
    refine lv_icmp_ge (tgt := 71) S.1 S.2.1 d_Mo_feed_34 (by decide) (fun c5 => ?_) (fun c5 => ?_)
    · replace hf := xt c5 hf
      refine lv_aload_n S.1 S.2.1 d_Mo_feed_71 rfl (lv_at hl 0 rfl) ?_
      obtain ⟨t6, ht6, hf⟩ := xb hf
      refine x_geti S hw lk_Mo_169 ht6 d_Mo_feed_72 ?_
      obtain ⟨rfl, rfl⟩ := xe2 hf
      exact x_iret S hr hlocks hw d_Mo_feed_75
    · replace hf := xf c5 hf
      refine lv_aload_n S.1 S.2.1 d_Mo_feed_37 rfl (lv_at hl 0 rfl) ?_
      obtain ⟨t7, ht7, hf⟩ := xb hf
      refine x_getr S hw lk_Mo_34 ht7 d_Mo_feed_38 ?_
      refine lv_aload_n S.1 S.2.1 d_Mo_feed_41 rfl (lv_at hl 0 rfl) ?_
      obtain ⟨t8, ht8, hf⟩ := xb hf
      refine x_geti S hw lk_Mo_169 ht8 d_Mo_feed_42 ?_
      refine lv_lload_n S.1 S.2.1 d_Mo_feed_45 rfl (lv_at hl 2 rfl) ?_
      refine lv_bipush (v := 8) S.1 S.2.1 d_Mo_feed_46 (by decide) ?_
      refine lv_iload S.1 S.2.1 d_Mo_feed_48 (lv_at hl 3 rfl) ?_
      refine lv_imul S.1 S.2.1 d_Mo_feed_50 ?_
      refine lv_lshr (v := (xlshr x2 (8 * x4))) S.1 S.2.1 d_Mo_feed_51 rfl ?_
      refine lv_l2i (v := (Int64.toInt32 (xlshr x2 (8 * x4)))) S.1 S.2.1 d_Mo_feed_52 rfl ?_
      refine lv_i2b (v := (xi2b (Int64.toInt32 (xlshr x2 (8 * x4))))) S.1 S.2.1 d_Mo_feed_53 rfl ?_
      obtain ⟨w9, hw9, hf⟩ := xb hf
      refine x_bast S hw hw9 d_Mo_feed_54 (fun H locs hw => ?_)
      refine lv_aload_n S.1 S.2.1 d_Mo_feed_55 rfl (lv_at hl 0 rfl) ?_
      refine lv_dup S.1 S.2.1 d_Mo_feed_56 rfl ?_
      obtain ⟨t10, ht10, hf⟩ := xb hf
      refine x_geti S hw lk_Mo_169 ht10 d_Mo_feed_57 ?_
      refine lv_iconst (v := 1) S.1 S.2.1 d_Mo_feed_60 (by decide) ?_
      refine lv_iadd S.1 S.2.1 d_Mo_feed_61 ?_
      obtain ⟨w11, hw11, hf⟩ := xb hf
      refine x_puti S hw lp_Mo_169 hw11 d_Mo_feed_62 (fun H locs hw => ?_)
      refine lv_iinc (v := (x4 + 1)) (lv' := [(4, .int (x4 + 1)), (0, .ref a0), (1, .int x1), (2, .long x2)]) S.1 S.2.1 d_Mo_feed_65 hl (k := 3) rfl rfl (by decide) rfl (fun ls hl => ?_)
      refine lv_goto (tgt := 31) S.1 S.2.1 d_Mo_feed_68 (by decide) ?_
      exact ih _ _ _ _ _ _ _ _ hw (lv_sub hl [1, 2, 3, 0] rfl) hf
def f_Mo_feed (a0 : Nat) (x1 : Int32) (x2 : Int64) (ω : xS) : Option (Int32 × xS) :=
  if x1 < 1 then (
    some ((-1), ω))
  else (
    if x1 ≤ 8 then (
      (xgi ω a0 12 11).bind fun t3 =>
      if (t3 + x1) ≤ 1500 then (
        f_Mo_feed_31  xFU a0 x1 x2 0 ω)
      else (
        some ((-3), ω)))
    else (
      some ((-1), ω)))
set_option maxHeartbeats 4000000 in
set_option maxRecDepth 100000 in
theorem c_Mo_feed {l : Launch} {E : xV} {z : Nat} {a0 : Nat} {x1 : Int32} {x2 : Int64} {r : Int32} {ω1 : xS} {ω : xS} (hf : f_Mo_feed a0 x1 x2 ω = some (r, ω1)) : xM l E y_Mo_feed ws_Mo_feed { frames := 0, cells := 0, slots := 0, locals := 0 } [.ref a0, .int x1, .long x2] z ω (some (.int r)) z ω1 := by
  refine x_start (cc := b_Mo_feed) (maxL := 5) (ret := (some .int)) (by decide) rfl (Nat.le_of_ble_eq_true rfl) ?_
  intro p e s m below meth c S hr hlocks hin ls hl hw
  have hl : lv_has ls 5 [(0, .ref a0), (1, .int x1), (2, .long x2)] := hl
  unfold f_Mo_feed at hf
  refine lv_iload_n S.1 S.2.1 d_Mo_feed_0 rfl (lv_at hl 1 rfl) ?_
  refine lv_iconst (v := 1) S.1 S.2.1 d_Mo_feed_1 (by decide) ?_
  refine lv_icmp_lt (tgt := 11) S.1 S.2.1 d_Mo_feed_2 (by decide) (fun c1 => ?_) (fun c1 => ?_)
  · replace hf := xt c1 hf
    refine lv_iconst (v := (-1)) S.1 S.2.1 d_Mo_feed_11 (by decide) ?_
    obtain ⟨rfl, rfl⟩ := xe2 hf
    exact x_iret S hr hlocks hw d_Mo_feed_12
  · replace hf := xf c1 hf
    refine lv_iload_n S.1 S.2.1 d_Mo_feed_5 rfl (lv_at hl 1 rfl) ?_
    refine lv_bipush (v := 8) S.1 S.2.1 d_Mo_feed_6 (by decide) ?_
    refine lv_icmp_le (tgt := 13) S.1 S.2.1 d_Mo_feed_8 (by decide) (fun c2 => ?_) (fun c2 => ?_)
    · replace hf := xt c2 hf
      refine lv_aload_n S.1 S.2.1 d_Mo_feed_13 rfl (lv_at hl 0 rfl) ?_
      obtain ⟨t3, ht3, hf⟩ := xb hf
      refine x_geti S hw lk_Mo_169 ht3 d_Mo_feed_14 ?_
      refine lv_iload_n S.1 S.2.1 d_Mo_feed_17 rfl (lv_at hl 1 rfl) ?_
      refine lv_iadd S.1 S.2.1 d_Mo_feed_18 ?_
      refine lv_sipush (v := 1500) S.1 S.2.1 d_Mo_feed_19 (by decide) ?_
      refine lv_icmp_le (tgt := 28) S.1 S.2.1 d_Mo_feed_22 (by decide) (fun c4 => ?_) (fun c4 => ?_)
      · replace hf := xt c4 hf
        refine lv_iconst (v := 0) S.1 S.2.1 d_Mo_feed_28 (by decide) ?_
        refine lv_istore (lv' := [(4, .int 0), (0, .ref a0), (1, .int x1), (2, .long x2)]) S.1 S.2.1 d_Mo_feed_29 hl (by decide) rfl (fun ls hl => ?_)
        exact w_Mo_feed_31 S hr hlocks  _ _ _ _ _ _ _ _ _ hw (lv_sub hl [1, 2, 3, 0] rfl) hf
      · replace hf := xf c4 hf
        refine lv_bipush (v := (-3)) S.1 S.2.1 d_Mo_feed_25 (by decide) ?_
        obtain ⟨rfl, rfl⟩ := xe2 hf
        exact x_iret S hr hlocks hw d_Mo_feed_27
    · replace hf := xf c2 hf
      refine lv_iconst (v := (-1)) S.1 S.2.1 d_Mo_feed_11 (by decide) ?_
      obtain ⟨rfl, rfl⟩ := xe2 hf
      exact x_iret S hr hlocks hw d_Mo_feed_12
