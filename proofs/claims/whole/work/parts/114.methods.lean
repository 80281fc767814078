def f_Mo_letterOf (x0 : Int32) (ω : xS) : Option Int32 :=
  if x0 = 45 then (
    some 0)
  else (
    if x0 < 97 then (
      some (-1))
    else (
      if 104 < x0 then (
        some (-1))
      else (
        some ((x0 - 97) + 1))))
set_option maxHeartbeats 4000000 in
set_option maxRecDepth 100000 in
theorem c_Mo_letterOf {l : Launch} {E : xV} {z : Nat} {x0 : Int32} {r : Int32} {ω : xS} (hf : f_Mo_letterOf x0 ω = some r) : xM l E y_Mo_letterOf ws_Mo_letterOf { frames := 0, cells := 0, slots := 0, locals := 0 } [.int x0] z ω (some (.int r)) z ω := by
  refine x_start (cc := b_Mo_letterOf) (maxL := 1) (ret := (some .int)) (by decide) rfl (Nat.le_of_ble_eq_true rfl) ?_
  intro p e s m below meth c S hr hlocks hin ls hl hw
  have hl : lv_has ls 1 [(0, .int x0)] := hl
  unfold f_Mo_letterOf at hf
  refine lv_iload_n S.1 S.2.1 d_Mo_letterOf_0 rfl (lv_at hl 0 rfl) ?_
  refine lv_bipush (v := 45) S.1 S.2.1 d_Mo_letterOf_1 (by decide) ?_
  refine lv_icmp_ne (tgt := 10) S.1 S.2.1 d_Mo_letterOf_3 (by decide) (fun c1 => ?_) (fun c1 => ?_)
  · replace hf := xf c1 hf
    refine lv_iload_n S.1 S.2.1 d_Mo_letterOf_10 rfl (lv_at hl 0 rfl) ?_
    refine lv_bipush (v := 97) S.1 S.2.1 d_Mo_letterOf_11 (by decide) ?_
    refine lv_icmp_lt (tgt := 31) S.1 S.2.1 d_Mo_letterOf_13 (by decide) (fun c2 => ?_) (fun c2 => ?_)
    · replace hf := xt c2 hf
      refine lv_iconst (v := (-1)) S.1 S.2.1 d_Mo_letterOf_31 (by decide) ?_
      obtain rfl := xe1 hf
      exact x_iret S hr hlocks hw d_Mo_letterOf_32
    · replace hf := xf c2 hf
      refine lv_iload_n S.1 S.2.1 d_Mo_letterOf_16 rfl (lv_at hl 0 rfl) ?_
      refine lv_bipush (v := 104) S.1 S.2.1 d_Mo_letterOf_17 (by decide) ?_
      refine lv_icmp_gt (tgt := 31) S.1 S.2.1 d_Mo_letterOf_19 (by decide) (fun c3 => ?_) (fun c3 => ?_)
      · replace hf := xt c3 hf
        refine lv_iconst (v := (-1)) S.1 S.2.1 d_Mo_letterOf_31 (by decide) ?_
        obtain rfl := xe1 hf
        exact x_iret S hr hlocks hw d_Mo_letterOf_32
      · replace hf := xf c3 hf
        refine lv_iload_n S.1 S.2.1 d_Mo_letterOf_22 rfl (lv_at hl 0 rfl) ?_
        refine lv_bipush (v := 97) S.1 S.2.1 d_Mo_letterOf_23 (by decide) ?_
        refine lv_isub S.1 S.2.1 d_Mo_letterOf_25 ?_
        refine lv_iconst (v := 1) S.1 S.2.1 d_Mo_letterOf_26 (by decide) ?_
        refine lv_iadd S.1 S.2.1 d_Mo_letterOf_27 ?_
        refine lv_goto (tgt := 32) S.1 S.2.1 d_Mo_letterOf_28 (by decide) ?_
        obtain rfl := xe1 hf
        exact x_iret S hr hlocks hw d_Mo_letterOf_32
  · replace hf := xt c1 hf
    refine lv_iconst (v := 0) S.1 S.2.1 d_Mo_letterOf_6 (by decide) ?_
    refine lv_goto (tgt := 32) S.1 S.2.1 d_Mo_letterOf_7 (by decide) ?_
    obtain rfl := xe1 hf
    exact x_iret S hr hlocks hw d_Mo_letterOf_32
def f_Mo_beginsAtom (x0 : Int32) (ω : xS) : Option Int32 :=
  (f_Mo_letterOf x0 ω).bind fun t2 =>
  if 0 ≤ t2 then (
    some 1)
  else (
    if x0 = 46 then (
      some 1)
    else (
      if x0 = 91 then (
        some 1)
      else (
        if x0 = 40 then (
          some 1)
        else (
          some 0))))
set_option maxHeartbeats 4000000 in
set_option maxRecDepth 100000 in
theorem c_Mo_beginsAtom {l : Launch} {E : xV} {z : Nat} {x0 : Int32} {r : Int32} {ω : xS} (hf : f_Mo_beginsAtom x0 ω = some r) : xM l E y_Mo_beginsAtom ws_Mo_beginsAtom { frames := 1, cells := 0, slots := 0, locals := 20 } [.int x0] z ω (some (.int r)) z ω := by
  refine x_start (cc := b_Mo_beginsAtom) (maxL := 1) (ret := (some .boolean)) (by decide) rfl (Nat.le_of_ble_eq_true rfl) ?_
  intro p e s m below meth c S hr hlocks hin ls hl hw
  have hl : lv_has ls 1 [(0, .int x0)] := hl
  unfold f_Mo_beginsAtom at hf
  refine lv_iload_n S.1 S.2.1 d_Mo_beginsAtom_0 rfl (lv_at hl 0 rfl) ?_
  obtain ⟨t2, h1, hf⟩ := xb hf
  refine x_callS (As := [.int x0]) (rest := []) (st1 := [.int t2]) S hw (c_Mo_letterOf h1) (cwS 1 S.2.2.2.2 gs_Mo_277 rfl rfl rfl hd_Mo_letterOf ⟨Nat.le_of_ble_eq_true rfl, Nat.le_of_ble_eq_true rfl⟩) rfl hl.1 rfl rfl (Nat.le_of_ble_eq_true rfl) d_Mo_beginsAtom_1 ⟨Nat.le_of_ble_eq_true rfl, Nat.le_of_ble_eq_true rfl⟩ (fun H locs hw => ?_)
  refine lv_if_ge (tgt := 25) S.1 S.2.1 d_Mo_beginsAtom_4 (by decide) (fun c3 => ?_) (fun c3 => ?_)
  · replace hf := xt c3 hf
    refine lv_iconst (v := 1) S.1 S.2.1 d_Mo_beginsAtom_25 (by decide) ?_
    refine lv_goto (tgt := 30) S.1 S.2.1 d_Mo_beginsAtom_26 (by decide) ?_
    obtain rfl := xe1 hf
    exact x_zret S hr hlocks hw (by decide) d_Mo_beginsAtom_30
  · replace hf := xf c3 hf
    refine lv_iload_n S.1 S.2.1 d_Mo_beginsAtom_7 rfl (lv_at hl 0 rfl) ?_
    refine lv_bipush (v := 46) S.1 S.2.1 d_Mo_beginsAtom_8 (by decide) ?_
    refine lv_icmp_eq (tgt := 25) S.1 S.2.1 d_Mo_beginsAtom_10 (by decide) (fun c4 => ?_) (fun c4 => ?_)
    · replace hf := xt c4 hf
      refine lv_iconst (v := 1) S.1 S.2.1 d_Mo_beginsAtom_25 (by decide) ?_
      refine lv_goto (tgt := 30) S.1 S.2.1 d_Mo_beginsAtom_26 (by decide) ?_
      obtain rfl := xe1 hf
      exact x_zret S hr hlocks hw (by decide) d_Mo_beginsAtom_30
    · replace hf := xf c4 hf
      refine lv_iload_n S.1 S.2.1 d_Mo_beginsAtom_13 rfl (lv_at hl 0 rfl) ?_
      refine lv_bipush (v := 91) S.1 S.2.1 d_Mo_beginsAtom_14 (by decide) ?_
      refine lv_icmp_eq (tgt := 25) S.1 S.2.1 d_Mo_beginsAtom_16 (by decide) (fun c5 => ?_) (fun c5 => ?_)
      · replace hf := xt c5 hf
        refine lv_iconst (v := 1) S.1 S.2.1 d_Mo_beginsAtom_25 (by decide) ?_
        refine lv_goto (tgt := 30) S.1 S.2.1 d_Mo_beginsAtom_26 (by decide) ?_
        obtain rfl := xe1 hf
        exact x_zret S hr hlocks hw (by decide) d_Mo_beginsAtom_30
      · replace hf := xf c5 hf
        refine lv_iload_n S.1 S.2.1 d_Mo_beginsAtom_19 rfl (lv_at hl 0 rfl) ?_
        refine lv_bipush (v := 40) S.1 S.2.1 d_Mo_beginsAtom_20 (by decide) ?_
        refine lv_icmp_ne (tgt := 29) S.1 S.2.1 d_Mo_beginsAtom_22 (by decide) (fun c6 => ?_) (fun c6 => ?_)
        · replace hf := xf c6 hf
          refine lv_iconst (v := 0) S.1 S.2.1 d_Mo_beginsAtom_29 (by decide) ?_
          obtain rfl := xe1 hf
          exact x_zret S hr hlocks hw (by decide) d_Mo_beginsAtom_30
        · replace hf := xt c6 hf
          refine lv_iconst (v := 1) S.1 S.2.1 d_Mo_beginsAtom_25 (by decide) ?_
          refine lv_goto (tgt := 30) S.1 S.2.1 d_Mo_beginsAtom_26 (by decide) ?_
          obtain rfl := xe1 hf
          exact x_zret S hr hlocks hw (by decide) d_Mo_beginsAtom_30
def f_Mo_set0_133 (a0 : Nat) (y0 : Int32) (ω : xS) : Option (Int32 × xS) :=
  (xgi ω a0 12 42).bind fun t36 =>
  (xk ω a0 12 (f_Mo_look a0 t36 ω)).bind fun t38 =>
  if t38 = 93 then (
    if y0 = 0 then (
      (xgi ω a0 12 42).bind fun t47 =>
      xc (xk ω a0 12 (f_Mo_fails a0 2 t47 ω)) fun t49 w50 =>
      some (0, w50))
    else (
      (xgi ω a0 12 42).bind fun t45 =>
      (xp ω a0 12 42 (.int (t45 + 1))).bind fun w46 =>
      some (y0, w46)))
  else (
    (xgi ω a0 12 42).bind fun t40 =>
    xc (xk ω a0 12 (f_Mo_fails a0 2 t40 ω)) fun t42 w43 =>
    some (0, w43))
set_option maxHeartbeats 4000000 in
set_option maxRecDepth 100000 in
theorem w_Mo_set0_133 {p : Program} {l : Launch} {e : Env} {s : State} {m : MethodId} {args : Array Value} {below : List Frame} {meth : Method} {c : Code} {E : xV} {z : Nat} {r : Int32} {ω1 : xS} (S : CallFix p m c b_Mo_set0 3 s args xTbl "RosterRulesModel") (hr : meth.sig.returnType = (some .int)) (hlocks : meth.locks = false) : ∀ (a0 : Nat) (y0 : Int32) (ω : xS) (H : Heap) (locs : List Loc) (ls : Array Slot), xW E z ω s s.heap H locs → lv_has ls 3 [(0, .ref a0)] → f_Mo_set0_133 a0 y0 ω = some (r, ω1) → W p l e (headSpec ws_Mo_set0 { frames := 1, cells := 0, slots := 0, locals := 22 }).room s m args below meth c H locs 0 0 (MQ below (xQ E (some (.int r)) z ω1) args s 0 0 (fun q => E.2.2 ≤ q)) (F0 m 133 ls [.int y0]) := by
  intro a0 y0 ω H locs ls hw hl hf
  unfold f_Mo_set0_133 at hf
  refine lv_istore_n (lv' := [(2, .int y0), (0, .ref a0)]) S.1 S.2.1 d_Mo_set0_133 rfl hl (by decide) rfl (fun ls hl => ?_)
  refine lv_aload_n S.1 S.2.1 d_Mo_set0_134 rfl (lv_at hl 1 rfl) ?_
  refine lv_aload_n S.1 S.2.1 d_Mo_set0_135 rfl (lv_at hl 1 rfl) ?_
  obtain ⟨t36, ht36, hf⟩ := xb hf
  refine x_geti S hw lk_Mo_247 ht36 d_Mo_set0_136 ?_
  obtain ⟨t38, h37, hf⟩ := xb hf
  obtain ⟨h37b, h37⟩ := xkb h37
  refine x_callV (As := [.int t36]) (rest := []) (st1 := [.int t38]) S hw (c_Mo_look h37) (cwV 1 S.2.2.2.2 gv_Mo_181 rfl rfl rfl hd_Mo_look ⟨Nat.le_of_ble_eq_true rfl, Nat.le_of_ble_eq_true rfl⟩) rfl h37b rfl hl.1 rfl rfl (Nat.le_of_ble_eq_true rfl) d_Mo_set0_139 ⟨Nat.le_of_ble_eq_true rfl, Nat.le_of_ble_eq_true rfl⟩ (fun H locs hw => ?_)
  refine lv_bipush (v := 93) S.1 S.2.1 d_Mo_set0_142 (by decide) ?_
  refine lv_icmp_ne (tgt := 151) S.1 S.2.1 d_Mo_set0_144 (by decide) (fun c39 => ?_) (fun c39 => ?_)
  · replace hf := xf c39 hf
    refine lv_aload_n S.1 S.2.1 d_Mo_set0_151 rfl (lv_at hl 1 rfl) ?_
    refine lv_iconst (v := 2) S.1 S.2.1 d_Mo_set0_152 (by decide) ?_
    refine lv_aload_n S.1 S.2.1 d_Mo_set0_153 rfl (lv_at hl 1 rfl) ?_
    obtain ⟨t40, ht40, hf⟩ := xb hf
    refine x_geti S hw lk_Mo_247 ht40 d_Mo_set0_154 ?_
    obtain ⟨t42, w43, h41, hf⟩ := xcb hf
    obtain ⟨h41b, h41⟩ := xkb h41
    refine x_callV (As := [.int 2, .int t40]) (rest := []) (st1 := [.int t42]) S hw (c_Mo_fails h41) (cwV 2 S.2.2.2.2 gv_Mo_198 rfl rfl rfl hd_Mo_fails ⟨Nat.le_of_ble_eq_true rfl, Nat.le_of_ble_eq_true rfl⟩) rfl h41b rfl hl.1 rfl rfl (Nat.le_of_ble_eq_true rfl) d_Mo_set0_157 ⟨Nat.le_of_ble_eq_true rfl, Nat.le_of_ble_eq_true rfl⟩ (fun H locs hw => ?_)
    refine lv_pop S.1 S.2.1 d_Mo_set0_160 rfl ?_
    refine lv_iconst (v := 0) S.1 S.2.1 d_Mo_set0_161 (by decide) ?_
    obtain ⟨rfl, rfl⟩ := xe2 hf
    exact x_iret S hr hlocks hw d_Mo_set0_162
  · replace hf := xt c39 hf
    refine lv_iload_n S.1 S.2.1 d_Mo_set0_147 rfl (lv_at hl 0 rfl) ?_
    refine lv_if_ne (tgt := 163) S.1 S.2.1 d_Mo_set0_148 (by decide) (fun c44 => ?_) (fun c44 => ?_)
    · replace hf := xf c44 hf
      refine lv_aload_n S.1 S.2.1 d_Mo_set0_163 rfl (lv_at hl 1 rfl) ?_
      refine lv_dup S.1 S.2.1 d_Mo_set0_164 rfl ?_
      obtain ⟨t45, ht45, hf⟩ := xb hf
      refine x_geti S hw lk_Mo_247 ht45 d_Mo_set0_165 ?_
      refine lv_iconst (v := 1) S.1 S.2.1 d_Mo_set0_168 (by decide) ?_
      refine lv_iadd S.1 S.2.1 d_Mo_set0_169 ?_
      obtain ⟨w46, hw46, hf⟩ := xb hf
      refine x_puti S hw lp_Mo_247 hw46 d_Mo_set0_170 (fun H locs hw => ?_)
      refine lv_iload_n S.1 S.2.1 d_Mo_set0_173 rfl (lv_at hl 0 rfl) ?_
      obtain ⟨rfl, rfl⟩ := xe2 hf
      exact x_iret S hr hlocks hw d_Mo_set0_174
    · replace hf := xt c44 hf
      refine lv_aload_n S.1 S.2.1 d_Mo_set0_151 rfl (lv_at hl 1 rfl) ?_
      refine lv_iconst (v := 2) S.1 S.2.1 d_Mo_set0_152 (by decide) ?_
      refine lv_aload_n S.1 S.2.1 d_Mo_set0_153 rfl (lv_at hl 1 rfl) ?_
      obtain ⟨t47, ht47, hf⟩ := xb hf
      refine x_geti S hw lk_Mo_247 ht47 d_Mo_set0_154 ?_
      obtain ⟨t49, w50, h48, hf⟩ := xcb hf
      obtain ⟨h48b, h48⟩ := xkb h48
      refine x_callV (As := [.int 2, .int t47]) (rest := []) (st1 := [.int t49]) S hw (c_Mo_fails h48) (cwV 2 S.2.2.2.2 gv_Mo_198 rfl rfl rfl hd_Mo_fails ⟨Nat.le_of_ble_eq_true rfl, Nat.le_of_ble_eq_true rfl⟩) rfl h48b rfl hl.1 rfl rfl (Nat.le_of_ble_eq_true rfl) d_Mo_set0_157 ⟨Nat.le_of_ble_eq_true rfl, Nat.le_of_ble_eq_true rfl⟩ (fun H locs hw => ?_)
      refine lv_pop S.1 S.2.1 d_Mo_set0_160 rfl ?_
      refine lv_iconst (v := 0) S.1 S.2.1 d_Mo_set0_161 (by decide) ?_
      obtain ⟨rfl, rfl⟩ := xe2 hf
      exact x_iret S hr hlocks hw d_Mo_set0_162
def f_Mo_set0_75 : Nat → Nat → Int32 → Int32 → xS → Option (Int32 × xS)
  | 0, _, _, _, _ => none
  | n + 1, a0, x1, x2, ω =>
    (xgi ω a0 12 42).bind fun t22 =>
    (xk ω a0 12 (f_Mo_look a0 t22 ω)).bind fun t24 =>
    (f_Mo_letterOf t24 ω).bind fun t26 =>
    if t26 < 0 then (
      if x1 = 0 then (
        f_Mo_set0_133  a0 x2 ω)
      else (
        f_Mo_set0_133  a0 (511 &&& (x2 ^^^ (-1))) ω))
    else (
      (xgi ω a0 12 42).bind fun t29 =>
      (xk ω a0 12 (f_Mo_look a0 t29 ω)).bind fun t31 =>
      (f_Mo_letterOf t31 ω).bind fun t33 =>
      (xgi ω a0 12 42).bind fun t34 =>
      (xp ω a0 12 42 (.int (t34 + 1))).bind fun w35 =>
      f_Mo_set0_75  n a0 x1 (x2 ||| (1 <<< (t33 &&& 31))) w35)
set_option maxHeartbeats 4000000 in
set_option maxRecDepth 100000 in
theorem w_Mo_set0_75 {p : Program} {l : Launch} {e : Env} {s : State} {m : MethodId} {args : Array Value} {below : List Frame} {meth : Method} {c : Code} {E : xV} {z : Nat} {r : Int32} {ω1 : xS} (S : CallFix p m c b_Mo_set0 3 s args xTbl "RosterRulesModel") (hr : meth.sig.returnType = (some .int)) (hlocks : meth.locks = false) : ∀ n : Nat, ∀ (a0 : Nat) (x1 : Int32) (x2 : Int32) (ω : xS) (H : Heap) (locs : List Loc) (ls : Array Slot), xW E z ω s s.heap H locs → lv_has ls 3 [(0, .ref a0), (1, .int x1), (2, .int x2)] → f_Mo_set0_75 n a0 x1 x2 ω = some (r, ω1) → W p l e (headSpec ws_Mo_set0 { frames := 1, cells := 0, slots := 0, locals := 22 }).room s m args below meth c H locs 0 0 (MQ below (xQ E (some (.int r)) z ω1) args s 0 0 (fun q => E.2.2 ≤ q)) (F0 m 75 ls []) := by
  intro n
  induction n with
  | zero =>
    intro a0 x1 x2 ω H locs ls hw hl hf
    have h2 : (none : Option (Int32 × xS)) = some (r, ω1) := hf
    cases h2
  | succ n ih =>
    intro a0 x1 x2 ω H locs ls hw hl hf
    rw [f_Mo_set0_75] at hf
    refine lv_aload_n S.1 S.2.1 d_Mo_set0_75 rfl (lv_at hl 0 rfl) ?_
    refine lv_aload_n S.1 S.2.1 d_Mo_set0_76 rfl (lv_at hl 0 rfl) ?_
    obtain ⟨t22, ht22, hf⟩ := xb hf
    refine x_geti S hw lk_Mo_247 ht22 d_Mo_set0_77 ?_
    obtain ⟨t24, h23, hf⟩ := xb hf
    obtain ⟨h23b, h23⟩ := xkb h23
    refine x_callV (As := [.int t22]) (rest := []) (st1 := [.int t24]) S hw (c_Mo_look h23) (cwV 1 S.2.2.2.2 gv_Mo_181 rfl rfl rfl hd_Mo_look ⟨Nat.le_of_ble_eq_true rfl, Nat.le_of_ble_eq_true rfl⟩) rfl h23b rfl hl.1 rfl rfl (Nat.le_of_ble_eq_true rfl) d_Mo_set0_80 ⟨Nat.le_of_ble_eq_true rfl, Nat.le_of_ble_eq_true rfl⟩ (fun H locs hw => ?_)
    obtain ⟨t26, h25, hf⟩ := xb hf
    refine x_callS (As := [.int t24]) (rest := []) (st1 := [.int t26]) S hw (c_Mo_letterOf h25) (cwS 1 S.2.2.2.2 gs_Mo_277 rfl rfl rfl hd_Mo_letterOf ⟨Nat.le_of_ble_eq_true rfl, Nat.le_of_ble_eq_true rfl⟩) rfl hl.1 rfl rfl (Nat.le_of_ble_eq_true rfl) d_Mo_set0_83 ⟨Nat.le_of_ble_eq_true rfl, Nat.le_of_ble_eq_true rfl⟩ (fun H locs hw => ?_)
    refine lv_if_lt (tgt := 118) S.1 S.2.1 d_Mo_set0_86 (by decide) (fun c27 => ?_) (fun c27 => ?_)
    · replace hf := xt c27 hf
      refine lv_iload_n S.1 S.2.1 d_Mo_set0_118 rfl (lv_at hl 1 rfl) ?_
      refine lv_if_eq (tgt := 132) S.1 S.2.1 d_Mo_set0_119 (by decide) (fun c28 => ?_) (fun c28 => ?_)
      · replace hf := xt c28 hf
        refine lv_iload_n S.1 S.2.1 d_Mo_set0_132 rfl (lv_at hl 2 rfl) ?_
        exact w_Mo_set0_133 S hr hlocks  _ _ _ _ _ _ hw (lv_sub hl [0] rfl) hf
      · replace hf := xf c28 hf
        refine lv_sipush (v := 511) S.1 S.2.1 d_Mo_set0_122 (by decide) ?_
        refine lv_iload_n S.1 S.2.1 d_Mo_set0_125 rfl (lv_at hl 2 rfl) ?_
        refine lv_iconst (v := (-1)) S.1 S.2.1 d_Mo_set0_126 (by decide) ?_
        refine lv_ixor S.1 S.2.1 d_Mo_set0_127 ?_
        refine lv_iand S.1 S.2.1 d_Mo_set0_128 ?_
        refine lv_goto (tgt := 133) S.1 S.2.1 d_Mo_set0_129 (by decide) ?_
        exact w_Mo_set0_133 S hr hlocks  _ _ _ _ _ _ hw (lv_sub hl [0] rfl) hf
    · replace hf := xf c27 hf
      refine lv_iload_n S.1 S.2.1 d_Mo_set0_89 rfl (lv_at hl 2 rfl) ?_
      refine lv_iconst (v := 1) S.1 S.2.1 d_Mo_set0_90 (by decide) ?_
      refine lv_aload_n S.1 S.2.1 d_Mo_set0_91 rfl (lv_at hl 0 rfl) ?_
      refine lv_aload_n S.1 S.2.1 d_Mo_set0_92 rfl (lv_at hl 0 rfl) ?_
      obtain ⟨t29, ht29, hf⟩ := xb hf
      refine x_geti S hw lk_Mo_247 ht29 d_Mo_set0_93 ?_
      obtain ⟨t31, h30, hf⟩ := xb hf
      obtain ⟨h30b, h30⟩ := xkb h30
      refine x_callV (As := [.int t29]) (rest := [.int 1, .int x2]) (st1 := [.int t31, .int 1, .int x2]) S hw (c_Mo_look h30) (cwV 1 S.2.2.2.2 gv_Mo_181 rfl rfl rfl hd_Mo_look ⟨Nat.le_of_ble_eq_true rfl, Nat.le_of_ble_eq_true rfl⟩) rfl h30b rfl hl.1 rfl rfl (Nat.le_of_ble_eq_true rfl) d_Mo_set0_96 ⟨Nat.le_of_ble_eq_true rfl, Nat.le_of_ble_eq_true rfl⟩ (fun H locs hw => ?_)
      obtain ⟨t33, h32, hf⟩ := xb hf
      refine x_callS (As := [.int t31]) (rest := [.int 1, .int x2]) (st1 := [.int t33, .int 1, .int x2]) S hw (c_Mo_letterOf h32) (cwS 1 S.2.2.2.2 gs_Mo_277 rfl rfl rfl hd_Mo_letterOf ⟨Nat.le_of_ble_eq_true rfl, Nat.le_of_ble_eq_true rfl⟩) rfl hl.1 rfl rfl (Nat.le_of_ble_eq_true rfl) d_Mo_set0_99 ⟨Nat.le_of_ble_eq_true rfl, Nat.le_of_ble_eq_true rfl⟩ (fun H locs hw => ?_)
      refine lv_ishl S.1 S.2.1 d_Mo_set0_102 ?_
      refine lv_ior S.1 S.2.1 d_Mo_set0_103 ?_
      refine lv_istore_n (lv' := [(2, .int (x2 ||| (1 <<< (t33 &&& 31)))), (0, .ref a0), (1, .int x1)]) S.1 S.2.1 d_Mo_set0_104 rfl hl (by decide) rfl (fun ls hl => ?_)
      refine lv_aload_n S.1 S.2.1 d_Mo_set0_105 rfl (lv_at hl 1 rfl) ?_
      refine lv_dup S.1 S.2.1 d_Mo_set0_106 rfl ?_
      obtain ⟨t34, ht34, hf⟩ := xb hf
      refine x_geti S hw lk_Mo_247 ht34 d_Mo_set0_107 ?_
      refine lv_iconst (v := 1) S.1 S.2.1 d_Mo_set0_110 (by decide) ?_
      refine lv_iadd S.1 S.2.1 d_Mo_set0_111 ?_
      obtain ⟨w35, hw35, hf⟩ := xb hf
      refine x_puti S hw lp_Mo_247 hw35 d_Mo_set0_112 (fun H locs hw => ?_)
      refine lv_goto (tgt := 75) S.1 S.2.1 d_Mo_set0_115 (by decide) ?_
      exact ih _ _ _ _ _ _ _ hw (lv_sub hl [1, 2, 0] rfl) hf
def f_Mo_set0_43 (a0 : Nat) (x1 : Int32) (y0 : Int32) (y1 : Int32) (y2 : Nat) (ω : xS) : Option (Int32 × xS) :=
  (xp ω y2 12 42 (.int (y1 + y0))).bind fun w11 =>
  (xgi w11 a0 12 42).bind fun t12 =>
  (xk w11 a0 12 (f_Mo_look a0 t12 w11)).bind fun t14 =>
  (f_Mo_letterOf t14 w11).bind fun t16 =>
  if 0 ≤ t16 then (
    f_Mo_set0_75  xFU a0 x1 0 w11)
  else (
    (xgi w11 a0 12 42).bind fun t18 =>
    xc (xk w11 a0 12 (f_Mo_fails a0 2 t18 w11)) fun t20 w21 =>
    some (0, w21))
set_option maxHeartbeats 4000000 in
set_option maxRecDepth 100000 in
theorem w_Mo_set0_43 {p : Program} {l : Launch} {e : Env} {s : State} {m : MethodId} {args : Array Value} {below : List Frame} {meth : Method} {c : Code} {E : xV} {z : Nat} {r : Int32} {ω1 : xS} (S : CallFix p m c b_Mo_set0 3 s args xTbl "RosterRulesModel") (hr : meth.sig.returnType = (some .int)) (hlocks : meth.locks = false) : ∀ (a0 : Nat) (x1 : Int32) (y0 : Int32) (y1 : Int32) (y2 : Nat) (ω : xS) (H : Heap) (locs : List Loc) (ls : Array Slot), xW E z ω s s.heap H locs → lv_has ls 3 [(0, .ref a0), (1, .int x1)] → f_Mo_set0_43 a0 x1 y0 y1 y2 ω = some (r, ω1) → W p l e (headSpec ws_Mo_set0 { frames := 1, cells := 0, slots := 0, locals := 22 }).room s m args below meth c H locs 0 0 (MQ below (xQ E (some (.int r)) z ω1) args s 0 0 (fun q => E.2.2 ≤ q)) (F0 m 43 ls [.int y0, .int y1, .ref y2]) := by
  intro a0 x1 y0 y1 y2 ω H locs ls hw hl hf
  unfold f_Mo_set0_43 at hf
  refine lv_iadd S.1 S.2.1 d_Mo_set0_43 ?_
  obtain ⟨w11, hw11, hf⟩ := xb hf
  refine x_puti S hw lp_Mo_247 hw11 d_Mo_set0_44 (fun H locs hw => ?_)
  refine lv_iconst (v := 0) S.1 S.2.1 d_Mo_set0_47 (by decide) ?_
  refine lv_istore_n (lv' := [(2, .int 0), (0, .ref a0), (1, .int x1)]) S.1 S.2.1 d_Mo_set0_48 rfl hl (by decide) rfl (fun ls hl => ?_)
  refine lv_aload_n S.1 S.2.1 d_Mo_set0_49 rfl (lv_at hl 1 rfl) ?_
  refine lv_aload_n S.1 S.2.1 d_Mo_set0_50 rfl (lv_at hl 1 rfl) ?_
  obtain ⟨t12, ht12, hf⟩ := xb hf
  refine x_geti S hw lk_Mo_247 ht12 d_Mo_set0_51 ?_
  obtain ⟨t14, h13, hf⟩ := xb hf
  obtain ⟨h13b, h13⟩ := xkb h13
  refine x_callV (As := [.int t12]) (rest := []) (st1 := [.int t14]) S hw (c_Mo_look h13) (cwV 1 S.2.2.2.2 gv_Mo_181 rfl rfl rfl hd_Mo_look ⟨Nat.le_of_ble_eq_true rfl, Nat.le_of_ble_eq_true rfl⟩) rfl h13b rfl hl.1 rfl rfl (Nat.le_of_ble_eq_true rfl) d_Mo_set0_54 ⟨Nat.le_of_ble_eq_true rfl, Nat.le_of_ble_eq_true rfl⟩ (fun H locs hw => ?_)
  obtain ⟨t16, h15, hf⟩ := xb hf
  refine x_callS (As := [.int t14]) (rest := []) (st1 := [.int t16]) S hw (c_Mo_letterOf h15) (cwS 1 S.2.2.2.2 gs_Mo_277 rfl rfl rfl hd_Mo_letterOf ⟨Nat.le_of_ble_eq_true rfl, Nat.le_of_ble_eq_true rfl⟩) rfl hl.1 rfl rfl (Nat.le_of_ble_eq_true rfl) d_Mo_set0_57 ⟨Nat.le_of_ble_eq_true rfl, Nat.le_of_ble_eq_true rfl⟩ (fun H locs hw => ?_)
  refine lv_if_ge (tgt := 75) S.1 S.2.1 d_Mo_set0_60 (by decide) (fun c17 => ?_) (fun c17 => ?_)
  · replace hf := xt c17 hf
    exact w_Mo_set0_75 S hr hlocks  _ _ _ _ _ _ _ _ hw (lv_sub hl [1, 2, 0] rfl) hf
  · replace hf := xf c17 hf
    refine lv_aload_n S.1 S.2.1 d_Mo_set0_63 rfl (lv_at hl 1 rfl) ?_
    refine lv_iconst (v := 2) S.1 S.2.1 d_Mo_set0_64 (by decide) ?_
    refine lv_aload_n S.1 S.2.1 d_Mo_set0_65 rfl (lv_at hl 1 rfl) ?_
    obtain ⟨t18, ht18, hf⟩ := xb hf
    refine x_geti S hw lk_Mo_247 ht18 d_Mo_set0_66 ?_
    obtain ⟨t20, w21, h19, hf⟩ := xcb hf
    obtain ⟨h19b, h19⟩ := xkb h19
    refine x_callV (As := [.int 2, .int t18]) (rest := []) (st1 := [.int t20]) S hw (c_Mo_fails h19) (cwV 2 S.2.2.2.2 gv_Mo_198 rfl rfl rfl hd_Mo_fails ⟨Nat.le_of_ble_eq_true rfl, Nat.le_of_ble_eq_true rfl⟩) rfl h19b rfl hl.1 rfl rfl (Nat.le_of_ble_eq_true rfl) d_Mo_set0_69 ⟨Nat.le_of_ble_eq_true rfl, Nat.le_of_ble_eq_true rfl⟩ (fun H locs hw => ?_)
    refine lv_pop S.1 S.2.1 d_Mo_set0_72 rfl ?_
    refine lv_iconst (v := 0) S.1 S.2.1 d_Mo_set0_73 (by decide) ?_
    obtain ⟨rfl, rfl⟩ := xe2 hf
    exact x_iret S hr hlocks hw d_Mo_set0_74
def f_Mo_set0 (a0 : Nat) (ω : xS) : Option (Int32 × xS) :=
  (xgi ω a0 12 42).bind fun t1 =>
  (xp ω a0 12 42 (.int (t1 + 1))).bind fun w2 =>
  (xgi w2 a0 12 42).bind fun t3 =>
  (xk w2 a0 12 (f_Mo_look a0 t3 w2)).bind fun t5 =>
  if t5 = 94 then (
    (xgi w2 a0 12 42).bind fun t9 =>
    if (1 : Int32) = 0 then (
      f_Mo_set0_43  a0 1 0 t9 a0 w2)
    else (
      f_Mo_set0_43  a0 1 1 t9 a0 w2))
  else (
    (xgi w2 a0 12 42).bind fun t7 =>
    if (0 : Int32) = 0 then (
      f_Mo_set0_43  a0 0 0 t7 a0 w2)
    else (
      f_Mo_set0_43  a0 0 1 t7 a0 w2))
set_option maxHeartbeats 4000000 in
set_option maxRecDepth 100000 in
theorem c_Mo_set0 {l : Launch} {E : xV} {z : Nat} {a0 : Nat} {r : Int32} {ω1 : xS} {ω : xS} (hf : f_Mo_set0 a0 ω = some (r, ω1)) : xM l E y_Mo_set0 ws_Mo_set0 { frames := 1, cells := 0, slots := 0, locals := 22 } [.ref a0] z ω (some (.int r)) z ω1 := by
  refine x_start (cc := b_Mo_set0) (maxL := 3) (ret := (some .int)) (by decide) rfl (Nat.le_of_ble_eq_true rfl) ?_
  intro p e s m below meth c S hr hlocks hin ls hl hw
  have hl : lv_has ls 3 [(0, .ref a0)] := hl
  unfold f_Mo_set0 at hf
  refine lv_aload_n S.1 S.2.1 d_Mo_set0_0 rfl (lv_at hl 0 rfl) ?_
  refine lv_dup S.1 S.2.1 d_Mo_set0_1 rfl ?_
  obtain ⟨t1, ht1, hf⟩ := xb hf
  refine x_geti S hw lk_Mo_247 ht1 d_Mo_set0_2 ?_
  refine lv_iconst (v := 1) S.1 S.2.1 d_Mo_set0_5 (by decide) ?_
  refine lv_iadd S.1 S.2.1 d_Mo_set0_6 ?_
  obtain ⟨w2, hw2, hf⟩ := xb hf
  refine x_puti S hw lp_Mo_247 hw2 d_Mo_set0_7 (fun H locs hw => ?_)
  refine lv_aload_n S.1 S.2.1 d_Mo_set0_10 rfl (lv_at hl 0 rfl) ?_
  refine lv_aload_n S.1 S.2.1 d_Mo_set0_11 rfl (lv_at hl 0 rfl) ?_
  obtain ⟨t3, ht3, hf⟩ := xb hf
  refine x_geti S hw lk_Mo_247 ht3 d_Mo_set0_12 ?_
  obtain ⟨t5, h4, hf⟩ := xb hf
  obtain ⟨h4b, h4⟩ := xkb h4
  refine x_callV (As := [.int t3]) (rest := []) (st1 := [.int t5]) S hw (c_Mo_look h4) (cwV 1 S.2.2.2.2 gv_Mo_181 rfl rfl rfl hd_Mo_look ⟨Nat.le_of_ble_eq_true rfl, Nat.le_of_ble_eq_true rfl⟩) rfl h4b rfl hl.1 rfl rfl (Nat.le_of_ble_eq_true rfl) d_Mo_set0_15 ⟨Nat.le_of_ble_eq_true rfl, Nat.le_of_ble_eq_true rfl⟩ (fun H locs hw => ?_)
  refine lv_bipush (v := 94) S.1 S.2.1 d_Mo_set0_18 (by decide) ?_
  refine lv_icmp_ne (tgt := 27) S.1 S.2.1 d_Mo_set0_20 (by decide) (fun c6 => ?_) (fun c6 => ?_)
  · replace hf := xf c6 hf
    refine lv_iconst (v := 0) S.1 S.2.1 d_Mo_set0_27 (by decide) ?_
    refine lv_istore_n (lv' := [(1, .int 0), (0, .ref a0)]) S.1 S.2.1 d_Mo_set0_28 rfl hl (by decide) rfl (fun ls hl => ?_)
    refine lv_aload_n S.1 S.2.1 d_Mo_set0_29 rfl (lv_at hl 1 rfl) ?_
    refine lv_dup S.1 S.2.1 d_Mo_set0_30 rfl ?_
    obtain ⟨t7, ht7, hf⟩ := xb hf
    refine x_geti S hw lk_Mo_247 ht7 d_Mo_set0_31 ?_
    refine lv_iload_n S.1 S.2.1 d_Mo_set0_34 rfl (lv_at hl 0 rfl) ?_
    refine lv_if_eq (tgt := 42) S.1 S.2.1 d_Mo_set0_35 (by decide) (fun c8 => ?_) (fun c8 => ?_)
    · replace hf := xt c8 hf
      refine lv_iconst (v := 0) S.1 S.2.1 d_Mo_set0_42 (by decide) ?_
      exact w_Mo_set0_43 S hr hlocks  _ _ _ _ _ _ _ _ _ hw (lv_sub hl [1, 0] rfl) hf
    · replace hf := xf c8 hf
      refine lv_iconst (v := 1) S.1 S.2.1 d_Mo_set0_38 (by decide) ?_
      refine lv_goto (tgt := 43) S.1 S.2.1 d_Mo_set0_39 (by decide) ?_
      exact w_Mo_set0_43 S hr hlocks  _ _ _ _ _ _ _ _ _ hw (lv_sub hl [1, 0] rfl) hf
  · replace hf := xt c6 hf
    refine lv_iconst (v := 1) S.1 S.2.1 d_Mo_set0_23 (by decide) ?_
    refine lv_goto (tgt := 28) S.1 S.2.1 d_Mo_set0_24 (by decide) ?_
    refine lv_istore_n (lv' := [(1, .int 1), (0, .ref a0)]) S.1 S.2.1 d_Mo_set0_28 rfl hl (by decide) rfl (fun ls hl => ?_)
    refine lv_aload_n S.1 S.2.1 d_Mo_set0_29 rfl (lv_at hl 1 rfl) ?_
    refine lv_dup S.1 S.2.1 d_Mo_set0_30 rfl ?_
    obtain ⟨t9, ht9, hf⟩ := xb hf
    refine x_geti S hw lk_Mo_247 ht9 d_Mo_set0_31 ?_
    refine lv_iload_n S.1 S.2.1 d_Mo_set0_34 rfl (lv_at hl 0 rfl) ?_
    refine lv_if_eq (tgt := 42) S.1 S.2.1 d_Mo_set0_35 (by decide) (fun c10 => ?_) (fun c10 => ?_)
    · replace hf := xt c10 hf
      refine lv_iconst (v := 0) S.1 S.2.1 d_Mo_set0_42 (by decide) ?_
      exact w_Mo_set0_43 S hr hlocks  _ _ _ _ _ _ _ _ _ hw (lv_sub hl [1, 0] rfl) hf
    · replace hf := xf c10 hf
      refine lv_iconst (v := 1) S.1 S.2.1 d_Mo_set0_38 (by decide) ?_
      refine lv_goto (tgt := 43) S.1 S.2.1 d_Mo_set0_39 (by decide) ?_
      exact w_Mo_set0_43 S hr hlocks  _ _ _ _ _ _ _ _ _ hw (lv_sub hl [1, 0] rfl) hf
def f_Mo_few (x0 : Int32) (ω : xS) : Option Int32 :=
  if x0 ≤ 1000 then (
    some x0)
  else (
    some 1000)
set_option maxHeartbeats 4000000 in
set_option maxRecDepth 100000 in
theorem c_Mo_few {l : Launch} {E : xV} {z : Nat} {x0 : Int32} {r : Int32} {ω : xS} (hf : f_Mo_few x0 ω = some r) : xM l E y_Mo_few ws_Mo_few { frames := 0, cells := 0, slots := 0, locals := 0 } [.int x0] z ω (some (.int r)) z ω := by
  refine x_start (cc := b_Mo_few) (maxL := 1) (ret := (some .int)) (by decide) rfl (Nat.le_of_ble_eq_true rfl) ?_
  intro p e s m below meth c S hr hlocks hin ls hl hw
  have hl : lv_has ls 1 [(0, .int x0)] := hl
  unfold f_Mo_few at hf
  refine lv_iload_n S.1 S.2.1 d_Mo_few_0 rfl (lv_at hl 0 rfl) ?_
  refine lv_sipush (v := 1000) S.1 S.2.1 d_Mo_few_1 (by decide) ?_
  refine lv_icmp_le (tgt := 13) S.1 S.2.1 d_Mo_few_4 (by decide) (fun c1 => ?_) (fun c1 => ?_)
  · replace hf := xt c1 hf
    refine lv_iload_n S.1 S.2.1 d_Mo_few_13 rfl (lv_at hl 0 rfl) ?_
    obtain rfl := xe1 hf
    exact x_iret S hr hlocks hw d_Mo_few_14
  · replace hf := xf c1 hf
    refine lv_sipush (v := 1000) S.1 S.2.1 d_Mo_few_7 (by decide) ?_
    refine lv_goto (tgt := 14) S.1 S.2.1 d_Mo_few_10 (by decide) ?_
    obtain rfl := xe1 hf
    exact x_iret S hr hlocks hw d_Mo_few_14
def f_Mo_item (a0 : Nat) (x1 : Int32) (x2 : Int32) (ω : xS) : Option xS :=
  (xgr ω a0 12 46).bind fun t1 =>
  (xgr ω a0 12 46).bind fun t2 =>
  (xai ω t2 x1).bind fun t3 =>
  (xgr ω a0 12 47).bind fun t4 =>
  (xai ω t4 x1).bind fun t5 =>
  (f_Mo_few (t3 + t5) ω).bind fun t7 =>
  (xsi ω t1 x1 t7).bind fun w8 =>
  (xgr w8 a0 12 47).bind fun t9 =>
  (xsi w8 t9 x1 x2).bind fun w10 =>
  (xgr w10 a0 12 48).bind fun t11 =>
  (xsz w10 t11 x1 1).bind fun w12 =>
  some w12
set_option maxHeartbeats 4000000 in
set_option maxRecDepth 100000 in
theorem c_Mo_item {l : Launch} {E : xV} {z : Nat} {a0 : Nat} {x1 : Int32} {x2 : Int32} {ω1 : xS} {ω : xS} (hf : f_Mo_item a0 x1 x2 ω = some ω1) : xM l E y_Mo_item ws_Mo_item { frames := 1, cells := 0, slots := 0, locals := 20 } [.ref a0, .int x1, .int x2] z ω none z ω1 := by
  refine x_start (cc := b_Mo_item) (maxL := 3) (ret := none) (by decide) rfl (Nat.le_of_ble_eq_true rfl) ?_
  intro p e s m below meth c S hr hlocks hin ls hl hw
  have hl : lv_has ls 3 [(0, .ref a0), (1, .int x1), (2, .int x2)] := hl
  unfold f_Mo_item at hf
  refine lv_aload_n S.1 S.2.1 d_Mo_item_0 rfl (lv_at hl 0 rfl) ?_
  obtain ⟨t1, ht1, hf⟩ := xb hf
  refine x_getr S hw lk_Mo_98 ht1 d_Mo_item_1 ?_
  refine lv_iload_n S.1 S.2.1 d_Mo_item_4 rfl (lv_at hl 1 rfl) ?_
  refine lv_aload_n S.1 S.2.1 d_Mo_item_5 rfl (lv_at hl 0 rfl) ?_
  obtain ⟨t2, ht2, hf⟩ := xb hf
  refine x_getr S hw lk_Mo_98 ht2 d_Mo_item_6 ?_
  refine lv_iload_n S.1 S.2.1 d_Mo_item_9 rfl (lv_at hl 1 rfl) ?_
  obtain ⟨t3, ht3, hf⟩ := xb hf
  refine x_iald S hw ht3 d_Mo_item_10 ?_
  refine lv_aload_n S.1 S.2.1 d_Mo_item_11 rfl (lv_at hl 0 rfl) ?_
  obtain ⟨t4, ht4, hf⟩ := xb hf
  refine x_getr S hw lk_Mo_101 ht4 d_Mo_item_12 ?_
  refine lv_iload_n S.1 S.2.1 d_Mo_item_15 rfl (lv_at hl 1 rfl) ?_
  obtain ⟨t5, ht5, hf⟩ := xb hf
  refine x_iald S hw ht5 d_Mo_item_16 ?_
  refine lv_iadd S.1 S.2.1 d_Mo_item_17 ?_
  obtain ⟨t7, h6, hf⟩ := xb hf
  refine x_callS (As := [.int (t3 + t5)]) (rest := [.int x1, .ref t1]) (st1 := [.int t7, .int x1, .ref t1]) S hw (c_Mo_few h6) (cwS 1 S.2.2.2.2 gs_Mo_300 rfl rfl rfl hd_Mo_few ⟨Nat.le_of_ble_eq_true rfl, Nat.le_of_ble_eq_true rfl⟩) rfl hl.1 rfl rfl (Nat.le_of_ble_eq_true rfl) d_Mo_item_18 ⟨Nat.le_of_ble_eq_true rfl, Nat.le_of_ble_eq_true rfl⟩ (fun H locs hw => ?_)
  obtain ⟨w8, hw8, hf⟩ := xb hf
  refine x_iast S hw hw8 d_Mo_item_21 (fun H locs hw => ?_)
  refine lv_aload_n S.1 S.2.1 d_Mo_item_22 rfl (lv_at hl 0 rfl) ?_
  obtain ⟨t9, ht9, hf⟩ := xb hf
  refine x_getr S hw lk_Mo_101 ht9 d_Mo_item_23 ?_
  refine lv_iload_n S.1 S.2.1 d_Mo_item_26 rfl (lv_at hl 1 rfl) ?_
  refine lv_iload_n S.1 S.2.1 d_Mo_item_27 rfl (lv_at hl 2 rfl) ?_
  obtain ⟨w10, hw10, hf⟩ := xb hf
  refine x_iast S hw hw10 d_Mo_item_28 (fun H locs hw => ?_)
  refine lv_aload_n S.1 S.2.1 d_Mo_item_29 rfl (lv_at hl 0 rfl) ?_
  obtain ⟨t11, ht11, hf⟩ := xb hf
  refine x_getr S hw lk_Mo_104 ht11 d_Mo_item_30 ?_
  refine lv_iload_n S.1 S.2.1 d_Mo_item_33 rfl (lv_at hl 1 rfl) ?_
  refine lv_iconst (v := 1) S.1 S.2.1 d_Mo_item_34 (by decide) ?_
  obtain ⟨w12, hw12, hf⟩ := xb hf
  refine x_zast S hw hw12 d_Mo_item_35 (fun H locs hw => ?_)
  cases hf
  exact x_vret S hr hlocks hw d_Mo_item_36
def f_Mo_digit (a0 : Nat) (ω : xS) : Option (Int32 × xS) :=
  (xgi ω a0 12 39).bind fun t1 =>
  if t1 = 0 then (
    (xgi ω a0 12 42).bind fun t3 =>
    (xk ω a0 12 (f_Mo_look a0 t3 ω)).bind fun t5 =>
    (f_Mo_isDigit t5 ω).bind fun t7 =>
    if t7 = 0 then (
      (xgi ω a0 12 42).bind fun t11 =>
      xc (xk ω a0 12 (f_Mo_fails a0 2 t11 ω)) fun t13 w14 =>
      some (0, w14))
    else (
      (xgi ω a0 12 42).bind fun t9 =>
      (xp ω a0 12 42 (.int (t9 + 1))).bind fun w10 =>
      some ((t5 - 48), w10)))
  else (
    some (0, ω))
set_option maxHeartbeats 4000000 in
set_option maxRecDepth 100000 in
theorem c_Mo_digit {l : Launch} {E : xV} {z : Nat} {a0 : Nat} {r : Int32} {ω1 : xS} {ω : xS} (hf : f_Mo_digit a0 ω = some (r, ω1)) : xM l E y_Mo_digit ws_Mo_digit { frames := 1, cells := 0, slots := 0, locals := 22 } [.ref a0] z ω (some (.int r)) z ω1 := by
  refine x_start (cc := b_Mo_digit) (maxL := 2) (ret := (some .int)) (by decide) rfl (Nat.le_of_ble_eq_true rfl) ?_
  intro p e s m below meth c S hr hlocks hin ls hl hw
  have hl : lv_has ls 2 [(0, .ref a0)] := hl
  unfold f_Mo_digit at hf
  refine lv_aload_n S.1 S.2.1 d_Mo_digit_0 rfl (lv_at hl 0 rfl) ?_
  obtain ⟨t1, ht1, hf⟩ := xb hf
  refine x_geti S hw lk_Mo_172 ht1 d_Mo_digit_1 ?_
  refine lv_if_eq (tgt := 9) S.1 S.2.1 d_Mo_digit_4 (by decide) (fun c2 => ?_) (fun c2 => ?_)
  · replace hf := xt c2 hf
    refine lv_aload_n S.1 S.2.1 d_Mo_digit_9 rfl (lv_at hl 0 rfl) ?_
    refine lv_aload_n S.1 S.2.1 d_Mo_digit_10 rfl (lv_at hl 0 rfl) ?_
    obtain ⟨t3, ht3, hf⟩ := xb hf
    refine x_geti S hw lk_Mo_247 ht3 d_Mo_digit_11 ?_
    obtain ⟨t5, h4, hf⟩ := xb hf
    obtain ⟨h4b, h4⟩ := xkb h4
    refine x_callV (As := [.int t3]) (rest := []) (st1 := [.int t5]) S hw (c_Mo_look h4) (cwV 1 S.2.2.2.2 gv_Mo_181 rfl rfl rfl hd_Mo_look ⟨Nat.le_of_ble_eq_true rfl, Nat.le_of_ble_eq_true rfl⟩) rfl h4b rfl hl.1 rfl rfl (Nat.le_of_ble_eq_true rfl) d_Mo_digit_14 ⟨Nat.le_of_ble_eq_true rfl, Nat.le_of_ble_eq_true rfl⟩ (fun H locs hw => ?_)
    refine lv_istore_n (lv' := [(1, .int t5), (0, .ref a0)]) S.1 S.2.1 d_Mo_digit_17 rfl hl (by decide) rfl (fun ls hl => ?_)
    refine lv_iload_n S.1 S.2.1 d_Mo_digit_18 rfl (lv_at hl 0 rfl) ?_
    obtain ⟨t7, h6, hf⟩ := xb hf
    refine x_callS (As := [.int t5]) (rest := []) (st1 := [.int t7]) S hw (c_Mo_isDigit h6) (cwS 1 S.2.2.2.2 gs_Mo_202 rfl rfl rfl hd_Mo_isDigit ⟨Nat.le_of_ble_eq_true rfl, Nat.le_of_ble_eq_true rfl⟩) rfl hl.1 rfl rfl (Nat.le_of_ble_eq_true rfl) d_Mo_digit_19 ⟨Nat.le_of_ble_eq_true rfl, Nat.le_of_ble_eq_true rfl⟩ (fun H locs hw => ?_)
    refine lv_if_ne (tgt := 37) S.1 S.2.1 d_Mo_digit_22 (by decide) (fun c8 => ?_) (fun c8 => ?_)
    · replace hf := xf c8 hf
      refine lv_aload_n S.1 S.2.1 d_Mo_digit_37 rfl (lv_at hl 1 rfl) ?_
      refine lv_dup S.1 S.2.1 d_Mo_digit_38 rfl ?_
      obtain ⟨t9, ht9, hf⟩ := xb hf
      refine x_geti S hw lk_Mo_247 ht9 d_Mo_digit_39 ?_
      refine lv_iconst (v := 1) S.1 S.2.1 d_Mo_digit_42 (by decide) ?_
      refine lv_iadd S.1 S.2.1 d_Mo_digit_43 ?_
      obtain ⟨w10, hw10, hf⟩ := xb hf
      refine x_puti S hw lp_Mo_247 hw10 d_Mo_digit_44 (fun H locs hw => ?_)
      refine lv_iload_n S.1 S.2.1 d_Mo_digit_47 rfl (lv_at hl 0 rfl) ?_
      refine lv_bipush (v := 48) S.1 S.2.1 d_Mo_digit_48 (by decide) ?_
      refine lv_isub S.1 S.2.1 d_Mo_digit_50 ?_
      obtain ⟨rfl, rfl⟩ := xe2 hf
      exact x_iret S hr hlocks hw d_Mo_digit_51
    · replace hf := xt c8 hf
      refine lv_aload_n S.1 S.2.1 d_Mo_digit_25 rfl (lv_at hl 1 rfl) ?_
      refine lv_iconst (v := 2) S.1 S.2.1 d_Mo_digit_26 (by decide) ?_
      refine lv_aload_n S.1 S.2.1 d_Mo_digit_27 rfl (lv_at hl 1 rfl) ?_
      obtain ⟨t11, ht11, hf⟩ := xb hf
      refine x_geti S hw lk_Mo_247 ht11 d_Mo_digit_28 ?_
      obtain ⟨t13, w14, h12, hf⟩ := xcb hf
      obtain ⟨h12b, h12⟩ := xkb h12
      refine x_callV (As := [.int 2, .int t11]) (rest := []) (st1 := [.int t13]) S hw (c_Mo_fails h12) (cwV 2 S.2.2.2.2 gv_Mo_198 rfl rfl rfl hd_Mo_fails ⟨Nat.le_of_ble_eq_true rfl, Nat.le_of_ble_eq_true rfl⟩) rfl h12b rfl hl.1 rfl rfl (Nat.le_of_ble_eq_true rfl) d_Mo_digit_31 ⟨Nat.le_of_ble_eq_true rfl, Nat.le_of_ble_eq_true rfl⟩ (fun H locs hw => ?_)
      refine lv_pop S.1 S.2.1 d_Mo_digit_34 rfl ?_
      refine lv_iconst (v := 0) S.1 S.2.1 d_Mo_digit_35 (by decide) ?_
      obtain ⟨rfl, rfl⟩ := xe2 hf
      exact x_iret S hr hlocks hw d_Mo_digit_36
  · replace hf := xf c2 hf
    refine lv_iconst (v := 0) S.1 S.2.1 d_Mo_digit_7 (by decide) ?_
    obtain ⟨rfl, rfl⟩ := xe2 hf
    exact x_iret S hr hlocks hw d_Mo_digit_8
def f_Mo_sign_29 (a0 : Nat) (ω : xS) : Option xS :=
  (xgi ω a0 12 42).bind fun t11 =>
  (xgi ω a0 12 39).bind fun t12 =>
  if t12 = 0 then (
    (xp ω a0 12 42 (.int (t11 + 1))).bind fun w15 =>
    some w15)
  else (
    (xp ω a0 12 42 (.int (t11 + 0))).bind fun w14 =>
    some w14)
set_option maxHeartbeats 4000000 in
set_option maxRecDepth 100000 in
theorem w_Mo_sign_29 {p : Program} {l : Launch} {e : Env} {s : State} {m : MethodId} {args : Array Value} {below : List Frame} {meth : Method} {c : Code} {E : xV} {z : Nat} {ω1 : xS} (S : CallFix p m c b_Mo_sign 2 s args xTbl "RosterRulesModel") (hr : meth.sig.returnType = none) (hlocks : meth.locks = false) : ∀ (a0 : Nat) (ω : xS) (H : Heap) (locs : List Loc) (ls : Array Slot), xW E z ω s s.heap H locs → lv_has ls 2 [(0, .ref a0)] → f_Mo_sign_29 a0 ω = some ω1 → W p l e (headSpec ws_Mo_sign { frames := 1, cells := 0, slots := 0, locals := 22 }).room s m args below meth c H locs 0 0 (MQ below (xQ E none z ω1) args s 0 0 (fun q => E.2.2 ≤ q)) (F0 m 29 ls []) := by
  intro a0 ω H locs ls hw hl hf
  unfold f_Mo_sign_29 at hf
  refine lv_aload_n S.1 S.2.1 d_Mo_sign_29 rfl (lv_at hl 0 rfl) ?_
  refine lv_dup S.1 S.2.1 d_Mo_sign_30 rfl ?_
  obtain ⟨t11, ht11, hf⟩ := xb hf
  refine x_geti S hw lk_Mo_247 ht11 d_Mo_sign_31 ?_
  refine lv_aload_n S.1 S.2.1 d_Mo_sign_34 rfl (lv_at hl 0 rfl) ?_
  obtain ⟨t12, ht12, hf⟩ := xb hf
  refine x_geti S hw lk_Mo_172 ht12 d_Mo_sign_35 ?_
  refine lv_if_ne (tgt := 45) S.1 S.2.1 d_Mo_sign_38 (by decide) (fun c13 => ?_) (fun c13 => ?_)
  · replace hf := xf c13 hf
    refine lv_iconst (v := 0) S.1 S.2.1 d_Mo_sign_45 (by decide) ?_
    refine lv_iadd S.1 S.2.1 d_Mo_sign_46 ?_
    obtain ⟨w14, hw14, hf⟩ := xb hf
    refine x_puti S hw lp_Mo_247 hw14 d_Mo_sign_47 (fun H locs hw => ?_)
    cases hf
    exact x_vret S hr hlocks hw d_Mo_sign_50
  · replace hf := xt c13 hf
    refine lv_iconst (v := 1) S.1 S.2.1 d_Mo_sign_41 (by decide) ?_
    refine lv_goto (tgt := 46) S.1 S.2.1 d_Mo_sign_42 (by decide) ?_
    refine lv_iadd S.1 S.2.1 d_Mo_sign_46 ?_
    obtain ⟨w15, hw15, hf⟩ := xb hf
    refine x_puti S hw lp_Mo_247 hw15 d_Mo_sign_47 (fun H locs hw => ?_)
    cases hf
    exact x_vret S hr hlocks hw d_Mo_sign_50
def f_Mo_sign (a0 : Nat) (x1 : Int32) (ω : xS) : Option xS :=
  (xgi ω a0 12 39).bind fun t1 =>
  if t1 = 0 then (
    (xgi ω a0 12 42).bind fun t3 =>
    (xk ω a0 12 (f_Mo_look a0 t3 ω)).bind fun t5 =>
    if t5 = x1 then (
      f_Mo_sign_29  a0 ω)
    else (
      (xgi ω a0 12 42).bind fun t7 =>
      xc (xk ω a0 12 (f_Mo_fails a0 2 t7 ω)) fun t9 w10 =>
      f_Mo_sign_29  a0 w10))
  else (
    f_Mo_sign_29  a0 ω)
set_option maxHeartbeats 4000000 in
set_option maxRecDepth 100000 in
theorem c_Mo_sign {l : Launch} {E : xV} {z : Nat} {a0 : Nat} {x1 : Int32} {ω1 : xS} {ω : xS} (hf : f_Mo_sign a0 x1 ω = some ω1) : xM l E y_Mo_sign ws_Mo_sign { frames := 1, cells := 0, slots := 0, locals := 22 } [.ref a0, .int x1] z ω none z ω1 := by
  refine x_start (cc := b_Mo_sign) (maxL := 2) (ret := none) (by decide) rfl (Nat.le_of_ble_eq_true rfl) ?_
  intro p e s m below meth c S hr hlocks hin ls hl hw
  have hl : lv_has ls 2 [(0, .ref a0), (1, .int x1)] := hl
  unfold f_Mo_sign at hf
  refine lv_aload_n S.1 S.2.1 d_Mo_sign_0 rfl (lv_at hl 0 rfl) ?_
  obtain ⟨t1, ht1, hf⟩ := xb hf
  refine x_geti S hw lk_Mo_172 ht1 d_Mo_sign_1 ?_
  refine lv_if_ne (tgt := 29) S.1 S.2.1 d_Mo_sign_4 (by decide) (fun c2 => ?_) (fun c2 => ?_)
  · replace hf := xf c2 hf
    exact w_Mo_sign_29 S hr hlocks  _ _ _ _ _ hw (lv_sub hl [0] rfl) hf
  · replace hf := xt c2 hf
    refine lv_aload_n S.1 S.2.1 d_Mo_sign_7 rfl (lv_at hl 0 rfl) ?_
    refine lv_aload_n S.1 S.2.1 d_Mo_sign_8 rfl (lv_at hl 0 rfl) ?_
    obtain ⟨t3, ht3, hf⟩ := xb hf
    refine x_geti S hw lk_Mo_247 ht3 d_Mo_sign_9 ?_
    obtain ⟨t5, h4, hf⟩ := xb hf
    obtain ⟨h4b, h4⟩ := xkb h4
    refine x_callV (As := [.int t3]) (rest := []) (st1 := [.int t5]) S hw (c_Mo_look h4) (cwV 1 S.2.2.2.2 gv_Mo_181 rfl rfl rfl hd_Mo_look ⟨Nat.le_of_ble_eq_true rfl, Nat.le_of_ble_eq_true rfl⟩) rfl h4b rfl hl.1 rfl rfl (Nat.le_of_ble_eq_true rfl) d_Mo_sign_12 ⟨Nat.le_of_ble_eq_true rfl, Nat.le_of_ble_eq_true rfl⟩ (fun H locs hw => ?_)
    refine lv_iload_n S.1 S.2.1 d_Mo_sign_15 rfl (lv_at hl 1 rfl) ?_
    refine lv_icmp_eq (tgt := 29) S.1 S.2.1 d_Mo_sign_16 (by decide) (fun c6 => ?_) (fun c6 => ?_)
    · replace hf := xt c6 hf
      exact w_Mo_sign_29 S hr hlocks  _ _ _ _ _ hw (lv_sub hl [0] rfl) hf
    · replace hf := xf c6 hf
      refine lv_aload_n S.1 S.2.1 d_Mo_sign_19 rfl (lv_at hl 0 rfl) ?_
      refine lv_iconst (v := 2) S.1 S.2.1 d_Mo_sign_20 (by decide) ?_
      refine lv_aload_n S.1 S.2.1 d_Mo_sign_21 rfl (lv_at hl 0 rfl) ?_
      obtain ⟨t7, ht7, hf⟩ := xb hf
      refine x_geti S hw lk_Mo_247 ht7 d_Mo_sign_22 ?_
      obtain ⟨t9, w10, h8, hf⟩ := xcb hf
      obtain ⟨h8b, h8⟩ := xkb h8
      refine x_callV (As := [.int 2, .int t7]) (rest := []) (st1 := [.int t9]) S hw (c_Mo_fails h8) (cwV 2 S.2.2.2.2 gv_Mo_198 rfl rfl rfl hd_Mo_fails ⟨Nat.le_of_ble_eq_true rfl, Nat.le_of_ble_eq_true rfl⟩) rfl h8b rfl hl.1 rfl rfl (Nat.le_of_ble_eq_true rfl) d_Mo_sign_25 ⟨Nat.le_of_ble_eq_true rfl, Nat.le_of_ble_eq_true rfl⟩ (fun H locs hw => ?_)
      refine lv_pop S.1 S.2.1 d_Mo_sign_28 rfl ?_
      exact w_Mo_sign_29 S hr hlocks  _ _ _ _ _ hw (lv_sub hl [0] rfl) hf
def f_Mo_check_445 (a0 : Nat) (ω : xS) : Option (Int32 × xS) :=
  (xgr ω a0 12 45).bind fun t56 =>
  (xai ω t56 0).bind fun t57 =>
  (xgr ω a0 12 46).bind fun t58 =>
  (xai ω t58 0).bind fun t59 =>
  (xgr ω a0 12 47).bind fun t60 =>
  (xai ω t60 0).bind fun t61 =>
  (f_Mo_few ((t57 + t59) + t61) ω).bind fun t63 =>
  some (t63, ω)
set_option maxHeartbeats 4000000 in
set_option maxRecDepth 100000 in
theorem w_Mo_check_445 {p : Program} {l : Launch} {e : Env} {s : State} {m : MethodId} {args : Array Value} {below : List Frame} {meth : Method} {c : Code} {E : xV} {z : Nat} {r : Int32} {ω1 : xS} (S : CallFix p m c b_Mo_check 8 s args xTbl "RosterRulesModel") (hr : meth.sig.returnType = (some .int)) (hlocks : meth.locks = false) : ∀ (a0 : Nat) (ω : xS) (H : Heap) (locs : List Loc) (ls : Array Slot), xW E z ω s s.heap H locs → lv_has ls 8 [(0, .ref a0)] → f_Mo_check_445 a0 ω = some (r, ω1) → W p l e (headSpec ws_Mo_check { frames := 2, cells := 0, slots := 0, locals := 44 }).room s m args below meth c H locs 0 0 (MQ below (xQ E (some (.int r)) z ω1) args s 0 0 (fun q => E.2.2 ≤ q)) (F0 m 445 ls []) := by
  intro a0 ω H locs ls hw hl hf
  unfold f_Mo_check_445 at hf
  refine lv_aload_n S.1 S.2.1 d_Mo_check_445 rfl (lv_at hl 0 rfl) ?_
  obtain ⟨t56, ht56, hf⟩ := xb hf
  refine x_getr S hw lk_Mo_95 ht56 d_Mo_check_446 ?_
  refine lv_iconst (v := 0) S.1 S.2.1 d_Mo_check_449 (by decide) ?_
  obtain ⟨t57, ht57, hf⟩ := xb hf
  refine x_iald S hw ht57 d_Mo_check_450 ?_
  refine lv_aload_n S.1 S.2.1 d_Mo_check_451 rfl (lv_at hl 0 rfl) ?_
  obtain ⟨t58, ht58, hf⟩ := xb hf
  refine x_getr S hw lk_Mo_98 ht58 d_Mo_check_452 ?_
  refine lv_iconst (v := 0) S.1 S.2.1 d_Mo_check_455 (by decide) ?_
  obtain ⟨t59, ht59, hf⟩ := xb hf
  refine x_iald S hw ht59 d_Mo_check_456 ?_
  refine lv_iadd S.1 S.2.1 d_Mo_check_457 ?_
  refine lv_aload_n S.1 S.2.1 d_Mo_check_458 rfl (lv_at hl 0 rfl) ?_
  obtain ⟨t60, ht60, hf⟩ := xb hf
  refine x_getr S hw lk_Mo_101 ht60 d_Mo_check_459 ?_
  refine lv_iconst (v := 0) S.1 S.2.1 d_Mo_check_462 (by decide) ?_
  obtain ⟨t61, ht61, hf⟩ := xb hf
  refine x_iald S hw ht61 d_Mo_check_463 ?_
  refine lv_iadd S.1 S.2.1 d_Mo_check_464 ?_
  obtain ⟨t63, h62, hf⟩ := xb hf
  refine x_callS (As := [.int ((t57 + t59) + t61)]) (rest := []) (st1 := [.int t63]) S hw (c_Mo_few h62) (cwS 1 S.2.2.2.2 gs_Mo_300 rfl rfl rfl hd_Mo_few ⟨Nat.le_of_ble_eq_true rfl, Nat.le_of_ble_eq_true rfl⟩) rfl hl.1 rfl rfl (Nat.le_of_ble_eq_true rfl) d_Mo_check_465 ⟨Nat.le_of_ble_eq_true rfl, Nat.le_of_ble_eq_true rfl⟩ (fun H locs hw => ?_)
  obtain ⟨rfl, rfl⟩ := xe2 hf
  exact x_iret S hr hlocks hw d_Mo_check_468
def f_Mo_check_415 (a0 : Nat) (x2 : Int32) (ω : xS) : Option (Int32 × xS) :=
  (xgi ω a0 12 39).bind fun t42 =>
  if t42 = 0 then (
    if 0 < x2 then (
      (xgi ω a0 12 42).bind fun t45 =>
      xc (xk ω a0 12 (f_Mo_fails a0 2 t45 ω)) fun t47 w48 =>
      f_Mo_check_445  a0 w48)
    else (
      (xgr ω a0 12 48).bind fun t49 =>
      (xaz ω t49 0).bind fun t50 =>
      if t50 = 0 then (
        (xgi ω a0 12 42).bind fun t52 =>
        xc (xk ω a0 12 (f_Mo_fails a0 2 t52 ω)) fun t54 w55 =>
        f_Mo_check_445  a0 w55)
      else (
        f_Mo_check_445  a0 ω)))
  else (
    f_Mo_check_445  a0 ω)
set_option maxHeartbeats 4000000 in
set_option maxRecDepth 100000 in
theorem w_Mo_check_415 {p : Program} {l : Launch} {e : Env} {s : State} {m : MethodId} {args : Array Value} {below : List Frame} {meth : Method} {c : Code} {E : xV} {z : Nat} {r : Int32} {ω1 : xS} (S : CallFix p m c b_Mo_check 8 s args xTbl "RosterRulesModel") (hr : meth.sig.returnType = (some .int)) (hlocks : meth.locks = false) : ∀ (a0 : Nat) (x2 : Int32) (ω : xS) (H : Heap) (locs : List Loc) (ls : Array Slot), xW E z ω s s.heap H locs → lv_has ls 8 [(0, .ref a0), (2, .int x2)] → f_Mo_check_415 a0 x2 ω = some (r, ω1) → W p l e (headSpec ws_Mo_check { frames := 2, cells := 0, slots := 0, locals := 44 }).room s m args below meth c H locs 0 0 (MQ below (xQ E (some (.int r)) z ω1) args s 0 0 (fun q => E.2.2 ≤ q)) (F0 m 415 ls []) := by
  intro a0 x2 ω H locs ls hw hl hf
  unfold f_Mo_check_415 at hf
  refine lv_aload_n S.1 S.2.1 d_Mo_check_415 rfl (lv_at hl 0 rfl) ?_
  obtain ⟨t42, ht42, hf⟩ := xb hf
  refine x_geti S hw lk_Mo_172 ht42 d_Mo_check_416 ?_
  refine lv_if_ne (tgt := 445) S.1 S.2.1 d_Mo_check_419 (by decide) (fun c43 => ?_) (fun c43 => ?_)
  · replace hf := xf c43 hf
    exact w_Mo_check_445 S hr hlocks  _ _ _ _ _ hw (lv_sub hl [0] rfl) hf
  · replace hf := xt c43 hf
    refine lv_iload_n S.1 S.2.1 d_Mo_check_422 rfl (lv_at hl 1 rfl) ?_
    refine lv_if_gt (tgt := 435) S.1 S.2.1 d_Mo_check_423 (by decide) (fun c44 => ?_) (fun c44 => ?_)
    · replace hf := xt c44 hf
      refine lv_aload_n S.1 S.2.1 d_Mo_check_435 rfl (lv_at hl 0 rfl) ?_
      refine lv_iconst (v := 2) S.1 S.2.1 d_Mo_check_436 (by decide) ?_
      refine lv_aload_n S.1 S.2.1 d_Mo_check_437 rfl (lv_at hl 0 rfl) ?_
      obtain ⟨t45, ht45, hf⟩ := xb hf
      refine x_geti S hw lk_Mo_247 ht45 d_Mo_check_438 ?_
      obtain ⟨t47, w48, h46, hf⟩ := xcb hf
      obtain ⟨h46b, h46⟩ := xkb h46
      refine x_callV (As := [.int 2, .int t45]) (rest := []) (st1 := [.int t47]) S hw (c_Mo_fails h46) (cwV 2 S.2.2.2.2 gv_Mo_198 rfl rfl rfl hd_Mo_fails ⟨Nat.le_of_ble_eq_true rfl, Nat.le_of_ble_eq_true rfl⟩) rfl h46b rfl hl.1 rfl rfl (Nat.le_of_ble_eq_true rfl) d_Mo_check_441 ⟨Nat.le_of_ble_eq_true rfl, Nat.le_of_ble_eq_true rfl⟩ (fun H locs hw => ?_)
      refine lv_pop S.1 S.2.1 d_Mo_check_444 rfl ?_
      exact w_Mo_check_445 S hr hlocks  _ _ _ _ _ hw (lv_sub hl [0] rfl) hf
    · replace hf := xf c44 hf
      refine lv_aload_n S.1 S.2.1 d_Mo_check_426 rfl (lv_at hl 0 rfl) ?_
      obtain ⟨t49, ht49, hf⟩ := xb hf
      refine x_getr S hw lk_Mo_104 ht49 d_Mo_check_427 ?_
      refine lv_iconst (v := 0) S.1 S.2.1 d_Mo_check_430 (by decide) ?_
      obtain ⟨t50, ht50, hf⟩ := xb hf
      refine x_zald S hw ht50 d_Mo_check_431 ?_
      refine lv_if_ne (tgt := 445) S.1 S.2.1 d_Mo_check_432 (by decide) (fun c51 => ?_) (fun c51 => ?_)
      · replace hf := xf c51 hf
        exact w_Mo_check_445 S hr hlocks  _ _ _ _ _ hw (lv_sub hl [0] rfl) hf
      · replace hf := xt c51 hf
        refine lv_aload_n S.1 S.2.1 d_Mo_check_435 rfl (lv_at hl 0 rfl) ?_
        refine lv_iconst (v := 2) S.1 S.2.1 d_Mo_check_436 (by decide) ?_
        refine lv_aload_n S.1 S.2.1 d_Mo_check_437 rfl (lv_at hl 0 rfl) ?_
        obtain ⟨t52, ht52, hf⟩ := xb hf
        refine x_geti S hw lk_Mo_247 ht52 d_Mo_check_438 ?_
        obtain ⟨t54, w55, h53, hf⟩ := xcb hf
        obtain ⟨h53b, h53⟩ := xkb h53
        refine x_callV (As := [.int 2, .int t52]) (rest := []) (st1 := [.int t54]) S hw (c_Mo_fails h53) (cwV 2 S.2.2.2.2 gv_Mo_198 rfl rfl rfl hd_Mo_fails ⟨Nat.le_of_ble_eq_true rfl, Nat.le_of_ble_eq_true rfl⟩) rfl h53b rfl hl.1 rfl rfl (Nat.le_of_ble_eq_true rfl) d_Mo_check_441 ⟨Nat.le_of_ble_eq_true rfl, Nat.le_of_ble_eq_true rfl⟩ (fun H locs hw => ?_)
        refine lv_pop S.1 S.2.1 d_Mo_check_444 rfl ?_
        exact w_Mo_check_445 S hr hlocks  _ _ _ _ _ hw (lv_sub hl [0] rfl) hf
def f_Mo_check_330 (k9 : Nat → Int32 → Int32 → Int32 → xS → Option (Int32 × xS)) (a0 : Nat) (x1 : Int32) (x2 : Int32) (x3 : Int32) (x4 : Int32) (ω : xS) : Option (Int32 × xS) :=
  (xgr ω a0 12 48).bind fun t110 =>
  (xaz ω t110 x2).bind fun t111 =>
  if t111 = 0 then (
    (xgi ω a0 12 42).bind fun t113 =>
    xc (xk ω a0 12 (f_Mo_fails a0 2 t113 ω)) fun t115 w116 =>
    k9 a0 x1 x2 x3 w116)
  else (
    if x4 = 41 then (
      if x2 ≤ 0 then (
        (xgi ω a0 12 42).bind fun t123 =>
        xc (xk ω a0 12 (f_Mo_fails a0 2 t123 ω)) fun t125 w126 =>
        k9 a0 x1 x2 x3 w126)
      else (
        (xgi ω a0 12 42).bind fun t127 =>
        (xp ω a0 12 42 (.int (t127 + 1))).bind fun w128 =>
        (xgr w128 a0 12 45).bind fun t129 =>
        (xai w128 t129 ((x2 + (-1)) + 1)).bind fun t130 =>
        (xgr w128 a0 12 46).bind fun t131 =>
        (xai w128 t131 ((x2 + (-1)) + 1)).bind fun t132 =>
        (xgr w128 a0 12 47).bind fun t133 =>
        (xai w128 t133 ((x2 + (-1)) + 1)).bind fun t134 =>
        (f_Mo_few ((t130 + t132) + t134) w128).bind fun t136 =>
        (xk w128 a0 12 (f_Mo_item a0 (x2 + (-1)) t136 w128)).bind fun w139 =>
        k9 a0 x1 (x2 + (-1)) 1 w139))
    else (
      (xgi ω a0 12 42).bind fun t118 =>
      xc (xk ω a0 12 (f_Mo_fails a0 2 t118 ω)) fun t120 w121 =>
      k9 a0 x1 x2 x3 w121))
set_option maxHeartbeats 4000000 in
set_option maxRecDepth 100000 in
theorem w_Mo_check_330 {p : Program} {l : Launch} {e : Env} {s : State} {m : MethodId} {args : Array Value} {below : List Frame} {meth : Method} {c : Code} {E : xV} {z : Nat} {r : Int32} {ω1 : xS} {k9 : Nat → Int32 → Int32 → Int32 → xS → Option (Int32 × xS)} (S : CallFix p m c b_Mo_check 8 s args xTbl "RosterRulesModel") (hr : meth.sig.returnType = (some .int)) (hlocks : meth.locks = false) (hk9 : ∀ (a0 : Nat) (x1 : Int32) (x2 : Int32) (x3 : Int32) (ω : xS) (H : Heap) (locs : List Loc) (ls : Array Slot), xW E z ω s s.heap H locs → lv_has ls 8 [(0, .ref a0), (1, .int x1), (2, .int x2), (3, .int x3)] → k9 a0 x1 x2 x3 ω = some (r, ω1) → W p l e (headSpec ws_Mo_check { frames := 2, cells := 0, slots := 0, locals := 44 }).room s m args below meth c H locs 0 0 (MQ below (xQ E (some (.int r)) z ω1) args s 0 0 (fun q => E.2.2 ≤ q)) (F0 m 9 ls [])) : ∀ (a0 : Nat) (x1 : Int32) (x2 : Int32) (x3 : Int32) (x4 : Int32) (ω : xS) (H : Heap) (locs : List Loc) (ls : Array Slot), xW E z ω s s.heap H locs → lv_has ls 8 [(0, .ref a0), (1, .int x1), (2, .int x2), (3, .int x3), (4, .int x4)] → f_Mo_check_330 k9 a0 x1 x2 x3 x4 ω = some (r, ω1) → W p l e (headSpec ws_Mo_check { frames := 2, cells := 0, slots := 0, locals := 44 }).room s m args below meth c H locs 0 0 (MQ below (xQ E (some (.int r)) z ω1) args s 0 0 (fun q => E.2.2 ≤ q)) (F0 m 330 ls []) := by
  intro a0 x1 x2 x3 x4 ω H locs ls hw hl hf
  unfold f_Mo_check_330 at hf
  refine lv_aload_n S.1 S.2.1 d_Mo_check_330 rfl (lv_at hl 0 rfl) ?_
  obtain ⟨t110, ht110, hf⟩ := xb hf
  refine x_getr S hw lk_Mo_104 ht110 d_Mo_check_331 ?_
  refine lv_iload_n S.1 S.2.1 d_Mo_check_334 rfl (lv_at hl 2 rfl) ?_
  obtain ⟨t111, ht111, hf⟩ := xb hf
  refine x_zald S hw ht111 d_Mo_check_335 ?_
  refine lv_if_eq (tgt := 402) S.1 S.2.1 d_Mo_check_336 (by decide) (fun c112 => ?_) (fun c112 => ?_)
  · replace hf := xt c112 hf
    refine lv_aload_n S.1 S.2.1 d_Mo_check_402 rfl (lv_at hl 0 rfl) ?_
    refine lv_iconst (v := 2) S.1 S.2.1 d_Mo_check_403 (by decide) ?_
    refine lv_aload_n S.1 S.2.1 d_Mo_check_404 rfl (lv_at hl 0 rfl) ?_
    obtain ⟨t113, ht113, hf⟩ := xb hf
    refine x_geti S hw lk_Mo_247 ht113 d_Mo_check_405 ?_
    obtain ⟨t115, w116, h114, hf⟩ := xcb hf
    obtain ⟨h114b, h114⟩ := xkb h114
    refine x_callV (As := [.int 2, .int t113]) (rest := []) (st1 := [.int t115]) S hw (c_Mo_fails h114) (cwV 2 S.2.2.2.2 gv_Mo_198 rfl rfl rfl hd_Mo_fails ⟨Nat.le_of_ble_eq_true rfl, Nat.le_of_ble_eq_true rfl⟩) rfl h114b rfl hl.1 rfl rfl (Nat.le_of_ble_eq_true rfl) d_Mo_check_408 ⟨Nat.le_of_ble_eq_true rfl, Nat.le_of_ble_eq_true rfl⟩ (fun H locs hw => ?_)
    refine lv_pop S.1 S.2.1 d_Mo_check_411 rfl ?_
    refine lv_goto (tgt := 9) S.1 S.2.1 d_Mo_check_412 (by decide) ?_
    exact hk9 _ _ _ _ _ _ _ _ hw (lv_sub hl [0, 1, 2, 3] rfl) hf
  · replace hf := xf c112 hf
    refine lv_iload S.1 S.2.1 d_Mo_check_339 (lv_at hl 4 rfl) ?_
    refine lv_bipush (v := 41) S.1 S.2.1 d_Mo_check_341 (by decide) ?_
    refine lv_icmp_ne (tgt := 402) S.1 S.2.1 d_Mo_check_343 (by decide) (fun c117 => ?_) (fun c117 => ?_)
    · replace hf := xf c117 hf
      refine lv_aload_n S.1 S.2.1 d_Mo_check_402 rfl (lv_at hl 0 rfl) ?_
      refine lv_iconst (v := 2) S.1 S.2.1 d_Mo_check_403 (by decide) ?_
      refine lv_aload_n S.1 S.2.1 d_Mo_check_404 rfl (lv_at hl 0 rfl) ?_
      obtain ⟨t118, ht118, hf⟩ := xb hf
      refine x_geti S hw lk_Mo_247 ht118 d_Mo_check_405 ?_
      obtain ⟨t120, w121, h119, hf⟩ := xcb hf
      obtain ⟨h119b, h119⟩ := xkb h119
      refine x_callV (As := [.int 2, .int t118]) (rest := []) (st1 := [.int t120]) S hw (c_Mo_fails h119) (cwV 2 S.2.2.2.2 gv_Mo_198 rfl rfl rfl hd_Mo_fails ⟨Nat.le_of_ble_eq_true rfl, Nat.le_of_ble_eq_true rfl⟩) rfl h119b rfl hl.1 rfl rfl (Nat.le_of_ble_eq_true rfl) d_Mo_check_408 ⟨Nat.le_of_ble_eq_true rfl, Nat.le_of_ble_eq_true rfl⟩ (fun H locs hw => ?_)
      refine lv_pop S.1 S.2.1 d_Mo_check_411 rfl ?_
      refine lv_goto (tgt := 9) S.1 S.2.1 d_Mo_check_412 (by decide) ?_
      exact hk9 _ _ _ _ _ _ _ _ hw (lv_sub hl [0, 1, 2, 3] rfl) hf
    · replace hf := xt c117 hf
      refine lv_iload_n S.1 S.2.1 d_Mo_check_346 rfl (lv_at hl 2 rfl) ?_
      refine lv_if_le (tgt := 402) S.1 S.2.1 d_Mo_check_347 (by decide) (fun c122 => ?_) (fun c122 => ?_)
      · replace hf := xt c122 hf
        refine lv_aload_n S.1 S.2.1 d_Mo_check_402 rfl (lv_at hl 0 rfl) ?_
        refine lv_iconst (v := 2) S.1 S.2.1 d_Mo_check_403 (by decide) ?_
        refine lv_aload_n S.1 S.2.1 d_Mo_check_404 rfl (lv_at hl 0 rfl) ?_
        obtain ⟨t123, ht123, hf⟩ := xb hf
        refine x_geti S hw lk_Mo_247 ht123 d_Mo_check_405 ?_
        obtain ⟨t125, w126, h124, hf⟩ := xcb hf
        obtain ⟨h124b, h124⟩ := xkb h124
        refine x_callV (As := [.int 2, .int t123]) (rest := []) (st1 := [.int t125]) S hw (c_Mo_fails h124) (cwV 2 S.2.2.2.2 gv_Mo_198 rfl rfl rfl hd_Mo_fails ⟨Nat.le_of_ble_eq_true rfl, Nat.le_of_ble_eq_true rfl⟩) rfl h124b rfl hl.1 rfl rfl (Nat.le_of_ble_eq_true rfl) d_Mo_check_408 ⟨Nat.le_of_ble_eq_true rfl, Nat.le_of_ble_eq_true rfl⟩ (fun H locs hw => ?_)
        refine lv_pop S.1 S.2.1 d_Mo_check_411 rfl ?_
        refine lv_goto (tgt := 9) S.1 S.2.1 d_Mo_check_412 (by decide) ?_
        exact hk9 _ _ _ _ _ _ _ _ hw (lv_sub hl [0, 1, 2, 3] rfl) hf
      · replace hf := xf c122 hf
        refine lv_aload_n S.1 S.2.1 d_Mo_check_350 rfl (lv_at hl 0 rfl) ?_
        refine lv_dup S.1 S.2.1 d_Mo_check_351 rfl ?_
        obtain ⟨t127, ht127, hf⟩ := xb hf
        refine x_geti S hw lk_Mo_247 ht127 d_Mo_check_352 ?_
        refine lv_iconst (v := 1) S.1 S.2.1 d_Mo_check_355 (by decide) ?_
        refine lv_iadd S.1 S.2.1 d_Mo_check_356 ?_
        obtain ⟨w128, hw128, hf⟩ := xb hf
        refine x_puti S hw lp_Mo_247 hw128 d_Mo_check_357 (fun H locs hw => ?_)
        refine lv_iinc (v := (x2 + (-1))) (lv' := [(2, .int (x2 + (-1))), (0, .ref a0), (1, .int x1), (3, .int x3), (4, .int x4)]) S.1 S.2.1 d_Mo_check_360 hl (k := 2) rfl rfl (by decide) rfl (fun ls hl => ?_)
        refine lv_aload_n S.1 S.2.1 d_Mo_check_363 rfl (lv_at hl 1 rfl) ?_
        refine lv_iload_n S.1 S.2.1 d_Mo_check_364 rfl (lv_at hl 0 rfl) ?_
        refine lv_aload_n S.1 S.2.1 d_Mo_check_365 rfl (lv_at hl 1 rfl) ?_
        obtain ⟨t129, ht129, hf⟩ := xb hf
        refine x_getr S hw lk_Mo_95 ht129 d_Mo_check_366 ?_
        refine lv_iload_n S.1 S.2.1 d_Mo_check_369 rfl (lv_at hl 0 rfl) ?_
        refine lv_iconst (v := 1) S.1 S.2.1 d_Mo_check_370 (by decide) ?_
        refine lv_iadd S.1 S.2.1 d_Mo_check_371 ?_
        obtain ⟨t130, ht130, hf⟩ := xb hf
        refine x_iald S hw ht130 d_Mo_check_372 ?_
        refine lv_aload_n S.1 S.2.1 d_Mo_check_373 rfl (lv_at hl 1 rfl) ?_
        obtain ⟨t131, ht131, hf⟩ := xb hf
        refine x_getr S hw lk_Mo_98 ht131 d_Mo_check_374 ?_
        refine lv_iload_n S.1 S.2.1 d_Mo_check_377 rfl (lv_at hl 0 rfl) ?_
        refine lv_iconst (v := 1) S.1 S.2.1 d_Mo_check_378 (by decide) ?_
        refine lv_iadd S.1 S.2.1 d_Mo_check_379 ?_
        obtain ⟨t132, ht132, hf⟩ := xb hf
        refine x_iald S hw ht132 d_Mo_check_380 ?_
        refine lv_iadd S.1 S.2.1 d_Mo_check_381 ?_
        refine lv_aload_n S.1 S.2.1 d_Mo_check_382 rfl (lv_at hl 1 rfl) ?_
        obtain ⟨t133, ht133, hf⟩ := xb hf
        refine x_getr S hw lk_Mo_101 ht133 d_Mo_check_383 ?_
        refine lv_iload_n S.1 S.2.1 d_Mo_check_386 rfl (lv_at hl 0 rfl) ?_
        refine lv_iconst (v := 1) S.1 S.2.1 d_Mo_check_387 (by decide) ?_
        refine lv_iadd S.1 S.2.1 d_Mo_check_388 ?_
        obtain ⟨t134, ht134, hf⟩ := xb hf
        refine x_iald S hw ht134 d_Mo_check_389 ?_
        refine lv_iadd S.1 S.2.1 d_Mo_check_390 ?_
        obtain ⟨t136, h135, hf⟩ := xb hf
        refine x_callS (As := [.int ((t130 + t132) + t134)]) (rest := [.int (x2 + (-1)), .ref a0]) (st1 := [.int t136, .int (x2 + (-1)), .ref a0]) S hw (c_Mo_few h135) (cwS 1 S.2.2.2.2 gs_Mo_300 rfl rfl rfl hd_Mo_few ⟨Nat.le_of_ble_eq_true rfl, Nat.le_of_ble_eq_true rfl⟩) rfl hl.1 rfl rfl (Nat.le_of_ble_eq_true rfl) d_Mo_check_391 ⟨Nat.le_of_ble_eq_true rfl, Nat.le_of_ble_eq_true rfl⟩ (fun H locs hw => ?_)
        obtain ⟨w139, h137, hf⟩ := xb hf
        obtain ⟨h137b, h137⟩ := xkb h137
        refine x_callV (As := [.int (x2 + (-1)), .int t136]) (rest := []) (st1 := []) S hw (c_Mo_item h137) (cwV 2 S.2.2.2.2 gv_Mo_290 rfl rfl rfl hd_Mo_item ⟨Nat.le_of_ble_eq_true rfl, Nat.le_of_ble_eq_true rfl⟩) rfl h137b rfl hl.1 rfl rfl (Nat.le_of_ble_eq_true rfl) d_Mo_check_394 ⟨Nat.le_of_ble_eq_true rfl, Nat.le_of_ble_eq_true rfl⟩ (fun H locs hw => ?_)
        refine lv_iconst (v := 1) S.1 S.2.1 d_Mo_check_397 (by decide) ?_
        refine lv_istore_n (lv' := [(3, .int 1), (2, .int (x2 + (-1))), (0, .ref a0), (1, .int x1), (4, .int x4)]) S.1 S.2.1 d_Mo_check_398 rfl hl (by decide) rfl (fun ls hl => ?_)
        refine lv_goto (tgt := 412) S.1 S.2.1 d_Mo_check_399 (by decide) ?_
        refine lv_goto (tgt := 9) S.1 S.2.1 d_Mo_check_412 (by decide) ?_
        exact hk9 _ _ _ _ _ _ _ _ hw (lv_sub hl [2, 3, 1, 0] rfl) hf
def f_Mo_check_249 (k9 : Nat → Int32 → Int32 → Int32 → xS → Option (Int32 × xS)) (a0 : Nat) (x1 : Int32) (x2 : Int32) (x3 : Int32) (x4 : Int32) (ω : xS) : Option (Int32 × xS) :=
  (xgr ω a0 12 48).bind fun t88 =>
  (xaz ω t88 x2).bind fun t89 =>
  if t89 = 0 then (
    f_Mo_check_330 k9 a0 x1 x2 x3 x4 ω)
  else (
    if x4 = 124 then (
      (xgi ω a0 12 42).bind fun t92 =>
      (xp ω a0 12 42 (.int (t92 + 1))).bind fun w93 =>
      (xgr w93 a0 12 45).bind fun t94 =>
      (xgr w93 a0 12 45).bind fun t95 =>
      (xai w93 t95 x2).bind fun t96 =>
      (xgr w93 a0 12 46).bind fun t97 =>
      (xai w93 t97 x2).bind fun t98 =>
      (xgr w93 a0 12 47).bind fun t99 =>
      (xai w93 t99 x2).bind fun t100 =>
      (f_Mo_few ((t96 + t98) + t100) w93).bind fun t102 =>
      (xsi w93 t94 x2 t102).bind fun w103 =>
      (xgr w103 a0 12 46).bind fun t104 =>
      (xsi w103 t104 x2 0).bind fun w105 =>
      (xgr w105 a0 12 47).bind fun t106 =>
      (xsi w105 t106 x2 0).bind fun w107 =>
      (xgr w107 a0 12 48).bind fun t108 =>
      (xsz w107 t108 x2 0).bind fun w109 =>
      k9 a0 x1 x2 0 w109)
    else (
      f_Mo_check_330 k9 a0 x1 x2 x3 x4 ω))
set_option maxHeartbeats 4000000 in
set_option maxRecDepth 100000 in
theorem w_Mo_check_249 {p : Program} {l : Launch} {e : Env} {s : State} {m : MethodId} {args : Array Value} {below : List Frame} {meth : Method} {c : Code} {E : xV} {z : Nat} {r : Int32} {ω1 : xS} {k9 : Nat → Int32 → Int32 → Int32 → xS → Option (Int32 × xS)} (S : CallFix p m c b_Mo_check 8 s args xTbl "RosterRulesModel") (hr : meth.sig.returnType = (some .int)) (hlocks : meth.locks = false) (hk9 : ∀ (a0 : Nat) (x1 : Int32) (x2 : Int32) (x3 : Int32) (ω : xS) (H : Heap) (locs : List Loc) (ls : Array Slot), xW E z ω s s.heap H locs → lv_has ls 8 [(0, .ref a0), (1, .int x1), (2, .int x2), (3, .int x3)] → k9 a0 x1 x2 x3 ω = some (r, ω1) → W p l e (headSpec ws_Mo_check { frames := 2, cells := 0, slots := 0, locals := 44 }).room s m args below meth c H locs 0 0 (MQ below (xQ E (some (.int r)) z ω1) args s 0 0 (fun q => E.2.2 ≤ q)) (F0 m 9 ls [])) : ∀ (a0 : Nat) (x1 : Int32) (x2 : Int32) (x3 : Int32) (x4 : Int32) (ω : xS) (H : Heap) (locs : List Loc) (ls : Array Slot), xW E z ω s s.heap H locs → lv_has ls 8 [(0, .ref a0), (1, .int x1), (2, .int x2), (3, .int x3), (4, .int x4)] → f_Mo_check_249 k9 a0 x1 x2 x3 x4 ω = some (r, ω1) → W p l e (headSpec ws_Mo_check { frames := 2, cells := 0, slots := 0, locals := 44 }).room s m args below meth c H locs 0 0 (MQ below (xQ E (some (.int r)) z ω1) args s 0 0 (fun q => E.2.2 ≤ q)) (F0 m 249 ls []) := by
  intro a0 x1 x2 x3 x4 ω H locs ls hw hl hf
  unfold f_Mo_check_249 at hf
  refine lv_aload_n S.1 S.2.1 d_Mo_check_249 rfl (lv_at hl 0 rfl) ?_
  obtain ⟨t88, ht88, hf⟩ := xb hf
  refine x_getr S hw lk_Mo_104 ht88 d_Mo_check_250 ?_
  refine lv_iload_n S.1 S.2.1 d_Mo_check_253 rfl (lv_at hl 2 rfl) ?_
  obtain ⟨t89, ht89, hf⟩ := xb hf
  refine x_zald S hw ht89 d_Mo_check_254 ?_
  refine lv_if_eq (tgt := 330) S.1 S.2.1 d_Mo_check_255 (by decide) (fun c90 => ?_) (fun c90 => ?_)
  · replace hf := xt c90 hf
    exact w_Mo_check_330 S hr hlocks hk9 _ _ _ _ _ _ _ _ _ hw (lv_sub hl [0, 1, 2, 3, 4] rfl) hf
  · replace hf := xf c90 hf
    refine lv_iload S.1 S.2.1 d_Mo_check_258 (lv_at hl 4 rfl) ?_
    refine lv_bipush (v := 124) S.1 S.2.1 d_Mo_check_260 (by decide) ?_
    refine lv_icmp_ne (tgt := 330) S.1 S.2.1 d_Mo_check_262 (by decide) (fun c91 => ?_) (fun c91 => ?_)
    · replace hf := xf c91 hf
      exact w_Mo_check_330 S hr hlocks hk9 _ _ _ _ _ _ _ _ _ hw (lv_sub hl [0, 1, 2, 3, 4] rfl) hf
    · replace hf := xt c91 hf
      refine lv_aload_n S.1 S.2.1 d_Mo_check_265 rfl (lv_at hl 0 rfl) ?_
      refine lv_dup S.1 S.2.1 d_Mo_check_266 rfl ?_
      obtain ⟨t92, ht92, hf⟩ := xb hf
      refine x_geti S hw lk_Mo_247 ht92 d_Mo_check_267 ?_
      refine lv_iconst (v := 1) S.1 S.2.1 d_Mo_check_270 (by decide) ?_
      refine lv_iadd S.1 S.2.1 d_Mo_check_271 ?_
      obtain ⟨w93, hw93, hf⟩ := xb hf
      refine x_puti S hw lp_Mo_247 hw93 d_Mo_check_272 (fun H locs hw => ?_)
      refine lv_aload_n S.1 S.2.1 d_Mo_check_275 rfl (lv_at hl 0 rfl) ?_
      obtain ⟨t94, ht94, hf⟩ := xb hf
      refine x_getr S hw lk_Mo_95 ht94 d_Mo_check_276 ?_
      refine lv_iload_n S.1 S.2.1 d_Mo_check_279 rfl (lv_at hl 2 rfl) ?_
      refine lv_aload_n S.1 S.2.1 d_Mo_check_280 rfl (lv_at hl 0 rfl) ?_
      obtain ⟨t95, ht95, hf⟩ := xb hf
      refine x_getr S hw lk_Mo_95 ht95 d_Mo_check_281 ?_
      refine lv_iload_n S.1 S.2.1 d_Mo_check_284 rfl (lv_at hl 2 rfl) ?_
      obtain ⟨t96, ht96, hf⟩ := xb hf
      refine x_iald S hw ht96 d_Mo_check_285 ?_
      refine lv_aload_n S.1 S.2.1 d_Mo_check_286 rfl (lv_at hl 0 rfl) ?_
      obtain ⟨t97, ht97, hf⟩ := xb hf
      refine x_getr S hw lk_Mo_98 ht97 d_Mo_check_287 ?_
      refine lv_iload_n S.1 S.2.1 d_Mo_check_290 rfl (lv_at hl 2 rfl) ?_
      obtain ⟨t98, ht98, hf⟩ := xb hf
      refine x_iald S hw ht98 d_Mo_check_291 ?_
      refine lv_iadd S.1 S.2.1 d_Mo_check_292 ?_
      refine lv_aload_n S.1 S.2.1 d_Mo_check_293 rfl (lv_at hl 0 rfl) ?_
      obtain ⟨t99, ht99, hf⟩ := xb hf
      refine x_getr S hw lk_Mo_101 ht99 d_Mo_check_294 ?_
      refine lv_iload_n S.1 S.2.1 d_Mo_check_297 rfl (lv_at hl 2 rfl) ?_
      obtain ⟨t100, ht100, hf⟩ := xb hf
      refine x_iald S hw ht100 d_Mo_check_298 ?_
      refine lv_iadd S.1 S.2.1 d_Mo_check_299 ?_
      obtain ⟨t102, h101, hf⟩ := xb hf
      refine x_callS (As := [.int ((t96 + t98) + t100)]) (rest := [.int x2, .ref t94]) (st1 := [.int t102, .int x2, .ref t94]) S hw (c_Mo_few h101) (cwS 1 S.2.2.2.2 gs_Mo_300 rfl rfl rfl hd_Mo_few ⟨Nat.le_of_ble_eq_true rfl, Nat.le_of_ble_eq_true rfl⟩) rfl hl.1 rfl rfl (Nat.le_of_ble_eq_true rfl) d_Mo_check_300 ⟨Nat.le_of_ble_eq_true rfl, Nat.le_of_ble_eq_true rfl⟩ (fun H locs hw => ?_)
      obtain ⟨w103, hw103, hf⟩ := xb hf
      refine x_iast S hw hw103 d_Mo_check_303 (fun H locs hw => ?_)
      refine lv_aload_n S.1 S.2.1 d_Mo_check_304 rfl (lv_at hl 0 rfl) ?_
      obtain ⟨t104, ht104, hf⟩ := xb hf
      refine x_getr S hw lk_Mo_98 ht104 d_Mo_check_305 ?_
      refine lv_iload_n S.1 S.2.1 d_Mo_check_308 rfl (lv_at hl 2 rfl) ?_
      refine lv_iconst (v := 0) S.1 S.2.1 d_Mo_check_309 (by decide) ?_
      obtain ⟨w105, hw105, hf⟩ := xb hf
      refine x_iast S hw hw105 d_Mo_check_310 (fun H locs hw => ?_)
      refine lv_aload_n S.1 S.2.1 d_Mo_check_311 rfl (lv_at hl 0 rfl) ?_
      obtain ⟨t106, ht106, hf⟩ := xb hf
      refine x_getr S hw lk_Mo_101 ht106 d_Mo_check_312 ?_
      refine lv_iload_n S.1 S.2.1 d_Mo_check_315 rfl (lv_at hl 2 rfl) ?_
      refine lv_iconst (v := 0) S.1 S.2.1 d_Mo_check_316 (by decide) ?_
      obtain ⟨w107, hw107, hf⟩ := xb hf
      refine x_iast S hw hw107 d_Mo_check_317 (fun H locs hw => ?_)
      refine lv_aload_n S.1 S.2.1 d_Mo_check_318 rfl (lv_at hl 0 rfl) ?_
      obtain ⟨t108, ht108, hf⟩ := xb hf
      refine x_getr S hw lk_Mo_104 ht108 d_Mo_check_319 ?_
      refine lv_iload_n S.1 S.2.1 d_Mo_check_322 rfl (lv_at hl 2 rfl) ?_
      refine lv_iconst (v := 0) S.1 S.2.1 d_Mo_check_323 (by decide) ?_
      obtain ⟨w109, hw109, hf⟩ := xb hf
      refine x_zast S hw hw109 d_Mo_check_324 (fun H locs hw => ?_)
      refine lv_iconst (v := 0) S.1 S.2.1 d_Mo_check_325 (by decide) ?_
      refine lv_istore_n (lv' := [(3, .int 0), (0, .ref a0), (1, .int x1), (2, .int x2), (4, .int x4)]) S.1 S.2.1 d_Mo_check_326 rfl hl (by decide) rfl (fun ls hl => ?_)
      refine lv_goto (tgt := 412) S.1 S.2.1 d_Mo_check_327 (by decide) ?_
      refine lv_goto (tgt := 9) S.1 S.2.1 d_Mo_check_412 (by decide) ?_
      exact hk9 _ _ _ _ _ _ _ _ hw (lv_sub hl [1, 2, 3, 0] rfl) hf
def f_Mo_check_220 (k9 : Nat → Int32 → Int32 → Int32 → xS → Option (Int32 × xS)) (a0 : Nat) (x1 : Int32) (x2 : Int32) (x7 : Int32) (ω : xS) : Option (Int32 × xS) :=
  (xk ω a0 12 (f_Mo_sign a0 125 ω)).bind fun w142 =>
  (xgr w142 a0 12 47).bind fun t143 =>
  (xgr w142 a0 12 47).bind fun t144 =>
  (xai w142 t144 x2).bind fun t145 =>
  (f_Mo_few (t145 * x7) w142).bind fun t147 =>
  (xsi w142 t143 x2 t147).bind fun w148 =>
  k9 a0 x1 x2 0 w148
set_option maxHeartbeats 4000000 in
set_option maxRecDepth 100000 in
theorem w_Mo_check_220 {p : Program} {l : Launch} {e : Env} {s : State} {m : MethodId} {args : Array Value} {below : List Frame} {meth : Method} {c : Code} {E : xV} {z : Nat} {r : Int32} {ω1 : xS} {k9 : Nat → Int32 → Int32 → Int32 → xS → Option (Int32 × xS)} (S : CallFix p m c b_Mo_check 8 s args xTbl "RosterRulesModel") (hr : meth.sig.returnType = (some .int)) (hlocks : meth.locks = false) (hk9 : ∀ (a0 : Nat) (x1 : Int32) (x2 : Int32) (x3 : Int32) (ω : xS) (H : Heap) (locs : List Loc) (ls : Array Slot), xW E z ω s s.heap H locs → lv_has ls 8 [(0, .ref a0), (1, .int x1), (2, .int x2), (3, .int x3)] → k9 a0 x1 x2 x3 ω = some (r, ω1) → W p l e (headSpec ws_Mo_check { frames := 2, cells := 0, slots := 0, locals := 44 }).room s m args below meth c H locs 0 0 (MQ below (xQ E (some (.int r)) z ω1) args s 0 0 (fun q => E.2.2 ≤ q)) (F0 m 9 ls [])) : ∀ (a0 : Nat) (x1 : Int32) (x2 : Int32) (x7 : Int32) (ω : xS) (H : Heap) (locs : List Loc) (ls : Array Slot), xW E z ω s s.heap H locs → lv_has ls 8 [(0, .ref a0), (1, .int x1), (2, .int x2), (7, .int x7)] → f_Mo_check_220 k9 a0 x1 x2 x7 ω = some (r, ω1) → W p l e (headSpec ws_Mo_check { frames := 2, cells := 0, slots := 0, locals := 44 }).room s m args below meth c H locs 0 0 (MQ below (xQ E (some (.int r)) z ω1) args s 0 0 (fun q => E.2.2 ≤ q)) (F0 m 220 ls []) := by
  intro a0 x1 x2 x7 ω H locs ls hw hl hf
  unfold f_Mo_check_220 at hf
  refine lv_aload_n S.1 S.2.1 d_Mo_check_220 rfl (lv_at hl 0 rfl) ?_
  refine lv_bipush (v := 125) S.1 S.2.1 d_Mo_check_221 (by decide) ?_
  obtain ⟨w142, h140, hf⟩ := xb hf
  obtain ⟨h140b, h140⟩ := xkb h140
  refine x_callV (As := [.int 125]) (rest := []) (st1 := []) S hw (c_Mo_sign h140) (cwV 1 S.2.2.2.2 gv_Mo_297 rfl rfl rfl hd_Mo_sign ⟨Nat.le_of_ble_eq_true rfl, Nat.le_of_ble_eq_true rfl⟩) rfl h140b rfl hl.1 rfl rfl (Nat.le_of_ble_eq_true rfl) d_Mo_check_223 ⟨Nat.le_of_ble_eq_true rfl, Nat.le_of_ble_eq_true rfl⟩ (fun H locs hw => ?_)
  refine lv_aload_n S.1 S.2.1 d_Mo_check_226 rfl (lv_at hl 0 rfl) ?_
  obtain ⟨t143, ht143, hf⟩ := xb hf
  refine x_getr S hw lk_Mo_101 ht143 d_Mo_check_227 ?_
  refine lv_iload_n S.1 S.2.1 d_Mo_check_230 rfl (lv_at hl 2 rfl) ?_
  refine lv_aload_n S.1 S.2.1 d_Mo_check_231 rfl (lv_at hl 0 rfl) ?_
  obtain ⟨t144, ht144, hf⟩ := xb hf
  refine x_getr S hw lk_Mo_101 ht144 d_Mo_check_232 ?_
  refine lv_iload_n S.1 S.2.1 d_Mo_check_235 rfl (lv_at hl 2 rfl) ?_
  obtain ⟨t145, ht145, hf⟩ := xb hf
  refine x_iald S hw ht145 d_Mo_check_236 ?_
  refine lv_iload S.1 S.2.1 d_Mo_check_237 (lv_at hl 3 rfl) ?_
  refine lv_imul S.1 S.2.1 d_Mo_check_239 ?_
  obtain ⟨t147, h146, hf⟩ := xb hf
  refine x_callS (As := [.int (t145 * x7)]) (rest := [.int x2, .ref t143]) (st1 := [.int t147, .int x2, .ref t143]) S hw (c_Mo_few h146) (cwS 1 S.2.2.2.2 gs_Mo_300 rfl rfl rfl hd_Mo_few ⟨Nat.le_of_ble_eq_true rfl, Nat.le_of_ble_eq_true rfl⟩) rfl hl.1 rfl rfl (Nat.le_of_ble_eq_true rfl) d_Mo_check_240 ⟨Nat.le_of_ble_eq_true rfl, Nat.le_of_ble_eq_true rfl⟩ (fun H locs hw => ?_)
  obtain ⟨w148, hw148, hf⟩ := xb hf
  refine x_iast S hw hw148 d_Mo_check_243 (fun H locs hw => ?_)
  refine lv_iconst (v := 0) S.1 S.2.1 d_Mo_check_244 (by decide) ?_
  refine lv_istore_n (lv' := [(3, .int 0), (0, .ref a0), (1, .int x1), (2, .int x2), (7, .int x7)]) S.1 S.2.1 d_Mo_check_245 rfl hl (by decide) rfl (fun ls hl => ?_)
  refine lv_goto (tgt := 412) S.1 S.2.1 d_Mo_check_246 (by decide) ?_
  refine lv_goto (tgt := 9) S.1 S.2.1 d_Mo_check_412 (by decide) ?_
  exact hk9 _ _ _ _ _ _ _ _ hw (lv_sub hl [1, 2, 3, 0] rfl) hf
def f_Mo_check_148 (k9 : Nat → Int32 → Int32 → Int32 → xS → Option (Int32 × xS)) (a0 : Nat) (x1 : Int32) (x2 : Int32) (x3 : Int32) (x4 : Int32) (ω : xS) : Option (Int32 × xS) :=
  if x3 = 0 then (
    f_Mo_check_249 k9 a0 x1 x2 x3 x4 ω)
  else (
    if x4 = 123 then (
      (xgi ω a0 12 42).bind fun t66 =>
      (xp ω a0 12 42 (.int (t66 + 1))).bind fun w67 =>
      xc (xk w67 a0 12 (f_Mo_digit a0  w67)) fun t69 w70 =>
      (xk w70 a0 12 (f_Mo_sign a0 44 w70)).bind fun w73 =>
      (xgi w73 a0 12 42).bind fun t74 =>
      xc (xk w73 a0 12 (f_Mo_digit a0  w73)) fun t76 w77 =>
      (xgi w77 a0 12 39).bind fun t78 =>
      if t78 = 0 then (
        if t76 = 0 then (
          xc (xk w77 a0 12 (f_Mo_fails a0 4 t74 w77)) fun t82 w83 =>
          f_Mo_check_220 k9 a0 x1 x2 t76 w83)
        else (
          if t69 ≤ t76 then (
            f_Mo_check_220 k9 a0 x1 x2 t76 w77)
          else (
            xc (xk w77 a0 12 (f_Mo_fails a0 4 t74 w77)) fun t86 w87 =>
            f_Mo_check_220 k9 a0 x1 x2 t76 w87)))
      else (
        f_Mo_check_220 k9 a0 x1 x2 t76 w77))
    else (
      f_Mo_check_249 k9 a0 x1 x2 x3 x4 ω))
set_option maxHeartbeats 4000000 in
set_option maxRecDepth 100000 in
theorem w_Mo_check_148 {p : Program} {l : Launch} {e : Env} {s : State} {m : MethodId} {args : Array Value} {below : List Frame} {meth : Method} {c : Code} {E : xV} {z : Nat} {r : Int32} {ω1 : xS} {k9 : Nat → Int32 → Int32 → Int32 → xS → Option (Int32 × xS)} (S : CallFix p m c b_Mo_check 8 s args xTbl "RosterRulesModel") (hr : meth.sig.returnType = (some .int)) (hlocks : meth.locks = false) (hk9 : ∀ (a0 : Nat) (x1 : Int32) (x2 : Int32) (x3 : Int32) (ω : xS) (H : Heap) (locs : List Loc) (ls : Array Slot), xW E z ω s s.heap H locs → lv_has ls 8 [(0, .ref a0), (1, .int x1), (2, .int x2), (3, .int x3)] → k9 a0 x1 x2 x3 ω = some (r, ω1) → W p l e (headSpec ws_Mo_check { frames := 2, cells := 0, slots := 0, locals := 44 }).room s m args below meth c H locs 0 0 (MQ below (xQ E (some (.int r)) z ω1) args s 0 0 (fun q => E.2.2 ≤ q)) (F0 m 9 ls [])) : ∀ (a0 : Nat) (x1 : Int32) (x2 : Int32) (x3 : Int32) (x4 : Int32) (ω : xS) (H : Heap) (locs : List Loc) (ls : Array Slot), xW E z ω s s.heap H locs → lv_has ls 8 [(0, .ref a0), (1, .int x1), (2, .int x2), (3, .int x3), (4, .int x4)] → f_Mo_check_148 k9 a0 x1 x2 x3 x4 ω = some (r, ω1) → W p l e (headSpec ws_Mo_check { frames := 2, cells := 0, slots := 0, locals := 44 }).room s m args below meth c H locs 0 0 (MQ below (xQ E (some (.int r)) z ω1) args s 0 0 (fun q => E.2.2 ≤ q)) (F0 m 148 ls []) := by
  intro a0 x1 x2 x3 x4 ω H locs ls hw hl hf
  unfold f_Mo_check_148 at hf
  refine lv_iload_n S.1 S.2.1 d_Mo_check_148 rfl (lv_at hl 3 rfl) ?_
  refine lv_if_eq (tgt := 249) S.1 S.2.1 d_Mo_check_149 (by decide) (fun c64 => ?_) (fun c64 => ?_)
  · replace hf := xt c64 hf
    exact w_Mo_check_249 S hr hlocks hk9 _ _ _ _ _ _ _ _ _ hw (lv_sub hl [0, 1, 2, 3, 4] rfl) hf
  · replace hf := xf c64 hf
    refine lv_iload S.1 S.2.1 d_Mo_check_152 (lv_at hl 4 rfl) ?_
    refine lv_bipush (v := 123) S.1 S.2.1 d_Mo_check_154 (by decide) ?_
    refine lv_icmp_ne (tgt := 249) S.1 S.2.1 d_Mo_check_156 (by decide) (fun c65 => ?_) (fun c65 => ?_)
    · replace hf := xf c65 hf
      exact w_Mo_check_249 S hr hlocks hk9 _ _ _ _ _ _ _ _ _ hw (lv_sub hl [0, 1, 2, 3, 4] rfl) hf
    · replace hf := xt c65 hf
      refine lv_aload_n S.1 S.2.1 d_Mo_check_159 rfl (lv_at hl 0 rfl) ?_
      refine lv_dup S.1 S.2.1 d_Mo_check_160 rfl ?_
      obtain ⟨t66, ht66, hf⟩ := xb hf
      refine x_geti S hw lk_Mo_247 ht66 d_Mo_check_161 ?_
      refine lv_iconst (v := 1) S.1 S.2.1 d_Mo_check_164 (by decide) ?_
      refine lv_iadd S.1 S.2.1 d_Mo_check_165 ?_
      obtain ⟨w67, hw67, hf⟩ := xb hf
      refine x_puti S hw lp_Mo_247 hw67 d_Mo_check_166 (fun H locs hw => ?_)
      refine lv_aload_n S.1 S.2.1 d_Mo_check_169 rfl (lv_at hl 0 rfl) ?_
      obtain ⟨t69, w70, h68, hf⟩ := xcb hf
      obtain ⟨h68b, h68⟩ := xkb h68
      refine x_callV (As := []) (rest := []) (st1 := [.int t69]) S hw (c_Mo_digit h68) (cwV 0 S.2.2.2.2 gv_Mo_294 rfl rfl rfl hd_Mo_digit ⟨Nat.le_of_ble_eq_true rfl, Nat.le_of_ble_eq_true rfl⟩) rfl h68b rfl hl.1 rfl rfl (Nat.le_of_ble_eq_true rfl) d_Mo_check_170 ⟨Nat.le_of_ble_eq_true rfl, Nat.le_of_ble_eq_true rfl⟩ (fun H locs hw => ?_)
      refine lv_istore (lv' := [(5, .int t69), (0, .ref a0), (1, .int x1), (2, .int x2), (3, .int x3), (4, .int x4)]) S.1 S.2.1 d_Mo_check_173 hl (by decide) rfl (fun ls hl => ?_)
      refine lv_aload_n S.1 S.2.1 d_Mo_check_175 rfl (lv_at hl 1 rfl) ?_
      refine lv_bipush (v := 44) S.1 S.2.1 d_Mo_check_176 (by decide) ?_
      obtain ⟨w73, h71, hf⟩ := xb hf
      obtain ⟨h71b, h71⟩ := xkb h71
      refine x_callV (As := [.int 44]) (rest := []) (st1 := []) S hw (c_Mo_sign h71) (cwV 1 S.2.2.2.2 gv_Mo_297 rfl rfl rfl hd_Mo_sign ⟨Nat.le_of_ble_eq_true rfl, Nat.le_of_ble_eq_true rfl⟩) rfl h71b rfl hl.1 rfl rfl (Nat.le_of_ble_eq_true rfl) d_Mo_check_178 ⟨Nat.le_of_ble_eq_true rfl, Nat.le_of_ble_eq_true rfl⟩ (fun H locs hw => ?_)
      refine lv_aload_n S.1 S.2.1 d_Mo_check_181 rfl (lv_at hl 1 rfl) ?_
      obtain ⟨t74, ht74, hf⟩ := xb hf
      refine x_geti S hw lk_Mo_247 ht74 d_Mo_check_182 ?_
      refine lv_istore (lv' := [(6, .int t74), (5, .int t69), (0, .ref a0), (1, .int x1), (2, .int x2), (3, .int x3), (4, .int x4)]) S.1 S.2.1 d_Mo_check_185 hl (by decide) rfl (fun ls hl => ?_)
      refine lv_aload_n S.1 S.2.1 d_Mo_check_187 rfl (lv_at hl 2 rfl) ?_
      obtain ⟨t76, w77, h75, hf⟩ := xcb hf
      obtain ⟨h75b, h75⟩ := xkb h75
      refine x_callV (As := []) (rest := []) (st1 := [.int t76]) S hw (c_Mo_digit h75) (cwV 0 S.2.2.2.2 gv_Mo_294 rfl rfl rfl hd_Mo_digit ⟨Nat.le_of_ble_eq_true rfl, Nat.le_of_ble_eq_true rfl⟩) rfl h75b rfl hl.1 rfl rfl (Nat.le_of_ble_eq_true rfl) d_Mo_check_188 ⟨Nat.le_of_ble_eq_true rfl, Nat.le_of_ble_eq_true rfl⟩ (fun H locs hw => ?_)
      refine lv_istore (lv' := [(7, .int t76), (6, .int t74), (5, .int t69), (0, .ref a0), (1, .int x1), (2, .int x2), (3, .int x3), (4, .int x4)]) S.1 S.2.1 d_Mo_check_191 hl (by decide) rfl (fun ls hl => ?_)
      refine lv_aload_n S.1 S.2.1 d_Mo_check_193 rfl (lv_at hl 3 rfl) ?_
      obtain ⟨t78, ht78, hf⟩ := xb hf
      refine x_geti S hw lk_Mo_172 ht78 d_Mo_check_194 ?_
      refine lv_if_ne (tgt := 220) S.1 S.2.1 d_Mo_check_197 (by decide) (fun c79 => ?_) (fun c79 => ?_)
      · replace hf := xf c79 hf
        exact w_Mo_check_220 S hr hlocks hk9 _ _ _ _ _ _ _ _ hw (lv_sub hl [3, 4, 5, 0] rfl) hf
      · replace hf := xt c79 hf
        refine lv_iload S.1 S.2.1 d_Mo_check_200 (lv_at hl 0 rfl) ?_
        refine lv_if_eq (tgt := 212) S.1 S.2.1 d_Mo_check_202 (by decide) (fun c80 => ?_) (fun c80 => ?_)
        · replace hf := xt c80 hf
          refine lv_aload_n S.1 S.2.1 d_Mo_check_212 rfl (lv_at hl 3 rfl) ?_
          refine lv_iconst (v := 4) S.1 S.2.1 d_Mo_check_213 (by decide) ?_
          refine lv_iload S.1 S.2.1 d_Mo_check_214 (lv_at hl 1 rfl) ?_
          obtain ⟨t82, w83, h81, hf⟩ := xcb hf
          obtain ⟨h81b, h81⟩ := xkb h81
          refine x_callV (As := [.int 4, .int t74]) (rest := []) (st1 := [.int t82]) S hw (c_Mo_fails h81) (cwV 2 S.2.2.2.2 gv_Mo_198 rfl rfl rfl hd_Mo_fails ⟨Nat.le_of_ble_eq_true rfl, Nat.le_of_ble_eq_true rfl⟩) rfl h81b rfl hl.1 rfl rfl (Nat.le_of_ble_eq_true rfl) d_Mo_check_216 ⟨Nat.le_of_ble_eq_true rfl, Nat.le_of_ble_eq_true rfl⟩ (fun H locs hw => ?_)
          refine lv_pop S.1 S.2.1 d_Mo_check_219 rfl ?_
          exact w_Mo_check_220 S hr hlocks hk9 _ _ _ _ _ _ _ _ hw (lv_sub hl [3, 4, 5, 0] rfl) hf
        · replace hf := xf c80 hf
          refine lv_iload S.1 S.2.1 d_Mo_check_205 (lv_at hl 0 rfl) ?_
          refine lv_iload S.1 S.2.1 d_Mo_check_207 (lv_at hl 2 rfl) ?_
          refine lv_icmp_ge (tgt := 220) S.1 S.2.1 d_Mo_check_209 (by decide) (fun c84 => ?_) (fun c84 => ?_)
          · replace hf := xt c84 hf
            exact w_Mo_check_220 S hr hlocks hk9 _ _ _ _ _ _ _ _ hw (lv_sub hl [3, 4, 5, 0] rfl) hf
          · replace hf := xf c84 hf
            refine lv_aload_n S.1 S.2.1 d_Mo_check_212 rfl (lv_at hl 3 rfl) ?_
            refine lv_iconst (v := 4) S.1 S.2.1 d_Mo_check_213 (by decide) ?_
            refine lv_iload S.1 S.2.1 d_Mo_check_214 (lv_at hl 1 rfl) ?_
            obtain ⟨t86, w87, h85, hf⟩ := xcb hf
            obtain ⟨h85b, h85⟩ := xkb h85
            refine x_callV (As := [.int 4, .int t74]) (rest := []) (st1 := [.int t86]) S hw (c_Mo_fails h85) (cwV 2 S.2.2.2.2 gv_Mo_198 rfl rfl rfl hd_Mo_fails ⟨Nat.le_of_ble_eq_true rfl, Nat.le_of_ble_eq_true rfl⟩) rfl h85b rfl hl.1 rfl rfl (Nat.le_of_ble_eq_true rfl) d_Mo_check_216 ⟨Nat.le_of_ble_eq_true rfl, Nat.le_of_ble_eq_true rfl⟩ (fun H locs hw => ?_)
            refine lv_pop S.1 S.2.1 d_Mo_check_219 rfl ?_
            exact w_Mo_check_220 S hr hlocks hk9 _ _ _ _ _ _ _ _ hw (lv_sub hl [3, 4, 5, 0] rfl) hf
def f_Mo_check_9 : Nat → Nat → Int32 → Int32 → Int32 → xS → Option (Int32 × xS)
  | 0, _, _, _, _, _ => none
  | n + 1, a0, x1, x2, x3, ω =>
    (xgi ω a0 12 39).bind fun t4 =>
    if t4 = 0 then (
      (xgi ω a0 12 42).bind fun t6 =>
      if x1 ≤ t6 then (
        f_Mo_check_415  a0 x2 ω)
      else (
        (xgi ω a0 12 42).bind fun t8 =>
        (xk ω a0 12 (f_Mo_look a0 t8 ω)).bind fun t10 =>
        if t10 = 40 then (
          (xgi ω a0 12 42).bind fun t37 =>
          (xp ω a0 12 42 (.int (t37 + 1))).bind fun w38 =>
          (xk w38 a0 12 (f_Mo_open a0 (x2 + 1) w38)).bind fun w41 =>
          f_Mo_check_9  n a0 x1 (x2 + 1) 0 w41)
        else (
          (f_Mo_beginsAtom t10 ω).bind fun t13 =>
          if t13 = 0 then (
            if x3 = 0 then (
              f_Mo_check_148 (f_Mo_check_9  n) a0 x1 x2 x3 t10 ω)
            else (
              if t10 = 42 then (
                (xgi ω a0 12 42).bind fun t17 =>
                (xp ω a0 12 42 (.int (t17 + 1))).bind fun w18 =>
                f_Mo_check_9  n a0 x1 x2 0 w18)
              else (
                if t10 = 43 then (
                  (xgi ω a0 12 42).bind fun t20 =>
                  (xp ω a0 12 42 (.int (t20 + 1))).bind fun w21 =>
                  f_Mo_check_9  n a0 x1 x2 0 w21)
                else (
                  if t10 = 63 then (
                    (xgi ω a0 12 42).bind fun t23 =>
                    (xp ω a0 12 42 (.int (t23 + 1))).bind fun w24 =>
                    f_Mo_check_9  n a0 x1 x2 0 w24)
                  else (
                    f_Mo_check_148 (f_Mo_check_9  n) a0 x1 x2 x3 t10 ω)))))
          else (
            if t10 = 91 then (
              xc (xk ω a0 12 (f_Mo_set0 a0  ω)) fun t32 w33 =>
              (xk w33 a0 12 (f_Mo_item a0 x2 1 w33)).bind fun w36 =>
              f_Mo_check_9  n a0 x1 x2 1 w36)
            else (
              (xgi ω a0 12 42).bind fun t26 =>
              (xp ω a0 12 42 (.int (t26 + 1))).bind fun w27 =>
              (xk w27 a0 12 (f_Mo_item a0 x2 1 w27)).bind fun w30 =>
              f_Mo_check_9  n a0 x1 x2 1 w30)))))
    else (
      f_Mo_check_415  a0 x2 ω)
set_option maxHeartbeats 4000000 in
set_option maxRecDepth 100000 in
theorem w_Mo_check_9 {p : Program} {l : Launch} {e : Env} {s : State} {m : MethodId} {args : Array Value} {below : List Frame} {meth : Method} {c : Code} {E : xV} {z : Nat} {r : Int32} {ω1 : xS} (S : CallFix p m c b_Mo_check 8 s args xTbl "RosterRulesModel") (hr : meth.sig.returnType = (some .int)) (hlocks : meth.locks = false) : ∀ n : Nat, ∀ (a0 : Nat) (x1 : Int32) (x2 : Int32) (x3 : Int32) (ω : xS) (H : Heap) (locs : List Loc) (ls : Array Slot), xW E z ω s s.heap H locs → lv_has ls 8 [(0, .ref a0), (1, .int x1), (2, .int x2), (3, .int x3)] → f_Mo_check_9 n a0 x1 x2 x3 ω = some (r, ω1) → W p l e (headSpec ws_Mo_check { frames := 2, cells := 0, slots := 0, locals := 44 }).room s m args below meth c H locs 0 0 (MQ below (xQ E (some (.int r)) z ω1) args s 0 0 (fun q => E.2.2 ≤ q)) (F0 m 9 ls []) := by
  intro n
  induction n with
  | zero =>
    intro a0 x1 x2 x3 ω H locs ls hw hl hf
    have h2 : (none : Option (Int32 × xS)) = some (r, ω1) := hf
    cases h2
  | succ n ih =>
    intro a0 x1 x2 x3 ω H locs ls hw hl hf
    rw [f_Mo_check_9] at hf
    refine lv_aload_n S.1 S.2.1 d_Mo_check_9 rfl (lv_at hl 0 rfl) ?_
    obtain ⟨t4, ht4, hf⟩ := xb hf
    refine x_geti S hw lk_Mo_172 ht4 d_Mo_check_10 ?_
    refine lv_if_ne (tgt := 415) S.1 S.2.1 d_Mo_check_13 (by decide) (fun c5 => ?_) (fun c5 => ?_)
    · replace hf := xf c5 hf
      exact w_Mo_check_415 S hr hlocks  _ _ _ _ _ _ hw (lv_sub hl [0, 2] rfl) hf
    · replace hf := xt c5 hf
      refine lv_aload_n S.1 S.2.1 d_Mo_check_16 rfl (lv_at hl 0 rfl) ?_
      obtain ⟨t6, ht6, hf⟩ := xb hf
      refine x_geti S hw lk_Mo_247 ht6 d_Mo_check_17 ?_
      refine lv_iload_n S.1 S.2.1 d_Mo_check_20 rfl (lv_at hl 1 rfl) ?_
      refine lv_icmp_ge (tgt := 415) S.1 S.2.1 d_Mo_check_21 (by decide) (fun c7 => ?_) (fun c7 => ?_)
      · replace hf := xt c7 hf
        exact w_Mo_check_415 S hr hlocks  _ _ _ _ _ _ hw (lv_sub hl [0, 2] rfl) hf
      · replace hf := xf c7 hf
        refine lv_aload_n S.1 S.2.1 d_Mo_check_24 rfl (lv_at hl 0 rfl) ?_
        refine lv_aload_n S.1 S.2.1 d_Mo_check_25 rfl (lv_at hl 0 rfl) ?_
        obtain ⟨t8, ht8, hf⟩ := xb hf
        refine x_geti S hw lk_Mo_247 ht8 d_Mo_check_26 ?_
        obtain ⟨t10, h9, hf⟩ := xb hf
        obtain ⟨h9b, h9⟩ := xkb h9
        refine x_callV (As := [.int t8]) (rest := []) (st1 := [.int t10]) S hw (c_Mo_look h9) (cwV 1 S.2.2.2.2 gv_Mo_181 rfl rfl rfl hd_Mo_look ⟨Nat.le_of_ble_eq_true rfl, Nat.le_of_ble_eq_true rfl⟩) rfl h9b rfl hl.1 rfl rfl (Nat.le_of_ble_eq_true rfl) d_Mo_check_29 ⟨Nat.le_of_ble_eq_true rfl, Nat.le_of_ble_eq_true rfl⟩ (fun H locs hw => ?_)
        refine lv_istore (lv' := [(4, .int t10), (0, .ref a0), (1, .int x1), (2, .int x2), (3, .int x3)]) S.1 S.2.1 d_Mo_check_32 hl (by decide) rfl (fun ls hl => ?_)
        refine lv_iload S.1 S.2.1 d_Mo_check_34 (lv_at hl 0 rfl) ?_
        refine lv_bipush (v := 40) S.1 S.2.1 d_Mo_check_36 (by decide) ?_
        refine lv_icmp_ne (tgt := 64) S.1 S.2.1 d_Mo_check_38 (by decide) (fun c11 => ?_) (fun c11 => ?_)
        · replace hf := xf c11 hf
          refine lv_iload S.1 S.2.1 d_Mo_check_64 (lv_at hl 0 rfl) ?_
          obtain ⟨t13, h12, hf⟩ := xb hf
          refine x_callS (As := [.int t10]) (rest := []) (st1 := [.int t13]) S hw (c_Mo_beginsAtom h12) (cwS 1 S.2.2.2.2 gs_Mo_283 rfl rfl rfl hd_Mo_beginsAtom ⟨Nat.le_of_ble_eq_true rfl, Nat.le_of_ble_eq_true rfl⟩) rfl hl.1 rfl rfl (Nat.le_of_ble_eq_true rfl) d_Mo_check_66 ⟨Nat.le_of_ble_eq_true rfl, Nat.le_of_ble_eq_true rfl⟩ (fun H locs hw => ?_)
          refine lv_if_eq (tgt := 108) S.1 S.2.1 d_Mo_check_69 (by decide) (fun c14 => ?_) (fun c14 => ?_)
          · replace hf := xt c14 hf
            refine lv_iload_n S.1 S.2.1 d_Mo_check_108 rfl (lv_at hl 4 rfl) ?_
            refine lv_if_eq (tgt := 148) S.1 S.2.1 d_Mo_check_109 (by decide) (fun c15 => ?_) (fun c15 => ?_)
            · replace hf := xt c15 hf
              exact w_Mo_check_148 S hr hlocks ih _ _ _ _ _ _ _ _ _ hw (lv_sub hl [1, 2, 3, 4, 0] rfl) hf
            · replace hf := xf c15 hf
              refine lv_iload S.1 S.2.1 d_Mo_check_112 (lv_at hl 0 rfl) ?_
              refine lv_bipush (v := 42) S.1 S.2.1 d_Mo_check_114 (by decide) ?_
              refine lv_icmp_eq (tgt := 133) S.1 S.2.1 d_Mo_check_116 (by decide) (fun c16 => ?_) (fun c16 => ?_)
              · replace hf := xt c16 hf
                refine lv_aload_n S.1 S.2.1 d_Mo_check_133 rfl (lv_at hl 1 rfl) ?_
                refine lv_dup S.1 S.2.1 d_Mo_check_134 rfl ?_
                obtain ⟨t17, ht17, hf⟩ := xb hf
                refine x_geti S hw lk_Mo_247 ht17 d_Mo_check_135 ?_
                refine lv_iconst (v := 1) S.1 S.2.1 d_Mo_check_138 (by decide) ?_
                refine lv_iadd S.1 S.2.1 d_Mo_check_139 ?_
                obtain ⟨w18, hw18, hf⟩ := xb hf
                refine x_puti S hw lp_Mo_247 hw18 d_Mo_check_140 (fun H locs hw => ?_)
                refine lv_iconst (v := 0) S.1 S.2.1 d_Mo_check_143 (by decide) ?_
                refine lv_istore_n (lv' := [(3, .int 0), (4, .int t10), (0, .ref a0), (1, .int x1), (2, .int x2)]) S.1 S.2.1 d_Mo_check_144 rfl hl (by decide) rfl (fun ls hl => ?_)
                refine lv_goto (tgt := 412) S.1 S.2.1 d_Mo_check_145 (by decide) ?_
                refine lv_goto (tgt := 9) S.1 S.2.1 d_Mo_check_412 (by decide) ?_
                exact ih _ _ _ _ _ _ _ _ hw (lv_sub hl [2, 3, 4, 0] rfl) hf
              · replace hf := xf c16 hf
                refine lv_iload S.1 S.2.1 d_Mo_check_119 (lv_at hl 0 rfl) ?_
                refine lv_bipush (v := 43) S.1 S.2.1 d_Mo_check_121 (by decide) ?_
                refine lv_icmp_eq (tgt := 133) S.1 S.2.1 d_Mo_check_123 (by decide) (fun c19 => ?_) (fun c19 => ?_)
                · replace hf := xt c19 hf
                  refine lv_aload_n S.1 S.2.1 d_Mo_check_133 rfl (lv_at hl 1 rfl) ?_
                  refine lv_dup S.1 S.2.1 d_Mo_check_134 rfl ?_
                  obtain ⟨t20, ht20, hf⟩ := xb hf
                  refine x_geti S hw lk_Mo_247 ht20 d_Mo_check_135 ?_
                  refine lv_iconst (v := 1) S.1 S.2.1 d_Mo_check_138 (by decide) ?_
                  refine lv_iadd S.1 S.2.1 d_Mo_check_139 ?_
                  obtain ⟨w21, hw21, hf⟩ := xb hf
                  refine x_puti S hw lp_Mo_247 hw21 d_Mo_check_140 (fun H locs hw => ?_)
                  refine lv_iconst (v := 0) S.1 S.2.1 d_Mo_check_143 (by decide) ?_
                  refine lv_istore_n (lv' := [(3, .int 0), (4, .int t10), (0, .ref a0), (1, .int x1), (2, .int x2)]) S.1 S.2.1 d_Mo_check_144 rfl hl (by decide) rfl (fun ls hl => ?_)
                  refine lv_goto (tgt := 412) S.1 S.2.1 d_Mo_check_145 (by decide) ?_
                  refine lv_goto (tgt := 9) S.1 S.2.1 d_Mo_check_412 (by decide) ?_
                  exact ih _ _ _ _ _ _ _ _ hw (lv_sub hl [2, 3, 4, 0] rfl) hf
                · replace hf := xf c19 hf
                  refine lv_iload S.1 S.2.1 d_Mo_check_126 (lv_at hl 0 rfl) ?_
                  refine lv_bipush (v := 63) S.1 S.2.1 d_Mo_check_128 (by decide) ?_
                  refine lv_icmp_ne (tgt := 148) S.1 S.2.1 d_Mo_check_130 (by decide) (fun c22 => ?_) (fun c22 => ?_)
                  · replace hf := xf c22 hf
                    exact w_Mo_check_148 S hr hlocks ih _ _ _ _ _ _ _ _ _ hw (lv_sub hl [1, 2, 3, 4, 0] rfl) hf
                  · replace hf := xt c22 hf
                    refine lv_aload_n S.1 S.2.1 d_Mo_check_133 rfl (lv_at hl 1 rfl) ?_
                    refine lv_dup S.1 S.2.1 d_Mo_check_134 rfl ?_
                    obtain ⟨t23, ht23, hf⟩ := xb hf
                    refine x_geti S hw lk_Mo_247 ht23 d_Mo_check_135 ?_
                    refine lv_iconst (v := 1) S.1 S.2.1 d_Mo_check_138 (by decide) ?_
                    refine lv_iadd S.1 S.2.1 d_Mo_check_139 ?_
                    obtain ⟨w24, hw24, hf⟩ := xb hf
                    refine x_puti S hw lp_Mo_247 hw24 d_Mo_check_140 (fun H locs hw => ?_)
                    refine lv_iconst (v := 0) S.1 S.2.1 d_Mo_check_143 (by decide) ?_
                    refine lv_istore_n (lv' := [(3, .int 0), (4, .int t10), (0, .ref a0), (1, .int x1), (2, .int x2)]) S.1 S.2.1 d_Mo_check_144 rfl hl (by decide) rfl (fun ls hl => ?_)
                    refine lv_goto (tgt := 412) S.1 S.2.1 d_Mo_check_145 (by decide) ?_
                    refine lv_goto (tgt := 9) S.1 S.2.1 d_Mo_check_412 (by decide) ?_
                    exact ih _ _ _ _ _ _ _ _ hw (lv_sub hl [2, 3, 4, 0] rfl) hf
          · replace hf := xf c14 hf
            refine lv_iload S.1 S.2.1 d_Mo_check_72 (lv_at hl 0 rfl) ?_
            refine lv_bipush (v := 91) S.1 S.2.1 d_Mo_check_74 (by decide) ?_
            refine lv_icmp_ne (tgt := 87) S.1 S.2.1 d_Mo_check_76 (by decide) (fun c25 => ?_) (fun c25 => ?_)
            · replace hf := xf c25 hf
              refine lv_aload_n S.1 S.2.1 d_Mo_check_87 rfl (lv_at hl 1 rfl) ?_
              refine lv_dup S.1 S.2.1 d_Mo_check_88 rfl ?_
              obtain ⟨t26, ht26, hf⟩ := xb hf
              refine x_geti S hw lk_Mo_247 ht26 d_Mo_check_89 ?_
              refine lv_iconst (v := 1) S.1 S.2.1 d_Mo_check_92 (by decide) ?_
              refine lv_iadd S.1 S.2.1 d_Mo_check_93 ?_
              obtain ⟨w27, hw27, hf⟩ := xb hf
              refine x_puti S hw lp_Mo_247 hw27 d_Mo_check_94 (fun H locs hw => ?_)
              refine lv_aload_n S.1 S.2.1 d_Mo_check_97 rfl (lv_at hl 1 rfl) ?_
              refine lv_iload_n S.1 S.2.1 d_Mo_check_98 rfl (lv_at hl 3 rfl) ?_
              refine lv_iconst (v := 1) S.1 S.2.1 d_Mo_check_99 (by decide) ?_
              obtain ⟨w30, h28, hf⟩ := xb hf
              obtain ⟨h28b, h28⟩ := xkb h28
              refine x_callV (As := [.int x2, .int 1]) (rest := []) (st1 := []) S hw (c_Mo_item h28) (cwV 2 S.2.2.2.2 gv_Mo_290 rfl rfl rfl hd_Mo_item ⟨Nat.le_of_ble_eq_true rfl, Nat.le_of_ble_eq_true rfl⟩) rfl h28b rfl hl.1 rfl rfl (Nat.le_of_ble_eq_true rfl) d_Mo_check_100 ⟨Nat.le_of_ble_eq_true rfl, Nat.le_of_ble_eq_true rfl⟩ (fun H locs hw => ?_)
              refine lv_iconst (v := 1) S.1 S.2.1 d_Mo_check_103 (by decide) ?_
              refine lv_istore_n (lv' := [(3, .int 1), (4, .int t10), (0, .ref a0), (1, .int x1), (2, .int x2)]) S.1 S.2.1 d_Mo_check_104 rfl hl (by decide) rfl (fun ls hl => ?_)
              refine lv_goto (tgt := 412) S.1 S.2.1 d_Mo_check_105 (by decide) ?_
              refine lv_goto (tgt := 9) S.1 S.2.1 d_Mo_check_412 (by decide) ?_
              exact ih _ _ _ _ _ _ _ _ hw (lv_sub hl [2, 3, 4, 0] rfl) hf
            · replace hf := xt c25 hf
              refine lv_aload_n S.1 S.2.1 d_Mo_check_79 rfl (lv_at hl 1 rfl) ?_
              obtain ⟨t32, w33, h31, hf⟩ := xcb hf
              obtain ⟨h31b, h31⟩ := xkb h31
              refine x_callV (As := []) (rest := []) (st1 := [.int t32]) S hw (c_Mo_set0 h31) (cwV 0 S.2.2.2.2 gv_Mo_286 rfl rfl rfl hd_Mo_set0 ⟨Nat.le_of_ble_eq_true rfl, Nat.le_of_ble_eq_true rfl⟩) rfl h31b rfl hl.1 rfl rfl (Nat.le_of_ble_eq_true rfl) d_Mo_check_80 ⟨Nat.le_of_ble_eq_true rfl, Nat.le_of_ble_eq_true rfl⟩ (fun H locs hw => ?_)
              refine lv_pop S.1 S.2.1 d_Mo_check_83 rfl ?_
              refine lv_goto (tgt := 97) S.1 S.2.1 d_Mo_check_84 (by decide) ?_
              refine lv_aload_n S.1 S.2.1 d_Mo_check_97 rfl (lv_at hl 1 rfl) ?_
              refine lv_iload_n S.1 S.2.1 d_Mo_check_98 rfl (lv_at hl 3 rfl) ?_
              refine lv_iconst (v := 1) S.1 S.2.1 d_Mo_check_99 (by decide) ?_
              obtain ⟨w36, h34, hf⟩ := xb hf
              obtain ⟨h34b, h34⟩ := xkb h34
              refine x_callV (As := [.int x2, .int 1]) (rest := []) (st1 := []) S hw (c_Mo_item h34) (cwV 2 S.2.2.2.2 gv_Mo_290 rfl rfl rfl hd_Mo_item ⟨Nat.le_of_ble_eq_true rfl, Nat.le_of_ble_eq_true rfl⟩) rfl h34b rfl hl.1 rfl rfl (Nat.le_of_ble_eq_true rfl) d_Mo_check_100 ⟨Nat.le_of_ble_eq_true rfl, Nat.le_of_ble_eq_true rfl⟩ (fun H locs hw => ?_)
              refine lv_iconst (v := 1) S.1 S.2.1 d_Mo_check_103 (by decide) ?_
              refine lv_istore_n (lv' := [(3, .int 1), (4, .int t10), (0, .ref a0), (1, .int x1), (2, .int x2)]) S.1 S.2.1 d_Mo_check_104 rfl hl (by decide) rfl (fun ls hl => ?_)
              refine lv_goto (tgt := 412) S.1 S.2.1 d_Mo_check_105 (by decide) ?_
              refine lv_goto (tgt := 9) S.1 S.2.1 d_Mo_check_412 (by decide) ?_
              exact ih _ _ _ _ _ _ _ _ hw (lv_sub hl [2, 3, 4, 0] rfl) hf
        · replace hf := xt c11 hf
          refine lv_aload_n S.1 S.2.1 d_Mo_check_41 rfl (lv_at hl 1 rfl) ?_
          refine lv_dup S.1 S.2.1 d_Mo_check_42 rfl ?_
          obtain ⟨t37, ht37, hf⟩ := xb hf
          refine x_geti S hw lk_Mo_247 ht37 d_Mo_check_43 ?_
          refine lv_iconst (v := 1) S.1 S.2.1 d_Mo_check_46 (by decide) ?_
          refine lv_iadd S.1 S.2.1 d_Mo_check_47 ?_
          obtain ⟨w38, hw38, hf⟩ := xb hf
          refine x_puti S hw lp_Mo_247 hw38 d_Mo_check_48 (fun H locs hw => ?_)
          refine lv_iinc (v := (x2 + 1)) (lv' := [(2, .int (x2 + 1)), (4, .int t10), (0, .ref a0), (1, .int x1), (3, .int x3)]) S.1 S.2.1 d_Mo_check_51 hl (k := 3) rfl rfl (by decide) rfl (fun ls hl => ?_)
          refine lv_aload_n S.1 S.2.1 d_Mo_check_54 rfl (lv_at hl 2 rfl) ?_
          refine lv_iload_n S.1 S.2.1 d_Mo_check_55 rfl (lv_at hl 0 rfl) ?_
          obtain ⟨w41, h39, hf⟩ := xb hf
          obtain ⟨h39b, h39⟩ := xkb h39
          refine x_callV (As := [.int (x2 + 1)]) (rest := []) (st1 := []) S hw (c_Mo_open h39) (cwV 1 S.2.2.2.2 gv_Mo_280 rfl rfl rfl hd_Mo_open ⟨Nat.le_of_ble_eq_true rfl, Nat.le_of_ble_eq_true rfl⟩) rfl h39b rfl hl.1 rfl rfl (Nat.le_of_ble_eq_true rfl) d_Mo_check_56 ⟨Nat.le_of_ble_eq_true rfl, Nat.le_of_ble_eq_true rfl⟩ (fun H locs hw => ?_)
          refine lv_iconst (v := 0) S.1 S.2.1 d_Mo_check_59 (by decide) ?_
          refine lv_istore_n (lv' := [(3, .int 0), (2, .int (x2 + 1)), (4, .int t10), (0, .ref a0), (1, .int x1)]) S.1 S.2.1 d_Mo_check_60 rfl hl (by decide) rfl (fun ls hl => ?_)
          refine lv_goto (tgt := 412) S.1 S.2.1 d_Mo_check_61 (by decide) ?_
          refine lv_goto (tgt := 9) S.1 S.2.1 d_Mo_check_412 (by decide) ?_
          exact ih _ _ _ _ _ _ _ _ hw (lv_sub hl [3, 4, 1, 0] rfl) hf
def f_Mo_check (a0 : Nat) (x1 : Int32) (ω : xS) : Option (Int32 × xS) :=
  (xk ω a0 12 (f_Mo_open a0 0 ω)).bind fun w3 =>
  f_Mo_check_9  xFU a0 x1 0 0 w3
set_option maxHeartbeats 4000000 in
set_option maxRecDepth 100000 in
theorem c_Mo_check {l : Launch} {E : xV} {z : Nat} {a0 : Nat} {x1 : Int32} {r : Int32} {ω1 : xS} {ω : xS} (hf : f_Mo_check a0 x1 ω = some (r, ω1)) : xM l E y_Mo_check ws_Mo_check { frames := 2, cells := 0, slots := 0, locals := 44 } [.ref a0, .int x1] z ω (some (.int r)) z ω1 := by
  refine x_start (cc := b_Mo_check) (maxL := 8) (ret := (some .int)) (by decide) rfl (Nat.le_of_ble_eq_true rfl) ?_
  intro p e s m below meth c S hr hlocks hin ls hl hw
  have hl : lv_has ls 8 [(0, .ref a0), (1, .int x1)] := hl
  unfold f_Mo_check at hf
  refine lv_iconst (v := 0) S.1 S.2.1 d_Mo_check_0 (by decide) ?_
  refine lv_istore_n (lv' := [(2, .int 0), (0, .ref a0), (1, .int x1)]) S.1 S.2.1 d_Mo_check_1 rfl hl (by decide) rfl (fun ls hl => ?_)
  refine lv_aload_n S.1 S.2.1 d_Mo_check_2 rfl (lv_at hl 1 rfl) ?_
  refine lv_iconst (v := 0) S.1 S.2.1 d_Mo_check_3 (by decide) ?_
  obtain ⟨w3, h1, hf⟩ := xb hf
  obtain ⟨h1b, h1⟩ := xkb h1
  refine x_callV (As := [.int 0]) (rest := []) (st1 := []) S hw (c_Mo_open h1) (cwV 1 S.2.2.2.2 gv_Mo_280 rfl rfl rfl hd_Mo_open ⟨Nat.le_of_ble_eq_true rfl, Nat.le_of_ble_eq_true rfl⟩) rfl h1b rfl hl.1 rfl rfl (Nat.le_of_ble_eq_true rfl) d_Mo_check_4 ⟨Nat.le_of_ble_eq_true rfl, Nat.le_of_ble_eq_true rfl⟩ (fun H locs hw => ?_)
  refine lv_iconst (v := 0) S.1 S.2.1 d_Mo_check_7 (by decide) ?_
  refine lv_istore_n (lv' := [(3, .int 0), (2, .int 0), (0, .ref a0), (1, .int x1)]) S.1 S.2.1 d_Mo_check_8 rfl hl (by decide) rfl (fun ls hl => ?_)
  exact w_Mo_check_9 S hr hlocks  _ _ _ _ _ _ _ _ _ hw (lv_sub hl [2, 3, 1, 0] rfl) hf
