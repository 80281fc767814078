def f_AutomatonMaker_mayEnd (a0 : Nat) (a1 : Nat) (x2 : Int32) (ω : xS) : Option Int32 :=
  (xgr ω a0 1 0).bind fun t1 =>
  (xai ω t1 x2).bind fun t2 =>
  if t2 = 1024 then (
    (xgi ω a1 7 8).bind fun t8 =>
    if t8 = 0 ∨ t8 = 1 then (some t8) else none)
  else (
    (xgr ω a0 1 0).bind fun t4 =>
    (xai ω t4 x2).bind fun t5 =>
    (xgi ω a1 7 7).bind fun t6 =>
    if (t5 &&& t6) = 0 then (
      some 0)
    else (
      some 1))
set_option maxHeartbeats 4000000 in
set_option maxRecDepth 100000 in
theorem c_AutomatonMaker_mayEnd {l : Launch} {E : xV} {z : Nat} {a0 : Nat} {a1 : Nat} {x2 : Int32} {r : Int32} {ω : xS} (hf : f_AutomatonMaker_mayEnd a0 a1 x2 ω = some r) : xM l E y_AutomatonMaker_mayEnd ws_AutomatonMaker_mayEnd { frames := 0, cells := 0, slots := 0, locals := 0 } [.ref a0, .ref a1, .int x2] z ω (some (.int r)) z ω := by
  refine x_start (cc := b_AutomatonMaker_mayEnd) (maxL := 3) (ret := (some .boolean)) (by decide) rfl (Nat.le_of_ble_eq_true rfl) ?_
  intro p e s m below meth c S hr hlocks hin ls hl hw
  have hl : lv_has ls 3 [(0, .ref a0), (1, .ref a1), (2, .int x2)] := hl
  unfold f_AutomatonMaker_mayEnd at hf
  refine lv_aload_n S.1 S.2.1 d_AutomatonMaker_mayEnd_0 rfl (lv_at hl 0 rfl) ?_
  obtain ⟨t1, ht1, hf⟩ := xb hf
  refine x_getr S hw lk_AutomatonMaker_13 ht1 d_AutomatonMaker_mayEnd_1 ?_
  refine lv_iload_n S.1 S.2.1 d_AutomatonMaker_mayEnd_4 rfl (lv_at hl 2 rfl) ?_
  obtain ⟨t2, ht2, hf⟩ := xb hf
  refine x_iald S hw ht2 d_AutomatonMaker_mayEnd_5 ?_
  refine lv_sipush (v := 1024) S.1 S.2.1 d_AutomatonMaker_mayEnd_6 (by decide) ?_
  refine lv_icmp_ne (tgt := 19) S.1 S.2.1 d_AutomatonMaker_mayEnd_9 (by decide) (fun c3 => ?_) (fun c3 => ?_)
  · replace hf := xf c3 hf
    refine lv_aload_n S.1 S.2.1 d_AutomatonMaker_mayEnd_19 rfl (lv_at hl 0 rfl) ?_
    obtain ⟨t4, ht4, hf⟩ := xb hf
    refine x_getr S hw lk_AutomatonMaker_13 ht4 d_AutomatonMaker_mayEnd_20 ?_
    refine lv_iload_n S.1 S.2.1 d_AutomatonMaker_mayEnd_23 rfl (lv_at hl 2 rfl) ?_
    obtain ⟨t5, ht5, hf⟩ := xb hf
    refine x_iald S hw ht5 d_AutomatonMaker_mayEnd_24 ?_
    refine lv_aload_n S.1 S.2.1 d_AutomatonMaker_mayEnd_25 rfl (lv_at hl 1 rfl) ?_
    obtain ⟨t6, ht6, hf⟩ := xb hf
    refine x_geti S hw lk_AutomatonMaker_82 ht6 d_AutomatonMaker_mayEnd_26 ?_
    refine lv_iand S.1 S.2.1 d_AutomatonMaker_mayEnd_29 ?_
    refine lv_if_eq (tgt := 37) S.1 S.2.1 d_AutomatonMaker_mayEnd_30 (by decide) (fun c7 => ?_) (fun c7 => ?_)
    · replace hf := xt c7 hf
      refine lv_iconst (v := 0) S.1 S.2.1 d_AutomatonMaker_mayEnd_37 (by decide) ?_
      obtain rfl := xe1 hf
      exact x_zret S hr hlocks hw (by decide) d_AutomatonMaker_mayEnd_38
    · replace hf := xf c7 hf
      refine lv_iconst (v := 1) S.1 S.2.1 d_AutomatonMaker_mayEnd_33 (by decide) ?_
      refine lv_goto (tgt := 38) S.1 S.2.1 d_AutomatonMaker_mayEnd_34 (by decide) ?_
      obtain rfl := xe1 hf
      exact x_zret S hr hlocks hw (by decide) d_AutomatonMaker_mayEnd_38
  · replace hf := xt c3 hf
    refine lv_aload_n S.1 S.2.1 d_AutomatonMaker_mayEnd_12 rfl (lv_at hl 1 rfl) ?_
    obtain ⟨t8, ht8, hf⟩ := xb hf
    refine x_geti S hw lk_AutomatonMaker_78 ht8 d_AutomatonMaker_mayEnd_13 ?_
    refine lv_goto (tgt := 38) S.1 S.2.1 d_AutomatonMaker_mayEnd_16 (by decide) ?_
    by_cases cz : t8 = 0 ∨ t8 = 1
    · replace hf := xt cz hf
      obtain rfl := xe1 hf
      exact x_zret S hr hlocks hw (by rcases cz with c | c <;> rw [c] <;> decide) d_AutomatonMaker_mayEnd_38
    · replace hf := xf cz hf
      cases hf
def f_AutomatonMaker_partByEnds_4 : Nat → Nat → Nat → Int32 → Int32 → xS → Option (Int32 × xS)
  | 0, _, _, _, _, _ => none
  | n + 1, a0, a1, x2, x3, ω =>
    (xgi ω a0 1 8).bind fun t1 =>
    if t1 ≤ x3 then (
      some (x2, ω))
    else (
      (xgr ω a0 1 4).bind fun t3 =>
      (xk ω a0 1 (f_AutomatonMaker_mayEnd a0 a1 x3 ω)).bind fun t5 =>
      (xk ω a0 1 (f_AutomatonMaker_mayEnd a0 a1 0 ω)).bind fun t7 =>
      if t5 = t7 then (
        (xsi ω t3 x3 0).bind fun w12 =>
        (xgr w12 a0 1 4).bind fun t13 =>
        (xai w12 t13 x3).bind fun t14 =>
        f_AutomatonMaker_partByEnds_4  n a0 a1 (xmax x2 (t14 + 1)) (x3 + 1) w12)
      else (
        (xsi ω t3 x3 1).bind fun w9 =>
        (xgr w9 a0 1 4).bind fun t10 =>
        (xai w9 t10 x3).bind fun t11 =>
        f_AutomatonMaker_partByEnds_4  n a0 a1 (xmax x2 (t11 + 1)) (x3 + 1) w9))
set_option maxHeartbeats 4000000 in
set_option maxRecDepth 100000 in
theorem w_AutomatonMaker_partByEnds_4 {p : Program} {l : Launch} {e : Env} {s : State} {m : MethodId} {args : Array Value} {below : List Frame} {meth : Method} {c : Code} {E : xV} {z : Nat} {r : Int32} {ω1 : xS} (S : CallFix p m c b_AutomatonMaker_partByEnds 4 s args xTbl "RosterRules$AutomatonMaker") (hr : meth.sig.returnType = (some .int)) (hlocks : meth.locks = false) : ∀ n : Nat, ∀ (a0 : Nat) (a1 : Nat) (x2 : Int32) (x3 : Int32) (ω : xS) (H : Heap) (locs : List Loc) (ls : Array Slot), xW E z ω s s.heap H locs → lv_has ls 4 [(0, .ref a0), (1, .ref a1), (2, .int x2), (3, .int x3)] → f_AutomatonMaker_partByEnds_4 n a0 a1 x2 x3 ω = some (r, ω1) → W p l e (headSpec ws_AutomatonMaker_partByEnds { frames := 1, cells := 0, slots := 0, locals := 24 }).room s m args below meth c H locs 0 0 (MQ below (xQ E (some (.int r)) z ω1) args s 0 0 (fun q => E.2.2 ≤ q)) (F0 m 4 ls []) := by
  intro n
  induction n with
  | zero =>
    intro a0 a1 x2 x3 ω H locs ls hw hl hf
    have h2 : (none : Option (Int32 × xS)) = some (r, ω1) := hf
    cases h2
  | succ n ih =>
    intro a0 a1 x2 x3 ω H locs ls hw hl hf
    rw [f_AutomatonMaker_partByEnds_4] at hf
    refine lv_iload_n S.1 S.2.1 d_AutomatonMaker_partByEnds_4 rfl (lv_at hl 3 rfl) ?_
    refine lv_aload_n S.1 S.2.1 d_AutomatonMaker_partByEnds_5 rfl (lv_at hl 0 rfl) ?_
    obtain ⟨t1, ht1, hf⟩ := xb hf
    refine x_geti S hw lk_AutomatonMaker_47 ht1 d_AutomatonMaker_partByEnds_6 ?_
    refine lv_icmp_ge (tgt := 57) S.1 S.2.1 d_AutomatonMaker_partByEnds_9 (by decide) (fun c2 => ?_) (fun c2 => ?_)
    · replace hf := xt c2 hf
      refine lv_iload_n S.1 S.2.1 d_AutomatonMaker_partByEnds_57 rfl (lv_at hl 2 rfl) ?_
      obtain ⟨rfl, rfl⟩ := xe2 hf
      exact x_iret S hr hlocks hw d_AutomatonMaker_partByEnds_58
    · replace hf := xf c2 hf
      refine lv_aload_n S.1 S.2.1 d_AutomatonMaker_partByEnds_12 rfl (lv_at hl 0 rfl) ?_
      obtain ⟨t3, ht3, hf⟩ := xb hf
      refine x_getr S hw lk_AutomatonMaker_26 ht3 d_AutomatonMaker_partByEnds_13 ?_
      refine lv_iload_n S.1 S.2.1 d_AutomatonMaker_partByEnds_16 rfl (lv_at hl 3 rfl) ?_
      refine lv_aload_n S.1 S.2.1 d_AutomatonMaker_partByEnds_17 rfl (lv_at hl 0 rfl) ?_
      refine lv_aload_n S.1 S.2.1 d_AutomatonMaker_partByEnds_18 rfl (lv_at hl 1 rfl) ?_
      refine lv_iload_n S.1 S.2.1 d_AutomatonMaker_partByEnds_19 rfl (lv_at hl 3 rfl) ?_
      obtain ⟨t5, h4, hf⟩ := xb hf
      obtain ⟨h4b, h4⟩ := xkb h4
      refine x_callV (As := [.ref a1, .int x3]) (rest := [.int x3, .ref t3]) (st1 := [.int t5, .int x3, .ref t3]) S hw (c_AutomatonMaker_mayEnd h4) (cwV 2 S.2.2.2.2 gv_AutomatonMaker_85 rfl rfl rfl hd_AutomatonMaker_mayEnd ⟨Nat.le_of_ble_eq_true rfl, Nat.le_of_ble_eq_true rfl⟩) rfl h4b rfl hl.1 rfl rfl (Nat.le_of_ble_eq_true rfl) d_AutomatonMaker_partByEnds_20 ⟨Nat.le_of_ble_eq_true rfl, Nat.le_of_ble_eq_true rfl⟩ (fun H locs hw => ?_)
      refine lv_aload_n S.1 S.2.1 d_AutomatonMaker_partByEnds_23 rfl (lv_at hl 0 rfl) ?_
      refine lv_aload_n S.1 S.2.1 d_AutomatonMaker_partByEnds_24 rfl (lv_at hl 1 rfl) ?_
      refine lv_iconst (v := 0) S.1 S.2.1 d_AutomatonMaker_partByEnds_25 (by decide) ?_
      obtain ⟨t7, h6, hf⟩ := xb hf
      obtain ⟨h6b, h6⟩ := xkb h6
      refine x_callV (As := [.ref a1, .int 0]) (rest := [.int t5, .int x3, .ref t3]) (st1 := [.int t7, .int t5, .int x3, .ref t3]) S hw (c_AutomatonMaker_mayEnd h6) (cwV 2 S.2.2.2.2 gv_AutomatonMaker_85 rfl rfl rfl hd_AutomatonMaker_mayEnd ⟨Nat.le_of_ble_eq_true rfl, Nat.le_of_ble_eq_true rfl⟩) rfl h6b rfl hl.1 rfl rfl (Nat.le_of_ble_eq_true rfl) d_AutomatonMaker_partByEnds_26 ⟨Nat.le_of_ble_eq_true rfl, Nat.le_of_ble_eq_true rfl⟩ (fun H locs hw => ?_)
      refine lv_icmp_ne (tgt := 36) S.1 S.2.1 d_AutomatonMaker_partByEnds_29 (by decide) (fun c8 => ?_) (fun c8 => ?_)
      · replace hf := xf c8 hf
        refine lv_iconst (v := 1) S.1 S.2.1 d_AutomatonMaker_partByEnds_36 (by decide) ?_
        obtain ⟨w9, hw9, hf⟩ := xb hf
        refine x_iast S hw hw9 d_AutomatonMaker_partByEnds_37 (fun H locs hw => ?_)
        refine lv_iload_n S.1 S.2.1 d_AutomatonMaker_partByEnds_38 rfl (lv_at hl 2 rfl) ?_
        refine lv_aload_n S.1 S.2.1 d_AutomatonMaker_partByEnds_39 rfl (lv_at hl 0 rfl) ?_
        obtain ⟨t10, ht10, hf⟩ := xb hf
        refine x_getr S hw lk_AutomatonMaker_26 ht10 d_AutomatonMaker_partByEnds_40 ?_
        refine lv_iload_n S.1 S.2.1 d_AutomatonMaker_partByEnds_43 rfl (lv_at hl 3 rfl) ?_
        obtain ⟨t11, ht11, hf⟩ := xb hf
        refine x_iald S hw ht11 d_AutomatonMaker_partByEnds_44 ?_
        refine lv_iconst (v := 1) S.1 S.2.1 d_AutomatonMaker_partByEnds_45 (by decide) ?_
        refine lv_iadd S.1 S.2.1 d_AutomatonMaker_partByEnds_46 ?_
        refine x_mmax S hl.1 lm_AutomatonMaker_72 d_AutomatonMaker_partByEnds_47 (Nat.le_of_ble_eq_true rfl) (Nat.le_of_ble_eq_true rfl) (Nat.zero_le _) (Nat.zero_le _) ?_
        refine lv_istore_n (lv' := [(2, .int (xmax x2 (t11 + 1))), (0, .ref a0), (1, .ref a1), (3, .int x3)]) S.1 S.2.1 d_AutomatonMaker_partByEnds_50 rfl hl (by decide) rfl (fun ls hl => ?_)
        refine lv_iinc (v := (x3 + 1)) (lv' := [(3, .int (x3 + 1)), (2, .int (xmax x2 (t11 + 1))), (0, .ref a0), (1, .ref a1)]) S.1 S.2.1 d_AutomatonMaker_partByEnds_51 hl (k := 3) rfl rfl (by decide) rfl (fun ls hl => ?_)
        refine lv_goto (tgt := 4) S.1 S.2.1 d_AutomatonMaker_partByEnds_54 (by decide) ?_
        exact ih _ _ _ _ _ _ _ _ hw (lv_sub hl [2, 3, 1, 0] rfl) hf
      · replace hf := xt c8 hf
        refine lv_iconst (v := 0) S.1 S.2.1 d_AutomatonMaker_partByEnds_32 (by decide) ?_
        refine lv_goto (tgt := 37) S.1 S.2.1 d_AutomatonMaker_partByEnds_33 (by decide) ?_
        obtain ⟨w12, hw12, hf⟩ := xb hf
        refine x_iast S hw hw12 d_AutomatonMaker_partByEnds_37 (fun H locs hw => ?_)
        refine lv_iload_n S.1 S.2.1 d_AutomatonMaker_partByEnds_38 rfl (lv_at hl 2 rfl) ?_
        refine lv_aload_n S.1 S.2.1 d_AutomatonMaker_partByEnds_39 rfl (lv_at hl 0 rfl) ?_
        obtain ⟨t13, ht13, hf⟩ := xb hf
        refine x_getr S hw lk_AutomatonMaker_26 ht13 d_AutomatonMaker_partByEnds_40 ?_
        refine lv_iload_n S.1 S.2.1 d_AutomatonMaker_partByEnds_43 rfl (lv_at hl 3 rfl) ?_
        obtain ⟨t14, ht14, hf⟩ := xb hf
        refine x_iald S hw ht14 d_AutomatonMaker_partByEnds_44 ?_
        refine lv_iconst (v := 1) S.1 S.2.1 d_AutomatonMaker_partByEnds_45 (by decide) ?_
        refine lv_iadd S.1 S.2.1 d_AutomatonMaker_partByEnds_46 ?_
        refine x_mmax S hl.1 lm_AutomatonMaker_72 d_AutomatonMaker_partByEnds_47 (Nat.le_of_ble_eq_true rfl) (Nat.le_of_ble_eq_true rfl) (Nat.zero_le _) (Nat.zero_le _) ?_
        refine lv_istore_n (lv' := [(2, .int (xmax x2 (t14 + 1))), (0, .ref a0), (1, .ref a1), (3, .int x3)]) S.1 S.2.1 d_AutomatonMaker_partByEnds_50 rfl hl (by decide) rfl (fun ls hl => ?_)
        refine lv_iinc (v := (x3 + 1)) (lv' := [(3, .int (x3 + 1)), (2, .int (xmax x2 (t14 + 1))), (0, .ref a0), (1, .ref a1)]) S.1 S.2.1 d_AutomatonMaker_partByEnds_51 hl (k := 3) rfl rfl (by decide) rfl (fun ls hl => ?_)
        refine lv_goto (tgt := 4) S.1 S.2.1 d_AutomatonMaker_partByEnds_54 (by decide) ?_
        exact ih _ _ _ _ _ _ _ _ hw (lv_sub hl [2, 3, 1, 0] rfl) hf
def f_AutomatonMaker_partByEnds (a0 : Nat) (a1 : Nat) (ω : xS) : Option (Int32 × xS) :=
  f_AutomatonMaker_partByEnds_4  xFU a0 a1 1 0 ω
set_option maxHeartbeats 4000000 in
set_option maxRecDepth 100000 in
theorem c_AutomatonMaker_partByEnds {l : Launch} {E : xV} {z : Nat} {a0 : Nat} {a1 : Nat} {r : Int32} {ω1 : xS} {ω : xS} (hf : f_AutomatonMaker_partByEnds a0 a1 ω = some (r, ω1)) : xM l E y_AutomatonMaker_partByEnds ws_AutomatonMaker_partByEnds { frames := 1, cells := 0, slots := 0, locals := 24 } [.ref a0, .ref a1] z ω (some (.int r)) z ω1 := by
  refine x_start (cc := b_AutomatonMaker_partByEnds) (maxL := 4) (ret := (some .int)) (by decide) rfl (Nat.le_of_ble_eq_true rfl) ?_
  intro p e s m below meth c S hr hlocks hin ls hl hw
  have hl : lv_has ls 4 [(0, .ref a0), (1, .ref a1)] := hl
  unfold f_AutomatonMaker_partByEnds at hf
  refine lv_iconst (v := 1) S.1 S.2.1 d_AutomatonMaker_partByEnds_0 (by decide) ?_
  refine lv_istore_n (lv' := [(2, .int 1), (0, .ref a0), (1, .ref a1)]) S.1 S.2.1 d_AutomatonMaker_partByEnds_1 rfl hl (by decide) rfl (fun ls hl => ?_)
  refine lv_iconst (v := 0) S.1 S.2.1 d_AutomatonMaker_partByEnds_2 (by decide) ?_
  refine lv_istore_n (lv' := [(3, .int 0), (2, .int 1), (0, .ref a0), (1, .ref a1)]) S.1 S.2.1 d_AutomatonMaker_partByEnds_3 rfl hl (by decide) rfl (fun ls hl => ?_)
  exact w_AutomatonMaker_partByEnds_4 S hr hlocks  _ _ _ _ _ _ _ _ _ hw (lv_sub hl [2, 3, 1, 0] rfl) hf
def f_AutomatonMaker_together_24 : Nat → Nat → Int32 → Int32 → Int32 → Int32 → xS → Option Int32
  | 0, _, _, _, _, _, _ => none
  | n + 1, a0, x1, x2, x3, x4, ω =>
    if 9 ≤ x4 then (
      if x3 = 0 ∨ x3 = 1 then (some x3) else none)
    else (
      if x3 = 0 then (
        if x3 = 0 ∨ x3 = 1 then (some x3) else none)
      else (
        (xgr ω a0 1 4).bind fun t8 =>
        (xgr ω a0 1 2).bind fun t9 =>
        (xai ω t9 ((x1 * 9) + x4)).bind fun t10 =>
        (xai ω t8 t10).bind fun t11 =>
        (xgr ω a0 1 4).bind fun t12 =>
        (xgr ω a0 1 2).bind fun t13 =>
        (xai ω t13 ((x2 * 9) + x4)).bind fun t14 =>
        (xai ω t12 t14).bind fun t15 =>
        if t11 = t15 then (
          f_AutomatonMaker_together_24  n a0 x1 x2 1 (x4 + 1) ω)
        else (
          f_AutomatonMaker_together_24  n a0 x1 x2 0 (x4 + 1) ω)))
set_option maxHeartbeats 4000000 in
set_option maxRecDepth 100000 in
theorem w_AutomatonMaker_together_24 {p : Program} {l : Launch} {e : Env} {s : State} {m : MethodId} {args : Array Value} {below : List Frame} {meth : Method} {c : Code} {E : xV} {z : Nat} {r : Int32} {ω : xS} (S : CallFix p m c b_AutomatonMaker_together 5 s args xTbl "RosterRules$AutomatonMaker") (hr : meth.sig.returnType = (some .boolean)) (hlocks : meth.locks = false) : ∀ n : Nat, ∀ (a0 : Nat) (x1 : Int32) (x2 : Int32) (x3 : Int32) (x4 : Int32) (H : Heap) (locs : List Loc) (ls : Array Slot), xW E z ω s s.heap H locs → lv_has ls 5 [(0, .ref a0), (1, .int x1), (2, .int x2), (3, .int x3), (4, .int x4)] → f_AutomatonMaker_together_24 n a0 x1 x2 x3 x4 ω = some r → W p l e (headSpec ws_AutomatonMaker_together { frames := 0, cells := 0, slots := 0, locals := 0 }).room s m args below meth c H locs 0 0 (MQ below (xQ E (some (.int r)) z ω) args s 0 0 (fun q => E.2.2 ≤ q)) (F0 m 24 ls []) := by
  intro n
  induction n with
  | zero =>
    intro a0 x1 x2 x3 x4 H locs ls hw hl hf
    have h2 : (none : Option Int32) = some r := hf
    cases h2
  | succ n ih =>
    intro a0 x1 x2 x3 x4 H locs ls hw hl hf
    rw [f_AutomatonMaker_together_24] at hf
    refine lv_iload S.1 S.2.1 d_AutomatonMaker_together_24 (lv_at hl 4 rfl) ?_
    refine lv_bipush (v := 9) S.1 S.2.1 d_AutomatonMaker_together_26 (by decide) ?_
    refine lv_icmp_ge (tgt := 84) S.1 S.2.1 d_AutomatonMaker_together_28 (by decide) (fun c6 => ?_) (fun c6 => ?_)
    · replace hf := xt c6 hf
      refine lv_iload_n S.1 S.2.1 d_AutomatonMaker_together_84 rfl (lv_at hl 3 rfl) ?_
      by_cases cz : x3 = 0 ∨ x3 = 1
      · replace hf := xt cz hf
        obtain rfl := xe1 hf
        exact x_zret S hr hlocks hw (by rcases cz with c | c <;> rw [c] <;> decide) d_AutomatonMaker_together_85
      · replace hf := xf cz hf
        cases hf
    · replace hf := xf c6 hf
      refine lv_iload_n S.1 S.2.1 d_AutomatonMaker_together_31 rfl (lv_at hl 3 rfl) ?_
      refine lv_if_eq (tgt := 84) S.1 S.2.1 d_AutomatonMaker_together_32 (by decide) (fun c7 => ?_) (fun c7 => ?_)
      · replace hf := xt c7 hf
        refine lv_iload_n S.1 S.2.1 d_AutomatonMaker_together_84 rfl (lv_at hl 3 rfl) ?_
        by_cases cz : x3 = 0 ∨ x3 = 1
        · replace hf := xt cz hf
          obtain rfl := xe1 hf
          exact x_zret S hr hlocks hw (by rcases cz with c | c <;> rw [c] <;> decide) d_AutomatonMaker_together_85
        · replace hf := xf cz hf
          cases hf
      · replace hf := xf c7 hf
        refine lv_aload_n S.1 S.2.1 d_AutomatonMaker_together_35 rfl (lv_at hl 0 rfl) ?_
        obtain ⟨t8, ht8, hf⟩ := xb hf
        refine x_getr S hw lk_AutomatonMaker_26 ht8 d_AutomatonMaker_together_36 ?_
        refine lv_aload_n S.1 S.2.1 d_AutomatonMaker_together_39 rfl (lv_at hl 0 rfl) ?_
        obtain ⟨t9, ht9, hf⟩ := xb hf
        refine x_getr S hw lk_AutomatonMaker_20 ht9 d_AutomatonMaker_together_40 ?_
        refine lv_iload_n S.1 S.2.1 d_AutomatonMaker_together_43 rfl (lv_at hl 1 rfl) ?_
        refine lv_bipush (v := 9) S.1 S.2.1 d_AutomatonMaker_together_44 (by decide) ?_
        refine lv_imul S.1 S.2.1 d_AutomatonMaker_together_46 ?_
        refine lv_iload S.1 S.2.1 d_AutomatonMaker_together_47 (lv_at hl 4 rfl) ?_
        refine lv_iadd S.1 S.2.1 d_AutomatonMaker_together_49 ?_
        obtain ⟨t10, ht10, hf⟩ := xb hf
        refine x_iald S hw ht10 d_AutomatonMaker_together_50 ?_
        obtain ⟨t11, ht11, hf⟩ := xb hf
        refine x_iald S hw ht11 d_AutomatonMaker_together_51 ?_
        refine lv_aload_n S.1 S.2.1 d_AutomatonMaker_together_52 rfl (lv_at hl 0 rfl) ?_
        obtain ⟨t12, ht12, hf⟩ := xb hf
        refine x_getr S hw lk_AutomatonMaker_26 ht12 d_AutomatonMaker_together_53 ?_
        refine lv_aload_n S.1 S.2.1 d_AutomatonMaker_together_56 rfl (lv_at hl 0 rfl) ?_
        obtain ⟨t13, ht13, hf⟩ := xb hf
        refine x_getr S hw lk_AutomatonMaker_20 ht13 d_AutomatonMaker_together_57 ?_
        refine lv_iload_n S.1 S.2.1 d_AutomatonMaker_together_60 rfl (lv_at hl 2 rfl) ?_
        refine lv_bipush (v := 9) S.1 S.2.1 d_AutomatonMaker_together_61 (by decide) ?_
        refine lv_imul S.1 S.2.1 d_AutomatonMaker_together_63 ?_
        refine lv_iload S.1 S.2.1 d_AutomatonMaker_together_64 (lv_at hl 4 rfl) ?_
        refine lv_iadd S.1 S.2.1 d_AutomatonMaker_together_66 ?_
        obtain ⟨t14, ht14, hf⟩ := xb hf
        refine x_iald S hw ht14 d_AutomatonMaker_together_67 ?_
        obtain ⟨t15, ht15, hf⟩ := xb hf
        refine x_iald S hw ht15 d_AutomatonMaker_together_68 ?_
        refine lv_icmp_ne (tgt := 76) S.1 S.2.1 d_AutomatonMaker_together_69 (by decide) (fun c16 => ?_) (fun c16 => ?_)
        · replace hf := xf c16 hf
          refine lv_iconst (v := 0) S.1 S.2.1 d_AutomatonMaker_together_76 (by decide) ?_
          refine lv_istore_n (lv' := [(3, .int 0), (0, .ref a0), (1, .int x1), (2, .int x2), (4, .int x4)]) S.1 S.2.1 d_AutomatonMaker_together_77 rfl hl (by decide) rfl (fun ls hl => ?_)
          refine lv_iinc (v := (x4 + 1)) (lv' := [(4, .int (x4 + 1)), (3, .int 0), (0, .ref a0), (1, .int x1), (2, .int x2)]) S.1 S.2.1 d_AutomatonMaker_together_78 hl (k := 4) rfl rfl (by decide) rfl (fun ls hl => ?_)
          refine lv_goto (tgt := 24) S.1 S.2.1 d_AutomatonMaker_together_81 (by decide) ?_
          exact ih _ _ _ _ _ _ _ _ hw (lv_sub hl [2, 3, 4, 1, 0] rfl) hf
        · replace hf := xt c16 hf
          refine lv_iconst (v := 1) S.1 S.2.1 d_AutomatonMaker_together_72 (by decide) ?_
          refine lv_goto (tgt := 77) S.1 S.2.1 d_AutomatonMaker_together_73 (by decide) ?_
          refine lv_istore_n (lv' := [(3, .int 1), (0, .ref a0), (1, .int x1), (2, .int x2), (4, .int x4)]) S.1 S.2.1 d_AutomatonMaker_together_77 rfl hl (by decide) rfl (fun ls hl => ?_)
          refine lv_iinc (v := (x4 + 1)) (lv' := [(4, .int (x4 + 1)), (3, .int 1), (0, .ref a0), (1, .int x1), (2, .int x2)]) S.1 S.2.1 d_AutomatonMaker_together_78 hl (k := 4) rfl rfl (by decide) rfl (fun ls hl => ?_)
          refine lv_goto (tgt := 24) S.1 S.2.1 d_AutomatonMaker_together_81 (by decide) ?_
          exact ih _ _ _ _ _ _ _ _ hw (lv_sub hl [2, 3, 4, 1, 0] rfl) hf
def f_AutomatonMaker_together (a0 : Nat) (x1 : Int32) (x2 : Int32) (ω : xS) : Option Int32 :=
  (xgr ω a0 1 4).bind fun t1 =>
  (xai ω t1 x1).bind fun t2 =>
  (xgr ω a0 1 4).bind fun t3 =>
  (xai ω t3 x2).bind fun t4 =>
  if t2 = t4 then (
    f_AutomatonMaker_together_24  xFU a0 x1 x2 1 0 ω)
  else (
    f_AutomatonMaker_together_24  xFU a0 x1 x2 0 0 ω)
set_option maxHeartbeats 4000000 in
set_option maxRecDepth 100000 in
theorem c_AutomatonMaker_together {l : Launch} {E : xV} {z : Nat} {a0 : Nat} {x1 : Int32} {x2 : Int32} {r : Int32} {ω : xS} (hf : f_AutomatonMaker_together a0 x1 x2 ω = some r) : xM l E y_AutomatonMaker_together ws_AutomatonMaker_together { frames := 0, cells := 0, slots := 0, locals := 0 } [.ref a0, .int x1, .int x2] z ω (some (.int r)) z ω := by
  refine x_start (cc := b_AutomatonMaker_together) (maxL := 5) (ret := (some .boolean)) (by decide) rfl (Nat.le_of_ble_eq_true rfl) ?_
  intro p e s m below meth c S hr hlocks hin ls hl hw
  have hl : lv_has ls 5 [(0, .ref a0), (1, .int x1), (2, .int x2)] := hl
  unfold f_AutomatonMaker_together at hf
  refine lv_aload_n S.1 S.2.1 d_AutomatonMaker_together_0 rfl (lv_at hl 0 rfl) ?_
  obtain ⟨t1, ht1, hf⟩ := xb hf
  refine x_getr S hw lk_AutomatonMaker_26 ht1 d_AutomatonMaker_together_1 ?_
  refine lv_iload_n S.1 S.2.1 d_AutomatonMaker_together_4 rfl (lv_at hl 1 rfl) ?_
  obtain ⟨t2, ht2, hf⟩ := xb hf
  refine x_iald S hw ht2 d_AutomatonMaker_together_5 ?_
  refine lv_aload_n S.1 S.2.1 d_AutomatonMaker_together_6 rfl (lv_at hl 0 rfl) ?_
  obtain ⟨t3, ht3, hf⟩ := xb hf
  refine x_getr S hw lk_AutomatonMaker_26 ht3 d_AutomatonMaker_together_7 ?_
  refine lv_iload_n S.1 S.2.1 d_AutomatonMaker_together_10 rfl (lv_at hl 2 rfl) ?_
  obtain ⟨t4, ht4, hf⟩ := xb hf
  refine x_iald S hw ht4 d_AutomatonMaker_together_11 ?_
  refine lv_icmp_ne (tgt := 19) S.1 S.2.1 d_AutomatonMaker_together_12 (by decide) (fun c5 => ?_) (fun c5 => ?_)
  · replace hf := xf c5 hf
    refine lv_iconst (v := 0) S.1 S.2.1 d_AutomatonMaker_together_19 (by decide) ?_
    refine lv_istore_n (lv' := [(3, .int 0), (0, .ref a0), (1, .int x1), (2, .int x2)]) S.1 S.2.1 d_AutomatonMaker_together_20 rfl hl (by decide) rfl (fun ls hl => ?_)
    refine lv_iconst (v := 0) S.1 S.2.1 d_AutomatonMaker_together_21 (by decide) ?_
    refine lv_istore (lv' := [(4, .int 0), (3, .int 0), (0, .ref a0), (1, .int x1), (2, .int x2)]) S.1 S.2.1 d_AutomatonMaker_together_22 hl (by decide) rfl (fun ls hl => ?_)
    exact w_AutomatonMaker_together_24 S hr hlocks  _ _ _ _ _ _ _ _ _ hw (lv_sub hl [2, 3, 4, 1, 0] rfl) hf
  · replace hf := xt c5 hf
    refine lv_iconst (v := 1) S.1 S.2.1 d_AutomatonMaker_together_15 (by decide) ?_
    refine lv_goto (tgt := 20) S.1 S.2.1 d_AutomatonMaker_together_16 (by decide) ?_
    refine lv_istore_n (lv' := [(3, .int 1), (0, .ref a0), (1, .int x1), (2, .int x2)]) S.1 S.2.1 d_AutomatonMaker_together_20 rfl hl (by decide) rfl (fun ls hl => ?_)
    refine lv_iconst (v := 0) S.1 S.2.1 d_AutomatonMaker_together_21 (by decide) ?_
    refine lv_istore (lv' := [(4, .int 0), (3, .int 1), (0, .ref a0), (1, .int x1), (2, .int x2)]) S.1 S.2.1 d_AutomatonMaker_together_22 hl (by decide) rfl (fun ls hl => ?_)
    exact w_AutomatonMaker_together_24 S hr hlocks  _ _ _ _ _ _ _ _ _ hw (lv_sub hl [2, 3, 4, 1, 0] rfl) hf
def f_AutomatonMaker_slotOf_57 : Nat → Nat → Int32 → Int32 → Int32 → xS → Option Int32
  | 0, _, _, _, _, _ => none
  | n + 1, a0, x1, x3, x4, ω =>
    if 2048 ≤ x4 then (
      some x3)
    else (
      (xgr ω a0 1 3).bind fun t9 =>
      (xai ω t9 x3).bind fun t10 =>
      if t10 = 0 then (
        some x3)
      else (
        (xgr ω a0 1 3).bind fun t12 =>
        (xai ω t12 x3).bind fun t13 =>
        (xk ω a0 1 (f_AutomatonMaker_together a0 (t13 - 1) x1 ω)).bind fun t15 =>
        if t15 = 0 then (
          f_AutomatonMaker_slotOf_57  n a0 x1 ((x3 + 1) &&& 2047) (x4 + 1) ω)
        else (
          some x3)))
set_option maxHeartbeats 4000000 in
set_option maxRecDepth 100000 in
theorem w_AutomatonMaker_slotOf_57 {p : Program} {l : Launch} {e : Env} {s : State} {m : MethodId} {args : Array Value} {below : List Frame} {meth : Method} {c : Code} {E : xV} {z : Nat} {r : Int32} {ω : xS} (S : CallFix p m c b_AutomatonMaker_slotOf 5 s args xTbl "RosterRules$AutomatonMaker") (hr : meth.sig.returnType = (some .int)) (hlocks : meth.locks = false) : ∀ n : Nat, ∀ (a0 : Nat) (x1 : Int32) (x3 : Int32) (x4 : Int32) (H : Heap) (locs : List Loc) (ls : Array Slot), xW E z ω s s.heap H locs → lv_has ls 5 [(0, .ref a0), (1, .int x1), (3, .int x3), (4, .int x4)] → f_AutomatonMaker_slotOf_57 n a0 x1 x3 x4 ω = some r → W p l e (headSpec ws_AutomatonMaker_slotOf { frames := 1, cells := 0, slots := 0, locals := 24 }).room s m args below meth c H locs 0 0 (MQ below (xQ E (some (.int r)) z ω) args s 0 0 (fun q => E.2.2 ≤ q)) (F0 m 57 ls []) := by
  intro n
  induction n with
  | zero =>
    intro a0 x1 x3 x4 H locs ls hw hl hf
    have h2 : (none : Option Int32) = some r := hf
    cases h2
  | succ n ih =>
    intro a0 x1 x3 x4 H locs ls hw hl hf
    rw [f_AutomatonMaker_slotOf_57] at hf
    refine lv_iload S.1 S.2.1 d_AutomatonMaker_slotOf_57 (lv_at hl 3 rfl) ?_
    refine lv_sipush (v := 2048) S.1 S.2.1 d_AutomatonMaker_slotOf_59 (by decide) ?_
    refine lv_icmp_ge (tgt := 104) S.1 S.2.1 d_AutomatonMaker_slotOf_62 (by decide) (fun c8 => ?_) (fun c8 => ?_)
    · replace hf := xt c8 hf
      refine lv_iload_n S.1 S.2.1 d_AutomatonMaker_slotOf_104 rfl (lv_at hl 2 rfl) ?_
      obtain rfl := xe1 hf
      exact x_iret S hr hlocks hw d_AutomatonMaker_slotOf_105
    · replace hf := xf c8 hf
      refine lv_aload_n S.1 S.2.1 d_AutomatonMaker_slotOf_65 rfl (lv_at hl 0 rfl) ?_
      obtain ⟨t9, ht9, hf⟩ := xb hf
      refine x_getr S hw lk_AutomatonMaker_23 ht9 d_AutomatonMaker_slotOf_66 ?_
      refine lv_iload_n S.1 S.2.1 d_AutomatonMaker_slotOf_69 rfl (lv_at hl 2 rfl) ?_
      obtain ⟨t10, ht10, hf⟩ := xb hf
      refine x_iald S hw ht10 d_AutomatonMaker_slotOf_70 ?_
      refine lv_if_eq (tgt := 104) S.1 S.2.1 d_AutomatonMaker_slotOf_71 (by decide) (fun c11 => ?_) (fun c11 => ?_)
      · replace hf := xt c11 hf
        refine lv_iload_n S.1 S.2.1 d_AutomatonMaker_slotOf_104 rfl (lv_at hl 2 rfl) ?_
        obtain rfl := xe1 hf
        exact x_iret S hr hlocks hw d_AutomatonMaker_slotOf_105
      · replace hf := xf c11 hf
        refine lv_aload_n S.1 S.2.1 d_AutomatonMaker_slotOf_74 rfl (lv_at hl 0 rfl) ?_
        refine lv_aload_n S.1 S.2.1 d_AutomatonMaker_slotOf_75 rfl (lv_at hl 0 rfl) ?_
        obtain ⟨t12, ht12, hf⟩ := xb hf
        refine x_getr S hw lk_AutomatonMaker_23 ht12 d_AutomatonMaker_slotOf_76 ?_
        refine lv_iload_n S.1 S.2.1 d_AutomatonMaker_slotOf_79 rfl (lv_at hl 2 rfl) ?_
        obtain ⟨t13, ht13, hf⟩ := xb hf
        refine x_iald S hw ht13 d_AutomatonMaker_slotOf_80 ?_
        refine lv_iconst (v := 1) S.1 S.2.1 d_AutomatonMaker_slotOf_81 (by decide) ?_
        refine lv_isub S.1 S.2.1 d_AutomatonMaker_slotOf_82 ?_
        refine lv_iload_n S.1 S.2.1 d_AutomatonMaker_slotOf_83 rfl (lv_at hl 1 rfl) ?_
        obtain ⟨t15, h14, hf⟩ := xb hf
        obtain ⟨h14b, h14⟩ := xkb h14
        refine x_callV (As := [.int (t13 - 1), .int x1]) (rest := []) (st1 := [.int t15]) S hw (c_AutomatonMaker_together h14) (cwV 2 S.2.2.2.2 gv_AutomatonMaker_92 rfl rfl rfl hd_AutomatonMaker_together ⟨Nat.le_of_ble_eq_true rfl, Nat.le_of_ble_eq_true rfl⟩) rfl h14b rfl hl.1 rfl rfl (Nat.le_of_ble_eq_true rfl) d_AutomatonMaker_slotOf_84 ⟨Nat.le_of_ble_eq_true rfl, Nat.le_of_ble_eq_true rfl⟩ (fun H locs hw => ?_)
        refine lv_if_ne (tgt := 104) S.1 S.2.1 d_AutomatonMaker_slotOf_87 (by decide) (fun c16 => ?_) (fun c16 => ?_)
        · replace hf := xf c16 hf
          refine lv_iload_n S.1 S.2.1 d_AutomatonMaker_slotOf_104 rfl (lv_at hl 2 rfl) ?_
          obtain rfl := xe1 hf
          exact x_iret S hr hlocks hw d_AutomatonMaker_slotOf_105
        · replace hf := xt c16 hf
          refine lv_iload_n S.1 S.2.1 d_AutomatonMaker_slotOf_90 rfl (lv_at hl 2 rfl) ?_
          refine lv_iconst (v := 1) S.1 S.2.1 d_AutomatonMaker_slotOf_91 (by decide) ?_
          refine lv_iadd S.1 S.2.1 d_AutomatonMaker_slotOf_92 ?_
          refine lv_sipush (v := 2047) S.1 S.2.1 d_AutomatonMaker_slotOf_93 (by decide) ?_
          refine lv_iand S.1 S.2.1 d_AutomatonMaker_slotOf_96 ?_
          refine lv_istore_n (lv' := [(3, .int ((x3 + 1) &&& 2047)), (0, .ref a0), (1, .int x1), (4, .int x4)]) S.1 S.2.1 d_AutomatonMaker_slotOf_97 rfl hl (by decide) rfl (fun ls hl => ?_)
          refine lv_iinc (v := (x4 + 1)) (lv' := [(4, .int (x4 + 1)), (3, .int ((x3 + 1) &&& 2047)), (0, .ref a0), (1, .int x1)]) S.1 S.2.1 d_AutomatonMaker_slotOf_98 hl (k := 3) rfl rfl (by decide) rfl (fun ls hl => ?_)
          refine lv_goto (tgt := 57) S.1 S.2.1 d_AutomatonMaker_slotOf_101 (by decide) ?_
          exact ih _ _ _ _ _ _ _ hw (lv_sub hl [2, 3, 1, 0] rfl) hf
def f_AutomatonMaker_slotOf_9 : Nat → Nat → Int32 → Int32 → Int32 → xS → Option Int32
  | 0, _, _, _, _, _ => none
  | n + 1, a0, x1, x2, x3, ω =>
    if 9 ≤ x3 then (
      f_AutomatonMaker_slotOf_57  xFU a0 x1 ((x2 ^^^ (xiushr x2 11)) &&& 2047) 0 ω)
    else (
      (xgr ω a0 1 4).bind fun t4 =>
      (xgr ω a0 1 2).bind fun t5 =>
      (xai ω t5 ((x1 * 9) + x3)).bind fun t6 =>
      (xai ω t4 t6).bind fun t7 =>
      f_AutomatonMaker_slotOf_9  n a0 x1 ((x2 * 31) + t7) (x3 + 1) ω)
set_option maxHeartbeats 4000000 in
set_option maxRecDepth 100000 in
theorem w_AutomatonMaker_slotOf_9 {p : Program} {l : Launch} {e : Env} {s : State} {m : MethodId} {args : Array Value} {below : List Frame} {meth : Method} {c : Code} {E : xV} {z : Nat} {r : Int32} {ω : xS} (S : CallFix p m c b_AutomatonMaker_slotOf 5 s args xTbl "RosterRules$AutomatonMaker") (hr : meth.sig.returnType = (some .int)) (hlocks : meth.locks = false) : ∀ n : Nat, ∀ (a0 : Nat) (x1 : Int32) (x2 : Int32) (x3 : Int32) (H : Heap) (locs : List Loc) (ls : Array Slot), xW E z ω s s.heap H locs → lv_has ls 5 [(0, .ref a0), (1, .int x1), (2, .int x2), (3, .int x3)] → f_AutomatonMaker_slotOf_9 n a0 x1 x2 x3 ω = some r → W p l e (headSpec ws_AutomatonMaker_slotOf { frames := 1, cells := 0, slots := 0, locals := 24 }).room s m args below meth c H locs 0 0 (MQ below (xQ E (some (.int r)) z ω) args s 0 0 (fun q => E.2.2 ≤ q)) (F0 m 9 ls []) := by
  intro n
  induction n with
  | zero =>
    intro a0 x1 x2 x3 H locs ls hw hl hf
    have h2 : (none : Option Int32) = some r := hf
    cases h2
  | succ n ih =>
    intro a0 x1 x2 x3 H locs ls hw hl hf
    rw [f_AutomatonMaker_slotOf_9] at hf
    refine lv_iload_n S.1 S.2.1 d_AutomatonMaker_slotOf_9 rfl (lv_at hl 3 rfl) ?_
    refine lv_bipush (v := 9) S.1 S.2.1 d_AutomatonMaker_slotOf_10 (by decide) ?_
    refine lv_icmp_ge (tgt := 43) S.1 S.2.1 d_AutomatonMaker_slotOf_12 (by decide) (fun c3 => ?_) (fun c3 => ?_)
    · replace hf := xt c3 hf
      refine lv_iload_n S.1 S.2.1 d_AutomatonMaker_slotOf_43 rfl (lv_at hl 2 rfl) ?_
      refine lv_iload_n S.1 S.2.1 d_AutomatonMaker_slotOf_44 rfl (lv_at hl 2 rfl) ?_
      refine lv_bipush (v := 11) S.1 S.2.1 d_AutomatonMaker_slotOf_45 (by decide) ?_
      refine lv_iushr (v := (xiushr x2 11)) S.1 S.2.1 d_AutomatonMaker_slotOf_47 rfl ?_
      refine lv_ixor S.1 S.2.1 d_AutomatonMaker_slotOf_48 ?_
      refine lv_sipush (v := 2047) S.1 S.2.1 d_AutomatonMaker_slotOf_49 (by decide) ?_
      refine lv_iand S.1 S.2.1 d_AutomatonMaker_slotOf_52 ?_
      refine lv_istore_n (lv' := [(3, .int ((x2 ^^^ (xiushr x2 11)) &&& 2047)), (0, .ref a0), (1, .int x1), (2, .int x2)]) S.1 S.2.1 d_AutomatonMaker_slotOf_53 rfl hl (by decide) rfl (fun ls hl => ?_)
      refine lv_iconst (v := 0) S.1 S.2.1 d_AutomatonMaker_slotOf_54 (by decide) ?_
      refine lv_istore (lv' := [(4, .int 0), (3, .int ((x2 ^^^ (xiushr x2 11)) &&& 2047)), (0, .ref a0), (1, .int x1), (2, .int x2)]) S.1 S.2.1 d_AutomatonMaker_slotOf_55 hl (by decide) rfl (fun ls hl => ?_)
      exact w_AutomatonMaker_slotOf_57 S hr hlocks  _ _ _ _ _ _ _ _ hw (lv_sub hl [2, 3, 1, 0] rfl) hf
    · replace hf := xf c3 hf
      refine lv_iload_n S.1 S.2.1 d_AutomatonMaker_slotOf_15 rfl (lv_at hl 2 rfl) ?_
      refine lv_bipush (v := 31) S.1 S.2.1 d_AutomatonMaker_slotOf_16 (by decide) ?_
      refine lv_imul S.1 S.2.1 d_AutomatonMaker_slotOf_18 ?_
      refine lv_aload_n S.1 S.2.1 d_AutomatonMaker_slotOf_19 rfl (lv_at hl 0 rfl) ?_
      obtain ⟨t4, ht4, hf⟩ := xb hf
      refine x_getr S hw lk_AutomatonMaker_26 ht4 d_AutomatonMaker_slotOf_20 ?_
      refine lv_aload_n S.1 S.2.1 d_AutomatonMaker_slotOf_23 rfl (lv_at hl 0 rfl) ?_
      obtain ⟨t5, ht5, hf⟩ := xb hf
      refine x_getr S hw lk_AutomatonMaker_20 ht5 d_AutomatonMaker_slotOf_24 ?_
      refine lv_iload_n S.1 S.2.1 d_AutomatonMaker_slotOf_27 rfl (lv_at hl 1 rfl) ?_
      refine lv_bipush (v := 9) S.1 S.2.1 d_AutomatonMaker_slotOf_28 (by decide) ?_
      refine lv_imul S.1 S.2.1 d_AutomatonMaker_slotOf_30 ?_
      refine lv_iload_n S.1 S.2.1 d_AutomatonMaker_slotOf_31 rfl (lv_at hl 3 rfl) ?_
      refine lv_iadd S.1 S.2.1 d_AutomatonMaker_slotOf_32 ?_
      obtain ⟨t6, ht6, hf⟩ := xb hf
      refine x_iald S hw ht6 d_AutomatonMaker_slotOf_33 ?_
      obtain ⟨t7, ht7, hf⟩ := xb hf
      refine x_iald S hw ht7 d_AutomatonMaker_slotOf_34 ?_
      refine lv_iadd S.1 S.2.1 d_AutomatonMaker_slotOf_35 ?_
      refine lv_istore_n (lv' := [(2, .int ((x2 * 31) + t7)), (0, .ref a0), (1, .int x1), (3, .int x3)]) S.1 S.2.1 d_AutomatonMaker_slotOf_36 rfl hl (by decide) rfl (fun ls hl => ?_)
      refine lv_iinc (v := (x3 + 1)) (lv' := [(3, .int (x3 + 1)), (2, .int ((x2 * 31) + t7)), (0, .ref a0), (1, .int x1)]) S.1 S.2.1 d_AutomatonMaker_slotOf_37 hl (k := 3) rfl rfl (by decide) rfl (fun ls hl => ?_)
      refine lv_goto (tgt := 9) S.1 S.2.1 d_AutomatonMaker_slotOf_40 (by decide) ?_
      exact ih _ _ _ _ _ _ _ hw (lv_sub hl [2, 3, 1, 0] rfl) hf
def f_AutomatonMaker_slotOf (a0 : Nat) (x1 : Int32) (ω : xS) : Option Int32 :=
  (xgr ω a0 1 4).bind fun t1 =>
  (xai ω t1 x1).bind fun t2 =>
  f_AutomatonMaker_slotOf_9  xFU a0 x1 t2 0 ω
set_option maxHeartbeats 4000000 in
set_option maxRecDepth 100000 in
theorem c_AutomatonMaker_slotOf {l : Launch} {E : xV} {z : Nat} {a0 : Nat} {x1 : Int32} {r : Int32} {ω : xS} (hf : f_AutomatonMaker_slotOf a0 x1 ω = some r) : xM l E y_AutomatonMaker_slotOf ws_AutomatonMaker_slotOf { frames := 1, cells := 0, slots := 0, locals := 24 } [.ref a0, .int x1] z ω (some (.int r)) z ω := by
  refine x_start (cc := b_AutomatonMaker_slotOf) (maxL := 5) (ret := (some .int)) (by decide) rfl (Nat.le_of_ble_eq_true rfl) ?_
  intro p e s m below meth c S hr hlocks hin ls hl hw
  have hl : lv_has ls 5 [(0, .ref a0), (1, .int x1)] := hl
  unfold f_AutomatonMaker_slotOf at hf
  refine lv_aload_n S.1 S.2.1 d_AutomatonMaker_slotOf_0 rfl (lv_at hl 0 rfl) ?_
  obtain ⟨t1, ht1, hf⟩ := xb hf
  refine x_getr S hw lk_AutomatonMaker_26 ht1 d_AutomatonMaker_slotOf_1 ?_
  refine lv_iload_n S.1 S.2.1 d_AutomatonMaker_slotOf_4 rfl (lv_at hl 1 rfl) ?_
  obtain ⟨t2, ht2, hf⟩ := xb hf
  refine x_iald S hw ht2 d_AutomatonMaker_slotOf_5 ?_
  refine lv_istore_n (lv' := [(2, .int t2), (0, .ref a0), (1, .int x1)]) S.1 S.2.1 d_AutomatonMaker_slotOf_6 rfl hl (by decide) rfl (fun ls hl => ?_)
  refine lv_iconst (v := 0) S.1 S.2.1 d_AutomatonMaker_slotOf_7 (by decide) ?_
  refine lv_istore_n (lv' := [(3, .int 0), (2, .int t2), (0, .ref a0), (1, .int x1)]) S.1 S.2.1 d_AutomatonMaker_slotOf_8 rfl hl (by decide) rfl (fun ls hl => ?_)
  exact w_AutomatonMaker_slotOf_9 S hr hlocks  _ _ _ _ _ _ _ _ hw (lv_sub hl [2, 3, 1, 0] rfl) hf
def f_AutomatonMaker_refine_26 : Nat → Nat → Int32 → Int32 → xS → Option (Int32 × xS)
  | 0, _, _, _, _ => none
  | n + 1, a0, x1, x2, ω =>
    (xgi ω a0 1 8).bind fun t4 =>
    if t4 ≤ x2 then (
      (xgr ω a0 1 4).bind fun t6 =>
      (xgr ω a0 1 5).bind fun t7 =>
      (xp ω a0 1 4 (.ref t7)).bind fun w8 =>
      (xp w8 a0 1 5 (.ref t6)).bind fun w9 =>
      some (x1, w9))
    else (
      (xk ω a0 1 (f_AutomatonMaker_slotOf a0 x2 ω)).bind fun t11 =>
      (xgr ω a0 1 3).bind fun t12 =>
      (xai ω t12 t11).bind fun t13 =>
      if t13 = 0 then (
        (xgr ω a0 1 3).bind fun t21 =>
        (xsi ω t21 t11 (x2 + 1)).bind fun w22 =>
        (xgr w22 a0 1 5).bind fun t23 =>
        (xsi w22 t23 x2 x1).bind fun w24 =>
        f_AutomatonMaker_refine_26  n a0 (x1 + 1) (x2 + 1) w24)
      else (
        (xgr ω a0 1 5).bind fun t15 =>
        (xgr ω a0 1 5).bind fun t16 =>
        (xgr ω a0 1 3).bind fun t17 =>
        (xai ω t17 t11).bind fun t18 =>
        (xai ω t16 (t18 - 1)).bind fun t19 =>
        (xsi ω t15 x2 t19).bind fun w20 =>
        f_AutomatonMaker_refine_26  n a0 x1 (x2 + 1) w20))
set_option maxHeartbeats 4000000 in
set_option maxRecDepth 100000 in
theorem w_AutomatonMaker_refine_26 {p : Program} {l : Launch} {e : Env} {s : State} {m : MethodId} {args : Array Value} {below : List Frame} {meth : Method} {c : Code} {E : xV} {z : Nat} {r : Int32} {ω1 : xS} (S : CallFix p m c b_AutomatonMaker_refine 4 s args xTbl "RosterRules$AutomatonMaker") (hr : meth.sig.returnType = (some .int)) (hlocks : meth.locks = false) : ∀ n : Nat, ∀ (a0 : Nat) (x1 : Int32) (x2 : Int32) (ω : xS) (H : Heap) (locs : List Loc) (ls : Array Slot), xW E z ω s s.heap H locs → lv_has ls 4 [(0, .ref a0), (1, .int x1), (2, .int x2)] → f_AutomatonMaker_refine_26 n a0 x1 x2 ω = some (r, ω1) → W p l e (headSpec ws_AutomatonMaker_refine { frames := 2, cells := 0, slots := 0, locals := 48 }).room s m args below meth c H locs 0 0 (MQ below (xQ E (some (.int r)) z ω1) args s 0 0 (fun q => E.2.2 ≤ q)) (F0 m 26 ls []) := by
  intro n
  induction n with
  | zero =>
    intro a0 x1 x2 ω H locs ls hw hl hf
    have h2 : (none : Option (Int32 × xS)) = some (r, ω1) := hf
    cases h2
  | succ n ih =>
    intro a0 x1 x2 ω H locs ls hw hl hf
    rw [f_AutomatonMaker_refine_26] at hf
    refine lv_iload_n S.1 S.2.1 d_AutomatonMaker_refine_26 rfl (lv_at hl 2 rfl) ?_
    refine lv_aload_n S.1 S.2.1 d_AutomatonMaker_refine_27 rfl (lv_at hl 0 rfl) ?_
    obtain ⟨t4, ht4, hf⟩ := xb hf
    refine x_geti S hw lk_AutomatonMaker_47 ht4 d_AutomatonMaker_refine_28 ?_
    refine lv_icmp_ge (tgt := 96) S.1 S.2.1 d_AutomatonMaker_refine_31 (by decide) (fun c5 => ?_) (fun c5 => ?_)
    · replace hf := xt c5 hf
      refine lv_aload_n S.1 S.2.1 d_AutomatonMaker_refine_96 rfl (lv_at hl 0 rfl) ?_
      obtain ⟨t6, ht6, hf⟩ := xb hf
      refine x_getr S hw lk_AutomatonMaker_26 ht6 d_AutomatonMaker_refine_97 ?_
      refine lv_astore_n (lv' := [(2, .ref t6), (0, .ref a0), (1, .int x1)]) S.1 S.2.1 d_AutomatonMaker_refine_100 rfl hl (by decide) rfl (fun ls hl => ?_)
      refine lv_aload_n S.1 S.2.1 d_AutomatonMaker_refine_101 rfl (lv_at hl 1 rfl) ?_
      refine lv_aload_n S.1 S.2.1 d_AutomatonMaker_refine_102 rfl (lv_at hl 1 rfl) ?_
      obtain ⟨t7, ht7, hf⟩ := xb hf
      refine x_getr S hw lk_AutomatonMaker_29 ht7 d_AutomatonMaker_refine_103 ?_
      obtain ⟨w8, hw8, hf⟩ := xb hf
      refine x_put S hw lp_AutomatonMaker_26 (rfl) rfl hw8 d_AutomatonMaker_refine_106 (fun H locs hw => ?_)
      refine lv_aload_n S.1 S.2.1 d_AutomatonMaker_refine_109 rfl (lv_at hl 1 rfl) ?_
      refine lv_aload_n S.1 S.2.1 d_AutomatonMaker_refine_110 rfl (lv_at hl 0 rfl) ?_
      obtain ⟨w9, hw9, hf⟩ := xb hf
      refine x_put S hw lp_AutomatonMaker_29 (rfl) rfl hw9 d_AutomatonMaker_refine_111 (fun H locs hw => ?_)
      refine lv_iload_n S.1 S.2.1 d_AutomatonMaker_refine_114 rfl (lv_at hl 2 rfl) ?_
      obtain ⟨rfl, rfl⟩ := xe2 hf
      exact x_iret S hr hlocks hw d_AutomatonMaker_refine_115
    · replace hf := xf c5 hf
      refine lv_aload_n S.1 S.2.1 d_AutomatonMaker_refine_34 rfl (lv_at hl 0 rfl) ?_
      refine lv_iload_n S.1 S.2.1 d_AutomatonMaker_refine_35 rfl (lv_at hl 2 rfl) ?_
      obtain ⟨t11, h10, hf⟩ := xb hf
      obtain ⟨h10b, h10⟩ := xkb h10
      refine x_callV (As := [.int x2]) (rest := []) (st1 := [.int t11]) S hw (c_AutomatonMaker_slotOf h10) (cwV 1 S.2.2.2.2 gv_AutomatonMaker_89 rfl rfl rfl hd_AutomatonMaker_slotOf ⟨Nat.le_of_ble_eq_true rfl, Nat.le_of_ble_eq_true rfl⟩) rfl h10b rfl hl.1 rfl rfl (Nat.le_of_ble_eq_true rfl) d_AutomatonMaker_refine_36 ⟨Nat.le_of_ble_eq_true rfl, Nat.le_of_ble_eq_true rfl⟩ (fun H locs hw => ?_)
      refine lv_istore_n (lv' := [(3, .int t11), (0, .ref a0), (1, .int x1), (2, .int x2)]) S.1 S.2.1 d_AutomatonMaker_refine_39 rfl hl (by decide) rfl (fun ls hl => ?_)
      refine lv_aload_n S.1 S.2.1 d_AutomatonMaker_refine_40 rfl (lv_at hl 1 rfl) ?_
      obtain ⟨t12, ht12, hf⟩ := xb hf
      refine x_getr S hw lk_AutomatonMaker_23 ht12 d_AutomatonMaker_refine_41 ?_
      refine lv_iload_n S.1 S.2.1 d_AutomatonMaker_refine_44 rfl (lv_at hl 0 rfl) ?_
      obtain ⟨t13, ht13, hf⟩ := xb hf
      refine x_iald S hw ht13 d_AutomatonMaker_refine_45 ?_
      refine lv_if_ne (tgt := 71) S.1 S.2.1 d_AutomatonMaker_refine_46 (by decide) (fun c14 => ?_) (fun c14 => ?_)
      · replace hf := xf c14 hf
        refine lv_aload_n S.1 S.2.1 d_AutomatonMaker_refine_71 rfl (lv_at hl 1 rfl) ?_
        obtain ⟨t15, ht15, hf⟩ := xb hf
        refine x_getr S hw lk_AutomatonMaker_29 ht15 d_AutomatonMaker_refine_72 ?_
        refine lv_iload_n S.1 S.2.1 d_AutomatonMaker_refine_75 rfl (lv_at hl 3 rfl) ?_
        refine lv_aload_n S.1 S.2.1 d_AutomatonMaker_refine_76 rfl (lv_at hl 1 rfl) ?_
        obtain ⟨t16, ht16, hf⟩ := xb hf
        refine x_getr S hw lk_AutomatonMaker_29 ht16 d_AutomatonMaker_refine_77 ?_
        refine lv_aload_n S.1 S.2.1 d_AutomatonMaker_refine_80 rfl (lv_at hl 1 rfl) ?_
        obtain ⟨t17, ht17, hf⟩ := xb hf
        refine x_getr S hw lk_AutomatonMaker_23 ht17 d_AutomatonMaker_refine_81 ?_
        refine lv_iload_n S.1 S.2.1 d_AutomatonMaker_refine_84 rfl (lv_at hl 0 rfl) ?_
        obtain ⟨t18, ht18, hf⟩ := xb hf
        refine x_iald S hw ht18 d_AutomatonMaker_refine_85 ?_
        refine lv_iconst (v := 1) S.1 S.2.1 d_AutomatonMaker_refine_86 (by decide) ?_
        refine lv_isub S.1 S.2.1 d_AutomatonMaker_refine_87 ?_
        obtain ⟨t19, ht19, hf⟩ := xb hf
        refine x_iald S hw ht19 d_AutomatonMaker_refine_88 ?_
        obtain ⟨w20, hw20, hf⟩ := xb hf
        refine x_iast S hw hw20 d_AutomatonMaker_refine_89 (fun H locs hw => ?_)
        refine lv_iinc (v := (x2 + 1)) (lv' := [(2, .int (x2 + 1)), (3, .int t11), (0, .ref a0), (1, .int x1)]) S.1 S.2.1 d_AutomatonMaker_refine_90 hl (k := 3) rfl rfl (by decide) rfl (fun ls hl => ?_)
        refine lv_goto (tgt := 26) S.1 S.2.1 d_AutomatonMaker_refine_93 (by decide) ?_
        exact ih _ _ _ _ _ _ _ hw (lv_sub hl [2, 3, 0] rfl) hf
      · replace hf := xt c14 hf
        refine lv_aload_n S.1 S.2.1 d_AutomatonMaker_refine_49 rfl (lv_at hl 1 rfl) ?_
        obtain ⟨t21, ht21, hf⟩ := xb hf
        refine x_getr S hw lk_AutomatonMaker_23 ht21 d_AutomatonMaker_refine_50 ?_
        refine lv_iload_n S.1 S.2.1 d_AutomatonMaker_refine_53 rfl (lv_at hl 0 rfl) ?_
        refine lv_iload_n S.1 S.2.1 d_AutomatonMaker_refine_54 rfl (lv_at hl 3 rfl) ?_
        refine lv_iconst (v := 1) S.1 S.2.1 d_AutomatonMaker_refine_55 (by decide) ?_
        refine lv_iadd S.1 S.2.1 d_AutomatonMaker_refine_56 ?_
        obtain ⟨w22, hw22, hf⟩ := xb hf
        refine x_iast S hw hw22 d_AutomatonMaker_refine_57 (fun H locs hw => ?_)
        refine lv_aload_n S.1 S.2.1 d_AutomatonMaker_refine_58 rfl (lv_at hl 1 rfl) ?_
        obtain ⟨t23, ht23, hf⟩ := xb hf
        refine x_getr S hw lk_AutomatonMaker_29 ht23 d_AutomatonMaker_refine_59 ?_
        refine lv_iload_n S.1 S.2.1 d_AutomatonMaker_refine_62 rfl (lv_at hl 3 rfl) ?_
        refine lv_iload_n S.1 S.2.1 d_AutomatonMaker_refine_63 rfl (lv_at hl 2 rfl) ?_
        obtain ⟨w24, hw24, hf⟩ := xb hf
        refine x_iast S hw hw24 d_AutomatonMaker_refine_64 (fun H locs hw => ?_)
        refine lv_iinc (v := (x1 + 1)) (lv' := [(1, .int (x1 + 1)), (3, .int t11), (0, .ref a0), (2, .int x2)]) S.1 S.2.1 d_AutomatonMaker_refine_65 hl (k := 2) rfl rfl (by decide) rfl (fun ls hl => ?_)
        refine lv_goto (tgt := 90) S.1 S.2.1 d_AutomatonMaker_refine_68 (by decide) ?_
        refine lv_iinc (v := (x2 + 1)) (lv' := [(2, .int (x2 + 1)), (1, .int (x1 + 1)), (3, .int t11), (0, .ref a0)]) S.1 S.2.1 d_AutomatonMaker_refine_90 hl (k := 3) rfl rfl (by decide) rfl (fun ls hl => ?_)
        refine lv_goto (tgt := 26) S.1 S.2.1 d_AutomatonMaker_refine_93 (by decide) ?_
        exact ih _ _ _ _ _ _ _ hw (lv_sub hl [3, 1, 0] rfl) hf
def f_AutomatonMaker_refine_2 : Nat → Nat → Int32 → xS → Option (Int32 × xS)
  | 0, _, _, _ => none
  | n + 1, a0, x1, ω =>
    if 2048 ≤ x1 then (
      f_AutomatonMaker_refine_26  xFU a0 0 0 ω)
    else (
      (xgr ω a0 1 3).bind fun t2 =>
      (xsi ω t2 x1 0).bind fun w3 =>
      f_AutomatonMaker_refine_2  n a0 (x1 + 1) w3)
set_option maxHeartbeats 4000000 in
set_option maxRecDepth 100000 in
theorem w_AutomatonMaker_refine_2 {p : Program} {l : Launch} {e : Env} {s : State} {m : MethodId} {args : Array Value} {below : List Frame} {meth : Method} {c : Code} {E : xV} {z : Nat} {r : Int32} {ω1 : xS} (S : CallFix p m c b_AutomatonMaker_refine 4 s args xTbl "RosterRules$AutomatonMaker") (hr : meth.sig.returnType = (some .int)) (hlocks : meth.locks = false) : ∀ n : Nat, ∀ (a0 : Nat) (x1 : Int32) (ω : xS) (H : Heap) (locs : List Loc) (ls : Array Slot), xW E z ω s s.heap H locs → lv_has ls 4 [(0, .ref a0), (1, .int x1)] → f_AutomatonMaker_refine_2 n a0 x1 ω = some (r, ω1) → W p l e (headSpec ws_AutomatonMaker_refine { frames := 2, cells := 0, slots := 0, locals := 48 }).room s m args below meth c H locs 0 0 (MQ below (xQ E (some (.int r)) z ω1) args s 0 0 (fun q => E.2.2 ≤ q)) (F0 m 2 ls []) := by
  intro n
  induction n with
  | zero =>
    intro a0 x1 ω H locs ls hw hl hf
    have h2 : (none : Option (Int32 × xS)) = some (r, ω1) := hf
    cases h2
  | succ n ih =>
    intro a0 x1 ω H locs ls hw hl hf
    rw [f_AutomatonMaker_refine_2] at hf
    refine lv_iload_n S.1 S.2.1 d_AutomatonMaker_refine_2 rfl (lv_at hl 1 rfl) ?_
    refine lv_sipush (v := 2048) S.1 S.2.1 d_AutomatonMaker_refine_3 (by decide) ?_
    refine lv_icmp_ge (tgt := 22) S.1 S.2.1 d_AutomatonMaker_refine_6 (by decide) (fun c1 => ?_) (fun c1 => ?_)
    · replace hf := xt c1 hf
      refine lv_iconst (v := 0) S.1 S.2.1 d_AutomatonMaker_refine_22 (by decide) ?_
      refine lv_istore_n (lv' := [(1, .int 0), (0, .ref a0)]) S.1 S.2.1 d_AutomatonMaker_refine_23 rfl hl (by decide) rfl (fun ls hl => ?_)
      refine lv_iconst (v := 0) S.1 S.2.1 d_AutomatonMaker_refine_24 (by decide) ?_
      refine lv_istore_n (lv' := [(2, .int 0), (1, .int 0), (0, .ref a0)]) S.1 S.2.1 d_AutomatonMaker_refine_25 rfl hl (by decide) rfl (fun ls hl => ?_)
      exact w_AutomatonMaker_refine_26 S hr hlocks  _ _ _ _ _ _ _ _ hw (lv_sub hl [2, 1, 0] rfl) hf
    · replace hf := xf c1 hf
      refine lv_aload_n S.1 S.2.1 d_AutomatonMaker_refine_9 rfl (lv_at hl 0 rfl) ?_
      obtain ⟨t2, ht2, hf⟩ := xb hf
      refine x_getr S hw lk_AutomatonMaker_23 ht2 d_AutomatonMaker_refine_10 ?_
      refine lv_iload_n S.1 S.2.1 d_AutomatonMaker_refine_13 rfl (lv_at hl 1 rfl) ?_
      refine lv_iconst (v := 0) S.1 S.2.1 d_AutomatonMaker_refine_14 (by decide) ?_
      obtain ⟨w3, hw3, hf⟩ := xb hf
      refine x_iast S hw hw3 d_AutomatonMaker_refine_15 (fun H locs hw => ?_)
      refine lv_iinc (v := (x1 + 1)) (lv' := [(1, .int (x1 + 1)), (0, .ref a0)]) S.1 S.2.1 d_AutomatonMaker_refine_16 hl (k := 1) rfl rfl (by decide) rfl (fun ls hl => ?_)
      refine lv_goto (tgt := 2) S.1 S.2.1 d_AutomatonMaker_refine_19 (by decide) ?_
      exact ih _ _ _ _ _ _ hw (lv_sub hl [1, 0] rfl) hf
def f_AutomatonMaker_refine (a0 : Nat) (ω : xS) : Option (Int32 × xS) :=
  f_AutomatonMaker_refine_2  xFU a0 0 ω
set_option maxHeartbeats 4000000 in
set_option maxRecDepth 100000 in
theorem c_AutomatonMaker_refine {l : Launch} {E : xV} {z : Nat} {a0 : Nat} {r : Int32} {ω1 : xS} {ω : xS} (hf : f_AutomatonMaker_refine a0 ω = some (r, ω1)) : xM l E y_AutomatonMaker_refine ws_AutomatonMaker_refine { frames := 2, cells := 0, slots := 0, locals := 48 } [.ref a0] z ω (some (.int r)) z ω1 := by
  refine x_start (cc := b_AutomatonMaker_refine) (maxL := 4) (ret := (some .int)) (by decide) rfl (Nat.le_of_ble_eq_true rfl) ?_
  intro p e s m below meth c S hr hlocks hin ls hl hw
  have hl : lv_has ls 4 [(0, .ref a0)] := hl
  unfold f_AutomatonMaker_refine at hf
  refine lv_iconst (v := 0) S.1 S.2.1 d_AutomatonMaker_refine_0 (by decide) ?_
  refine lv_istore_n (lv' := [(1, .int 0), (0, .ref a0)]) S.1 S.2.1 d_AutomatonMaker_refine_1 rfl hl (by decide) rfl (fun ls hl => ?_)
  exact w_AutomatonMaker_refine_2 S hr hlocks  _ _ _ _ _ _ _ hw (lv_sub hl [1, 0] rfl) hf
def f_AutomatonMaker_copyParts_44 (k11 : Nat → Nat → Nat → Int32 → Int32 → Int32 → xS → Option xS) : Nat → Nat → Nat → Nat → Int32 → Int32 → Int32 → Int32 → xS → Option xS
  | 0, _, _, _, _, _, _, _, _ => none
  | n + 1, a0, a1, a2, x3, x4, x5, x6, ω =>
    if 9 ≤ x6 then (
      (xgr ω a2 0 0).bind fun t18 =>
      (xk ω a0 1 (f_AutomatonMaker_mayEnd a0 a1 x5 ω)).bind fun t20 =>
      if t20 = 0 then (
        (xsi ω t18 ((x4 * 10) + 9) 0).bind fun w22 =>
        k11 a0 a1 a2 x3 (x4 + 1) (x5 + 1) w22)
      else (
        (xsi ω t18 ((x4 * 10) + 9) 1).bind fun w23 =>
        k11 a0 a1 a2 x3 (x4 + 1) (x5 + 1) w23))
    else (
      (xgr ω a2 0 0).bind fun t24 =>
      (xgr ω a0 1 4).bind fun t25 =>
      (xgr ω a0 1 2).bind fun t26 =>
      (xai ω t26 ((x5 * 9) + x6)).bind fun t27 =>
      (xai ω t25 t27).bind fun t28 =>
      (xsi ω t24 ((x4 * 10) + x6) t28).bind fun w29 =>
      f_AutomatonMaker_copyParts_44 k11 n a0 a1 a2 x3 x4 x5 (x6 + 1) w29)
set_option maxHeartbeats 4000000 in
set_option maxRecDepth 100000 in
theorem w_AutomatonMaker_copyParts_44 {p : Program} {l : Launch} {e : Env} {s : State} {m : MethodId} {args : Array Value} {below : List Frame} {meth : Method} {c : Code} {E : xV} {z : Nat} {ω1 : xS} {cc0 uu0 : Nat} {k11 : Nat → Nat → Nat → Int32 → Int32 → Int32 → xS → Option xS} (S : CallFix p m c b_AutomatonMaker_copyParts 7 s args xTbl "RosterRules$AutomatonMaker") (hr : meth.sig.returnType = none) (hlocks : meth.locks = false) (hk11 : ∀ (a0 : Nat) (a1 : Nat) (a2 : Nat) (x3 : Int32) (x4 : Int32) (x5 : Int32) (ω : xS) (H : Heap) (locs : List Loc) (ls : Array Slot), xW E z ω s s.heap H locs → lv_has ls 7 [(0, .ref a0), (1, .ref a1), (2, .ref a2), (3, .int x3), (4, .int x4), (5, .int x5)] → k11 a0 a1 a2 x3 x4 x5 ω = some ω1 → W p l e (headSpec ws_AutomatonMaker_copyParts { frames := 2, cells := cc0, slots := uu0, locals := 46 }).room s m args below meth c H locs cc0 uu0 (MQ below (xQ E none z ω1) args s cc0 uu0 (fun q => E.2.2 ≤ q)) (F0 m 11 ls [])) : ∀ n : Nat, ∀ (a0 : Nat) (a1 : Nat) (a2 : Nat) (x3 : Int32) (x4 : Int32) (x5 : Int32) (x6 : Int32) (ω : xS) (H : Heap) (locs : List Loc) (ls : Array Slot), xW E z ω s s.heap H locs → lv_has ls 7 [(0, .ref a0), (1, .ref a1), (2, .ref a2), (3, .int x3), (4, .int x4), (5, .int x5), (6, .int x6)] → f_AutomatonMaker_copyParts_44 k11 n a0 a1 a2 x3 x4 x5 x6 ω = some ω1 → W p l e (headSpec ws_AutomatonMaker_copyParts { frames := 2, cells := cc0, slots := uu0, locals := 46 }).room s m args below meth c H locs cc0 uu0 (MQ below (xQ E none z ω1) args s cc0 uu0 (fun q => E.2.2 ≤ q)) (F0 m 44 ls []) := by
  intro n
  induction n with
  | zero =>
    intro a0 a1 a2 x3 x4 x5 x6 ω H locs ls hw hl hf
    have h2 : (none : Option xS) = some ω1 := hf
    cases h2
  | succ n ih =>
    intro a0 a1 a2 x3 x4 x5 x6 ω H locs ls hw hl hf
    rw [f_AutomatonMaker_copyParts_44] at hf
    refine lv_iload S.1 S.2.1 d_AutomatonMaker_copyParts_44 (lv_at hl 6 rfl) ?_
    refine lv_bipush (v := 9) S.1 S.2.1 d_AutomatonMaker_copyParts_46 (by decide) ?_
    refine lv_icmp_ge (tgt := 88) S.1 S.2.1 d_AutomatonMaker_copyParts_48 (by decide) (fun c17 => ?_) (fun c17 => ?_)
    · replace hf := xt c17 hf
      refine lv_aload_n S.1 S.2.1 d_AutomatonMaker_copyParts_88 rfl (lv_at hl 2 rfl) ?_
      obtain ⟨t18, ht18, hf⟩ := xb hf
      refine x_getr S hw lk_AutomatonMaker_102 ht18 d_AutomatonMaker_copyParts_89 ?_
      refine lv_iload S.1 S.2.1 d_AutomatonMaker_copyParts_92 (lv_at hl 4 rfl) ?_
      refine lv_bipush (v := 10) S.1 S.2.1 d_AutomatonMaker_copyParts_94 (by decide) ?_
      refine lv_imul S.1 S.2.1 d_AutomatonMaker_copyParts_96 ?_
      refine lv_bipush (v := 9) S.1 S.2.1 d_AutomatonMaker_copyParts_97 (by decide) ?_
      refine lv_iadd S.1 S.2.1 d_AutomatonMaker_copyParts_99 ?_
      refine lv_aload_n S.1 S.2.1 d_AutomatonMaker_copyParts_100 rfl (lv_at hl 0 rfl) ?_
      refine lv_aload_n S.1 S.2.1 d_AutomatonMaker_copyParts_101 rfl (lv_at hl 1 rfl) ?_
      refine lv_iload S.1 S.2.1 d_AutomatonMaker_copyParts_102 (lv_at hl 5 rfl) ?_
      obtain ⟨t20, h19, hf⟩ := xb hf
      obtain ⟨h19b, h19⟩ := xkb h19
      refine x_callV (As := [.ref a1, .int x5]) (rest := [.int ((x4 * 10) + 9), .ref t18]) (st1 := [.int t20, .int ((x4 * 10) + 9), .ref t18]) S hw (c_AutomatonMaker_mayEnd h19) (cwV 2 S.2.2.2.2 gv_AutomatonMaker_85 rfl rfl rfl hd_AutomatonMaker_mayEnd ⟨Nat.le_of_ble_eq_true rfl, Nat.le_of_ble_eq_true rfl⟩) rfl h19b rfl hl.1 rfl rfl (Nat.le_of_ble_eq_true rfl) d_AutomatonMaker_copyParts_104 ⟨(Nat.le_refl _), (Nat.le_refl _)⟩ (fun H locs hw => ?_)
      refine lv_if_eq (tgt := 114) S.1 S.2.1 d_AutomatonMaker_copyParts_107 (by decide) (fun c21 => ?_) (fun c21 => ?_)
      · replace hf := xt c21 hf
        refine lv_iconst (v := 0) S.1 S.2.1 d_AutomatonMaker_copyParts_114 (by decide) ?_
        obtain ⟨w22, hw22, hf⟩ := xb hf
        refine x_iast S hw hw22 d_AutomatonMaker_copyParts_115 (fun H locs hw => ?_)
        refine lv_iinc (v := (x4 + 1)) (lv' := [(4, .int (x4 + 1)), (0, .ref a0), (1, .ref a1), (2, .ref a2), (3, .int x3), (5, .int x5), (6, .int x6)]) S.1 S.2.1 d_AutomatonMaker_copyParts_116 hl (k := 4) rfl rfl (by decide) rfl (fun ls hl => ?_)
        refine lv_iinc (v := (x5 + 1)) (lv' := [(5, .int (x5 + 1)), (4, .int (x4 + 1)), (0, .ref a0), (1, .ref a1), (2, .ref a2), (3, .int x3), (6, .int x6)]) S.1 S.2.1 d_AutomatonMaker_copyParts_119 hl (k := 5) rfl rfl (by decide) rfl (fun ls hl => ?_)
        refine lv_goto (tgt := 11) S.1 S.2.1 d_AutomatonMaker_copyParts_122 (by decide) ?_
        exact hk11 _ _ _ _ _ _ _ _ _ _ hw (lv_sub hl [2, 3, 4, 5, 1, 0] rfl) hf
      · replace hf := xf c21 hf
        refine lv_iconst (v := 1) S.1 S.2.1 d_AutomatonMaker_copyParts_110 (by decide) ?_
        refine lv_goto (tgt := 115) S.1 S.2.1 d_AutomatonMaker_copyParts_111 (by decide) ?_
        obtain ⟨w23, hw23, hf⟩ := xb hf
        refine x_iast S hw hw23 d_AutomatonMaker_copyParts_115 (fun H locs hw => ?_)
        refine lv_iinc (v := (x4 + 1)) (lv' := [(4, .int (x4 + 1)), (0, .ref a0), (1, .ref a1), (2, .ref a2), (3, .int x3), (5, .int x5), (6, .int x6)]) S.1 S.2.1 d_AutomatonMaker_copyParts_116 hl (k := 4) rfl rfl (by decide) rfl (fun ls hl => ?_)
        refine lv_iinc (v := (x5 + 1)) (lv' := [(5, .int (x5 + 1)), (4, .int (x4 + 1)), (0, .ref a0), (1, .ref a1), (2, .ref a2), (3, .int x3), (6, .int x6)]) S.1 S.2.1 d_AutomatonMaker_copyParts_119 hl (k := 5) rfl rfl (by decide) rfl (fun ls hl => ?_)
        refine lv_goto (tgt := 11) S.1 S.2.1 d_AutomatonMaker_copyParts_122 (by decide) ?_
        exact hk11 _ _ _ _ _ _ _ _ _ _ hw (lv_sub hl [2, 3, 4, 5, 1, 0] rfl) hf
    · replace hf := xf c17 hf
      refine lv_aload_n S.1 S.2.1 d_AutomatonMaker_copyParts_51 rfl (lv_at hl 2 rfl) ?_
      obtain ⟨t24, ht24, hf⟩ := xb hf
      refine x_getr S hw lk_AutomatonMaker_102 ht24 d_AutomatonMaker_copyParts_52 ?_
      refine lv_iload S.1 S.2.1 d_AutomatonMaker_copyParts_55 (lv_at hl 4 rfl) ?_
      refine lv_bipush (v := 10) S.1 S.2.1 d_AutomatonMaker_copyParts_57 (by decide) ?_
      refine lv_imul S.1 S.2.1 d_AutomatonMaker_copyParts_59 ?_
      refine lv_iload S.1 S.2.1 d_AutomatonMaker_copyParts_60 (lv_at hl 6 rfl) ?_
      refine lv_iadd S.1 S.2.1 d_AutomatonMaker_copyParts_62 ?_
      refine lv_aload_n S.1 S.2.1 d_AutomatonMaker_copyParts_63 rfl (lv_at hl 0 rfl) ?_
      obtain ⟨t25, ht25, hf⟩ := xb hf
      refine x_getr S hw lk_AutomatonMaker_26 ht25 d_AutomatonMaker_copyParts_64 ?_
      refine lv_aload_n S.1 S.2.1 d_AutomatonMaker_copyParts_67 rfl (lv_at hl 0 rfl) ?_
      obtain ⟨t26, ht26, hf⟩ := xb hf
      refine x_getr S hw lk_AutomatonMaker_20 ht26 d_AutomatonMaker_copyParts_68 ?_
      refine lv_iload S.1 S.2.1 d_AutomatonMaker_copyParts_71 (lv_at hl 5 rfl) ?_
      refine lv_bipush (v := 9) S.1 S.2.1 d_AutomatonMaker_copyParts_73 (by decide) ?_
      refine lv_imul S.1 S.2.1 d_AutomatonMaker_copyParts_75 ?_
      refine lv_iload S.1 S.2.1 d_AutomatonMaker_copyParts_76 (lv_at hl 6 rfl) ?_
      refine lv_iadd S.1 S.2.1 d_AutomatonMaker_copyParts_78 ?_
      obtain ⟨t27, ht27, hf⟩ := xb hf
      refine x_iald S hw ht27 d_AutomatonMaker_copyParts_79 ?_
      obtain ⟨t28, ht28, hf⟩ := xb hf
      refine x_iald S hw ht28 d_AutomatonMaker_copyParts_80 ?_
      obtain ⟨w29, hw29, hf⟩ := xb hf
      refine x_iast S hw hw29 d_AutomatonMaker_copyParts_81 (fun H locs hw => ?_)
      refine lv_iinc (v := (x6 + 1)) (lv' := [(6, .int (x6 + 1)), (0, .ref a0), (1, .ref a1), (2, .ref a2), (3, .int x3), (4, .int x4), (5, .int x5)]) S.1 S.2.1 d_AutomatonMaker_copyParts_82 hl (k := 6) rfl rfl (by decide) rfl (fun ls hl => ?_)
      refine lv_goto (tgt := 44) S.1 S.2.1 d_AutomatonMaker_copyParts_85 (by decide) ?_
      exact ih _ _ _ _ _ _ _ _ _ _ _ hw (lv_sub hl [1, 2, 3, 4, 5, 6, 0] rfl) hf
def f_AutomatonMaker_copyParts_11 : Nat → Nat → Nat → Nat → Int32 → Int32 → Int32 → xS → Option xS
  | 0, _, _, _, _, _, _, _ => none
  | n + 1, a0, a1, a2, x3, x4, x5, ω =>
    (xgi ω a0 1 8).bind fun t9 =>
    if t9 ≤ x5 then (
      (xp ω a2 0 1 (.int x4)).bind fun w11 =>
      some w11)
    else (
      if x3 ≤ x4 then (
        (xp ω a2 0 1 (.int x4)).bind fun w13 =>
        some w13)
      else (
        (xgr ω a0 1 4).bind fun t14 =>
        (xai ω t14 x5).bind fun t15 =>
        if t15 = x4 then (
          f_AutomatonMaker_copyParts_44 (f_AutomatonMaker_copyParts_11  n) xFU a0 a1 a2 x3 x4 x5 0 ω)
        else (
          f_AutomatonMaker_copyParts_11  n a0 a1 a2 x3 x4 (x5 + 1) ω)))
set_option maxHeartbeats 4000000 in
set_option maxRecDepth 100000 in
theorem w_AutomatonMaker_copyParts_11 {p : Program} {l : Launch} {e : Env} {s : State} {m : MethodId} {args : Array Value} {below : List Frame} {meth : Method} {c : Code} {E : xV} {z : Nat} {ω1 : xS} {cc0 uu0 : Nat} (S : CallFix p m c b_AutomatonMaker_copyParts 7 s args xTbl "RosterRules$AutomatonMaker") (hr : meth.sig.returnType = none) (hlocks : meth.locks = false) : ∀ n : Nat, ∀ (a0 : Nat) (a1 : Nat) (a2 : Nat) (x3 : Int32) (x4 : Int32) (x5 : Int32) (ω : xS) (H : Heap) (locs : List Loc) (ls : Array Slot), xW E z ω s s.heap H locs → lv_has ls 7 [(0, .ref a0), (1, .ref a1), (2, .ref a2), (3, .int x3), (4, .int x4), (5, .int x5)] → f_AutomatonMaker_copyParts_11 n a0 a1 a2 x3 x4 x5 ω = some ω1 → W p l e (headSpec ws_AutomatonMaker_copyParts { frames := 2, cells := cc0, slots := uu0, locals := 46 }).room s m args below meth c H locs cc0 uu0 (MQ below (xQ E none z ω1) args s cc0 uu0 (fun q => E.2.2 ≤ q)) (F0 m 11 ls []) := by
  intro n
  induction n with
  | zero =>
    intro a0 a1 a2 x3 x4 x5 ω H locs ls hw hl hf
    have h2 : (none : Option xS) = some ω1 := hf
    cases h2
  | succ n ih =>
    intro a0 a1 a2 x3 x4 x5 ω H locs ls hw hl hf
    rw [f_AutomatonMaker_copyParts_11] at hf
    refine lv_iload S.1 S.2.1 d_AutomatonMaker_copyParts_11 (lv_at hl 5 rfl) ?_
    refine lv_aload_n S.1 S.2.1 d_AutomatonMaker_copyParts_13 rfl (lv_at hl 0 rfl) ?_
    obtain ⟨t9, ht9, hf⟩ := xb hf
    refine x_geti S hw lk_AutomatonMaker_47 ht9 d_AutomatonMaker_copyParts_14 ?_
    refine lv_icmp_ge (tgt := 125) S.1 S.2.1 d_AutomatonMaker_copyParts_17 (by decide) (fun c10 => ?_) (fun c10 => ?_)
    · replace hf := xt c10 hf
      refine lv_aload_n S.1 S.2.1 d_AutomatonMaker_copyParts_125 rfl (lv_at hl 2 rfl) ?_
      refine lv_iload S.1 S.2.1 d_AutomatonMaker_copyParts_126 (lv_at hl 4 rfl) ?_
      obtain ⟨w11, hw11, hf⟩ := xb hf
      refine x_puti S hw lp_AutomatonMaker_105 hw11 d_AutomatonMaker_copyParts_128 (fun H locs hw => ?_)
      cases hf
      exact x_vret S hr hlocks hw d_AutomatonMaker_copyParts_131
    · replace hf := xf c10 hf
      refine lv_iload S.1 S.2.1 d_AutomatonMaker_copyParts_20 (lv_at hl 4 rfl) ?_
      refine lv_iload_n S.1 S.2.1 d_AutomatonMaker_copyParts_22 rfl (lv_at hl 3 rfl) ?_
      refine lv_icmp_ge (tgt := 125) S.1 S.2.1 d_AutomatonMaker_copyParts_23 (by decide) (fun c12 => ?_) (fun c12 => ?_)
      · replace hf := xt c12 hf
        refine lv_aload_n S.1 S.2.1 d_AutomatonMaker_copyParts_125 rfl (lv_at hl 2 rfl) ?_
        refine lv_iload S.1 S.2.1 d_AutomatonMaker_copyParts_126 (lv_at hl 4 rfl) ?_
        obtain ⟨w13, hw13, hf⟩ := xb hf
        refine x_puti S hw lp_AutomatonMaker_105 hw13 d_AutomatonMaker_copyParts_128 (fun H locs hw => ?_)
        cases hf
        exact x_vret S hr hlocks hw d_AutomatonMaker_copyParts_131
      · replace hf := xf c12 hf
        refine lv_aload_n S.1 S.2.1 d_AutomatonMaker_copyParts_26 rfl (lv_at hl 0 rfl) ?_
        obtain ⟨t14, ht14, hf⟩ := xb hf
        refine x_getr S hw lk_AutomatonMaker_26 ht14 d_AutomatonMaker_copyParts_27 ?_
        refine lv_iload S.1 S.2.1 d_AutomatonMaker_copyParts_30 (lv_at hl 5 rfl) ?_
        obtain ⟨t15, ht15, hf⟩ := xb hf
        refine x_iald S hw ht15 d_AutomatonMaker_copyParts_32 ?_
        refine lv_iload S.1 S.2.1 d_AutomatonMaker_copyParts_33 (lv_at hl 4 rfl) ?_
        refine lv_icmp_eq (tgt := 41) S.1 S.2.1 d_AutomatonMaker_copyParts_35 (by decide) (fun c16 => ?_) (fun c16 => ?_)
        · replace hf := xt c16 hf
          refine lv_iconst (v := 0) S.1 S.2.1 d_AutomatonMaker_copyParts_41 (by decide) ?_
          refine lv_istore (lv' := [(6, .int 0), (0, .ref a0), (1, .ref a1), (2, .ref a2), (3, .int x3), (4, .int x4), (5, .int x5)]) S.1 S.2.1 d_AutomatonMaker_copyParts_42 hl (by decide) rfl (fun ls hl => ?_)
          exact w_AutomatonMaker_copyParts_44 S hr hlocks ih _ _ _ _ _ _ _ _ _ _ _ _ hw (lv_sub hl [1, 2, 3, 4, 5, 6, 0] rfl) hf
        · replace hf := xf c16 hf
          refine lv_goto (tgt := 119) S.1 S.2.1 d_AutomatonMaker_copyParts_38 (by decide) ?_
          refine lv_iinc (v := (x5 + 1)) (lv' := [(5, .int (x5 + 1)), (0, .ref a0), (1, .ref a1), (2, .ref a2), (3, .int x3), (4, .int x4)]) S.1 S.2.1 d_AutomatonMaker_copyParts_119 hl (k := 5) rfl rfl (by decide) rfl (fun ls hl => ?_)
          refine lv_goto (tgt := 11) S.1 S.2.1 d_AutomatonMaker_copyParts_122 (by decide) ?_
          exact ih _ _ _ _ _ _ _ _ _ _ hw (lv_sub hl [1, 2, 3, 4, 5, 0] rfl) hf
def f_AutomatonMaker_copyParts_5 (a0 : Nat) (a1 : Nat) (a2 : Nat) (x3 : Int32) (ω : xS) : Option xS :=
  f_AutomatonMaker_copyParts_11  xFU a0 a1 a2 x3 0 0 ω
set_option maxHeartbeats 4000000 in
set_option maxRecDepth 100000 in
theorem w_AutomatonMaker_copyParts_5 {p : Program} {l : Launch} {e : Env} {s : State} {m : MethodId} {args : Array Value} {below : List Frame} {meth : Method} {c : Code} {E : xV} {z : Nat} {ω1 : xS} {cc0 uu0 : Nat} (S : CallFix p m c b_AutomatonMaker_copyParts 7 s args xTbl "RosterRules$AutomatonMaker") (hr : meth.sig.returnType = none) (hlocks : meth.locks = false) : ∀ (a0 : Nat) (a1 : Nat) (a2 : Nat) (x3 : Int32) (ω : xS) (H : Heap) (locs : List Loc) (ls : Array Slot), xW E z ω s s.heap H locs → lv_has ls 7 [(0, .ref a0), (1, .ref a1), (2, .ref a2), (3, .int x3)] → f_AutomatonMaker_copyParts_5 a0 a1 a2 x3 ω = some ω1 → W p l e (headSpec ws_AutomatonMaker_copyParts { frames := 2, cells := cc0, slots := uu0, locals := 46 }).room s m args below meth c H locs cc0 uu0 (MQ below (xQ E none z ω1) args s cc0 uu0 (fun q => E.2.2 ≤ q)) (F0 m 5 ls []) := by
  intro a0 a1 a2 x3 ω H locs ls hw hl hf
  unfold f_AutomatonMaker_copyParts_5 at hf
  refine lv_iconst (v := 0) S.1 S.2.1 d_AutomatonMaker_copyParts_5 (by decide) ?_
  refine lv_istore (lv' := [(4, .int 0), (0, .ref a0), (1, .ref a1), (2, .ref a2), (3, .int x3)]) S.1 S.2.1 d_AutomatonMaker_copyParts_6 hl (by decide) rfl (fun ls hl => ?_)
  refine lv_iconst (v := 0) S.1 S.2.1 d_AutomatonMaker_copyParts_8 (by decide) ?_
  refine lv_istore (lv' := [(5, .int 0), (4, .int 0), (0, .ref a0), (1, .ref a1), (2, .ref a2), (3, .int x3)]) S.1 S.2.1 d_AutomatonMaker_copyParts_9 hl (by decide) rfl (fun ls hl => ?_)
  exact w_AutomatonMaker_copyParts_11 S hr hlocks  _ _ _ _ _ _ _ _ _ _ _ hw (lv_sub hl [2, 3, 4, 5, 1, 0] rfl) hf
def f_AutomatonMaker_copyParts (a0 : Nat) (a1 : Nat) (a2 : Nat) (x3 : Int32) (z : Nat) (ω : xS) : Option (Nat × Nat × xS) :=
  xc3 (xk ω a2 0 (f_Automaton_reserve a2 x3 z ω)) fun c3 u4 w5 =>
  (f_AutomatonMaker_copyParts_5 a0 a1 a2 x3 w5).bind fun w6 => some (c3, u4, w6)
set_option maxHeartbeats 4000000 in
set_option maxRecDepth 100000 in
theorem c_AutomatonMaker_copyParts {l : Launch} {E : xV} {z : Nat} {a0 : Nat} {a1 : Nat} {a2 : Nat} {x3 : Int32} {ω1 : xS} {kc ku : Nat} {ω : xS} (hf : f_AutomatonMaker_copyParts a0 a1 a2 x3 z ω = some (kc, ku, ω1)) : xM l E y_AutomatonMaker_copyParts ws_AutomatonMaker_copyParts { frames := 2, cells := kc, slots := ku, locals := 46 } [.ref a0, .ref a1, .ref a2, .int x3] z ω none (z + kc) ω1 := by
  refine x_start (cc := b_AutomatonMaker_copyParts) (maxL := 7) (ret := none) (by decide) rfl (Nat.le_of_ble_eq_true rfl) ?_
  intro p e s m below meth c S hr hlocks hin ls hl hw
  have hl : lv_has ls 7 [(0, .ref a0), (1, .ref a1), (2, .ref a2), (3, .int x3)] := hl
  unfold f_AutomatonMaker_copyParts at hf
  refine lv_aload_n S.1 S.2.1 d_AutomatonMaker_copyParts_0 rfl (lv_at hl 2 rfl) ?_
  refine lv_iload_n S.1 S.2.1 d_AutomatonMaker_copyParts_1 rfl (lv_at hl 3 rfl) ?_
  obtain ⟨c3, u4, w5, h1, hf⟩ := xc3b hf
  obtain ⟨h1b, h1⟩ := xkb h1
  have hle : c3 ≤ kc ∧ u4 ≤ ku := by
    obtain ⟨w6, h7, hf⟩ := xb hf
    obtain ⟨rfl, rfl, rfl⟩ := xe3 hf
    constructor <;> omega
  refine x_callV (As := [.int x3]) (rest := []) (st1 := []) S hw (c_Automaton_reserve h1) (cwV 1 S.2.2.2.2 gv_AutomatonMaker_96 rfl rfl rfl hd_Automaton_reserve ⟨Nat.le_of_ble_eq_true rfl, Nat.le_of_ble_eq_true rfl⟩) rfl h1b rfl hl.1 rfl rfl (Nat.le_of_ble_eq_true rfl) d_AutomatonMaker_copyParts_2 ⟨(show _ ≤ kc by (try dsimp only); omega), (show _ ≤ ku by (try dsimp only); omega)⟩ (fun H locs hw => ?_)
  obtain ⟨w6, h7, hf⟩ := xb hf
  obtain ⟨rfl, rfl, rfl⟩ := xe3 hf
  exact W.widen (by (try dsimp only); omega) (by (try dsimp only); omega) (w_AutomatonMaker_copyParts_5 S hr hlocks _ _ _ _ _ _ _ _ hw (lv_sub hl [0, 1, 2, 3] rfl) h7)
