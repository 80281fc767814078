def f_Automaton_init (a0 : Nat) (z : Nat) (ω : xS) : Option xS :=
  xl (xu ω z (.inl (0, 0, .inl (fun _ => 0)))) fun w1 =>
  (xp w1 a0 0 0 (.ref z)).bind fun w2 =>
  some w2
set_option maxHeartbeats 4000000 in
set_option maxRecDepth 100000 in
theorem c_Automaton_init {l : Launch} {E : xV} {z : Nat} {a0 : Nat} {ω1 : xS} {ω : xS} (hf : f_Automaton_init a0 z ω = some ω1) : xM l E y_Automaton_init ws_Automaton_init { frames := 1, cells := 1, slots := 0, locals := 20 } [.ref a0] z ω none (z + 1) ω1 := by
  refine x_start (cc := b_Automaton_init) (maxL := 1) (ret := none) (by decide) rfl (Nat.le_of_ble_eq_true rfl) ?_
  intro p e s m below meth c S hr hlocks hin ls hl hw
  have hl : lv_has ls 1 [(0, .ref a0)] := hl
  have hin := hin rfl
  unfold f_Automaton_init at hf
  refine lv_aload_n S.1 S.2.1 d_Automaton_init_0 rfl (lv_at hl 0 rfl) ?_
  refine x_obj S hl.1 ob_Automaton_3 d_Automaton_init_1 (Nat.le_of_ble_eq_true rfl) (Nat.le_of_ble_eq_true rfl) ?_
  refine lv_aload_n S.1 S.2.1 d_Automaton_init_4 rfl (lv_at hl 0 rfl) ?_
  refine lv_iconst (v := 0) S.1 S.2.1 d_Automaton_init_5 (by decide) ?_
  obtain ⟨w1, hw1, hf⟩ := xlb hf
  refine x_newi (N := 0) S hw xArr_i (by decide) (by decide) (by decide) hw1 (Nat.le_of_ble_eq_true rfl) (Nat.le_of_ble_eq_true rfl) d_Automaton_init_6 (fun H hw => ?_)
  obtain ⟨w2, hw2, hf⟩ := xb hf
  refine x_put S hw lp_Automaton_9 (rfl) rfl hw2 d_Automaton_init_8 (fun H locs hw => ?_)
  cases hf
  exact x_vret S hr hlocks hw d_Automaton_init_11
def f_Automaton_reserve (a0 : Nat) (x1 : Int32) (z : Nat) (ω : xS) : Option (Nat × Nat × xS) :=
  (xgr ω a0 0 0).bind fun t1 =>
  (xan ω t1).bind fun t2 =>
  if (x1 * 10) ≤ t2 then (
    some (0, 0, ω))
  else (
    (xgr ω a0 0 0).bind fun t4 =>
    (xan ω t4).bind fun t5 =>
    if ((xmin 1025 (xmax (xmax 12 x1) ((2 * t5) / 10))) * 10) < 0 ∨ 100000 < ((xmin 1025 (xmax (xmax 12 x1) ((2 * t5) / 10))) * 10) then none else
    xl (xu ω z (.inl (0, ((xmin 1025 (xmax (xmax 12 x1) ((2 * t5) / 10))) * 10).toNatClampNeg, .inl (fun _ => 0)))) fun w6 =>
    (xp w6 a0 0 0 (.ref z)).bind fun w7 =>
    some (1, ((xmin 1025 (xmax (xmax 12 x1) ((2 * t5) / 10))) * 10).toNatClampNeg, w7))
set_option maxHeartbeats 4000000 in
set_option maxRecDepth 100000 in
theorem c_Automaton_reserve {l : Launch} {E : xV} {z : Nat} {a0 : Nat} {x1 : Int32} {ω1 : xS} {kc ku : Nat} {ω : xS} (hf : f_Automaton_reserve a0 x1 z ω = some (kc, ku, ω1)) : xM l E y_Automaton_reserve ws_Automaton_reserve { frames := 1, cells := kc, slots := ku, locals := 24 } [.ref a0, .int x1] z ω none (z + kc) ω1 := by
  refine x_start (cc := b_Automaton_reserve) (maxL := 3) (ret := none) (by decide) rfl (Nat.le_of_ble_eq_true rfl) ?_
  intro p e s m below meth c S hr hlocks hin ls hl hw
  have hl : lv_has ls 3 [(0, .ref a0), (1, .int x1)] := hl
  unfold f_Automaton_reserve at hf
  refine lv_iload_n S.1 S.2.1 d_Automaton_reserve_0 rfl (lv_at hl 1 rfl) ?_
  refine lv_bipush (v := 10) S.1 S.2.1 d_Automaton_reserve_1 (by decide) ?_
  refine lv_imul S.1 S.2.1 d_Automaton_reserve_3 ?_
  refine lv_aload_n S.1 S.2.1 d_Automaton_reserve_4 rfl (lv_at hl 0 rfl) ?_
  obtain ⟨t1, ht1, hf⟩ := xb hf
  refine x_getr S hw lk_Automaton_9 ht1 d_Automaton_reserve_5 ?_
  obtain ⟨t2, ht2, hf⟩ := xb hf
  refine x_alen S hw ht2 d_Automaton_reserve_8 ?_
  refine lv_icmp_le (tgt := 48) S.1 S.2.1 d_Automaton_reserve_9 (by decide) (fun c3 => ?_) (fun c3 => ?_)
  · replace hf := xt c3 hf
    obtain ⟨rfl, rfl, rfl⟩ := xe3 hf
    exact x_vret S hr hlocks hw d_Automaton_reserve_48
  · replace hf := xf c3 hf
    refine lv_bipush (v := 12) S.1 S.2.1 d_Automaton_reserve_12 (by decide) ?_
    refine lv_iload_n S.1 S.2.1 d_Automaton_reserve_14 rfl (lv_at hl 1 rfl) ?_
    refine x_mmax S hl.1 lm_Automaton_15 d_Automaton_reserve_15 (Nat.le_of_ble_eq_true rfl) (Nat.le_of_ble_eq_true rfl) (show _ ≤ kc by (try dsimp only); omega) (show _ ≤ ku by (try dsimp only); omega) ?_
    refine lv_iconst (v := 2) S.1 S.2.1 d_Automaton_reserve_18 (by decide) ?_
    refine lv_aload_n S.1 S.2.1 d_Automaton_reserve_19 rfl (lv_at hl 0 rfl) ?_
    obtain ⟨t4, ht4, hf⟩ := xb hf
    refine x_getr S hw lk_Automaton_9 ht4 d_Automaton_reserve_20 ?_
    obtain ⟨t5, ht5, hf⟩ := xb hf
    refine x_alen S hw ht5 d_Automaton_reserve_23 ?_
    refine lv_imul S.1 S.2.1 d_Automaton_reserve_24 ?_
    refine lv_bipush (v := 10) S.1 S.2.1 d_Automaton_reserve_25 (by decide) ?_
    refine lv_idiv S.1 S.2.1 d_Automaton_reserve_27 (by decide) ?_
    refine x_mmax S hl.1 lm_Automaton_15 d_Automaton_reserve_28 (Nat.le_of_ble_eq_true rfl) (Nat.le_of_ble_eq_true rfl) (show _ ≤ kc by (try dsimp only); omega) (show _ ≤ ku by (try dsimp only); omega) ?_
    refine lv_istore_n (lv' := [(2, .int (xmax (xmax 12 x1) ((2 * t5) / 10))), (0, .ref a0), (1, .int x1)]) S.1 S.2.1 d_Automaton_reserve_31 rfl hl (by decide) rfl (fun ls hl => ?_)
    refine lv_aload_n S.1 S.2.1 d_Automaton_reserve_32 rfl (lv_at hl 1 rfl) ?_
    refine lv_sipush (v := 1025) S.1 S.2.1 d_Automaton_reserve_33 (by decide) ?_
    refine lv_iload_n S.1 S.2.1 d_Automaton_reserve_36 rfl (lv_at hl 0 rfl) ?_
    refine x_mmin S hl.1 lm_Automaton_23 d_Automaton_reserve_37 (Nat.le_of_ble_eq_true rfl) (Nat.le_of_ble_eq_true rfl) (show _ ≤ kc by (try dsimp only); omega) (show _ ≤ ku by (try dsimp only); omega) ?_
    refine lv_bipush (v := 10) S.1 S.2.1 d_Automaton_reserve_40 (by decide) ?_
    refine lv_imul S.1 S.2.1 d_Automaton_reserve_42 ?_
    by_cases cz : ((xmin 1025 (xmax (xmax 12 x1) ((2 * t5) / 10))) * 10) < 0 ∨ 100000 < ((xmin 1025 (xmax (xmax 12 x1) ((2 * t5) / 10))) * 10)
    · replace hf := xt cz hf
      cases hf
    replace hf := xf cz hf
    obtain ⟨w6, hw6, hf⟩ := xlb hf
    have hle : 1 ≤ kc ∧ ((xmin 1025 (xmax (xmax 12 x1) ((2 * t5) / 10))) * 10).toNatClampNeg ≤ ku := by
      obtain ⟨w7, hw7, hf⟩ := xb hf
      obtain ⟨rfl, rfl, rfl⟩ := xe3 hf
      constructor <;> omega
    refine x_newi (N := ((xmin 1025 (xmax (xmax 12 x1) ((2 * t5) / 10))) * 10).toNatClampNeg) S hw xArr_i (x_small2 cz).1 rfl (by have := (x_small2 cz).2; omega) hw6 (show _ ≤ kc by (try dsimp only); omega) (show _ ≤ ku by (try dsimp only); omega) d_Automaton_reserve_43 (fun H hw => ?_)
    obtain ⟨w7, hw7, hf⟩ := xb hf
    refine x_put S hw lp_Automaton_9 (rfl) rfl hw7 d_Automaton_reserve_45 (fun H locs hw => ?_)
    obtain ⟨rfl, rfl, rfl⟩ := xe3 hf
    exact W.widen (by (try dsimp only); omega) (by (try dsimp only); omega) (x_vret S hr hlocks hw d_Automaton_reserve_48)
def f_Automaton_entry (a0 : Nat) (x1 : Int32) (x2 : Int32) (ω : xS) : Option Int32 :=
  if ((x1 * 10) + x2) < 0 then (
    some 0)
  else (
    (xgr ω a0 0 0).bind fun t2 =>
    (xan ω t2).bind fun t3 =>
    if t3 ≤ ((x1 * 10) + x2) then (
      some 0)
    else (
      (xgr ω a0 0 0).bind fun t5 =>
      (xai ω t5 ((x1 * 10) + x2)).bind fun t6 =>
      some t6))
set_option maxHeartbeats 4000000 in
set_option maxRecDepth 100000 in
theorem c_Automaton_entry {l : Launch} {E : xV} {z : Nat} {a0 : Nat} {x1 : Int32} {x2 : Int32} {r : Int32} {ω : xS} (hf : f_Automaton_entry a0 x1 x2 ω = some r) : xM l E y_Automaton_entry ws_Automaton_entry { frames := 0, cells := 0, slots := 0, locals := 0 } [.ref a0, .int x1, .int x2] z ω (some (.int r)) z ω := by
  refine x_start (cc := b_Automaton_entry) (maxL := 4) (ret := (some .int)) (by decide) rfl (Nat.le_of_ble_eq_true rfl) ?_
  intro p e s m below meth c S hr hlocks hin ls hl hw
  have hl : lv_has ls 4 [(0, .ref a0), (1, .int x1), (2, .int x2)] := hl
  unfold f_Automaton_entry at hf
  refine lv_iload_n S.1 S.2.1 d_Automaton_entry_0 rfl (lv_at hl 1 rfl) ?_
  refine lv_bipush (v := 10) S.1 S.2.1 d_Automaton_entry_1 (by decide) ?_
  refine lv_imul S.1 S.2.1 d_Automaton_entry_3 ?_
  refine lv_iload_n S.1 S.2.1 d_Automaton_entry_4 rfl (lv_at hl 2 rfl) ?_
  refine lv_iadd S.1 S.2.1 d_Automaton_entry_5 ?_
  refine lv_istore_n (lv' := [(3, .int ((x1 * 10) + x2)), (0, .ref a0), (1, .int x1), (2, .int x2)]) S.1 S.2.1 d_Automaton_entry_6 rfl hl (by decide) rfl (fun ls hl => ?_)
  refine lv_iload_n S.1 S.2.1 d_Automaton_entry_7 rfl (lv_at hl 0 rfl) ?_
  refine lv_if_lt (tgt := 29) S.1 S.2.1 d_Automaton_entry_8 (by decide) (fun c1 => ?_) (fun c1 => ?_)
  · replace hf := xt c1 hf
    refine lv_iconst (v := 0) S.1 S.2.1 d_Automaton_entry_29 (by decide) ?_
    obtain rfl := xe1 hf
    exact x_iret S hr hlocks hw d_Automaton_entry_30
  · replace hf := xf c1 hf
    refine lv_iload_n S.1 S.2.1 d_Automaton_entry_11 rfl (lv_at hl 0 rfl) ?_
    refine lv_aload_n S.1 S.2.1 d_Automaton_entry_12 rfl (lv_at hl 1 rfl) ?_
    obtain ⟨t2, ht2, hf⟩ := xb hf
    refine x_getr S hw lk_Automaton_9 ht2 d_Automaton_entry_13 ?_
    obtain ⟨t3, ht3, hf⟩ := xb hf
    refine x_alen S hw ht3 d_Automaton_entry_16 ?_
    refine lv_icmp_ge (tgt := 29) S.1 S.2.1 d_Automaton_entry_17 (by decide) (fun c4 => ?_) (fun c4 => ?_)
    · replace hf := xt c4 hf
      refine lv_iconst (v := 0) S.1 S.2.1 d_Automaton_entry_29 (by decide) ?_
      obtain rfl := xe1 hf
      exact x_iret S hr hlocks hw d_Automaton_entry_30
    · replace hf := xf c4 hf
      refine lv_aload_n S.1 S.2.1 d_Automaton_entry_20 rfl (lv_at hl 1 rfl) ?_
      obtain ⟨t5, ht5, hf⟩ := xb hf
      refine x_getr S hw lk_Automaton_9 ht5 d_Automaton_entry_21 ?_
      refine lv_iload_n S.1 S.2.1 d_Automaton_entry_24 rfl (lv_at hl 0 rfl) ?_
      obtain ⟨t6, ht6, hf⟩ := xb hf
      refine x_iald S hw ht6 d_Automaton_entry_25 ?_
      refine lv_goto (tgt := 30) S.1 S.2.1 d_Automaton_entry_26 (by decide) ?_
      obtain rfl := xe1 hf
      exact x_iret S hr hlocks hw d_Automaton_entry_30
def f_Automaton_equalTo_15 : Nat → Nat → Nat → Int32 → xS → Option Int32
  | 0, _, _, _, _ => none
  | n + 1, a0, a1, x2, ω =>
    (xgi ω a0 0 1).bind fun t4 =>
    if (t4 * 10) ≤ x2 then (
      some 1)
    else (
      (xgr ω a0 0 0).bind fun t6 =>
      (xai ω t6 x2).bind fun t7 =>
      (xgr ω a1 0 0).bind fun t8 =>
      (xai ω t8 x2).bind fun t9 =>
      if t7 = t9 then (
        f_Automaton_equalTo_15  n a0 a1 (x2 + 1) ω)
      else (
        some 0))
set_option maxHeartbeats 4000000 in
set_option maxRecDepth 100000 in
theorem w_Automaton_equalTo_15 {p : Program} {l : Launch} {e : Env} {s : State} {m : MethodId} {args : Array Value} {below : List Frame} {meth : Method} {c : Code} {E : xV} {z : Nat} {r : Int32} {ω : xS} (S : CallFix p m c b_Automaton_equalTo 3 s args xTbl "RosterRules$Automaton") (hr : meth.sig.returnType = (some .boolean)) (hlocks : meth.locks = false) : ∀ n : Nat, ∀ (a0 : Nat) (a1 : Nat) (x2 : Int32) (H : Heap) (locs : List Loc) (ls : Array Slot), xW E z ω s s.heap H locs → lv_has ls 3 [(0, .ref a0), (1, .ref a1), (2, .int x2)] → f_Automaton_equalTo_15 n a0 a1 x2 ω = some r → W p l e (headSpec ws_Automaton_equalTo { frames := 0, cells := 0, slots := 0, locals := 0 }).room s m args below meth c H locs 0 0 (MQ below (xQ E (some (.int r)) z ω) args s 0 0 (fun q => E.2.2 ≤ q)) (F0 m 15 ls []) := by
  intro n
  induction n with
  | zero =>
    intro a0 a1 x2 H locs ls hw hl hf
    have h2 : (none : Option Int32) = some r := hf
    cases h2
  | succ n ih =>
    intro a0 a1 x2 H locs ls hw hl hf
    rw [f_Automaton_equalTo_15] at hf
    refine lv_iload_n S.1 S.2.1 d_Automaton_equalTo_15 rfl (lv_at hl 2 rfl) ?_
    refine lv_aload_n S.1 S.2.1 d_Automaton_equalTo_16 rfl (lv_at hl 0 rfl) ?_
    obtain ⟨t4, ht4, hf⟩ := xb hf
    refine x_geti S hw lk_Automaton_26 ht4 d_Automaton_equalTo_17 ?_
    refine lv_bipush (v := 10) S.1 S.2.1 d_Automaton_equalTo_20 (by decide) ?_
    refine lv_imul S.1 S.2.1 d_Automaton_equalTo_22 ?_
    refine lv_icmp_ge (tgt := 49) S.1 S.2.1 d_Automaton_equalTo_23 (by decide) (fun c5 => ?_) (fun c5 => ?_)
    · replace hf := xt c5 hf
      refine lv_iconst (v := 1) S.1 S.2.1 d_Automaton_equalTo_49 (by decide) ?_
      obtain rfl := xe1 hf
      exact x_zret S hr hlocks hw (by decide) d_Automaton_equalTo_50
    · replace hf := xf c5 hf
      refine lv_aload_n S.1 S.2.1 d_Automaton_equalTo_26 rfl (lv_at hl 0 rfl) ?_
      obtain ⟨t6, ht6, hf⟩ := xb hf
      refine x_getr S hw lk_Automaton_9 ht6 d_Automaton_equalTo_27 ?_
      refine lv_iload_n S.1 S.2.1 d_Automaton_equalTo_30 rfl (lv_at hl 2 rfl) ?_
      obtain ⟨t7, ht7, hf⟩ := xb hf
      refine x_iald S hw ht7 d_Automaton_equalTo_31 ?_
      refine lv_aload_n S.1 S.2.1 d_Automaton_equalTo_32 rfl (lv_at hl 1 rfl) ?_
      obtain ⟨t8, ht8, hf⟩ := xb hf
      refine x_getr S hw lk_Automaton_9 ht8 d_Automaton_equalTo_33 ?_
      refine lv_iload_n S.1 S.2.1 d_Automaton_equalTo_36 rfl (lv_at hl 2 rfl) ?_
      obtain ⟨t9, ht9, hf⟩ := xb hf
      refine x_iald S hw ht9 d_Automaton_equalTo_37 ?_
      refine lv_icmp_eq (tgt := 43) S.1 S.2.1 d_Automaton_equalTo_38 (by decide) (fun c10 => ?_) (fun c10 => ?_)
      · replace hf := xt c10 hf
        refine lv_iinc (v := (x2 + 1)) (lv' := [(2, .int (x2 + 1)), (0, .ref a0), (1, .ref a1)]) S.1 S.2.1 d_Automaton_equalTo_43 hl (k := 2) rfl rfl (by decide) rfl (fun ls hl => ?_)
        refine lv_goto (tgt := 15) S.1 S.2.1 d_Automaton_equalTo_46 (by decide) ?_
        exact ih _ _ _ _ _ _ hw (lv_sub hl [1, 2, 0] rfl) hf
      · replace hf := xf c10 hf
        refine lv_iconst (v := 0) S.1 S.2.1 d_Automaton_equalTo_41 (by decide) ?_
        obtain rfl := xe1 hf
        exact x_zret S hr hlocks hw (by decide) d_Automaton_equalTo_42
def f_Automaton_equalTo (a0 : Nat) (a1 : Nat) (ω : xS) : Option Int32 :=
  (xgi ω a0 0 1).bind fun t1 =>
  (xgi ω a1 0 1).bind fun t2 =>
  if t1 = t2 then (
    f_Automaton_equalTo_15  xFU a0 a1 0 ω)
  else (
    some 0)
set_option maxHeartbeats 4000000 in
set_option maxRecDepth 100000 in
theorem c_Automaton_equalTo {l : Launch} {E : xV} {z : Nat} {a0 : Nat} {a1 : Nat} {r : Int32} {ω : xS} (hf : f_Automaton_equalTo a0 a1 ω = some r) : xM l E y_Automaton_equalTo ws_Automaton_equalTo { frames := 0, cells := 0, slots := 0, locals := 0 } [.ref a0, .ref a1] z ω (some (.int r)) z ω := by
  refine x_start (cc := b_Automaton_equalTo) (maxL := 3) (ret := (some .boolean)) (by decide) rfl (Nat.le_of_ble_eq_true rfl) ?_
  intro p e s m below meth c S hr hlocks hin ls hl hw
  have hl : lv_has ls 3 [(0, .ref a0), (1, .ref a1)] := hl
  unfold f_Automaton_equalTo at hf
  refine lv_aload_n S.1 S.2.1 d_Automaton_equalTo_0 rfl (lv_at hl 0 rfl) ?_
  obtain ⟨t1, ht1, hf⟩ := xb hf
  refine x_geti S hw lk_Automaton_26 ht1 d_Automaton_equalTo_1 ?_
  refine lv_aload_n S.1 S.2.1 d_Automaton_equalTo_4 rfl (lv_at hl 1 rfl) ?_
  obtain ⟨t2, ht2, hf⟩ := xb hf
  refine x_geti S hw lk_Automaton_26 ht2 d_Automaton_equalTo_5 ?_
  refine lv_icmp_eq (tgt := 13) S.1 S.2.1 d_Automaton_equalTo_8 (by decide) (fun c3 => ?_) (fun c3 => ?_)
  · replace hf := xt c3 hf
    refine lv_iconst (v := 0) S.1 S.2.1 d_Automaton_equalTo_13 (by decide) ?_
    refine lv_istore_n (lv' := [(2, .int 0), (0, .ref a0), (1, .ref a1)]) S.1 S.2.1 d_Automaton_equalTo_14 rfl hl (by decide) rfl (fun ls hl => ?_)
    exact w_Automaton_equalTo_15 S hr hlocks  _ _ _ _ _ _ _ hw (lv_sub hl [1, 2, 0] rfl) hf
  · replace hf := xf c3 hf
    refine lv_iconst (v := 0) S.1 S.2.1 d_Automaton_equalTo_11 (by decide) ?_
    obtain rfl := xe1 hf
    exact x_zret S hr hlocks hw (by decide) d_Automaton_equalTo_12
def f_Automaton_firstWayTo_2 : Nat → Nat → Int32 → Int32 → xS → Option Int32
  | 0, _, _, _, _ => none
  | n + 1, a0, x1, x2, ω =>
    (xgi ω a0 0 1).bind fun t1 =>
    if (t1 * 10) ≤ x2 then (
      some 0)
    else (
      (xgr ω a0 0 0).bind fun t3 =>
      (xai ω t3 x2).bind fun t4 =>
      if t4 = x1 then (
        if 9 ≤ (x2 - x2 / 10 * 10) then (
          f_Automaton_firstWayTo_2  n a0 x1 (x2 + 1) ω)
        else (
          some x2))
      else (
        f_Automaton_firstWayTo_2  n a0 x1 (x2 + 1) ω))
set_option maxHeartbeats 4000000 in
set_option maxRecDepth 100000 in
theorem w_Automaton_firstWayTo_2 {p : Program} {l : Launch} {e : Env} {s : State} {m : MethodId} {args : Array Value} {below : List Frame} {meth : Method} {c : Code} {E : xV} {z : Nat} {r : Int32} {ω : xS} (S : CallFix p m c b_Automaton_firstWayTo 3 s args xTbl "RosterRules$Automaton") (hr : meth.sig.returnType = (some .int)) (hlocks : meth.locks = false) : ∀ n : Nat, ∀ (a0 : Nat) (x1 : Int32) (x2 : Int32) (H : Heap) (locs : List Loc) (ls : Array Slot), xW E z ω s s.heap H locs → lv_has ls 3 [(0, .ref a0), (1, .int x1), (2, .int x2)] → f_Automaton_firstWayTo_2 n a0 x1 x2 ω = some r → W p l e (headSpec ws_Automaton_firstWayTo { frames := 0, cells := 0, slots := 0, locals := 0 }).room s m args below meth c H locs 0 0 (MQ below (xQ E (some (.int r)) z ω) args s 0 0 (fun q => E.2.2 ≤ q)) (F0 m 2 ls []) := by
  intro n
  induction n with
  | zero =>
    intro a0 x1 x2 H locs ls hw hl hf
    have h2 : (none : Option Int32) = some r := hf
    cases h2
  | succ n ih =>
    intro a0 x1 x2 H locs ls hw hl hf
    rw [f_Automaton_firstWayTo_2] at hf
    refine lv_iload_n S.1 S.2.1 d_Automaton_firstWayTo_2 rfl (lv_at hl 2 rfl) ?_
    refine lv_aload_n S.1 S.2.1 d_Automaton_firstWayTo_3 rfl (lv_at hl 0 rfl) ?_
    obtain ⟨t1, ht1, hf⟩ := xb hf
    refine x_geti S hw lk_Automaton_26 ht1 d_Automaton_firstWayTo_4 ?_
    refine lv_bipush (v := 10) S.1 S.2.1 d_Automaton_firstWayTo_7 (by decide) ?_
    refine lv_imul S.1 S.2.1 d_Automaton_firstWayTo_9 ?_
    refine lv_icmp_ge (tgt := 40) S.1 S.2.1 d_Automaton_firstWayTo_10 (by decide) (fun c2 => ?_) (fun c2 => ?_)
    · replace hf := xt c2 hf
      refine lv_iconst (v := 0) S.1 S.2.1 d_Automaton_firstWayTo_40 (by decide) ?_
      obtain rfl := xe1 hf
      exact x_iret S hr hlocks hw d_Automaton_firstWayTo_41
    · replace hf := xf c2 hf
      refine lv_aload_n S.1 S.2.1 d_Automaton_firstWayTo_13 rfl (lv_at hl 0 rfl) ?_
      obtain ⟨t3, ht3, hf⟩ := xb hf
      refine x_getr S hw lk_Automaton_9 ht3 d_Automaton_firstWayTo_14 ?_
      refine lv_iload_n S.1 S.2.1 d_Automaton_firstWayTo_17 rfl (lv_at hl 2 rfl) ?_
      obtain ⟨t4, ht4, hf⟩ := xb hf
      refine x_iald S hw ht4 d_Automaton_firstWayTo_18 ?_
      refine lv_iload_n S.1 S.2.1 d_Automaton_firstWayTo_19 rfl (lv_at hl 1 rfl) ?_
      refine lv_icmp_ne (tgt := 34) S.1 S.2.1 d_Automaton_firstWayTo_20 (by decide) (fun c5 => ?_) (fun c5 => ?_)
      · replace hf := xf c5 hf
        refine lv_iinc (v := (x2 + 1)) (lv' := [(2, .int (x2 + 1)), (0, .ref a0), (1, .int x1)]) S.1 S.2.1 d_Automaton_firstWayTo_34 hl (k := 2) rfl rfl (by decide) rfl (fun ls hl => ?_)
        refine lv_goto (tgt := 2) S.1 S.2.1 d_Automaton_firstWayTo_37 (by decide) ?_
        exact ih _ _ _ _ _ _ hw (lv_sub hl [1, 2, 0] rfl) hf
      · replace hf := xt c5 hf
        refine lv_iload_n S.1 S.2.1 d_Automaton_firstWayTo_23 rfl (lv_at hl 2 rfl) ?_
        refine lv_bipush (v := 10) S.1 S.2.1 d_Automaton_firstWayTo_24 (by decide) ?_
        refine lv_irem S.1 S.2.1 d_Automaton_firstWayTo_26 (by decide) ?_
        refine lv_bipush (v := 9) S.1 S.2.1 d_Automaton_firstWayTo_27 (by decide) ?_
        refine lv_icmp_ge (tgt := 34) S.1 S.2.1 d_Automaton_firstWayTo_29 (by decide) (fun c6 => ?_) (fun c6 => ?_)
        · replace hf := xt c6 hf
          refine lv_iinc (v := (x2 + 1)) (lv' := [(2, .int (x2 + 1)), (0, .ref a0), (1, .int x1)]) S.1 S.2.1 d_Automaton_firstWayTo_34 hl (k := 2) rfl rfl (by decide) rfl (fun ls hl => ?_)
          refine lv_goto (tgt := 2) S.1 S.2.1 d_Automaton_firstWayTo_37 (by decide) ?_
          exact ih _ _ _ _ _ _ hw (lv_sub hl [1, 2, 0] rfl) hf
        · replace hf := xf c6 hf
          refine lv_iload_n S.1 S.2.1 d_Automaton_firstWayTo_32 rfl (lv_at hl 2 rfl) ?_
          obtain rfl := xe1 hf
          exact x_iret S hr hlocks hw d_Automaton_firstWayTo_33
def f_Automaton_firstWayTo (a0 : Nat) (x1 : Int32) (ω : xS) : Option Int32 :=
  f_Automaton_firstWayTo_2  xFU a0 x1 0 ω
set_option maxHeartbeats 4000000 in
set_option maxRecDepth 100000 in
theorem c_Automaton_firstWayTo {l : Launch} {E : xV} {z : Nat} {a0 : Nat} {x1 : Int32} {r : Int32} {ω : xS} (hf : f_Automaton_firstWayTo a0 x1 ω = some r) : xM l E y_Automaton_firstWayTo ws_Automaton_firstWayTo { frames := 0, cells := 0, slots := 0, locals := 0 } [.ref a0, .int x1] z ω (some (.int r)) z ω := by
  refine x_start (cc := b_Automaton_firstWayTo) (maxL := 3) (ret := (some .int)) (by decide) rfl (Nat.le_of_ble_eq_true rfl) ?_
  intro p e s m below meth c S hr hlocks hin ls hl hw
  have hl : lv_has ls 3 [(0, .ref a0), (1, .int x1)] := hl
  unfold f_Automaton_firstWayTo at hf
  refine lv_iconst (v := 0) S.1 S.2.1 d_Automaton_firstWayTo_0 (by decide) ?_
  refine lv_istore_n (lv' := [(2, .int 0), (0, .ref a0), (1, .int x1)]) S.1 S.2.1 d_Automaton_firstWayTo_1 rfl hl (by decide) rfl (fun ls hl => ?_)
  exact w_Automaton_firstWayTo_2 S hr hlocks  _ _ _ _ _ _ _ hw (lv_sub hl [1, 2, 0] rfl) hf
def f_Automaton_letterOfShortest_83 : Nat → Nat → Int32 → Int32 → Int32 → xS → Option Int32
  | 0, _, _, _, _, _ => none
  | n + 1, a0, x1, x4, x5, ω =>
    if x5 ≤ x1 then (
      some (x4 - x4 / 10 * 10))
    else (
      (xk ω a0 0 (f_Automaton_firstWayTo a0 (x4 / 10) ω)).bind fun t19 =>
      f_Automaton_letterOfShortest_83  n a0 x1 t19 (x5 + (-1)) ω)
set_option maxHeartbeats 4000000 in
set_option maxRecDepth 100000 in
theorem w_Automaton_letterOfShortest_83 {p : Program} {l : Launch} {e : Env} {s : State} {m : MethodId} {args : Array Value} {below : List Frame} {meth : Method} {c : Code} {E : xV} {z : Nat} {r : Int32} {ω : xS} (S : CallFix p m c b_Automaton_letterOfShortest 6 s args xTbl "RosterRules$Automaton") (hr : meth.sig.returnType = (some .int)) (hlocks : meth.locks = false) : ∀ n : Nat, ∀ (a0 : Nat) (x1 : Int32) (x4 : Int32) (x5 : Int32) (H : Heap) (locs : List Loc) (ls : Array Slot), xW E z ω s s.heap H locs → lv_has ls 6 [(0, .ref a0), (1, .int x1), (4, .int x4), (5, .int x5)] → f_Automaton_letterOfShortest_83 n a0 x1 x4 x5 ω = some r → W p l e (headSpec ws_Automaton_letterOfShortest { frames := 1, cells := 0, slots := 0, locals := 23 }).room s m args below meth c H locs 0 0 (MQ below (xQ E (some (.int r)) z ω) args s 0 0 (fun q => E.2.2 ≤ q)) (F0 m 83 ls []) := by
  intro n
  induction n with
  | zero =>
    intro a0 x1 x4 x5 H locs ls hw hl hf
    have h2 : (none : Option Int32) = some r := hf
    cases h2
  | succ n ih =>
    intro a0 x1 x4 x5 H locs ls hw hl hf
    rw [f_Automaton_letterOfShortest_83] at hf
    refine lv_iload S.1 S.2.1 d_Automaton_letterOfShortest_83 (lv_at hl 3 rfl) ?_
    refine lv_iload_n S.1 S.2.1 d_Automaton_letterOfShortest_85 rfl (lv_at hl 1 rfl) ?_
    refine lv_icmp_le (tgt := 106) S.1 S.2.1 d_Automaton_letterOfShortest_86 (by decide) (fun c17 => ?_) (fun c17 => ?_)
    · replace hf := xt c17 hf
      refine lv_iload S.1 S.2.1 d_Automaton_letterOfShortest_106 (lv_at hl 2 rfl) ?_
      refine lv_bipush (v := 10) S.1 S.2.1 d_Automaton_letterOfShortest_108 (by decide) ?_
      refine lv_irem S.1 S.2.1 d_Automaton_letterOfShortest_110 (by decide) ?_
      obtain rfl := xe1 hf
      exact x_iret S hr hlocks hw d_Automaton_letterOfShortest_111
    · replace hf := xf c17 hf
      refine lv_aload_n S.1 S.2.1 d_Automaton_letterOfShortest_89 rfl (lv_at hl 0 rfl) ?_
      refine lv_iload S.1 S.2.1 d_Automaton_letterOfShortest_90 (lv_at hl 2 rfl) ?_
      refine lv_bipush (v := 10) S.1 S.2.1 d_Automaton_letterOfShortest_92 (by decide) ?_
      refine lv_idiv S.1 S.2.1 d_Automaton_letterOfShortest_94 (by decide) ?_
      obtain ⟨t19, h18, hf⟩ := xb hf
      obtain ⟨h18b, h18⟩ := xkb h18
      refine x_callV (As := [.int (x4 / 10)]) (rest := []) (st1 := [.int t19]) S hw (c_Automaton_firstWayTo h18) (cwV 1 S.2.2.2.2 gv_Automaton_33 rfl rfl rfl hd_Automaton_firstWayTo ⟨Nat.le_of_ble_eq_true rfl, Nat.le_of_ble_eq_true rfl⟩) rfl h18b rfl hl.1 rfl rfl (Nat.le_of_ble_eq_true rfl) d_Automaton_letterOfShortest_95 ⟨Nat.le_of_ble_eq_true rfl, Nat.le_of_ble_eq_true rfl⟩ (fun H locs hw => ?_)
      refine lv_istore (lv' := [(4, .int t19), (0, .ref a0), (1, .int x1), (5, .int x5)]) S.1 S.2.1 d_Automaton_letterOfShortest_98 hl (by decide) rfl (fun ls hl => ?_)
      refine lv_iinc (v := (x5 + (-1))) (lv' := [(5, .int (x5 + (-1))), (4, .int t19), (0, .ref a0), (1, .int x1)]) S.1 S.2.1 d_Automaton_letterOfShortest_100 hl (k := 3) rfl rfl (by decide) rfl (fun ls hl => ?_)
      refine lv_goto (tgt := 83) S.1 S.2.1 d_Automaton_letterOfShortest_103 (by decide) ?_
      exact ih _ _ _ _ _ _ _ hw (lv_sub hl [2, 3, 1, 0] rfl) hf
def f_Automaton_letterOfShortest_33 : Nat → Nat → Int32 → Int32 → Int32 → Int32 → xS → Option Int32
  | 0, _, _, _, _, _, _ => none
  | n + 1, a0, x1, x2, x3, x4, ω =>
    if x4 ≤ 0 then (
      if x1 < x3 then (
        (xk ω a0 0 (f_Automaton_firstWayTo a0 x2 ω)).bind fun t9 =>
        f_Automaton_letterOfShortest_83  xFU a0 x1 t9 (x3 - 1) ω)
      else (
        some (-2)))
    else (
      (xgi ω a0 0 1).bind fun t10 =>
      if t10 ≤ x3 then (
        if x1 < x3 then (
          (xk ω a0 0 (f_Automaton_firstWayTo a0 x2 ω)).bind fun t14 =>
          f_Automaton_letterOfShortest_83  xFU a0 x1 t14 (x3 - 1) ω)
        else (
          some (-2)))
      else (
        (xk ω a0 0 (f_Automaton_firstWayTo a0 x4 ω)).bind fun t16 =>
        f_Automaton_letterOfShortest_33  n a0 x1 x2 (x3 + 1) (t16 / 10) ω))
set_option maxHeartbeats 4000000 in
set_option maxRecDepth 100000 in
theorem w_Automaton_letterOfShortest_33 {p : Program} {l : Launch} {e : Env} {s : State} {m : MethodId} {args : Array Value} {below : List Frame} {meth : Method} {c : Code} {E : xV} {z : Nat} {r : Int32} {ω : xS} (S : CallFix p m c b_Automaton_letterOfShortest 6 s args xTbl "RosterRules$Automaton") (hr : meth.sig.returnType = (some .int)) (hlocks : meth.locks = false) : ∀ n : Nat, ∀ (a0 : Nat) (x1 : Int32) (x2 : Int32) (x3 : Int32) (x4 : Int32) (H : Heap) (locs : List Loc) (ls : Array Slot), xW E z ω s s.heap H locs → lv_has ls 6 [(0, .ref a0), (1, .int x1), (2, .int x2), (3, .int x3), (4, .int x4)] → f_Automaton_letterOfShortest_33 n a0 x1 x2 x3 x4 ω = some r → W p l e (headSpec ws_Automaton_letterOfShortest { frames := 1, cells := 0, slots := 0, locals := 23 }).room s m args below meth c H locs 0 0 (MQ below (xQ E (some (.int r)) z ω) args s 0 0 (fun q => E.2.2 ≤ q)) (F0 m 33 ls []) := by
  intro n
  induction n with
  | zero =>
    intro a0 x1 x2 x3 x4 H locs ls hw hl hf
    have h2 : (none : Option Int32) = some r := hf
    cases h2
  | succ n ih =>
    intro a0 x1 x2 x3 x4 H locs ls hw hl hf
    rw [f_Automaton_letterOfShortest_33] at hf
    refine lv_iload S.1 S.2.1 d_Automaton_letterOfShortest_33 (lv_at hl 4 rfl) ?_
    refine lv_if_le (tgt := 63) S.1 S.2.1 d_Automaton_letterOfShortest_35 (by decide) (fun c6 => ?_) (fun c6 => ?_)
    · replace hf := xt c6 hf
      refine lv_iload_n S.1 S.2.1 d_Automaton_letterOfShortest_63 rfl (lv_at hl 1 rfl) ?_
      refine lv_iload_n S.1 S.2.1 d_Automaton_letterOfShortest_64 rfl (lv_at hl 3 rfl) ?_
      refine lv_icmp_lt (tgt := 71) S.1 S.2.1 d_Automaton_letterOfShortest_65 (by decide) (fun c7 => ?_) (fun c7 => ?_)
      · replace hf := xt c7 hf
        refine lv_aload_n S.1 S.2.1 d_Automaton_letterOfShortest_71 rfl (lv_at hl 0 rfl) ?_
        refine lv_iload_n S.1 S.2.1 d_Automaton_letterOfShortest_72 rfl (lv_at hl 2 rfl) ?_
        obtain ⟨t9, h8, hf⟩ := xb hf
        obtain ⟨h8b, h8⟩ := xkb h8
        refine x_callV (As := [.int x2]) (rest := []) (st1 := [.int t9]) S hw (c_Automaton_firstWayTo h8) (cwV 1 S.2.2.2.2 gv_Automaton_33 rfl rfl rfl hd_Automaton_firstWayTo ⟨Nat.le_of_ble_eq_true rfl, Nat.le_of_ble_eq_true rfl⟩) rfl h8b rfl hl.1 rfl rfl (Nat.le_of_ble_eq_true rfl) d_Automaton_letterOfShortest_73 ⟨Nat.le_of_ble_eq_true rfl, Nat.le_of_ble_eq_true rfl⟩ (fun H locs hw => ?_)
        refine lv_istore (lv' := [(4, .int t9), (0, .ref a0), (1, .int x1), (2, .int x2), (3, .int x3)]) S.1 S.2.1 d_Automaton_letterOfShortest_76 hl (by decide) rfl (fun ls hl => ?_)
        refine lv_iload_n S.1 S.2.1 d_Automaton_letterOfShortest_78 rfl (lv_at hl 4 rfl) ?_
        refine lv_iconst (v := 1) S.1 S.2.1 d_Automaton_letterOfShortest_79 (by decide) ?_
        refine lv_isub S.1 S.2.1 d_Automaton_letterOfShortest_80 ?_
        refine lv_istore (lv' := [(5, .int (x3 - 1)), (4, .int t9), (0, .ref a0), (1, .int x1), (2, .int x2), (3, .int x3)]) S.1 S.2.1 d_Automaton_letterOfShortest_81 hl (by decide) rfl (fun ls hl => ?_)
        exact w_Automaton_letterOfShortest_83 S hr hlocks  _ _ _ _ _ _ _ _ hw (lv_sub hl [2, 3, 1, 0] rfl) hf
      · replace hf := xf c7 hf
        refine lv_bipush (v := (-2)) S.1 S.2.1 d_Automaton_letterOfShortest_68 (by decide) ?_
        obtain rfl := xe1 hf
        exact x_iret S hr hlocks hw d_Automaton_letterOfShortest_70
    · replace hf := xf c6 hf
      refine lv_iload_n S.1 S.2.1 d_Automaton_letterOfShortest_38 rfl (lv_at hl 3 rfl) ?_
      refine lv_aload_n S.1 S.2.1 d_Automaton_letterOfShortest_39 rfl (lv_at hl 0 rfl) ?_
      obtain ⟨t10, ht10, hf⟩ := xb hf
      refine x_geti S hw lk_Automaton_26 ht10 d_Automaton_letterOfShortest_40 ?_
      refine lv_icmp_ge (tgt := 63) S.1 S.2.1 d_Automaton_letterOfShortest_43 (by decide) (fun c11 => ?_) (fun c11 => ?_)
      · replace hf := xt c11 hf
        refine lv_iload_n S.1 S.2.1 d_Automaton_letterOfShortest_63 rfl (lv_at hl 1 rfl) ?_
        refine lv_iload_n S.1 S.2.1 d_Automaton_letterOfShortest_64 rfl (lv_at hl 3 rfl) ?_
        refine lv_icmp_lt (tgt := 71) S.1 S.2.1 d_Automaton_letterOfShortest_65 (by decide) (fun c12 => ?_) (fun c12 => ?_)
        · replace hf := xt c12 hf
          refine lv_aload_n S.1 S.2.1 d_Automaton_letterOfShortest_71 rfl (lv_at hl 0 rfl) ?_
          refine lv_iload_n S.1 S.2.1 d_Automaton_letterOfShortest_72 rfl (lv_at hl 2 rfl) ?_
          obtain ⟨t14, h13, hf⟩ := xb hf
          obtain ⟨h13b, h13⟩ := xkb h13
          refine x_callV (As := [.int x2]) (rest := []) (st1 := [.int t14]) S hw (c_Automaton_firstWayTo h13) (cwV 1 S.2.2.2.2 gv_Automaton_33 rfl rfl rfl hd_Automaton_firstWayTo ⟨Nat.le_of_ble_eq_true rfl, Nat.le_of_ble_eq_true rfl⟩) rfl h13b rfl hl.1 rfl rfl (Nat.le_of_ble_eq_true rfl) d_Automaton_letterOfShortest_73 ⟨Nat.le_of_ble_eq_true rfl, Nat.le_of_ble_eq_true rfl⟩ (fun H locs hw => ?_)
          refine lv_istore (lv' := [(4, .int t14), (0, .ref a0), (1, .int x1), (2, .int x2), (3, .int x3)]) S.1 S.2.1 d_Automaton_letterOfShortest_76 hl (by decide) rfl (fun ls hl => ?_)
          refine lv_iload_n S.1 S.2.1 d_Automaton_letterOfShortest_78 rfl (lv_at hl 4 rfl) ?_
          refine lv_iconst (v := 1) S.1 S.2.1 d_Automaton_letterOfShortest_79 (by decide) ?_
          refine lv_isub S.1 S.2.1 d_Automaton_letterOfShortest_80 ?_
          refine lv_istore (lv' := [(5, .int (x3 - 1)), (4, .int t14), (0, .ref a0), (1, .int x1), (2, .int x2), (3, .int x3)]) S.1 S.2.1 d_Automaton_letterOfShortest_81 hl (by decide) rfl (fun ls hl => ?_)
          exact w_Automaton_letterOfShortest_83 S hr hlocks  _ _ _ _ _ _ _ _ hw (lv_sub hl [2, 3, 1, 0] rfl) hf
        · replace hf := xf c12 hf
          refine lv_bipush (v := (-2)) S.1 S.2.1 d_Automaton_letterOfShortest_68 (by decide) ?_
          obtain rfl := xe1 hf
          exact x_iret S hr hlocks hw d_Automaton_letterOfShortest_70
      · replace hf := xf c11 hf
        refine lv_iinc (v := (x3 + 1)) (lv' := [(3, .int (x3 + 1)), (0, .ref a0), (1, .int x1), (2, .int x2), (4, .int x4)]) S.1 S.2.1 d_Automaton_letterOfShortest_46 hl (k := 3) rfl rfl (by decide) rfl (fun ls hl => ?_)
        refine lv_aload_n S.1 S.2.1 d_Automaton_letterOfShortest_49 rfl (lv_at hl 1 rfl) ?_
        refine lv_iload S.1 S.2.1 d_Automaton_letterOfShortest_50 (lv_at hl 4 rfl) ?_
        obtain ⟨t16, h15, hf⟩ := xb hf
        obtain ⟨h15b, h15⟩ := xkb h15
        refine x_callV (As := [.int x4]) (rest := []) (st1 := [.int t16]) S hw (c_Automaton_firstWayTo h15) (cwV 1 S.2.2.2.2 gv_Automaton_33 rfl rfl rfl hd_Automaton_firstWayTo ⟨Nat.le_of_ble_eq_true rfl, Nat.le_of_ble_eq_true rfl⟩) rfl h15b rfl hl.1 rfl rfl (Nat.le_of_ble_eq_true rfl) d_Automaton_letterOfShortest_52 ⟨Nat.le_of_ble_eq_true rfl, Nat.le_of_ble_eq_true rfl⟩ (fun H locs hw => ?_)
        refine lv_bipush (v := 10) S.1 S.2.1 d_Automaton_letterOfShortest_55 (by decide) ?_
        refine lv_idiv S.1 S.2.1 d_Automaton_letterOfShortest_57 (by decide) ?_
        refine lv_istore (lv' := [(4, .int (t16 / 10)), (3, .int (x3 + 1)), (0, .ref a0), (1, .int x1), (2, .int x2)]) S.1 S.2.1 d_Automaton_letterOfShortest_58 hl (by decide) rfl (fun ls hl => ?_)
        refine lv_goto (tgt := 33) S.1 S.2.1 d_Automaton_letterOfShortest_60 (by decide) ?_
        exact ih _ _ _ _ _ _ _ _ hw (lv_sub hl [2, 3, 4, 1, 0] rfl) hf
def f_Automaton_letterOfShortest_2 : Nat → Nat → Int32 → Int32 → xS → Option Int32
  | 0, _, _, _, _ => none
  | n + 1, a0, x1, x2, ω =>
    (xgi ω a0 0 1).bind fun t1 =>
    if (t1 - 1) ≤ x2 then (
      f_Automaton_letterOfShortest_33  xFU a0 x1 x2 0 x2 ω)
    else (
      (xk ω a0 0 (f_Automaton_entry a0 x2 9 ω)).bind fun t4 =>
      if t4 = 0 then (
        f_Automaton_letterOfShortest_2  n a0 x1 (x2 + 1) ω)
      else (
        f_Automaton_letterOfShortest_33  xFU a0 x1 x2 0 x2 ω))
set_option maxHeartbeats 4000000 in
set_option maxRecDepth 100000 in
theorem w_Automaton_letterOfShortest_2 {p : Program} {l : Launch} {e : Env} {s : State} {m : MethodId} {args : Array Value} {below : List Frame} {meth : Method} {c : Code} {E : xV} {z : Nat} {r : Int32} {ω : xS} (S : CallFix p m c b_Automaton_letterOfShortest 6 s args xTbl "RosterRules$Automaton") (hr : meth.sig.returnType = (some .int)) (hlocks : meth.locks = false) : ∀ n : Nat, ∀ (a0 : Nat) (x1 : Int32) (x2 : Int32) (H : Heap) (locs : List Loc) (ls : Array Slot), xW E z ω s s.heap H locs → lv_has ls 6 [(0, .ref a0), (1, .int x1), (2, .int x2)] → f_Automaton_letterOfShortest_2 n a0 x1 x2 ω = some r → W p l e (headSpec ws_Automaton_letterOfShortest { frames := 1, cells := 0, slots := 0, locals := 23 }).room s m args below meth c H locs 0 0 (MQ below (xQ E (some (.int r)) z ω) args s 0 0 (fun q => E.2.2 ≤ q)) (F0 m 2 ls []) := by
  intro n
  induction n with
  | zero =>
    intro a0 x1 x2 H locs ls hw hl hf
    have h2 : (none : Option Int32) = some r := hf
    cases h2
  | succ n ih =>
    intro a0 x1 x2 H locs ls hw hl hf
    rw [f_Automaton_letterOfShortest_2] at hf
    refine lv_iload_n S.1 S.2.1 d_Automaton_letterOfShortest_2 rfl (lv_at hl 2 rfl) ?_
    refine lv_aload_n S.1 S.2.1 d_Automaton_letterOfShortest_3 rfl (lv_at hl 0 rfl) ?_
    obtain ⟨t1, ht1, hf⟩ := xb hf
    refine x_geti S hw lk_Automaton_26 ht1 d_Automaton_letterOfShortest_4 ?_
    refine lv_iconst (v := 1) S.1 S.2.1 d_Automaton_letterOfShortest_7 (by decide) ?_
    refine lv_isub S.1 S.2.1 d_Automaton_letterOfShortest_8 ?_
    refine lv_icmp_ge (tgt := 28) S.1 S.2.1 d_Automaton_letterOfShortest_9 (by decide) (fun c2 => ?_) (fun c2 => ?_)
    · replace hf := xt c2 hf
      refine lv_iconst (v := 0) S.1 S.2.1 d_Automaton_letterOfShortest_28 (by decide) ?_
      refine lv_istore_n (lv' := [(3, .int 0), (0, .ref a0), (1, .int x1), (2, .int x2)]) S.1 S.2.1 d_Automaton_letterOfShortest_29 rfl hl (by decide) rfl (fun ls hl => ?_)
      refine lv_iload_n S.1 S.2.1 d_Automaton_letterOfShortest_30 rfl (lv_at hl 3 rfl) ?_
      refine lv_istore (lv' := [(4, .int x2), (3, .int 0), (0, .ref a0), (1, .int x1), (2, .int x2)]) S.1 S.2.1 d_Automaton_letterOfShortest_31 hl (by decide) rfl (fun ls hl => ?_)
      exact w_Automaton_letterOfShortest_33 S hr hlocks  _ _ _ _ _ _ _ _ _ hw (lv_sub hl [2, 3, 4, 1, 0] rfl) hf
    · replace hf := xf c2 hf
      refine lv_aload_n S.1 S.2.1 d_Automaton_letterOfShortest_12 rfl (lv_at hl 0 rfl) ?_
      refine lv_iload_n S.1 S.2.1 d_Automaton_letterOfShortest_13 rfl (lv_at hl 2 rfl) ?_
      refine lv_bipush (v := 9) S.1 S.2.1 d_Automaton_letterOfShortest_14 (by decide) ?_
      obtain ⟨t4, h3, hf⟩ := xb hf
      obtain ⟨h3b, h3⟩ := xkb h3
      refine x_callV (As := [.int x2, .int 9]) (rest := []) (st1 := [.int t4]) S hw (c_Automaton_entry h3) (cwV 2 S.2.2.2.2 gv_Automaton_30 rfl rfl rfl hd_Automaton_entry ⟨Nat.le_of_ble_eq_true rfl, Nat.le_of_ble_eq_true rfl⟩) rfl h3b rfl hl.1 rfl rfl (Nat.le_of_ble_eq_true rfl) d_Automaton_letterOfShortest_16 ⟨Nat.le_of_ble_eq_true rfl, Nat.le_of_ble_eq_true rfl⟩ (fun H locs hw => ?_)
      refine lv_if_ne (tgt := 28) S.1 S.2.1 d_Automaton_letterOfShortest_19 (by decide) (fun c5 => ?_) (fun c5 => ?_)
      · replace hf := xf c5 hf
        refine lv_iconst (v := 0) S.1 S.2.1 d_Automaton_letterOfShortest_28 (by decide) ?_
        refine lv_istore_n (lv' := [(3, .int 0), (0, .ref a0), (1, .int x1), (2, .int x2)]) S.1 S.2.1 d_Automaton_letterOfShortest_29 rfl hl (by decide) rfl (fun ls hl => ?_)
        refine lv_iload_n S.1 S.2.1 d_Automaton_letterOfShortest_30 rfl (lv_at hl 3 rfl) ?_
        refine lv_istore (lv' := [(4, .int x2), (3, .int 0), (0, .ref a0), (1, .int x1), (2, .int x2)]) S.1 S.2.1 d_Automaton_letterOfShortest_31 hl (by decide) rfl (fun ls hl => ?_)
        exact w_Automaton_letterOfShortest_33 S hr hlocks  _ _ _ _ _ _ _ _ _ hw (lv_sub hl [2, 3, 4, 1, 0] rfl) hf
      · replace hf := xt c5 hf
        refine lv_iinc (v := (x2 + 1)) (lv' := [(2, .int (x2 + 1)), (0, .ref a0), (1, .int x1)]) S.1 S.2.1 d_Automaton_letterOfShortest_22 hl (k := 2) rfl rfl (by decide) rfl (fun ls hl => ?_)
        refine lv_goto (tgt := 2) S.1 S.2.1 d_Automaton_letterOfShortest_25 (by decide) ?_
        exact ih _ _ _ _ _ _ hw (lv_sub hl [1, 2, 0] rfl) hf
def f_Automaton_letterOfShortest (a0 : Nat) (x1 : Int32) (ω : xS) : Option Int32 :=
  f_Automaton_letterOfShortest_2  xFU a0 x1 0 ω
set_option maxHeartbeats 4000000 in
set_option maxRecDepth 100000 in
theorem c_Automaton_letterOfShortest {l : Launch} {E : xV} {z : Nat} {a0 : Nat} {x1 : Int32} {r : Int32} {ω : xS} (hf : f_Automaton_letterOfShortest a0 x1 ω = some r) : xM l E y_Automaton_letterOfShortest ws_Automaton_letterOfShortest { frames := 1, cells := 0, slots := 0, locals := 23 } [.ref a0, .int x1] z ω (some (.int r)) z ω := by
  refine x_start (cc := b_Automaton_letterOfShortest) (maxL := 6) (ret := (some .int)) (by decide) rfl (Nat.le_of_ble_eq_true rfl) ?_
  intro p e s m below meth c S hr hlocks hin ls hl hw
  have hl : lv_has ls 6 [(0, .ref a0), (1, .int x1)] := hl
  unfold f_Automaton_letterOfShortest at hf
  refine lv_iconst (v := 0) S.1 S.2.1 d_Automaton_letterOfShortest_0 (by decide) ?_
  refine lv_istore_n (lv' := [(2, .int 0), (0, .ref a0), (1, .int x1)]) S.1 S.2.1 d_Automaton_letterOfShortest_1 rfl hl (by decide) rfl (fun ls hl => ?_)
  exact w_Automaton_letterOfShortest_2 S hr hlocks  _ _ _ _ _ _ _ hw (lv_sub hl [1, 2, 0] rfl) hf
def f_AutomatonMaker_init (a0 : Nat) (z : Nat) (ω : xS) : Option xS :=
  xl (xu ω z (.inl (0, 1025, .inl (fun _ => 0)))) fun w1 =>
  (xp w1 a0 1 0 (.ref z)).bind fun w2 =>
  xl (xu w2 (z + 1) (.inl (0, 1025, .inl (fun _ => 0)))) fun w3 =>
  (xp w3 a0 1 1 (.ref (z + 1))).bind fun w4 =>
  xl (xu w4 (z + 2) (.inl (0, 9225, .inl (fun _ => 0)))) fun w5 =>
  (xp w5 a0 1 2 (.ref (z + 2))).bind fun w6 =>
  xl (xu w6 (z + 3) (.inl (0, 2048, .inl (fun _ => 0)))) fun w7 =>
  (xp w7 a0 1 3 (.ref (z + 3))).bind fun w8 =>
  xl (xu w8 (z + 4) (.inl (0, 1025, .inl (fun _ => 0)))) fun w9 =>
  (xp w9 a0 1 4 (.ref (z + 4))).bind fun w10 =>
  xl (xu w10 (z + 5) (.inl (0, 1025, .inl (fun _ => 0)))) fun w11 =>
  (xp w11 a0 1 5 (.ref (z + 5))).bind fun w12 =>
  xl (xu w12 (z + 6) (.inl (1, 1025, .inr (.inl (fun _ => 0))))) fun w13 =>
  (xp w13 a0 1 6 (.ref (z + 6))).bind fun w14 =>
  xl (xu w14 (z + 7) (.inl (1, 1025, .inr (.inl (fun _ => 0))))) fun w15 =>
  (xp w15 a0 1 7 (.ref (z + 7))).bind fun w16 =>
  some w16
set_option maxHeartbeats 4000000 in
set_option maxRecDepth 100000 in
theorem c_AutomatonMaker_init {l : Launch} {E : xV} {z : Nat} {a0 : Nat} {ω1 : xS} {ω : xS} (hf : f_AutomatonMaker_init a0 z ω = some ω1) : xM l E y_AutomatonMaker_init ws_AutomatonMaker_init { frames := 1, cells := 8, slots := 17423, locals := 20 } [.ref a0] z ω none (z + 8) ω1 := by
  refine x_start (cc := b_AutomatonMaker_init) (maxL := 1) (ret := none) (by decide) rfl (Nat.le_of_ble_eq_true rfl) ?_
  intro p e s m below meth c S hr hlocks hin ls hl hw
  have hl : lv_has ls 1 [(0, .ref a0)] := hl
  have hin := hin rfl
  unfold f_AutomatonMaker_init at hf
  refine lv_aload_n S.1 S.2.1 d_AutomatonMaker_init_0 rfl (lv_at hl 0 rfl) ?_
  refine x_obj S hl.1 ob_AutomatonMaker_5 d_AutomatonMaker_init_1 (Nat.le_of_ble_eq_true rfl) (Nat.le_of_ble_eq_true rfl) ?_
  refine lv_aload_n S.1 S.2.1 d_AutomatonMaker_init_4 rfl (lv_at hl 0 rfl) ?_
  refine lv_sipush (v := 1025) S.1 S.2.1 d_AutomatonMaker_init_5 (by decide) ?_
  obtain ⟨w1, hw1, hf⟩ := xlb hf
  refine x_newi (N := 1025) S hw xArr_i (by decide) (by decide) (by decide) hw1 (Nat.le_of_ble_eq_true rfl) (Nat.le_of_ble_eq_true rfl) d_AutomatonMaker_init_8 (fun H hw => ?_)
  obtain ⟨w2, hw2, hf⟩ := xb hf
  refine x_putF S hin hw lf_AutomatonMaker_13 rfl rfl hw2 d_AutomatonMaker_init_10 (fun H locs hw => ?_)
  refine lv_aload_n S.1 S.2.1 d_AutomatonMaker_init_13 rfl (lv_at hl 0 rfl) ?_
  refine lv_sipush (v := 1025) S.1 S.2.1 d_AutomatonMaker_init_14 (by decide) ?_
  obtain ⟨w3, hw3, hf⟩ := xlb hf
  refine x_newi (N := 1025) S hw xArr_i (by decide) (by decide) (by decide) hw3 (Nat.le_of_ble_eq_true rfl) (Nat.le_of_ble_eq_true rfl) d_AutomatonMaker_init_17 (fun H hw => ?_)
  obtain ⟨w4, hw4, hf⟩ := xb hf
  refine x_putF S hin hw lf_AutomatonMaker_17 rfl rfl hw4 d_AutomatonMaker_init_19 (fun H locs hw => ?_)
  refine lv_aload_n S.1 S.2.1 d_AutomatonMaker_init_22 rfl (lv_at hl 0 rfl) ?_
  refine lv_sipush (v := 9225) S.1 S.2.1 d_AutomatonMaker_init_23 (by decide) ?_
  obtain ⟨w5, hw5, hf⟩ := xlb hf
  refine x_newi (N := 9225) S hw xArr_i (by decide) (by decide) (by decide) hw5 (Nat.le_of_ble_eq_true rfl) (Nat.le_of_ble_eq_true rfl) d_AutomatonMaker_init_26 (fun H hw => ?_)
  obtain ⟨w6, hw6, hf⟩ := xb hf
  refine x_putF S hin hw lf_AutomatonMaker_20 rfl rfl hw6 d_AutomatonMaker_init_28 (fun H locs hw => ?_)
  refine lv_aload_n S.1 S.2.1 d_AutomatonMaker_init_31 rfl (lv_at hl 0 rfl) ?_
  refine lv_sipush (v := 2048) S.1 S.2.1 d_AutomatonMaker_init_32 (by decide) ?_
  obtain ⟨w7, hw7, hf⟩ := xlb hf
  refine x_newi (N := 2048) S hw xArr_i (by decide) (by decide) (by decide) hw7 (Nat.le_of_ble_eq_true rfl) (Nat.le_of_ble_eq_true rfl) d_AutomatonMaker_init_35 (fun H hw => ?_)
  obtain ⟨w8, hw8, hf⟩ := xb hf
  refine x_putF S hin hw lf_AutomatonMaker_23 rfl rfl hw8 d_AutomatonMaker_init_37 (fun H locs hw => ?_)
  refine lv_aload_n S.1 S.2.1 d_AutomatonMaker_init_40 rfl (lv_at hl 0 rfl) ?_
  refine lv_sipush (v := 1025) S.1 S.2.1 d_AutomatonMaker_init_41 (by decide) ?_
  obtain ⟨w9, hw9, hf⟩ := xlb hf
  refine x_newi (N := 1025) S hw xArr_i (by decide) (by decide) (by decide) hw9 (Nat.le_of_ble_eq_true rfl) (Nat.le_of_ble_eq_true rfl) d_AutomatonMaker_init_44 (fun H hw => ?_)
  obtain ⟨w10, hw10, hf⟩ := xb hf
  refine x_put S hw lp_AutomatonMaker_26 (rfl) rfl hw10 d_AutomatonMaker_init_46 (fun H locs hw => ?_)
  refine lv_aload_n S.1 S.2.1 d_AutomatonMaker_init_49 rfl (lv_at hl 0 rfl) ?_
  refine lv_sipush (v := 1025) S.1 S.2.1 d_AutomatonMaker_init_50 (by decide) ?_
  obtain ⟨w11, hw11, hf⟩ := xlb hf
  refine x_newi (N := 1025) S hw xArr_i (by decide) (by decide) (by decide) hw11 (Nat.le_of_ble_eq_true rfl) (Nat.le_of_ble_eq_true rfl) d_AutomatonMaker_init_53 (fun H hw => ?_)
  obtain ⟨w12, hw12, hf⟩ := xb hf
  refine x_put S hw lp_AutomatonMaker_29 (rfl) rfl hw12 d_AutomatonMaker_init_55 (fun H locs hw => ?_)
  refine lv_aload_n S.1 S.2.1 d_AutomatonMaker_init_58 rfl (lv_at hl 0 rfl) ?_
  refine lv_sipush (v := 1025) S.1 S.2.1 d_AutomatonMaker_init_59 (by decide) ?_
  obtain ⟨w13, hw13, hf⟩ := xlb hf
  refine x_newl (N := 1025) S hw xArr_l (by decide) (by decide) (by decide) hw13 (Nat.le_of_ble_eq_true rfl) (Nat.le_of_ble_eq_true rfl) d_AutomatonMaker_init_62 (fun H hw => ?_)
  obtain ⟨w14, hw14, hf⟩ := xb hf
  refine x_put S hw lp_AutomatonMaker_32 (rfl) rfl hw14 d_AutomatonMaker_init_64 (fun H locs hw => ?_)
  refine lv_aload_n S.1 S.2.1 d_AutomatonMaker_init_67 rfl (lv_at hl 0 rfl) ?_
  refine lv_sipush (v := 1025) S.1 S.2.1 d_AutomatonMaker_init_68 (by decide) ?_
  obtain ⟨w15, hw15, hf⟩ := xlb hf
  refine x_newl (N := 1025) S hw xArr_l (by decide) (by decide) (by decide) hw15 (Nat.le_of_ble_eq_true rfl) (Nat.le_of_ble_eq_true rfl) d_AutomatonMaker_init_71 (fun H hw => ?_)
  obtain ⟨w16, hw16, hf⟩ := xb hf
  refine x_put S hw lp_AutomatonMaker_36 (rfl) rfl hw16 d_AutomatonMaker_init_73 (fun H locs hw => ?_)
  cases hf
  exact x_vret S hr hlocks hw d_AutomatonMaker_init_76
def f_AutomatonMaker_numberOf (a0 : Nat) (x1 : Int32) (ω : xS) : Option (Int32 × xS) :=
  (xgr ω a0 1 1).bind fun t1 =>
  (xai ω t1 x1).bind fun t2 =>
  if t2 = 0 then (
    (xgi ω a0 1 8).bind fun t6 =>
    if 1025 ≤ t6 then (
      (xgr ω a0 1 1).bind fun t8 =>
      (xai ω t8 x1).bind fun t9 =>
      some ((xmax 0 (t9 - 1)), ω))
    else (
      (xgr ω a0 1 0).bind fun t10 =>
      (xgi ω a0 1 8).bind fun t11 =>
      (xsi ω t10 t11 x1).bind fun w12 =>
      (xgi w12 a0 1 8).bind fun t13 =>
      (xp w12 a0 1 8 (.int (t13 + 1))).bind fun w14 =>
      (xgr w14 a0 1 1).bind fun t15 =>
      (xgi w14 a0 1 8).bind fun t16 =>
      (xsi w14 t15 x1 t16).bind fun w17 =>
      (xgr w17 a0 1 1).bind fun t18 =>
      (xai w17 t18 x1).bind fun t19 =>
      some ((xmax 0 (t19 - 1)), w17)))
  else (
    (xgr ω a0 1 1).bind fun t4 =>
    (xai ω t4 x1).bind fun t5 =>
    some ((xmax 0 (t5 - 1)), ω))
set_option maxHeartbeats 4000000 in
set_option maxRecDepth 100000 in
theorem c_AutomatonMaker_numberOf {l : Launch} {E : xV} {z : Nat} {a0 : Nat} {x1 : Int32} {r : Int32} {ω1 : xS} {ω : xS} (hf : f_AutomatonMaker_numberOf a0 x1 ω = some (r, ω1)) : xM l E y_AutomatonMaker_numberOf ws_AutomatonMaker_numberOf { frames := 1, cells := 0, slots := 0, locals := 24 } [.ref a0, .int x1] z ω (some (.int r)) z ω1 := by
  refine x_start (cc := b_AutomatonMaker_numberOf) (maxL := 2) (ret := (some .int)) (by decide) rfl (Nat.le_of_ble_eq_true rfl) ?_
  intro p e s m below meth c S hr hlocks hin ls hl hw
  have hl : lv_has ls 2 [(0, .ref a0), (1, .int x1)] := hl
  unfold f_AutomatonMaker_numberOf at hf
  refine lv_aload_n S.1 S.2.1 d_AutomatonMaker_numberOf_0 rfl (lv_at hl 0 rfl) ?_
  obtain ⟨t1, ht1, hf⟩ := xb hf
  refine x_getr S hw lk_AutomatonMaker_17 ht1 d_AutomatonMaker_numberOf_1 ?_
  refine lv_iload_n S.1 S.2.1 d_AutomatonMaker_numberOf_4 rfl (lv_at hl 1 rfl) ?_
  obtain ⟨t2, ht2, hf⟩ := xb hf
  refine x_iald S hw ht2 d_AutomatonMaker_numberOf_5 ?_
  refine lv_if_ne (tgt := 49) S.1 S.2.1 d_AutomatonMaker_numberOf_6 (by decide) (fun c3 => ?_) (fun c3 => ?_)
  · replace hf := xf c3 hf
    refine lv_iconst (v := 0) S.1 S.2.1 d_AutomatonMaker_numberOf_49 (by decide) ?_
    refine lv_aload_n S.1 S.2.1 d_AutomatonMaker_numberOf_50 rfl (lv_at hl 0 rfl) ?_
    obtain ⟨t4, ht4, hf⟩ := xb hf
    refine x_getr S hw lk_AutomatonMaker_17 ht4 d_AutomatonMaker_numberOf_51 ?_
    refine lv_iload_n S.1 S.2.1 d_AutomatonMaker_numberOf_54 rfl (lv_at hl 1 rfl) ?_
    obtain ⟨t5, ht5, hf⟩ := xb hf
    refine x_iald S hw ht5 d_AutomatonMaker_numberOf_55 ?_
    refine lv_iconst (v := 1) S.1 S.2.1 d_AutomatonMaker_numberOf_56 (by decide) ?_
    refine lv_isub S.1 S.2.1 d_AutomatonMaker_numberOf_57 ?_
    refine x_mmax S hl.1 lm_AutomatonMaker_72 d_AutomatonMaker_numberOf_58 (Nat.le_of_ble_eq_true rfl) (Nat.le_of_ble_eq_true rfl) (Nat.zero_le _) (Nat.zero_le _) ?_
    obtain ⟨rfl, rfl⟩ := xe2 hf
    exact x_iret S hr hlocks hw d_AutomatonMaker_numberOf_61
  · replace hf := xt c3 hf
    refine lv_aload_n S.1 S.2.1 d_AutomatonMaker_numberOf_9 rfl (lv_at hl 0 rfl) ?_
    obtain ⟨t6, ht6, hf⟩ := xb hf
    refine x_geti S hw lk_AutomatonMaker_47 ht6 d_AutomatonMaker_numberOf_10 ?_
    refine lv_sipush (v := 1025) S.1 S.2.1 d_AutomatonMaker_numberOf_13 (by decide) ?_
    refine lv_icmp_ge (tgt := 49) S.1 S.2.1 d_AutomatonMaker_numberOf_16 (by decide) (fun c7 => ?_) (fun c7 => ?_)
    · replace hf := xt c7 hf
      refine lv_iconst (v := 0) S.1 S.2.1 d_AutomatonMaker_numberOf_49 (by decide) ?_
      refine lv_aload_n S.1 S.2.1 d_AutomatonMaker_numberOf_50 rfl (lv_at hl 0 rfl) ?_
      obtain ⟨t8, ht8, hf⟩ := xb hf
      refine x_getr S hw lk_AutomatonMaker_17 ht8 d_AutomatonMaker_numberOf_51 ?_
      refine lv_iload_n S.1 S.2.1 d_AutomatonMaker_numberOf_54 rfl (lv_at hl 1 rfl) ?_
      obtain ⟨t9, ht9, hf⟩ := xb hf
      refine x_iald S hw ht9 d_AutomatonMaker_numberOf_55 ?_
      refine lv_iconst (v := 1) S.1 S.2.1 d_AutomatonMaker_numberOf_56 (by decide) ?_
      refine lv_isub S.1 S.2.1 d_AutomatonMaker_numberOf_57 ?_
      refine x_mmax S hl.1 lm_AutomatonMaker_72 d_AutomatonMaker_numberOf_58 (Nat.le_of_ble_eq_true rfl) (Nat.le_of_ble_eq_true rfl) (Nat.zero_le _) (Nat.zero_le _) ?_
      obtain ⟨rfl, rfl⟩ := xe2 hf
      exact x_iret S hr hlocks hw d_AutomatonMaker_numberOf_61
    · replace hf := xf c7 hf
      refine lv_aload_n S.1 S.2.1 d_AutomatonMaker_numberOf_19 rfl (lv_at hl 0 rfl) ?_
      obtain ⟨t10, ht10, hf⟩ := xb hf
      refine x_getr S hw lk_AutomatonMaker_13 ht10 d_AutomatonMaker_numberOf_20 ?_
      refine lv_aload_n S.1 S.2.1 d_AutomatonMaker_numberOf_23 rfl (lv_at hl 0 rfl) ?_
      obtain ⟨t11, ht11, hf⟩ := xb hf
      refine x_geti S hw lk_AutomatonMaker_47 ht11 d_AutomatonMaker_numberOf_24 ?_
      refine lv_iload_n S.1 S.2.1 d_AutomatonMaker_numberOf_27 rfl (lv_at hl 1 rfl) ?_
      obtain ⟨w12, hw12, hf⟩ := xb hf
      refine x_iast S hw hw12 d_AutomatonMaker_numberOf_28 (fun H locs hw => ?_)
      refine lv_aload_n S.1 S.2.1 d_AutomatonMaker_numberOf_29 rfl (lv_at hl 0 rfl) ?_
      refine lv_dup S.1 S.2.1 d_AutomatonMaker_numberOf_30 rfl ?_
      obtain ⟨t13, ht13, hf⟩ := xb hf
      refine x_geti S hw lk_AutomatonMaker_47 ht13 d_AutomatonMaker_numberOf_31 ?_
      refine lv_iconst (v := 1) S.1 S.2.1 d_AutomatonMaker_numberOf_34 (by decide) ?_
      refine lv_iadd S.1 S.2.1 d_AutomatonMaker_numberOf_35 ?_
      obtain ⟨w14, hw14, hf⟩ := xb hf
      refine x_puti S hw lp_AutomatonMaker_47 hw14 d_AutomatonMaker_numberOf_36 (fun H locs hw => ?_)
      refine lv_aload_n S.1 S.2.1 d_AutomatonMaker_numberOf_39 rfl (lv_at hl 0 rfl) ?_
      obtain ⟨t15, ht15, hf⟩ := xb hf
      refine x_getr S hw lk_AutomatonMaker_17 ht15 d_AutomatonMaker_numberOf_40 ?_
      refine lv_iload_n S.1 S.2.1 d_AutomatonMaker_numberOf_43 rfl (lv_at hl 1 rfl) ?_
      refine lv_aload_n S.1 S.2.1 d_AutomatonMaker_numberOf_44 rfl (lv_at hl 0 rfl) ?_
      obtain ⟨t16, ht16, hf⟩ := xb hf
      refine x_geti S hw lk_AutomatonMaker_47 ht16 d_AutomatonMaker_numberOf_45 ?_
      obtain ⟨w17, hw17, hf⟩ := xb hf
      refine x_iast S hw hw17 d_AutomatonMaker_numberOf_48 (fun H locs hw => ?_)
      refine lv_iconst (v := 0) S.1 S.2.1 d_AutomatonMaker_numberOf_49 (by decide) ?_
      refine lv_aload_n S.1 S.2.1 d_AutomatonMaker_numberOf_50 rfl (lv_at hl 0 rfl) ?_
      obtain ⟨t18, ht18, hf⟩ := xb hf
      refine x_getr S hw lk_AutomatonMaker_17 ht18 d_AutomatonMaker_numberOf_51 ?_
      refine lv_iload_n S.1 S.2.1 d_AutomatonMaker_numberOf_54 rfl (lv_at hl 1 rfl) ?_
      obtain ⟨t19, ht19, hf⟩ := xb hf
      refine x_iald S hw ht19 d_AutomatonMaker_numberOf_55 ?_
      refine lv_iconst (v := 1) S.1 S.2.1 d_AutomatonMaker_numberOf_56 (by decide) ?_
      refine lv_isub S.1 S.2.1 d_AutomatonMaker_numberOf_57 ?_
      refine x_mmax S hl.1 lm_AutomatonMaker_72 d_AutomatonMaker_numberOf_58 (Nat.le_of_ble_eq_true rfl) (Nat.le_of_ble_eq_true rfl) (Nat.zero_le _) (Nat.zero_le _) ?_
      obtain ⟨rfl, rfl⟩ := xe2 hf
      exact x_iret S hr hlocks hw d_AutomatonMaker_numberOf_61
def f_Positions_after (a0 : Nat) (x1 : Int32) (ω : xS) : Option Int32 :=
  (xgr ω a0 7 2).bind fun t1 =>
  (xai ω t1 (x1 &&& 31)).bind fun t2 =>
  (xgr ω a0 7 3).bind fun t3 =>
  (xai ω t3 ((x1 >>> (5 &&& 31)) &&& 31)).bind fun t4 =>
  some (t2 ||| t4)
set_option maxHeartbeats 4000000 in
set_option maxRecDepth 100000 in
theorem c_Positions_after {l : Launch} {E : xV} {z : Nat} {a0 : Nat} {x1 : Int32} {r : Int32} {ω : xS} (hf : f_Positions_after a0 x1 ω = some r) : xM l E y_Positions_after ws_Positions_after { frames := 0, cells := 0, slots := 0, locals := 0 } [.ref a0, .int x1] z ω (some (.int r)) z ω := by
  refine x_start (cc := b_Positions_after) (maxL := 2) (ret := (some .int)) (by decide) rfl (Nat.le_of_ble_eq_true rfl) ?_
  intro p e s m below meth c S hr hlocks hin ls hl hw
  have hl : lv_has ls 2 [(0, .ref a0), (1, .int x1)] := hl
  unfold f_Positions_after at hf
  refine lv_aload_n S.1 S.2.1 d_Positions_after_0 rfl (lv_at hl 0 rfl) ?_
  obtain ⟨t1, ht1, hf⟩ := xb hf
  refine x_getr S hw lk_Positions_18 ht1 d_Positions_after_1 ?_
  refine lv_iload_n S.1 S.2.1 d_Positions_after_4 rfl (lv_at hl 1 rfl) ?_
  refine lv_bipush (v := 31) S.1 S.2.1 d_Positions_after_5 (by decide) ?_
  refine lv_iand S.1 S.2.1 d_Positions_after_7 ?_
  obtain ⟨t2, ht2, hf⟩ := xb hf
  refine x_iald S hw ht2 d_Positions_after_8 ?_
  refine lv_aload_n S.1 S.2.1 d_Positions_after_9 rfl (lv_at hl 0 rfl) ?_
  obtain ⟨t3, ht3, hf⟩ := xb hf
  refine x_getr S hw lk_Positions_21 ht3 d_Positions_after_10 ?_
  refine lv_iload_n S.1 S.2.1 d_Positions_after_13 rfl (lv_at hl 1 rfl) ?_
  refine lv_iconst (v := 5) S.1 S.2.1 d_Positions_after_14 (by decide) ?_
  refine lv_ishr S.1 S.2.1 d_Positions_after_15 ?_
  refine lv_bipush (v := 31) S.1 S.2.1 d_Positions_after_16 (by decide) ?_
  refine lv_iand S.1 S.2.1 d_Positions_after_18 ?_
  obtain ⟨t4, ht4, hf⟩ := xb hf
  refine x_iald S hw ht4 d_Positions_after_19 ?_
  refine lv_ior S.1 S.2.1 d_Positions_after_20 ?_
  obtain rfl := xe1 hf
  exact x_iret S hr hlocks hw d_Positions_after_21
def f_AutomatonMaker_explore_85 (k37 : Nat → Nat → Int32 → xS → Option xS) : Nat → Nat → Nat → Int32 → Int32 → Int32 → xS → Option xS
  | 0, _, _, _, _, _, _ => none
  | n + 1, a0, a1, x2, x3, x4, ω =>
    if 9 ≤ x4 then (
      k37 a0 a1 (x2 + 1) ω)
    else (
      (xgr ω a0 1 2).bind fun t20 =>
      (xgr ω a1 7 0).bind fun t21 =>
      (xai ω t21 x4).bind fun t22 =>
      xc (xk ω a0 1 (f_AutomatonMaker_numberOf a0 (x3 &&& t22) ω)) fun t24 w25 =>
      (xsi w25 t20 ((x2 * 9) + x4) t24).bind fun w26 =>
      f_AutomatonMaker_explore_85 k37 n a0 a1 x2 x3 (x4 + 1) w26)
set_option maxHeartbeats 4000000 in
set_option maxRecDepth 100000 in
theorem w_AutomatonMaker_explore_85 {p : Program} {l : Launch} {e : Env} {s : State} {m : MethodId} {args : Array Value} {below : List Frame} {meth : Method} {c : Code} {E : xV} {z : Nat} {ω1 : xS} {k37 : Nat → Nat → Int32 → xS → Option xS} (S : CallFix p m c b_AutomatonMaker_explore 5 s args xTbl "RosterRules$AutomatonMaker") (hr : meth.sig.returnType = none) (hlocks : meth.locks = false) (hk37 : ∀ (a0 : Nat) (a1 : Nat) (x2 : Int32) (ω : xS) (H : Heap) (locs : List Loc) (ls : Array Slot), xW E z ω s s.heap H locs → lv_has ls 5 [(0, .ref a0), (1, .ref a1), (2, .int x2)] → k37 a0 a1 x2 ω = some ω1 → W p l e (headSpec ws_AutomatonMaker_explore { frames := 2, cells := 0, slots := 0, locals := 45 }).room s m args below meth c H locs 0 0 (MQ below (xQ E none z ω1) args s 0 0 (fun q => E.2.2 ≤ q)) (F0 m 37 ls [])) : ∀ n : Nat, ∀ (a0 : Nat) (a1 : Nat) (x2 : Int32) (x3 : Int32) (x4 : Int32) (ω : xS) (H : Heap) (locs : List Loc) (ls : Array Slot), xW E z ω s s.heap H locs → lv_has ls 5 [(0, .ref a0), (1, .ref a1), (2, .int x2), (3, .int x3), (4, .int x4)] → f_AutomatonMaker_explore_85 k37 n a0 a1 x2 x3 x4 ω = some ω1 → W p l e (headSpec ws_AutomatonMaker_explore { frames := 2, cells := 0, slots := 0, locals := 45 }).room s m args below meth c H locs 0 0 (MQ below (xQ E none z ω1) args s 0 0 (fun q => E.2.2 ≤ q)) (F0 m 85 ls []) := by
  intro n
  induction n with
  | zero =>
    intro a0 a1 x2 x3 x4 ω H locs ls hw hl hf
    have h2 : (none : Option xS) = some ω1 := hf
    cases h2
  | succ n ih =>
    intro a0 a1 x2 x3 x4 ω H locs ls hw hl hf
    rw [f_AutomatonMaker_explore_85] at hf
    refine lv_iload S.1 S.2.1 d_AutomatonMaker_explore_85 (lv_at hl 4 rfl) ?_
    refine lv_bipush (v := 9) S.1 S.2.1 d_AutomatonMaker_explore_87 (by decide) ?_
    refine lv_icmp_ge (tgt := 123) S.1 S.2.1 d_AutomatonMaker_explore_89 (by decide) (fun c19 => ?_) (fun c19 => ?_)
    · replace hf := xt c19 hf
      refine lv_iinc (v := (x2 + 1)) (lv' := [(2, .int (x2 + 1)), (0, .ref a0), (1, .ref a1), (3, .int x3), (4, .int x4)]) S.1 S.2.1 d_AutomatonMaker_explore_123 hl (k := 2) rfl rfl (by decide) rfl (fun ls hl => ?_)
      refine lv_goto (tgt := 37) S.1 S.2.1 d_AutomatonMaker_explore_126 (by decide) ?_
      exact hk37 _ _ _ _ _ _ _ hw (lv_sub hl [1, 2, 0] rfl) hf
    · replace hf := xf c19 hf
      refine lv_aload_n S.1 S.2.1 d_AutomatonMaker_explore_92 rfl (lv_at hl 0 rfl) ?_
      obtain ⟨t20, ht20, hf⟩ := xb hf
      refine x_getr S hw lk_AutomatonMaker_20 ht20 d_AutomatonMaker_explore_93 ?_
      refine lv_iload_n S.1 S.2.1 d_AutomatonMaker_explore_96 rfl (lv_at hl 2 rfl) ?_
      refine lv_bipush (v := 9) S.1 S.2.1 d_AutomatonMaker_explore_97 (by decide) ?_
      refine lv_imul S.1 S.2.1 d_AutomatonMaker_explore_99 ?_
      refine lv_iload S.1 S.2.1 d_AutomatonMaker_explore_100 (lv_at hl 4 rfl) ?_
      refine lv_iadd S.1 S.2.1 d_AutomatonMaker_explore_102 ?_
      refine lv_aload_n S.1 S.2.1 d_AutomatonMaker_explore_103 rfl (lv_at hl 0 rfl) ?_
      refine lv_iload_n S.1 S.2.1 d_AutomatonMaker_explore_104 rfl (lv_at hl 3 rfl) ?_
      refine lv_aload_n S.1 S.2.1 d_AutomatonMaker_explore_105 rfl (lv_at hl 1 rfl) ?_
      obtain ⟨t21, ht21, hf⟩ := xb hf
      refine x_getr S hw lk_AutomatonMaker_69 ht21 d_AutomatonMaker_explore_106 ?_
      refine lv_iload S.1 S.2.1 d_AutomatonMaker_explore_109 (lv_at hl 4 rfl) ?_
      obtain ⟨t22, ht22, hf⟩ := xb hf
      refine x_iald S hw ht22 d_AutomatonMaker_explore_111 ?_
      refine lv_iand S.1 S.2.1 d_AutomatonMaker_explore_112 ?_
      obtain ⟨t24, w25, h23, hf⟩ := xcb hf
      obtain ⟨h23b, h23⟩ := xkb h23
      refine x_callV (As := [.int (x3 &&& t22)]) (rest := [.int ((x2 * 9) + x4), .ref t20]) (st1 := [.int t24, .int ((x2 * 9) + x4), .ref t20]) S hw (c_AutomatonMaker_numberOf h23) (cwV 1 S.2.2.2.2 gv_AutomatonMaker_59 rfl rfl rfl hd_AutomatonMaker_numberOf ⟨Nat.le_of_ble_eq_true rfl, Nat.le_of_ble_eq_true rfl⟩) rfl h23b rfl hl.1 rfl rfl (Nat.le_of_ble_eq_true rfl) d_AutomatonMaker_explore_113 ⟨Nat.le_of_ble_eq_true rfl, Nat.le_of_ble_eq_true rfl⟩ (fun H locs hw => ?_)
      obtain ⟨w26, hw26, hf⟩ := xb hf
      refine x_iast S hw hw26 d_AutomatonMaker_explore_116 (fun H locs hw => ?_)
      refine lv_iinc (v := (x4 + 1)) (lv' := [(4, .int (x4 + 1)), (0, .ref a0), (1, .ref a1), (2, .int x2), (3, .int x3)]) S.1 S.2.1 d_AutomatonMaker_explore_117 hl (k := 4) rfl rfl (by decide) rfl (fun ls hl => ?_)
      refine lv_goto (tgt := 85) S.1 S.2.1 d_AutomatonMaker_explore_120 (by decide) ?_
      exact ih _ _ _ _ _ _ _ _ _ hw (lv_sub hl [1, 2, 3, 4, 0] rfl) hf
def f_AutomatonMaker_explore_37 : Nat → Nat → Nat → Int32 → xS → Option xS
  | 0, _, _, _, _ => none
  | n + 1, a0, a1, x2, ω =>
    (xgi ω a0 1 8).bind fun t8 =>
    if t8 ≤ x2 then (
      some ω)
    else (
      if 1025 ≤ x2 then (
        some ω)
      else (
        (xgr ω a0 1 0).bind fun t11 =>
        (xai ω t11 x2).bind fun t12 =>
        if t12 = 1024 then (
          (xgi ω a1 7 6).bind fun t18 =>
          f_AutomatonMaker_explore_85 (f_AutomatonMaker_explore_37  n) xFU a0 a1 x2 t18 0 ω)
        else (
          (xgr ω a0 1 0).bind fun t14 =>
          (xai ω t14 x2).bind fun t15 =>
          (xk ω a1 7 (f_Positions_after a1 t15 ω)).bind fun t17 =>
          f_AutomatonMaker_explore_85 (f_AutomatonMaker_explore_37  n) xFU a0 a1 x2 t17 0 ω)))
set_option maxHeartbeats 4000000 in
set_option maxRecDepth 100000 in
theorem w_AutomatonMaker_explore_37 {p : Program} {l : Launch} {e : Env} {s : State} {m : MethodId} {args : Array Value} {below : List Frame} {meth : Method} {c : Code} {E : xV} {z : Nat} {ω1 : xS} (S : CallFix p m c b_AutomatonMaker_explore 5 s args xTbl "RosterRules$AutomatonMaker") (hr : meth.sig.returnType = none) (hlocks : meth.locks = false) : ∀ n : Nat, ∀ (a0 : Nat) (a1 : Nat) (x2 : Int32) (ω : xS) (H : Heap) (locs : List Loc) (ls : Array Slot), xW E z ω s s.heap H locs → lv_has ls 5 [(0, .ref a0), (1, .ref a1), (2, .int x2)] → f_AutomatonMaker_explore_37 n a0 a1 x2 ω = some ω1 → W p l e (headSpec ws_AutomatonMaker_explore { frames := 2, cells := 0, slots := 0, locals := 45 }).room s m args below meth c H locs 0 0 (MQ below (xQ E none z ω1) args s 0 0 (fun q => E.2.2 ≤ q)) (F0 m 37 ls []) := by
  intro n
  induction n with
  | zero =>
    intro a0 a1 x2 ω H locs ls hw hl hf
    have h2 : (none : Option xS) = some ω1 := hf
    cases h2
  | succ n ih =>
    intro a0 a1 x2 ω H locs ls hw hl hf
    rw [f_AutomatonMaker_explore_37] at hf
    refine lv_iload_n S.1 S.2.1 d_AutomatonMaker_explore_37 rfl (lv_at hl 2 rfl) ?_
    refine lv_aload_n S.1 S.2.1 d_AutomatonMaker_explore_38 rfl (lv_at hl 0 rfl) ?_
    obtain ⟨t8, ht8, hf⟩ := xb hf
    refine x_geti S hw lk_AutomatonMaker_47 ht8 d_AutomatonMaker_explore_39 ?_
    refine lv_icmp_ge (tgt := 129) S.1 S.2.1 d_AutomatonMaker_explore_42 (by decide) (fun c9 => ?_) (fun c9 => ?_)
    · replace hf := xt c9 hf
      cases hf
      exact x_vret S hr hlocks hw d_AutomatonMaker_explore_129
    · replace hf := xf c9 hf
      refine lv_iload_n S.1 S.2.1 d_AutomatonMaker_explore_45 rfl (lv_at hl 2 rfl) ?_
      refine lv_sipush (v := 1025) S.1 S.2.1 d_AutomatonMaker_explore_46 (by decide) ?_
      refine lv_icmp_ge (tgt := 129) S.1 S.2.1 d_AutomatonMaker_explore_49 (by decide) (fun c10 => ?_) (fun c10 => ?_)
      · replace hf := xt c10 hf
        cases hf
        exact x_vret S hr hlocks hw d_AutomatonMaker_explore_129
      · replace hf := xf c10 hf
        refine lv_aload_n S.1 S.2.1 d_AutomatonMaker_explore_52 rfl (lv_at hl 0 rfl) ?_
        obtain ⟨t11, ht11, hf⟩ := xb hf
        refine x_getr S hw lk_AutomatonMaker_13 ht11 d_AutomatonMaker_explore_53 ?_
        refine lv_iload_n S.1 S.2.1 d_AutomatonMaker_explore_56 rfl (lv_at hl 2 rfl) ?_
        obtain ⟨t12, ht12, hf⟩ := xb hf
        refine x_iald S hw ht12 d_AutomatonMaker_explore_57 ?_
        refine lv_sipush (v := 1024) S.1 S.2.1 d_AutomatonMaker_explore_58 (by decide) ?_
        refine lv_icmp_ne (tgt := 71) S.1 S.2.1 d_AutomatonMaker_explore_61 (by decide) (fun c13 => ?_) (fun c13 => ?_)
        · replace hf := xf c13 hf
          refine lv_aload_n S.1 S.2.1 d_AutomatonMaker_explore_71 rfl (lv_at hl 1 rfl) ?_
          refine lv_aload_n S.1 S.2.1 d_AutomatonMaker_explore_72 rfl (lv_at hl 0 rfl) ?_
          obtain ⟨t14, ht14, hf⟩ := xb hf
          refine x_getr S hw lk_AutomatonMaker_13 ht14 d_AutomatonMaker_explore_73 ?_
          refine lv_iload_n S.1 S.2.1 d_AutomatonMaker_explore_76 rfl (lv_at hl 2 rfl) ?_
          obtain ⟨t15, ht15, hf⟩ := xb hf
          refine x_iald S hw ht15 d_AutomatonMaker_explore_77 ?_
          obtain ⟨t17, h16, hf⟩ := xb hf
          obtain ⟨h16b, h16⟩ := xkb h16
          refine x_callV (As := [.int t15]) (rest := []) (st1 := [.int t17]) S hw (c_Positions_after h16) (cwV 1 S.2.2.2.2 gv_AutomatonMaker_66 rfl rfl rfl hd_Positions_after ⟨Nat.le_of_ble_eq_true rfl, Nat.le_of_ble_eq_true rfl⟩) rfl h16b rfl hl.1 rfl rfl (Nat.le_of_ble_eq_true rfl) d_AutomatonMaker_explore_78 ⟨Nat.le_of_ble_eq_true rfl, Nat.le_of_ble_eq_true rfl⟩ (fun H locs hw => ?_)
          refine lv_istore_n (lv' := [(3, .int t17), (0, .ref a0), (1, .ref a1), (2, .int x2)]) S.1 S.2.1 d_AutomatonMaker_explore_81 rfl hl (by decide) rfl (fun ls hl => ?_)
          refine lv_iconst (v := 0) S.1 S.2.1 d_AutomatonMaker_explore_82 (by decide) ?_
          refine lv_istore (lv' := [(4, .int 0), (3, .int t17), (0, .ref a0), (1, .ref a1), (2, .int x2)]) S.1 S.2.1 d_AutomatonMaker_explore_83 hl (by decide) rfl (fun ls hl => ?_)
          exact w_AutomatonMaker_explore_85 S hr hlocks ih _ _ _ _ _ _ _ _ _ _ hw (lv_sub hl [2, 3, 4, 1, 0] rfl) hf
        · replace hf := xt c13 hf
          refine lv_aload_n S.1 S.2.1 d_AutomatonMaker_explore_64 rfl (lv_at hl 1 rfl) ?_
          obtain ⟨t18, ht18, hf⟩ := xb hf
          refine x_geti S hw lk_AutomatonMaker_63 ht18 d_AutomatonMaker_explore_65 ?_
          refine lv_goto (tgt := 81) S.1 S.2.1 d_AutomatonMaker_explore_68 (by decide) ?_
          refine lv_istore_n (lv' := [(3, .int t18), (0, .ref a0), (1, .ref a1), (2, .int x2)]) S.1 S.2.1 d_AutomatonMaker_explore_81 rfl hl (by decide) rfl (fun ls hl => ?_)
          refine lv_iconst (v := 0) S.1 S.2.1 d_AutomatonMaker_explore_82 (by decide) ?_
          refine lv_istore (lv' := [(4, .int 0), (3, .int t18), (0, .ref a0), (1, .ref a1), (2, .int x2)]) S.1 S.2.1 d_AutomatonMaker_explore_83 hl (by decide) rfl (fun ls hl => ?_)
          exact w_AutomatonMaker_explore_85 S hr hlocks ih _ _ _ _ _ _ _ _ _ _ hw (lv_sub hl [2, 3, 4, 1, 0] rfl) hf
def f_AutomatonMaker_explore_2 : Nat → Nat → Nat → Int32 → xS → Option xS
  | 0, _, _, _, _ => none
  | n + 1, a0, a1, x2, ω =>
    if 1025 ≤ x2 then (
      (xp ω a0 1 8 (.int 0)).bind fun w2 =>
      xc (xk w2 a0 1 (f_AutomatonMaker_numberOf a0 1024 w2)) fun t4 w5 =>
      f_AutomatonMaker_explore_37  xFU a0 a1 0 w5)
    else (
      (xgr ω a0 1 1).bind fun t6 =>
      (xsi ω t6 x2 0).bind fun w7 =>
      f_AutomatonMaker_explore_2  n a0 a1 (x2 + 1) w7)
set_option maxHeartbeats 4000000 in
set_option maxRecDepth 100000 in
theorem w_AutomatonMaker_explore_2 {p : Program} {l : Launch} {e : Env} {s : State} {m : MethodId} {args : Array Value} {below : List Frame} {meth : Method} {c : Code} {E : xV} {z : Nat} {ω1 : xS} (S : CallFix p m c b_AutomatonMaker_explore 5 s args xTbl "RosterRules$AutomatonMaker") (hr : meth.sig.returnType = none) (hlocks : meth.locks = false) : ∀ n : Nat, ∀ (a0 : Nat) (a1 : Nat) (x2 : Int32) (ω : xS) (H : Heap) (locs : List Loc) (ls : Array Slot), xW E z ω s s.heap H locs → lv_has ls 5 [(0, .ref a0), (1, .ref a1), (2, .int x2)] → f_AutomatonMaker_explore_2 n a0 a1 x2 ω = some ω1 → W p l e (headSpec ws_AutomatonMaker_explore { frames := 2, cells := 0, slots := 0, locals := 45 }).room s m args below meth c H locs 0 0 (MQ below (xQ E none z ω1) args s 0 0 (fun q => E.2.2 ≤ q)) (F0 m 2 ls []) := by
  intro n
  induction n with
  | zero =>
    intro a0 a1 x2 ω H locs ls hw hl hf
    have h2 : (none : Option xS) = some ω1 := hf
    cases h2
  | succ n ih =>
    intro a0 a1 x2 ω H locs ls hw hl hf
    rw [f_AutomatonMaker_explore_2] at hf
    refine lv_iload_n S.1 S.2.1 d_AutomatonMaker_explore_2 rfl (lv_at hl 2 rfl) ?_
    refine lv_sipush (v := 1025) S.1 S.2.1 d_AutomatonMaker_explore_3 (by decide) ?_
    refine lv_icmp_ge (tgt := 22) S.1 S.2.1 d_AutomatonMaker_explore_6 (by decide) (fun c1 => ?_) (fun c1 => ?_)
    · replace hf := xt c1 hf
      refine lv_aload_n S.1 S.2.1 d_AutomatonMaker_explore_22 rfl (lv_at hl 0 rfl) ?_
      refine lv_iconst (v := 0) S.1 S.2.1 d_AutomatonMaker_explore_23 (by decide) ?_
      obtain ⟨w2, hw2, hf⟩ := xb hf
      refine x_puti S hw lp_AutomatonMaker_47 hw2 d_AutomatonMaker_explore_24 (fun H locs hw => ?_)
      refine lv_aload_n S.1 S.2.1 d_AutomatonMaker_explore_27 rfl (lv_at hl 0 rfl) ?_
      refine lv_sipush (v := 1024) S.1 S.2.1 d_AutomatonMaker_explore_28 (by decide) ?_
      obtain ⟨t4, w5, h3, hf⟩ := xcb hf
      obtain ⟨h3b, h3⟩ := xkb h3
      refine x_callV (As := [.int 1024]) (rest := []) (st1 := [.int t4]) S hw (c_AutomatonMaker_numberOf h3) (cwV 1 S.2.2.2.2 gv_AutomatonMaker_59 rfl rfl rfl hd_AutomatonMaker_numberOf ⟨Nat.le_of_ble_eq_true rfl, Nat.le_of_ble_eq_true rfl⟩) rfl h3b rfl hl.1 rfl rfl (Nat.le_of_ble_eq_true rfl) d_AutomatonMaker_explore_31 ⟨Nat.le_of_ble_eq_true rfl, Nat.le_of_ble_eq_true rfl⟩ (fun H locs hw => ?_)
      refine lv_pop S.1 S.2.1 d_AutomatonMaker_explore_34 rfl ?_
      refine lv_iconst (v := 0) S.1 S.2.1 d_AutomatonMaker_explore_35 (by decide) ?_
      refine lv_istore_n (lv' := [(2, .int 0), (0, .ref a0), (1, .ref a1)]) S.1 S.2.1 d_AutomatonMaker_explore_36 rfl hl (by decide) rfl (fun ls hl => ?_)
      exact w_AutomatonMaker_explore_37 S hr hlocks  _ _ _ _ _ _ _ _ hw (lv_sub hl [1, 2, 0] rfl) hf
    · replace hf := xf c1 hf
      refine lv_aload_n S.1 S.2.1 d_AutomatonMaker_explore_9 rfl (lv_at hl 0 rfl) ?_
      obtain ⟨t6, ht6, hf⟩ := xb hf
      refine x_getr S hw lk_AutomatonMaker_17 ht6 d_AutomatonMaker_explore_10 ?_
      refine lv_iload_n S.1 S.2.1 d_AutomatonMaker_explore_13 rfl (lv_at hl 2 rfl) ?_
      refine lv_iconst (v := 0) S.1 S.2.1 d_AutomatonMaker_explore_14 (by decide) ?_
      obtain ⟨w7, hw7, hf⟩ := xb hf
      refine x_iast S hw hw7 d_AutomatonMaker_explore_15 (fun H locs hw => ?_)
      refine lv_iinc (v := (x2 + 1)) (lv' := [(2, .int (x2 + 1)), (0, .ref a0), (1, .ref a1)]) S.1 S.2.1 d_AutomatonMaker_explore_16 hl (k := 2) rfl rfl (by decide) rfl (fun ls hl => ?_)
      refine lv_goto (tgt := 2) S.1 S.2.1 d_AutomatonMaker_explore_19 (by decide) ?_
      exact ih _ _ _ _ _ _ _ hw (lv_sub hl [1, 2, 0] rfl) hf
def f_AutomatonMaker_explore (a0 : Nat) (a1 : Nat) (ω : xS) : Option xS :=
  f_AutomatonMaker_explore_2  xFU a0 a1 0 ω
set_option maxHeartbeats 4000000 in
set_option maxRecDepth 100000 in
theorem c_AutomatonMaker_explore {l : Launch} {E : xV} {z : Nat} {a0 : Nat} {a1 : Nat} {ω1 : xS} {ω : xS} (hf : f_AutomatonMaker_explore a0 a1 ω = some ω1) : xM l E y_AutomatonMaker_explore ws_AutomatonMaker_explore { frames := 2, cells := 0, slots := 0, locals := 45 } [.ref a0, .ref a1] z ω none z ω1 := by
  refine x_start (cc := b_AutomatonMaker_explore) (maxL := 5) (ret := none) (by decide) rfl (Nat.le_of_ble_eq_true rfl) ?_
  intro p e s m below meth c S hr hlocks hin ls hl hw
  have hl : lv_has ls 5 [(0, .ref a0), (1, .ref a1)] := hl
  unfold f_AutomatonMaker_explore at hf
  refine lv_iconst (v := 0) S.1 S.2.1 d_AutomatonMaker_explore_0 (by decide) ?_
  refine lv_istore_n (lv' := [(2, .int 0), (0, .ref a0), (1, .ref a1)]) S.1 S.2.1 d_AutomatonMaker_explore_1 rfl hl (by decide) rfl (fun ls hl => ?_)
  exact w_AutomatonMaker_explore_2 S hr hlocks  _ _ _ _ _ _ _ _ hw (lv_sub hl [1, 2, 0] rfl) hf
