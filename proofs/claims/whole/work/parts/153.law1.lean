def f_law_374 (xs : Nat → Int32) (L : Nat) (k38 : Nat → Nat → Int32 → Nat → Nat → Nat → xS → Option Unit) (a1 a2 : Nat) (x3 : Int32) (cc uu z : Nat) (ω : xS) : Option Unit :=
  (ysc xs L (x3 + 1)).bind fun _ =>
  (ysc xs L (x3 + 2)).bind fun _ =>
  (ysc xs L (x3 + 3)).bind fun _ =>
  (ysc xs L (x3 + 4)).bind fun _ =>
  xc (xk ω a1 11 (f_RR_wish a1 (xs ((x3 + 1)).toNatClampNeg) (xs ((x3 + 2)).toNatClampNeg) (xs ((x3 + 3)).toNatClampNeg) (xs ((x3 + 4)).toNatClampNeg) ω)) fun t6 w7 =>
  (ysc xs L (x3 + 1)).bind fun _ =>
  (ysc xs L (x3 + 2)).bind fun _ =>
  (ysc xs L (x3 + 3)).bind fun _ =>
  (ysc xs L (x3 + 4)).bind fun _ =>
  xc (xk w7 a2 12 (f_Mo_wish a2 (xs ((x3 + 1)).toNatClampNeg) (xs ((x3 + 2)).toNatClampNeg) (xs ((x3 + 3)).toNatClampNeg) (xs ((x3 + 4)).toNatClampNeg) w7)) fun t13 w14 =>
  if t6 = t13 then (
    k38 a1 a2 (x3 + 5) cc uu z w14)
  else (
    none)
set_option maxHeartbeats 4000000 in
set_option maxRecDepth 100000 in
theorem w_law_374 {p : Program} {l : Launch} {e : Env} {s : State} {m : MethodId} {below : List Frame} {meth : Method} {c : Code} {E : xV} {b L : Nat} {xs : Nat → Int32} (S : CallFix p m c code 4 s #[Value.ref b] xTbl "RosterRulesLaw") (hr : meth.sig.returnType = ret) (hlocks : meth.locks = false) (hX : va_X b L xs s s.heap) (hbl : b < s.heap.size) (hE : E.2.2 = s.heap.size) {k38 : Nat → Nat → Int32 → Nat → Nat → Nat → xS → Option Unit} (hk : ∀ (a1 a2 : Nat) (x3 : Int32) (cc uu z : Nat) (ω : xS) (H : Heap) (locs : List Loc) (ls : Array Slot), cc ≤ 600000 → uu ≤ 7302250 → xW E z ω s s.heap H locs → lv_has ls 4 [(0, .ref b), (1, .ref a1), (2, .ref a2), (3, .int x3)] → k38 a1 a2 x3 cc uu z ω = some () → W p l e room_1 s m #[Value.ref b] below meth c H locs cc uu (lw_Z below #[Value.ref b] s) (F0 m 38 ls [])) : ∀ (a1 a2 : Nat) (x3 : Int32) (cc uu z : Nat) (ω : xS) (H : Heap) (locs : List Loc) (ls : Array Slot), cc ≤ 600000 → uu ≤ 7302250 → xW E z ω s s.heap H locs → lv_has ls 4 [(0, .ref b), (1, .ref a1), (2, .ref a2), (3, .int x3)] → f_law_374 xs L k38 a1 a2 x3 cc uu z ω = some () → W p l e room_1 s m #[Value.ref b] below meth c H locs cc uu (lw_Z below #[Value.ref b] s) (F0 m 374 ls []) := by
  intro a1 a2 x3 cc uu z ω H locs ls hcc huu hw hl hf
  have hbA : ¬ E.2.2 ≤ b := by rw [hE]; exact Nat.not_le.mpr hbl
  unfold f_law_374 at hf
  refine lv_aload_n S.1 S.2.1 d_Lw_law_374 rfl (lv_at hl 1 rfl) ?_
  refine lv_aload_n S.1 S.2.1 d_Lw_law_375 rfl (lv_at hl 0 rfl) ?_
  refine lv_iload_n S.1 S.2.1 d_Lw_law_376 rfl (lv_at hl 3 rfl) ?_
  refine lv_iconst (v := 1) S.1 S.2.1 d_Lw_law_377 (by decide) ?_
  refine lv_iadd S.1 S.2.1 d_Lw_law_378 ?_
  obtain ⟨t1, ht1, hf⟩ := xb hf
  obtain ⟨hvt1, rfl⟩ := ysc_spec ht1
  refine va_sld S.1 S.2.1 hX hbl hbA hw.2.2 hvt1 d_Lw_law_379 ?_
  refine lv_aload_n S.1 S.2.1 d_Lw_law_380 rfl (lv_at hl 0 rfl) ?_
  refine lv_iload_n S.1 S.2.1 d_Lw_law_381 rfl (lv_at hl 3 rfl) ?_
  refine lv_iconst (v := 2) S.1 S.2.1 d_Lw_law_382 (by decide) ?_
  refine lv_iadd S.1 S.2.1 d_Lw_law_383 ?_
  obtain ⟨t2, ht2, hf⟩ := xb hf
  obtain ⟨hvt2, rfl⟩ := ysc_spec ht2
  refine va_sld S.1 S.2.1 hX hbl hbA hw.2.2 hvt2 d_Lw_law_384 ?_
  refine lv_aload_n S.1 S.2.1 d_Lw_law_385 rfl (lv_at hl 0 rfl) ?_
  refine lv_iload_n S.1 S.2.1 d_Lw_law_386 rfl (lv_at hl 3 rfl) ?_
  refine lv_iconst (v := 3) S.1 S.2.1 d_Lw_law_387 (by decide) ?_
  refine lv_iadd S.1 S.2.1 d_Lw_law_388 ?_
  obtain ⟨t3, ht3, hf⟩ := xb hf
  obtain ⟨hvt3, rfl⟩ := ysc_spec ht3
  refine va_sld S.1 S.2.1 hX hbl hbA hw.2.2 hvt3 d_Lw_law_389 ?_
  refine lv_aload_n S.1 S.2.1 d_Lw_law_390 rfl (lv_at hl 0 rfl) ?_
  refine lv_iload_n S.1 S.2.1 d_Lw_law_391 rfl (lv_at hl 3 rfl) ?_
  refine lv_iconst (v := 4) S.1 S.2.1 d_Lw_law_392 (by decide) ?_
  refine lv_iadd S.1 S.2.1 d_Lw_law_393 ?_
  obtain ⟨t4, ht4, hf⟩ := xb hf
  obtain ⟨hvt4, rfl⟩ := ysc_spec ht4
  refine va_sld S.1 S.2.1 hX hbl hbA hw.2.2 hvt4 d_Lw_law_394 ?_
  obtain ⟨t6, w7, h5, hf⟩ := xcb hf
  obtain ⟨h5b, h5⟩ := xkb h5
  refine x_callV (As := [.int (xs ((x3 + 1)).toNatClampNeg), .int (xs ((x3 + 2)).toNatClampNeg), .int (xs ((x3 + 3)).toNatClampNeg), .int (xs ((x3 + 4)).toNatClampNeg)]) (rest := []) (st1 := [.int t6]) S hw (c_RR_wish h5) (cwV 4 S.2.2.2.2 gv_Lw_52 rfl rfl rfl hd_RR_wish ⟨Nat.le_of_ble_eq_true rfl, Nat.le_of_ble_eq_true rfl⟩) rfl h5b rfl hl.1 rfl rfl (Nat.le_of_ble_eq_true rfl) d_Lw_law_395 ⟨(show _ ≤ 600000 by (try dsimp only); omega), (show _ ≤ 7302250 by (try dsimp only); omega)⟩ (fun H locs hw => ?_)
  refine lv_aload_n S.1 S.2.1 d_Lw_law_398 rfl (lv_at hl 2 rfl) ?_
  refine lv_aload_n S.1 S.2.1 d_Lw_law_399 rfl (lv_at hl 0 rfl) ?_
  refine lv_iload_n S.1 S.2.1 d_Lw_law_400 rfl (lv_at hl 3 rfl) ?_
  refine lv_iconst (v := 1) S.1 S.2.1 d_Lw_law_401 (by decide) ?_
  refine lv_iadd S.1 S.2.1 d_Lw_law_402 ?_
  obtain ⟨t8, ht8, hf⟩ := xb hf
  obtain ⟨hvt8, rfl⟩ := ysc_spec ht8
  refine va_sld S.1 S.2.1 hX hbl hbA hw.2.2 hvt8 d_Lw_law_403 ?_
  refine lv_aload_n S.1 S.2.1 d_Lw_law_404 rfl (lv_at hl 0 rfl) ?_
  refine lv_iload_n S.1 S.2.1 d_Lw_law_405 rfl (lv_at hl 3 rfl) ?_
  refine lv_iconst (v := 2) S.1 S.2.1 d_Lw_law_406 (by decide) ?_
  refine lv_iadd S.1 S.2.1 d_Lw_law_407 ?_
  obtain ⟨t9, ht9, hf⟩ := xb hf
  obtain ⟨hvt9, rfl⟩ := ysc_spec ht9
  refine va_sld S.1 S.2.1 hX hbl hbA hw.2.2 hvt9 d_Lw_law_408 ?_
  refine lv_aload_n S.1 S.2.1 d_Lw_law_409 rfl (lv_at hl 0 rfl) ?_
  refine lv_iload_n S.1 S.2.1 d_Lw_law_410 rfl (lv_at hl 3 rfl) ?_
  refine lv_iconst (v := 3) S.1 S.2.1 d_Lw_law_411 (by decide) ?_
  refine lv_iadd S.1 S.2.1 d_Lw_law_412 ?_
  obtain ⟨t10, ht10, hf⟩ := xb hf
  obtain ⟨hvt10, rfl⟩ := ysc_spec ht10
  refine va_sld S.1 S.2.1 hX hbl hbA hw.2.2 hvt10 d_Lw_law_413 ?_
  refine lv_aload_n S.1 S.2.1 d_Lw_law_414 rfl (lv_at hl 0 rfl) ?_
  refine lv_iload_n S.1 S.2.1 d_Lw_law_415 rfl (lv_at hl 3 rfl) ?_
  refine lv_iconst (v := 4) S.1 S.2.1 d_Lw_law_416 (by decide) ?_
  refine lv_iadd S.1 S.2.1 d_Lw_law_417 ?_
  obtain ⟨t11, ht11, hf⟩ := xb hf
  obtain ⟨hvt11, rfl⟩ := ysc_spec ht11
  refine va_sld S.1 S.2.1 hX hbl hbA hw.2.2 hvt11 d_Lw_law_418 ?_
  obtain ⟨t13, w14, h12, hf⟩ := xcb hf
  obtain ⟨h12b, h12⟩ := xkb h12
  refine x_callV (As := [.int (xs ((x3 + 1)).toNatClampNeg), .int (xs ((x3 + 2)).toNatClampNeg), .int (xs ((x3 + 3)).toNatClampNeg), .int (xs ((x3 + 4)).toNatClampNeg)]) (rest := [.int t6]) (st1 := [.int t13, .int t6]) S hw (c_Mo_wish h12) (cwV 4 S.2.2.2.2 gv_Lw_55 rfl rfl rfl hd_Mo_wish ⟨Nat.le_of_ble_eq_true rfl, Nat.le_of_ble_eq_true rfl⟩) rfl h12b rfl hl.1 rfl rfl (Nat.le_of_ble_eq_true rfl) d_Lw_law_419 ⟨(show _ ≤ 600000 by (try dsimp only); omega), (show _ ≤ 7302250 by (try dsimp only); omega)⟩ (fun H locs hw => ?_)
  refine lv_icmp_eq (tgt := 908) S.1 S.2.1 d_Lw_law_422 (by decide) (fun c15 => ?_) (fun c15 => ?_)
  · replace hf := xt c15 hf
    refine lv_iinc (v := (x3 + 5)) (lv' := [(3, .int (x3 + 5)), (0, .ref b), (1, .ref a1), (2, .ref a2)]) S.1 S.2.1 d_Lw_law_908 hl (k := 3) rfl rfl (by decide) rfl (fun ls hl => ?_)
    refine lv_goto (tgt := 38) S.1 S.2.1 d_Lw_law_911 (by decide) ?_
    exact hk _ _ _ _ _ _ _ _ _ _ (by (try dsimp only); omega) (by (try dsimp only); omega) hw (lv_sub hl [1, 2, 3, 0] rfl) hf
  · replace hf := xf c15 hf
    refine lv_iconst (v := 0) S.1 S.2.1 d_Lw_law_425 (by decide) ?_
    cases hf

def f_law_427 (xs : Nat → Int32) (L : Nat) (k38 : Nat → Nat → Int32 → Nat → Nat → Nat → xS → Option Unit) (a1 a2 : Nat) (x3 : Int32) (cc uu z : Nat) (ω : xS) : Option Unit :=
  (ysc xs L (x3 + 1)).bind fun _ =>
  (ysc xs L (x3 + 2)).bind fun _ =>
  (xk ω a1 11 (f_RR_at a1 (xs ((x3 + 1)).toNatClampNeg) (xs ((x3 + 2)).toNatClampNeg) ω)).bind fun t4 =>
  (ysc xs L (x3 + 1)).bind fun _ =>
  (ysc xs L (x3 + 2)).bind fun _ =>
  (xk ω a2 12 (f_Mo_at a2 (xs ((x3 + 1)).toNatClampNeg) (xs ((x3 + 2)).toNatClampNeg) ω)).bind fun t8 =>
  if t4 = t8 then (
    k38 a1 a2 (x3 + 5) cc uu z ω)
  else (
    none)
set_option maxHeartbeats 4000000 in
set_option maxRecDepth 100000 in
theorem w_law_427 {p : Program} {l : Launch} {e : Env} {s : State} {m : MethodId} {below : List Frame} {meth : Method} {c : Code} {E : xV} {b L : Nat} {xs : Nat → Int32} (S : CallFix p m c code 4 s #[Value.ref b] xTbl "RosterRulesLaw") (hr : meth.sig.returnType = ret) (hlocks : meth.locks = false) (hX : va_X b L xs s s.heap) (hbl : b < s.heap.size) (hE : E.2.2 = s.heap.size) {k38 : Nat → Nat → Int32 → Nat → Nat → Nat → xS → Option Unit} (hk : ∀ (a1 a2 : Nat) (x3 : Int32) (cc uu z : Nat) (ω : xS) (H : Heap) (locs : List Loc) (ls : Array Slot), cc ≤ 600000 → uu ≤ 7302250 → xW E z ω s s.heap H locs → lv_has ls 4 [(0, .ref b), (1, .ref a1), (2, .ref a2), (3, .int x3)] → k38 a1 a2 x3 cc uu z ω = some () → W p l e room_1 s m #[Value.ref b] below meth c H locs cc uu (lw_Z below #[Value.ref b] s) (F0 m 38 ls [])) : ∀ (a1 a2 : Nat) (x3 : Int32) (cc uu z : Nat) (ω : xS) (H : Heap) (locs : List Loc) (ls : Array Slot), cc ≤ 600000 → uu ≤ 7302250 → xW E z ω s s.heap H locs → lv_has ls 4 [(0, .ref b), (1, .ref a1), (2, .ref a2), (3, .int x3)] → f_law_427 xs L k38 a1 a2 x3 cc uu z ω = some () → W p l e room_1 s m #[Value.ref b] below meth c H locs cc uu (lw_Z below #[Value.ref b] s) (F0 m 427 ls []) := by
  intro a1 a2 x3 cc uu z ω H locs ls hcc huu hw hl hf
  have hbA : ¬ E.2.2 ≤ b := by rw [hE]; exact Nat.not_le.mpr hbl
  unfold f_law_427 at hf
  refine lv_aload_n S.1 S.2.1 d_Lw_law_427 rfl (lv_at hl 1 rfl) ?_
  refine lv_aload_n S.1 S.2.1 d_Lw_law_428 rfl (lv_at hl 0 rfl) ?_
  refine lv_iload_n S.1 S.2.1 d_Lw_law_429 rfl (lv_at hl 3 rfl) ?_
  refine lv_iconst (v := 1) S.1 S.2.1 d_Lw_law_430 (by decide) ?_
  refine lv_iadd S.1 S.2.1 d_Lw_law_431 ?_
  obtain ⟨t1, ht1, hf⟩ := xb hf
  obtain ⟨hvt1, rfl⟩ := ysc_spec ht1
  refine va_sld S.1 S.2.1 hX hbl hbA hw.2.2 hvt1 d_Lw_law_432 ?_
  refine lv_aload_n S.1 S.2.1 d_Lw_law_433 rfl (lv_at hl 0 rfl) ?_
  refine lv_iload_n S.1 S.2.1 d_Lw_law_434 rfl (lv_at hl 3 rfl) ?_
  refine lv_iconst (v := 2) S.1 S.2.1 d_Lw_law_435 (by decide) ?_
  refine lv_iadd S.1 S.2.1 d_Lw_law_436 ?_
  obtain ⟨t2, ht2, hf⟩ := xb hf
  obtain ⟨hvt2, rfl⟩ := ysc_spec ht2
  refine va_sld S.1 S.2.1 hX hbl hbA hw.2.2 hvt2 d_Lw_law_437 ?_
  obtain ⟨t4, h3, hf⟩ := xb hf
  obtain ⟨h3b, h3⟩ := xkb h3
  refine x_callV (As := [.int (xs ((x3 + 1)).toNatClampNeg), .int (xs ((x3 + 2)).toNatClampNeg)]) (rest := []) (st1 := [.int t4]) S hw (c_RR_at h3) (cwV 2 S.2.2.2.2 gv_Lw_56 rfl rfl rfl hd_RR_at ⟨Nat.le_of_ble_eq_true rfl, Nat.le_of_ble_eq_true rfl⟩) rfl h3b rfl hl.1 rfl rfl (Nat.le_of_ble_eq_true rfl) d_Lw_law_438 ⟨(show _ ≤ 600000 by (try dsimp only); omega), (show _ ≤ 7302250 by (try dsimp only); omega)⟩ (fun H locs hw => ?_)
  refine lv_aload_n S.1 S.2.1 d_Lw_law_441 rfl (lv_at hl 2 rfl) ?_
  refine lv_aload_n S.1 S.2.1 d_Lw_law_442 rfl (lv_at hl 0 rfl) ?_
  refine lv_iload_n S.1 S.2.1 d_Lw_law_443 rfl (lv_at hl 3 rfl) ?_
  refine lv_iconst (v := 1) S.1 S.2.1 d_Lw_law_444 (by decide) ?_
  refine lv_iadd S.1 S.2.1 d_Lw_law_445 ?_
  obtain ⟨t5, ht5, hf⟩ := xb hf
  obtain ⟨hvt5, rfl⟩ := ysc_spec ht5
  refine va_sld S.1 S.2.1 hX hbl hbA hw.2.2 hvt5 d_Lw_law_446 ?_
  refine lv_aload_n S.1 S.2.1 d_Lw_law_447 rfl (lv_at hl 0 rfl) ?_
  refine lv_iload_n S.1 S.2.1 d_Lw_law_448 rfl (lv_at hl 3 rfl) ?_
  refine lv_iconst (v := 2) S.1 S.2.1 d_Lw_law_449 (by decide) ?_
  refine lv_iadd S.1 S.2.1 d_Lw_law_450 ?_
  obtain ⟨t6, ht6, hf⟩ := xb hf
  obtain ⟨hvt6, rfl⟩ := ysc_spec ht6
  refine va_sld S.1 S.2.1 hX hbl hbA hw.2.2 hvt6 d_Lw_law_451 ?_
  obtain ⟨t8, h7, hf⟩ := xb hf
  obtain ⟨h7b, h7⟩ := xkb h7
  refine x_callV (As := [.int (xs ((x3 + 1)).toNatClampNeg), .int (xs ((x3 + 2)).toNatClampNeg)]) (rest := [.int t4]) (st1 := [.int t8, .int t4]) S hw (c_Mo_at h7) (cwV 2 S.2.2.2.2 gv_Lw_59 rfl rfl rfl hd_Mo_at ⟨Nat.le_of_ble_eq_true rfl, Nat.le_of_ble_eq_true rfl⟩) rfl h7b rfl hl.1 rfl rfl (Nat.le_of_ble_eq_true rfl) d_Lw_law_452 ⟨(show _ ≤ 600000 by (try dsimp only); omega), (show _ ≤ 7302250 by (try dsimp only); omega)⟩ (fun H locs hw => ?_)
  refine lv_icmp_eq (tgt := 908) S.1 S.2.1 d_Lw_law_455 (by decide) (fun c9 => ?_) (fun c9 => ?_)
  · replace hf := xt c9 hf
    refine lv_iinc (v := (x3 + 5)) (lv' := [(3, .int (x3 + 5)), (0, .ref b), (1, .ref a1), (2, .ref a2)]) S.1 S.2.1 d_Lw_law_908 hl (k := 3) rfl rfl (by decide) rfl (fun ls hl => ?_)
    refine lv_goto (tgt := 38) S.1 S.2.1 d_Lw_law_911 (by decide) ?_
    exact hk _ _ _ _ _ _ _ _ _ _ (by (try dsimp only); omega) (by (try dsimp only); omega) hw (lv_sub hl [1, 2, 3, 0] rfl) hf
  · replace hf := xf c9 hf
    refine lv_iconst (v := 0) S.1 S.2.1 d_Lw_law_458 (by decide) ?_
    cases hf

def f_law_460 (xs : Nat → Int32) (L : Nat) (k38 : Nat → Nat → Int32 → Nat → Nat → Nat → xS → Option Unit) (a1 a2 : Nat) (x3 : Int32) (cc uu z : Nat) (ω : xS) : Option Unit :=
  (ysc xs L (x3 + 1)).bind fun _ =>
  (ysc xs L (x3 + 2)).bind fun _ =>
  (ysc xs L (x3 + 3)).bind fun _ =>
  xc (xk ω a1 11 (f_RR_put a1 (xs ((x3 + 1)).toNatClampNeg) (xs ((x3 + 2)).toNatClampNeg) (xs ((x3 + 3)).toNatClampNeg) ω)) fun t5 w6 =>
  (ysc xs L (x3 + 1)).bind fun _ =>
  (ysc xs L (x3 + 2)).bind fun _ =>
  (ysc xs L (x3 + 3)).bind fun _ =>
  xc (xk w6 a2 12 (f_Mo_put a2 (xs ((x3 + 1)).toNatClampNeg) (xs ((x3 + 2)).toNatClampNeg) (xs ((x3 + 3)).toNatClampNeg) w6)) fun t11 w12 =>
  if (lg_cmp t5 t11) = 0 then (
    k38 a1 a2 (x3 + 5) cc uu z w12)
  else (
    none)
set_option maxHeartbeats 4000000 in
set_option maxRecDepth 100000 in
theorem w_law_460 {p : Program} {l : Launch} {e : Env} {s : State} {m : MethodId} {below : List Frame} {meth : Method} {c : Code} {E : xV} {b L : Nat} {xs : Nat → Int32} (S : CallFix p m c code 4 s #[Value.ref b] xTbl "RosterRulesLaw") (hr : meth.sig.returnType = ret) (hlocks : meth.locks = false) (hX : va_X b L xs s s.heap) (hbl : b < s.heap.size) (hE : E.2.2 = s.heap.size) {k38 : Nat → Nat → Int32 → Nat → Nat → Nat → xS → Option Unit} (hk : ∀ (a1 a2 : Nat) (x3 : Int32) (cc uu z : Nat) (ω : xS) (H : Heap) (locs : List Loc) (ls : Array Slot), cc ≤ 600000 → uu ≤ 7302250 → xW E z ω s s.heap H locs → lv_has ls 4 [(0, .ref b), (1, .ref a1), (2, .ref a2), (3, .int x3)] → k38 a1 a2 x3 cc uu z ω = some () → W p l e room_1 s m #[Value.ref b] below meth c H locs cc uu (lw_Z below #[Value.ref b] s) (F0 m 38 ls [])) : ∀ (a1 a2 : Nat) (x3 : Int32) (cc uu z : Nat) (ω : xS) (H : Heap) (locs : List Loc) (ls : Array Slot), cc ≤ 600000 → uu ≤ 7302250 → xW E z ω s s.heap H locs → lv_has ls 4 [(0, .ref b), (1, .ref a1), (2, .ref a2), (3, .int x3)] → f_law_460 xs L k38 a1 a2 x3 cc uu z ω = some () → W p l e room_1 s m #[Value.ref b] below meth c H locs cc uu (lw_Z below #[Value.ref b] s) (F0 m 460 ls []) := by
  intro a1 a2 x3 cc uu z ω H locs ls hcc huu hw hl hf
  have hbA : ¬ E.2.2 ≤ b := by rw [hE]; exact Nat.not_le.mpr hbl
  unfold f_law_460 at hf
  refine lv_aload_n S.1 S.2.1 d_Lw_law_460 rfl (lv_at hl 1 rfl) ?_
  refine lv_aload_n S.1 S.2.1 d_Lw_law_461 rfl (lv_at hl 0 rfl) ?_
  refine lv_iload_n S.1 S.2.1 d_Lw_law_462 rfl (lv_at hl 3 rfl) ?_
  refine lv_iconst (v := 1) S.1 S.2.1 d_Lw_law_463 (by decide) ?_
  refine lv_iadd S.1 S.2.1 d_Lw_law_464 ?_
  obtain ⟨t1, ht1, hf⟩ := xb hf
  obtain ⟨hvt1, rfl⟩ := ysc_spec ht1
  refine va_sld S.1 S.2.1 hX hbl hbA hw.2.2 hvt1 d_Lw_law_465 ?_
  refine lv_aload_n S.1 S.2.1 d_Lw_law_466 rfl (lv_at hl 0 rfl) ?_
  refine lv_iload_n S.1 S.2.1 d_Lw_law_467 rfl (lv_at hl 3 rfl) ?_
  refine lv_iconst (v := 2) S.1 S.2.1 d_Lw_law_468 (by decide) ?_
  refine lv_iadd S.1 S.2.1 d_Lw_law_469 ?_
  obtain ⟨t2, ht2, hf⟩ := xb hf
  obtain ⟨hvt2, rfl⟩ := ysc_spec ht2
  refine va_sld S.1 S.2.1 hX hbl hbA hw.2.2 hvt2 d_Lw_law_470 ?_
  refine lv_aload_n S.1 S.2.1 d_Lw_law_471 rfl (lv_at hl 0 rfl) ?_
  refine lv_iload_n S.1 S.2.1 d_Lw_law_472 rfl (lv_at hl 3 rfl) ?_
  refine lv_iconst (v := 3) S.1 S.2.1 d_Lw_law_473 (by decide) ?_
  refine lv_iadd S.1 S.2.1 d_Lw_law_474 ?_
  obtain ⟨t3, ht3, hf⟩ := xb hf
  obtain ⟨hvt3, rfl⟩ := ysc_spec ht3
  refine va_sld S.1 S.2.1 hX hbl hbA hw.2.2 hvt3 d_Lw_law_475 ?_
  obtain ⟨t5, w6, h4, hf⟩ := xcb hf
  obtain ⟨h4b, h4⟩ := xkb h4
  refine x_callV (As := [.int (xs ((x3 + 1)).toNatClampNeg), .int (xs ((x3 + 2)).toNatClampNeg), .int (xs ((x3 + 3)).toNatClampNeg)]) (rest := []) (st1 := [.long t5]) S hw (c_RR_put h4) (cwV 3 S.2.2.2.2 gv_Lw_60 rfl rfl rfl hd_RR_put ⟨Nat.le_of_ble_eq_true rfl, Nat.le_of_ble_eq_true rfl⟩) rfl h4b rfl hl.1 rfl rfl (Nat.le_of_ble_eq_true rfl) d_Lw_law_476 ⟨(show _ ≤ 600000 by (try dsimp only); omega), (show _ ≤ 7302250 by (try dsimp only); omega)⟩ (fun H locs hw => ?_)
  refine lv_aload_n S.1 S.2.1 d_Lw_law_479 rfl (lv_at hl 2 rfl) ?_
  refine lv_aload_n S.1 S.2.1 d_Lw_law_480 rfl (lv_at hl 0 rfl) ?_
  refine lv_iload_n S.1 S.2.1 d_Lw_law_481 rfl (lv_at hl 3 rfl) ?_
  refine lv_iconst (v := 1) S.1 S.2.1 d_Lw_law_482 (by decide) ?_
  refine lv_iadd S.1 S.2.1 d_Lw_law_483 ?_
  obtain ⟨t7, ht7, hf⟩ := xb hf
  obtain ⟨hvt7, rfl⟩ := ysc_spec ht7
  refine va_sld S.1 S.2.1 hX hbl hbA hw.2.2 hvt7 d_Lw_law_484 ?_
  refine lv_aload_n S.1 S.2.1 d_Lw_law_485 rfl (lv_at hl 0 rfl) ?_
  refine lv_iload_n S.1 S.2.1 d_Lw_law_486 rfl (lv_at hl 3 rfl) ?_
  refine lv_iconst (v := 2) S.1 S.2.1 d_Lw_law_487 (by decide) ?_
  refine lv_iadd S.1 S.2.1 d_Lw_law_488 ?_
  obtain ⟨t8, ht8, hf⟩ := xb hf
  obtain ⟨hvt8, rfl⟩ := ysc_spec ht8
  refine va_sld S.1 S.2.1 hX hbl hbA hw.2.2 hvt8 d_Lw_law_489 ?_
  refine lv_aload_n S.1 S.2.1 d_Lw_law_490 rfl (lv_at hl 0 rfl) ?_
  refine lv_iload_n S.1 S.2.1 d_Lw_law_491 rfl (lv_at hl 3 rfl) ?_
  refine lv_iconst (v := 3) S.1 S.2.1 d_Lw_law_492 (by decide) ?_
  refine lv_iadd S.1 S.2.1 d_Lw_law_493 ?_
  obtain ⟨t9, ht9, hf⟩ := xb hf
  obtain ⟨hvt9, rfl⟩ := ysc_spec ht9
  refine va_sld S.1 S.2.1 hX hbl hbA hw.2.2 hvt9 d_Lw_law_494 ?_
  obtain ⟨t11, w12, h10, hf⟩ := xcb hf
  obtain ⟨h10b, h10⟩ := xkb h10
  refine x_callV (As := [.int (xs ((x3 + 1)).toNatClampNeg), .int (xs ((x3 + 2)).toNatClampNeg), .int (xs ((x3 + 3)).toNatClampNeg)]) (rest := [.long t5]) (st1 := [.long t11, .long t5]) S hw (c_Mo_put h10) (cwV 3 S.2.2.2.2 gv_Lw_64 rfl rfl rfl hd_Mo_put ⟨Nat.le_of_ble_eq_true rfl, Nat.le_of_ble_eq_true rfl⟩) rfl h10b rfl hl.1 rfl rfl (Nat.le_of_ble_eq_true rfl) d_Lw_law_495 ⟨(show _ ≤ 600000 by (try dsimp only); omega), (show _ ≤ 7302250 by (try dsimp only); omega)⟩ (fun H locs hw => ?_)
  refine W.lcmp S.1 S.2.1 d_Lw_law_498 ?_
  refine lv_if_eq (tgt := 908) S.1 S.2.1 d_Lw_law_499 (by decide) (fun c13 => ?_) (fun c13 => ?_)
  · replace hf := xt c13 hf
    refine lv_iinc (v := (x3 + 5)) (lv' := [(3, .int (x3 + 5)), (0, .ref b), (1, .ref a1), (2, .ref a2)]) S.1 S.2.1 d_Lw_law_908 hl (k := 3) rfl rfl (by decide) rfl (fun ls hl => ?_)
    refine lv_goto (tgt := 38) S.1 S.2.1 d_Lw_law_911 (by decide) ?_
    exact hk _ _ _ _ _ _ _ _ _ _ (by (try dsimp only); omega) (by (try dsimp only); omega) hw (lv_sub hl [1, 2, 3, 0] rfl) hf
  · replace hf := xf c13 hf
    refine lv_iconst (v := 0) S.1 S.2.1 d_Lw_law_502 (by decide) ?_
    cases hf

def f_law_504 (xs : Nat → Int32) (L : Nat) (k38 : Nat → Nat → Int32 → Nat → Nat → Nat → xS → Option Unit) (a1 a2 : Nat) (x3 : Int32) (cc uu z : Nat) (ω : xS) : Option Unit :=
  (ysc xs L (x3 + 1)).bind fun _ =>
  (ysc xs L (x3 + 2)).bind fun _ =>
  (ysc xs L (x3 + 3)).bind fun _ =>
  xc (xk ω a1 11 (f_RR_change a1 (xs ((x3 + 1)).toNatClampNeg) (xs ((x3 + 2)).toNatClampNeg) (xs ((x3 + 3)).toNatClampNeg) ω)) fun t5 w6 =>
  (ysc xs L (x3 + 1)).bind fun _ =>
  (ysc xs L (x3 + 2)).bind fun _ =>
  (ysc xs L (x3 + 3)).bind fun _ =>
  xc (xk w6 a2 12 (f_Mo_change a2 (xs ((x3 + 1)).toNatClampNeg) (xs ((x3 + 2)).toNatClampNeg) (xs ((x3 + 3)).toNatClampNeg) w6)) fun t11 w12 =>
  if (lg_cmp t5 t11) = 0 then (
    k38 a1 a2 (x3 + 5) cc uu z w12)
  else (
    none)
set_option maxHeartbeats 4000000 in
set_option maxRecDepth 100000 in
theorem w_law_504 {p : Program} {l : Launch} {e : Env} {s : State} {m : MethodId} {below : List Frame} {meth : Method} {c : Code} {E : xV} {b L : Nat} {xs : Nat → Int32} (S : CallFix p m c code 4 s #[Value.ref b] xTbl "RosterRulesLaw") (hr : meth.sig.returnType = ret) (hlocks : meth.locks = false) (hX : va_X b L xs s s.heap) (hbl : b < s.heap.size) (hE : E.2.2 = s.heap.size) {k38 : Nat → Nat → Int32 → Nat → Nat → Nat → xS → Option Unit} (hk : ∀ (a1 a2 : Nat) (x3 : Int32) (cc uu z : Nat) (ω : xS) (H : Heap) (locs : List Loc) (ls : Array Slot), cc ≤ 600000 → uu ≤ 7302250 → xW E z ω s s.heap H locs → lv_has ls 4 [(0, .ref b), (1, .ref a1), (2, .ref a2), (3, .int x3)] → k38 a1 a2 x3 cc uu z ω = some () → W p l e room_1 s m #[Value.ref b] below meth c H locs cc uu (lw_Z below #[Value.ref b] s) (F0 m 38 ls [])) : ∀ (a1 a2 : Nat) (x3 : Int32) (cc uu z : Nat) (ω : xS) (H : Heap) (locs : List Loc) (ls : Array Slot), cc ≤ 600000 → uu ≤ 7302250 → xW E z ω s s.heap H locs → lv_has ls 4 [(0, .ref b), (1, .ref a1), (2, .ref a2), (3, .int x3)] → f_law_504 xs L k38 a1 a2 x3 cc uu z ω = some () → W p l e room_1 s m #[Value.ref b] below meth c H locs cc uu (lw_Z below #[Value.ref b] s) (F0 m 504 ls []) := by
  intro a1 a2 x3 cc uu z ω H locs ls hcc huu hw hl hf
  have hbA : ¬ E.2.2 ≤ b := by rw [hE]; exact Nat.not_le.mpr hbl
  unfold f_law_504 at hf
  refine lv_aload_n S.1 S.2.1 d_Lw_law_504 rfl (lv_at hl 1 rfl) ?_
  refine lv_aload_n S.1 S.2.1 d_Lw_law_505 rfl (lv_at hl 0 rfl) ?_
  refine lv_iload_n S.1 S.2.1 d_Lw_law_506 rfl (lv_at hl 3 rfl) ?_
  refine lv_iconst (v := 1) S.1 S.2.1 d_Lw_law_507 (by decide) ?_
  refine lv_iadd S.1 S.2.1 d_Lw_law_508 ?_
  obtain ⟨t1, ht1, hf⟩ := xb hf
  obtain ⟨hvt1, rfl⟩ := ysc_spec ht1
  refine va_sld S.1 S.2.1 hX hbl hbA hw.2.2 hvt1 d_Lw_law_509 ?_
  refine lv_aload_n S.1 S.2.1 d_Lw_law_510 rfl (lv_at hl 0 rfl) ?_
  refine lv_iload_n S.1 S.2.1 d_Lw_law_511 rfl (lv_at hl 3 rfl) ?_
  refine lv_iconst (v := 2) S.1 S.2.1 d_Lw_law_512 (by decide) ?_
  refine lv_iadd S.1 S.2.1 d_Lw_law_513 ?_
  obtain ⟨t2, ht2, hf⟩ := xb hf
  obtain ⟨hvt2, rfl⟩ := ysc_spec ht2
  refine va_sld S.1 S.2.1 hX hbl hbA hw.2.2 hvt2 d_Lw_law_514 ?_
  refine lv_aload_n S.1 S.2.1 d_Lw_law_515 rfl (lv_at hl 0 rfl) ?_
  refine lv_iload_n S.1 S.2.1 d_Lw_law_516 rfl (lv_at hl 3 rfl) ?_
  refine lv_iconst (v := 3) S.1 S.2.1 d_Lw_law_517 (by decide) ?_
  refine lv_iadd S.1 S.2.1 d_Lw_law_518 ?_
  obtain ⟨t3, ht3, hf⟩ := xb hf
  obtain ⟨hvt3, rfl⟩ := ysc_spec ht3
  refine va_sld S.1 S.2.1 hX hbl hbA hw.2.2 hvt3 d_Lw_law_519 ?_
  obtain ⟨t5, w6, h4, hf⟩ := xcb hf
  obtain ⟨h4b, h4⟩ := xkb h4
  refine x_callV (As := [.int (xs ((x3 + 1)).toNatClampNeg), .int (xs ((x3 + 2)).toNatClampNeg), .int (xs ((x3 + 3)).toNatClampNeg)]) (rest := []) (st1 := [.long t5]) S hw (c_RR_change h4) (cwV 3 S.2.2.2.2 gv_Lw_65 rfl rfl rfl hd_RR_change ⟨Nat.le_of_ble_eq_true rfl, Nat.le_of_ble_eq_true rfl⟩) rfl h4b rfl hl.1 rfl rfl (Nat.le_of_ble_eq_true rfl) d_Lw_law_520 ⟨(show _ ≤ 600000 by (try dsimp only); omega), (show _ ≤ 7302250 by (try dsimp only); omega)⟩ (fun H locs hw => ?_)
  refine lv_aload_n S.1 S.2.1 d_Lw_law_523 rfl (lv_at hl 2 rfl) ?_
  refine lv_aload_n S.1 S.2.1 d_Lw_law_524 rfl (lv_at hl 0 rfl) ?_
  refine lv_iload_n S.1 S.2.1 d_Lw_law_525 rfl (lv_at hl 3 rfl) ?_
  refine lv_iconst (v := 1) S.1 S.2.1 d_Lw_law_526 (by decide) ?_
  refine lv_iadd S.1 S.2.1 d_Lw_law_527 ?_
  obtain ⟨t7, ht7, hf⟩ := xb hf
  obtain ⟨hvt7, rfl⟩ := ysc_spec ht7
  refine va_sld S.1 S.2.1 hX hbl hbA hw.2.2 hvt7 d_Lw_law_528 ?_
  refine lv_aload_n S.1 S.2.1 d_Lw_law_529 rfl (lv_at hl 0 rfl) ?_
  refine lv_iload_n S.1 S.2.1 d_Lw_law_530 rfl (lv_at hl 3 rfl) ?_
  refine lv_iconst (v := 2) S.1 S.2.1 d_Lw_law_531 (by decide) ?_
  refine lv_iadd S.1 S.2.1 d_Lw_law_532 ?_
  obtain ⟨t8, ht8, hf⟩ := xb hf
  obtain ⟨hvt8, rfl⟩ := ysc_spec ht8
  refine va_sld S.1 S.2.1 hX hbl hbA hw.2.2 hvt8 d_Lw_law_533 ?_
  refine lv_aload_n S.1 S.2.1 d_Lw_law_534 rfl (lv_at hl 0 rfl) ?_
  refine lv_iload_n S.1 S.2.1 d_Lw_law_535 rfl (lv_at hl 3 rfl) ?_
  refine lv_iconst (v := 3) S.1 S.2.1 d_Lw_law_536 (by decide) ?_
  refine lv_iadd S.1 S.2.1 d_Lw_law_537 ?_
  obtain ⟨t9, ht9, hf⟩ := xb hf
  obtain ⟨hvt9, rfl⟩ := ysc_spec ht9
  refine va_sld S.1 S.2.1 hX hbl hbA hw.2.2 hvt9 d_Lw_law_538 ?_
  obtain ⟨t11, w12, h10, hf⟩ := xcb hf
  obtain ⟨h10b, h10⟩ := xkb h10
  refine x_callV (As := [.int (xs ((x3 + 1)).toNatClampNeg), .int (xs ((x3 + 2)).toNatClampNeg), .int (xs ((x3 + 3)).toNatClampNeg)]) (rest := [.long t5]) (st1 := [.long t11, .long t5]) S hw (c_Mo_change h10) (cwV 3 S.2.2.2.2 gv_Lw_68 rfl rfl rfl hd_Mo_change ⟨Nat.le_of_ble_eq_true rfl, Nat.le_of_ble_eq_true rfl⟩) rfl h10b rfl hl.1 rfl rfl (Nat.le_of_ble_eq_true rfl) d_Lw_law_539 ⟨(show _ ≤ 600000 by (try dsimp only); omega), (show _ ≤ 7302250 by (try dsimp only); omega)⟩ (fun H locs hw => ?_)
  refine W.lcmp S.1 S.2.1 d_Lw_law_542 ?_
  refine lv_if_eq (tgt := 908) S.1 S.2.1 d_Lw_law_543 (by decide) (fun c13 => ?_) (fun c13 => ?_)
  · replace hf := xt c13 hf
    refine lv_iinc (v := (x3 + 5)) (lv' := [(3, .int (x3 + 5)), (0, .ref b), (1, .ref a1), (2, .ref a2)]) S.1 S.2.1 d_Lw_law_908 hl (k := 3) rfl rfl (by decide) rfl (fun ls hl => ?_)
    refine lv_goto (tgt := 38) S.1 S.2.1 d_Lw_law_911 (by decide) ?_
    exact hk _ _ _ _ _ _ _ _ _ _ (by (try dsimp only); omega) (by (try dsimp only); omega) hw (lv_sub hl [1, 2, 3, 0] rfl) hf
  · replace hf := xf c13 hf
    refine lv_iconst (v := 0) S.1 S.2.1 d_Lw_law_546 (by decide) ?_
    cases hf

def f_law_548 (xs : Nat → Int32) (L : Nat) (k38 : Nat → Nat → Int32 → Nat → Nat → Nat → xS → Option Unit) (a1 a2 : Nat) (x3 : Int32) (cc uu z : Nat) (ω : xS) : Option Unit :=
  xc (xk ω a1 11 (f_RR_undo a1  ω)) fun t2 w3 =>
  xc (xk w3 a2 12 (f_Mo_undo a2  w3)) fun t5 w6 =>
  if t2 = t5 then (
    k38 a1 a2 (x3 + 5) cc uu z w6)
  else (
    none)
set_option maxHeartbeats 4000000 in
set_option maxRecDepth 100000 in
theorem w_law_548 {p : Program} {l : Launch} {e : Env} {s : State} {m : MethodId} {below : List Frame} {meth : Method} {c : Code} {E : xV} {b L : Nat} {xs : Nat → Int32} (S : CallFix p m c code 4 s #[Value.ref b] xTbl "RosterRulesLaw") (hr : meth.sig.returnType = ret) (hlocks : meth.locks = false) (hX : va_X b L xs s s.heap) (hbl : b < s.heap.size) (hE : E.2.2 = s.heap.size) {k38 : Nat → Nat → Int32 → Nat → Nat → Nat → xS → Option Unit} (hk : ∀ (a1 a2 : Nat) (x3 : Int32) (cc uu z : Nat) (ω : xS) (H : Heap) (locs : List Loc) (ls : Array Slot), cc ≤ 600000 → uu ≤ 7302250 → xW E z ω s s.heap H locs → lv_has ls 4 [(0, .ref b), (1, .ref a1), (2, .ref a2), (3, .int x3)] → k38 a1 a2 x3 cc uu z ω = some () → W p l e room_1 s m #[Value.ref b] below meth c H locs cc uu (lw_Z below #[Value.ref b] s) (F0 m 38 ls [])) : ∀ (a1 a2 : Nat) (x3 : Int32) (cc uu z : Nat) (ω : xS) (H : Heap) (locs : List Loc) (ls : Array Slot), cc ≤ 600000 → uu ≤ 7302250 → xW E z ω s s.heap H locs → lv_has ls 4 [(0, .ref b), (1, .ref a1), (2, .ref a2), (3, .int x3)] → f_law_548 xs L k38 a1 a2 x3 cc uu z ω = some () → W p l e room_1 s m #[Value.ref b] below meth c H locs cc uu (lw_Z below #[Value.ref b] s) (F0 m 548 ls []) := by
  intro a1 a2 x3 cc uu z ω H locs ls hcc huu hw hl hf
  have hbA : ¬ E.2.2 ≤ b := by rw [hE]; exact Nat.not_le.mpr hbl
  unfold f_law_548 at hf
  refine lv_aload_n S.1 S.2.1 d_Lw_law_548 rfl (lv_at hl 1 rfl) ?_
  obtain ⟨t2, w3, h1, hf⟩ := xcb hf
  obtain ⟨h1b, h1⟩ := xkb h1
  refine x_callV (As := []) (rest := []) (st1 := [.int t2]) S hw (c_RR_undo h1) (cwV 0 S.2.2.2.2 gv_Lw_69 rfl rfl rfl hd_RR_undo ⟨Nat.le_of_ble_eq_true rfl, Nat.le_of_ble_eq_true rfl⟩) rfl h1b rfl hl.1 rfl rfl (Nat.le_of_ble_eq_true rfl) d_Lw_law_549 ⟨(show _ ≤ 600000 by (try dsimp only); omega), (show _ ≤ 7302250 by (try dsimp only); omega)⟩ (fun H locs hw => ?_)
  refine lv_aload_n S.1 S.2.1 d_Lw_law_552 rfl (lv_at hl 2 rfl) ?_
  obtain ⟨t5, w6, h4, hf⟩ := xcb hf
  obtain ⟨h4b, h4⟩ := xkb h4
  refine x_callV (As := []) (rest := [.int t2]) (st1 := [.int t5, .int t2]) S hw (c_Mo_undo h4) (cwV 0 S.2.2.2.2 gv_Lw_72 rfl rfl rfl hd_Mo_undo ⟨Nat.le_of_ble_eq_true rfl, Nat.le_of_ble_eq_true rfl⟩) rfl h4b rfl hl.1 rfl rfl (Nat.le_of_ble_eq_true rfl) d_Lw_law_553 ⟨(show _ ≤ 600000 by (try dsimp only); omega), (show _ ≤ 7302250 by (try dsimp only); omega)⟩ (fun H locs hw => ?_)
  refine lv_icmp_eq (tgt := 908) S.1 S.2.1 d_Lw_law_556 (by decide) (fun c7 => ?_) (fun c7 => ?_)
  · replace hf := xt c7 hf
    refine lv_iinc (v := (x3 + 5)) (lv' := [(3, .int (x3 + 5)), (0, .ref b), (1, .ref a1), (2, .ref a2)]) S.1 S.2.1 d_Lw_law_908 hl (k := 3) rfl rfl (by decide) rfl (fun ls hl => ?_)
    refine lv_goto (tgt := 38) S.1 S.2.1 d_Lw_law_911 (by decide) ?_
    exact hk _ _ _ _ _ _ _ _ _ _ (by (try dsimp only); omega) (by (try dsimp only); omega) hw (lv_sub hl [1, 2, 3, 0] rfl) hf
  · replace hf := xf c7 hf
    refine lv_iconst (v := 0) S.1 S.2.1 d_Lw_law_559 (by decide) ?_
    cases hf

def f_law_561 (xs : Nat → Int32) (L : Nat) (k38 : Nat → Nat → Int32 → Nat → Nat → Nat → xS → Option Unit) (a1 a2 : Nat) (x3 : Int32) (cc uu z : Nat) (ω : xS) : Option Unit :=
  (ysc xs L (x3 + 1)).bind fun _ =>
  (ysc xs L (x3 + 2)).bind fun _ =>
  xc (xk ω a1 11 (f_RR_best a1 (xs ((x3 + 1)).toNatClampNeg) (xs ((x3 + 2)).toNatClampNeg) ω)) fun t4 w5 =>
  (ysc xs L (x3 + 1)).bind fun _ =>
  (ysc xs L (x3 + 2)).bind fun _ =>
  xc (xk w5 a2 12 (f_Mo_best a2 (xs ((x3 + 1)).toNatClampNeg) (xs ((x3 + 2)).toNatClampNeg) w5)) fun t9 w10 =>
  if t4 = t9 then (
    k38 a1 a2 (x3 + 5) cc uu z w10)
  else (
    none)
set_option maxHeartbeats 4000000 in
set_option maxRecDepth 100000 in
theorem w_law_561 {p : Program} {l : Launch} {e : Env} {s : State} {m : MethodId} {below : List Frame} {meth : Method} {c : Code} {E : xV} {b L : Nat} {xs : Nat → Int32} (S : CallFix p m c code 4 s #[Value.ref b] xTbl "RosterRulesLaw") (hr : meth.sig.returnType = ret) (hlocks : meth.locks = false) (hX : va_X b L xs s s.heap) (hbl : b < s.heap.size) (hE : E.2.2 = s.heap.size) {k38 : Nat → Nat → Int32 → Nat → Nat → Nat → xS → Option Unit} (hk : ∀ (a1 a2 : Nat) (x3 : Int32) (cc uu z : Nat) (ω : xS) (H : Heap) (locs : List Loc) (ls : Array Slot), cc ≤ 600000 → uu ≤ 7302250 → xW E z ω s s.heap H locs → lv_has ls 4 [(0, .ref b), (1, .ref a1), (2, .ref a2), (3, .int x3)] → k38 a1 a2 x3 cc uu z ω = some () → W p l e room_1 s m #[Value.ref b] below meth c H locs cc uu (lw_Z below #[Value.ref b] s) (F0 m 38 ls [])) : ∀ (a1 a2 : Nat) (x3 : Int32) (cc uu z : Nat) (ω : xS) (H : Heap) (locs : List Loc) (ls : Array Slot), cc ≤ 600000 → uu ≤ 7302250 → xW E z ω s s.heap H locs → lv_has ls 4 [(0, .ref b), (1, .ref a1), (2, .ref a2), (3, .int x3)] → f_law_561 xs L k38 a1 a2 x3 cc uu z ω = some () → W p l e room_1 s m #[Value.ref b] below meth c H locs cc uu (lw_Z below #[Value.ref b] s) (F0 m 561 ls []) := by
  intro a1 a2 x3 cc uu z ω H locs ls hcc huu hw hl hf
  have hbA : ¬ E.2.2 ≤ b := by rw [hE]; exact Nat.not_le.mpr hbl
  unfold f_law_561 at hf
  refine lv_aload_n S.1 S.2.1 d_Lw_law_561 rfl (lv_at hl 1 rfl) ?_
  refine lv_aload_n S.1 S.2.1 d_Lw_law_562 rfl (lv_at hl 0 rfl) ?_
  refine lv_iload_n S.1 S.2.1 d_Lw_law_563 rfl (lv_at hl 3 rfl) ?_
  refine lv_iconst (v := 1) S.1 S.2.1 d_Lw_law_564 (by decide) ?_
  refine lv_iadd S.1 S.2.1 d_Lw_law_565 ?_
  obtain ⟨t1, ht1, hf⟩ := xb hf
  obtain ⟨hvt1, rfl⟩ := ysc_spec ht1
  refine va_sld S.1 S.2.1 hX hbl hbA hw.2.2 hvt1 d_Lw_law_566 ?_
  refine lv_aload_n S.1 S.2.1 d_Lw_law_567 rfl (lv_at hl 0 rfl) ?_
  refine lv_iload_n S.1 S.2.1 d_Lw_law_568 rfl (lv_at hl 3 rfl) ?_
  refine lv_iconst (v := 2) S.1 S.2.1 d_Lw_law_569 (by decide) ?_
  refine lv_iadd S.1 S.2.1 d_Lw_law_570 ?_
  obtain ⟨t2, ht2, hf⟩ := xb hf
  obtain ⟨hvt2, rfl⟩ := ysc_spec ht2
  refine va_sld S.1 S.2.1 hX hbl hbA hw.2.2 hvt2 d_Lw_law_571 ?_
  obtain ⟨t4, w5, h3, hf⟩ := xcb hf
  obtain ⟨h3b, h3⟩ := xkb h3
  refine x_callV (As := [.int (xs ((x3 + 1)).toNatClampNeg), .int (xs ((x3 + 2)).toNatClampNeg)]) (rest := []) (st1 := [.int t4]) S hw (c_RR_best h3) (cwV 2 S.2.2.2.2 gv_Lw_73 rfl rfl rfl hd_RR_best ⟨Nat.le_of_ble_eq_true rfl, Nat.le_of_ble_eq_true rfl⟩) rfl h3b rfl hl.1 rfl rfl (Nat.le_of_ble_eq_true rfl) d_Lw_law_572 ⟨(show _ ≤ 600000 by (try dsimp only); omega), (show _ ≤ 7302250 by (try dsimp only); omega)⟩ (fun H locs hw => ?_)
  refine lv_aload_n S.1 S.2.1 d_Lw_law_575 rfl (lv_at hl 2 rfl) ?_
  refine lv_aload_n S.1 S.2.1 d_Lw_law_576 rfl (lv_at hl 0 rfl) ?_
  refine lv_iload_n S.1 S.2.1 d_Lw_law_577 rfl (lv_at hl 3 rfl) ?_
  refine lv_iconst (v := 1) S.1 S.2.1 d_Lw_law_578 (by decide) ?_
  refine lv_iadd S.1 S.2.1 d_Lw_law_579 ?_
  obtain ⟨t6, ht6, hf⟩ := xb hf
  obtain ⟨hvt6, rfl⟩ := ysc_spec ht6
  refine va_sld S.1 S.2.1 hX hbl hbA hw.2.2 hvt6 d_Lw_law_580 ?_
  refine lv_aload_n S.1 S.2.1 d_Lw_law_581 rfl (lv_at hl 0 rfl) ?_
  refine lv_iload_n S.1 S.2.1 d_Lw_law_582 rfl (lv_at hl 3 rfl) ?_
  refine lv_iconst (v := 2) S.1 S.2.1 d_Lw_law_583 (by decide) ?_
  refine lv_iadd S.1 S.2.1 d_Lw_law_584 ?_
  obtain ⟨t7, ht7, hf⟩ := xb hf
  obtain ⟨hvt7, rfl⟩ := ysc_spec ht7
  refine va_sld S.1 S.2.1 hX hbl hbA hw.2.2 hvt7 d_Lw_law_585 ?_
  obtain ⟨t9, w10, h8, hf⟩ := xcb hf
  obtain ⟨h8b, h8⟩ := xkb h8
  refine x_callV (As := [.int (xs ((x3 + 1)).toNatClampNeg), .int (xs ((x3 + 2)).toNatClampNeg)]) (rest := [.int t4]) (st1 := [.int t9, .int t4]) S hw (c_Mo_best h8) (cwV 2 S.2.2.2.2 gv_Lw_76 rfl rfl rfl hd_Mo_best ⟨Nat.le_of_ble_eq_true rfl, Nat.le_of_ble_eq_true rfl⟩) rfl h8b rfl hl.1 rfl rfl (Nat.le_of_ble_eq_true rfl) d_Lw_law_586 ⟨(show _ ≤ 600000 by (try dsimp only); omega), (show _ ≤ 7302250 by (try dsimp only); omega)⟩ (fun H locs hw => ?_)
  refine lv_icmp_eq (tgt := 908) S.1 S.2.1 d_Lw_law_589 (by decide) (fun c11 => ?_) (fun c11 => ?_)
  · replace hf := xt c11 hf
    refine lv_iinc (v := (x3 + 5)) (lv' := [(3, .int (x3 + 5)), (0, .ref b), (1, .ref a1), (2, .ref a2)]) S.1 S.2.1 d_Lw_law_908 hl (k := 3) rfl rfl (by decide) rfl (fun ls hl => ?_)
    refine lv_goto (tgt := 38) S.1 S.2.1 d_Lw_law_911 (by decide) ?_
    exact hk _ _ _ _ _ _ _ _ _ _ (by (try dsimp only); omega) (by (try dsimp only); omega) hw (lv_sub hl [1, 2, 3, 0] rfl) hf
  · replace hf := xf c11 hf
    refine lv_iconst (v := 0) S.1 S.2.1 d_Lw_law_592 (by decide) ?_
    cases hf

