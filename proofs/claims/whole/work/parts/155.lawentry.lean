def f_law (xs : Nat → Int32) (L z : Nat) (ω : xS) : Option Unit :=
  xl (xu ω z (.inr (11, [.null, .null, .null, .null, .null, .null, .null, .null, .int 0]))) fun w1 =>
  (f_Lw_cell xs L 0).bind fun t2 =>
  (f_Lw_cell xs L 1).bind fun t4 =>
  if 600000 < (1 + ((25 + (4 + (1 + (xmax 1 (xmin 8 t2)).toNatClampNeg) + (1 + (xmax 1 (xmin 8 t2)).toNatClampNeg) + (1 + (xmax 1 (xmin 8 t2)).toNatClampNeg) + (1 + (xmax 1 (xmin 8 t2)).toNatClampNeg) + (1 + (xmax 1 (xmin 21 t4)).toNatClampNeg))) + 256) + 47) ∨ 7302250 < (9 + ((19729 + (27 + (xmax 1 (xmin 8 t2)).toNatClampNeg + ((xmax 1 (xmin 8 t2)).toNatClampNeg + (xmax 1 (xmin 8 t2)).toNatClampNeg * (7 + (xmax 1 (xmin 21 t4))).toNatClampNeg) + ((xmax 1 (xmin 8 t2)).toNatClampNeg + (xmax 1 (xmin 8 t2)).toNatClampNeg * (xmax 1 (xmin 21 t4)).toNatClampNeg) + ((xmax 1 (xmin 8 t2)).toNatClampNeg + (xmax 1 (xmin 8 t2)).toNatClampNeg * (xmax 1 (xmin 21 t4)).toNatClampNeg) + ((xmax 1 (xmin 8 t2)).toNatClampNeg + (xmax 1 (xmin 8 t2)).toNatClampNeg * 9) + ((xmax 1 (xmin 21 t4)).toNatClampNeg + (xmax 1 (xmin 21 t4)).toNatClampNeg * 9))) + 3296) + 184989) then none else
  xc (f_RR_init z t2 t4 (z + 1) w1) fun z8 w6 =>
  xl (xu w6 z8 (.inr (12, [.int 0, .int 0, .null, .null, .null, .null, .null, .null, .null, .null, .null, .int 0, .int 0, .null, .null, .null, .null, .null, .null, .null, .int 0, .null, .null, .null, .null, .null, .null, .null, .null, .null, .null, .int 0, .int 0, .int 0, .int 0, .int 0, .int 0, .int 0, .long 0, .int 0, .int 0, .int 0, .int 0, .int 0, .int 0, .null, .null, .null, .null, .null, .null, .null, .null, .null, .null, .null, .null, .null, .null, .null, .null, .null, .null, .null, .null]))) fun w9 =>
  (f_Lw_cell xs L 0).bind fun t10 =>
  (f_Lw_cell xs L 1).bind fun t12 =>
  (f_Mo_init z8 t10 t12 (z8 + 1) w9).bind fun w14 =>
  f_law_38 xs L xFU z z8 2 (1 + ((25 + (4 + (1 + (xmax 1 (xmin 8 t2)).toNatClampNeg) + (1 + (xmax 1 (xmin 8 t2)).toNatClampNeg) + (1 + (xmax 1 (xmin 8 t2)).toNatClampNeg) + (1 + (xmax 1 (xmin 8 t2)).toNatClampNeg) + (1 + (xmax 1 (xmin 21 t4)).toNatClampNeg))) + 256) + 47) (9 + ((19729 + (27 + (xmax 1 (xmin 8 t2)).toNatClampNeg + ((xmax 1 (xmin 8 t2)).toNatClampNeg + (xmax 1 (xmin 8 t2)).toNatClampNeg * (7 + (xmax 1 (xmin 21 t4))).toNatClampNeg) + ((xmax 1 (xmin 8 t2)).toNatClampNeg + (xmax 1 (xmin 8 t2)).toNatClampNeg * (xmax 1 (xmin 21 t4)).toNatClampNeg) + ((xmax 1 (xmin 8 t2)).toNatClampNeg + (xmax 1 (xmin 8 t2)).toNatClampNeg * (xmax 1 (xmin 21 t4)).toNatClampNeg) + ((xmax 1 (xmin 8 t2)).toNatClampNeg + (xmax 1 (xmin 8 t2)).toNatClampNeg * 9) + ((xmax 1 (xmin 21 t4)).toNatClampNeg + (xmax 1 (xmin 21 t4)).toNatClampNeg * 9))) + 3296) + 184989) (z8 + 47) w14
set_option maxHeartbeats 4000000 in
set_option maxRecDepth 100000 in
theorem w_law {p : Program} {l : Launch} {e : Env} {s : State} {m : MethodId} {below : List Frame} {meth : Method} {c : Code} {E : xV} {b L : Nat} {xs : Nat → Int32} (S : CallFix p m c code 4 s #[Value.ref b] xTbl "RosterRulesLaw") (hr : meth.sig.returnType = ret) (hlocks : meth.locks = false) (hX : va_X b L xs s s.heap) (hbl : b < s.heap.size) (hE : E.2.2 = s.heap.size) : ∀ (z : Nat) (ω : xS) (H : Heap) (locs : List Loc) (ls : Array Slot), xW E z ω s s.heap H locs → lv_has ls 4 [(0, .ref b)] → f_law xs L z ω = some () → W p l e room_1 s m #[Value.ref b] below meth c H locs 0 0 (lw_Z below #[Value.ref b] s) (F0 m 0 ls []) := by
  intro z ω H locs ls hw hl hf
  have hbA : ¬ E.2.2 ≤ b := by rw [hE]; exact Nat.not_le.mpr hbl
  have hbE : b < E.2.2 := by rw [hE]; exact hbl
  unfold f_law at hf
  obtain ⟨w1, hw1, hf⟩ := xlb hf
  refine x_new S hw nw_Lw_7 hw1 (show _ ≤ 600000 by (try dsimp only); omega) (show _ ≤ 7302250 by (try dsimp only); omega) d_Lw_law_0 (fun H hw => ?_)
  refine lv_dup S.1 S.2.1 d_Lw_law_3 rfl ?_
  refine lv_aload_n S.1 S.2.1 d_Lw_law_4 rfl (lv_at hl 0 rfl) ?_
  refine lv_iconst (v := 0) S.1 S.2.1 d_Lw_law_5 (by decide) ?_
  obtain ⟨t2, h3, hf⟩ := xb hf
  refine x_callX (As := [.ref b, .int 0]) (rest := [.ref z, .ref z]) (st1 := [.int t2, .ref z, .ref z]) S hw hX hbl hbA (c_Lw_cell hbE h3) (cwS 2 S.2.2.2.2 gs_Lw_9 rfl rfl rfl hd_Lw_cell ⟨Nat.le_of_ble_eq_true rfl, Nat.le_of_ble_eq_true rfl⟩) rfl hl.1 rfl rfl (Nat.le_of_ble_eq_true rfl) d_Lw_law_6 ⟨(show _ ≤ 600000 by (try dsimp only); omega), (show _ ≤ 7302250 by (try dsimp only); omega)⟩ (fun H locs hw => ?_)
  refine lv_aload_n S.1 S.2.1 d_Lw_law_9 rfl (lv_at hl 0 rfl) ?_
  refine lv_iconst (v := 1) S.1 S.2.1 d_Lw_law_10 (by decide) ?_
  obtain ⟨t4, h5, hf⟩ := xb hf
  refine x_callX (As := [.ref b, .int 1]) (rest := [.int t2, .ref z, .ref z]) (st1 := [.int t4, .int t2, .ref z, .ref z]) S hw hX hbl hbA (c_Lw_cell hbE h5) (cwS 2 S.2.2.2.2 gs_Lw_9 rfl rfl rfl hd_Lw_cell ⟨Nat.le_of_ble_eq_true rfl, Nat.le_of_ble_eq_true rfl⟩) rfl hl.1 rfl rfl (Nat.le_of_ble_eq_true rfl) d_Lw_law_11 ⟨(show _ ≤ 600000 by (try dsimp only); omega), (show _ ≤ 7302250 by (try dsimp only); omega)⟩ (fun H locs hw => ?_)
  by_cases hroom : 600000 < (1 + ((25 + (4 + (1 + (xmax 1 (xmin 8 t2)).toNatClampNeg) + (1 + (xmax 1 (xmin 8 t2)).toNatClampNeg) + (1 + (xmax 1 (xmin 8 t2)).toNatClampNeg) + (1 + (xmax 1 (xmin 8 t2)).toNatClampNeg) + (1 + (xmax 1 (xmin 21 t4)).toNatClampNeg))) + 256) + 47) ∨ 7302250 < (9 + ((19729 + (27 + (xmax 1 (xmin 8 t2)).toNatClampNeg + ((xmax 1 (xmin 8 t2)).toNatClampNeg + (xmax 1 (xmin 8 t2)).toNatClampNeg * (7 + (xmax 1 (xmin 21 t4))).toNatClampNeg) + ((xmax 1 (xmin 8 t2)).toNatClampNeg + (xmax 1 (xmin 8 t2)).toNatClampNeg * (xmax 1 (xmin 21 t4)).toNatClampNeg) + ((xmax 1 (xmin 8 t2)).toNatClampNeg + (xmax 1 (xmin 8 t2)).toNatClampNeg * (xmax 1 (xmin 21 t4)).toNatClampNeg) + ((xmax 1 (xmin 8 t2)).toNatClampNeg + (xmax 1 (xmin 8 t2)).toNatClampNeg * 9) + ((xmax 1 (xmin 21 t4)).toNatClampNeg + (xmax 1 (xmin 21 t4)).toNatClampNeg * 9))) + 3296) + 184989)
  · replace hf := xt hroom hf
    cases hf
  replace hf := xf hroom hf
  obtain ⟨z8, w6, h7, hf⟩ := xcb hf
  refine x_callI (As := [.int t2, .int t4]) (rest := [.ref z]) S hw (c_RR_init h7) (cwI 2 S.2.2.2.2 gi_RR_init rfl rfl rfl (S.2.2.2.2 _ wd_1_1) (S.2.2.2.2 _ wd_1_21) (S.2.2.2.2 _ wd_1_22) rfl hi_RR_init ⟨Nat.le_of_ble_eq_true rfl, Nat.le_of_ble_eq_true rfl⟩) rfl hl.1 rfl (Nat.le_of_ble_eq_true rfl) d_Lw_law_14 ⟨(show _ ≤ 600000 by (try dsimp only); omega), (show _ ≤ 7302250 by (try dsimp only); omega)⟩ (fun H locs hw => ?_)
  refine lv_astore_n (lv' := [(1, .ref z), (0, .ref b)]) S.1 S.2.1 d_Lw_law_17 rfl hl (by decide) rfl (fun ls hl => ?_)
  obtain ⟨w9, hw9, hf⟩ := xlb hf
  refine x_new S hw nw_Lw_18 hw9 (show _ ≤ 600000 by (try dsimp only); omega) (show _ ≤ 7302250 by (try dsimp only); omega) d_Lw_law_18 (fun H hw => ?_)
  refine lv_dup S.1 S.2.1 d_Lw_law_21 rfl ?_
  refine lv_aload_n S.1 S.2.1 d_Lw_law_22 rfl (lv_at hl 1 rfl) ?_
  refine lv_iconst (v := 0) S.1 S.2.1 d_Lw_law_23 (by decide) ?_
  obtain ⟨t10, h11, hf⟩ := xb hf
  refine x_callX (As := [.ref b, .int 0]) (rest := [.ref z8, .ref z8]) (st1 := [.int t10, .ref z8, .ref z8]) S hw hX hbl hbA (c_Lw_cell hbE h11) (cwS 2 S.2.2.2.2 gs_Lw_9 rfl rfl rfl hd_Lw_cell ⟨Nat.le_of_ble_eq_true rfl, Nat.le_of_ble_eq_true rfl⟩) rfl hl.1 rfl rfl (Nat.le_of_ble_eq_true rfl) d_Lw_law_24 ⟨(show _ ≤ 600000 by (try dsimp only); omega), (show _ ≤ 7302250 by (try dsimp only); omega)⟩ (fun H locs hw => ?_)
  refine lv_aload_n S.1 S.2.1 d_Lw_law_27 rfl (lv_at hl 1 rfl) ?_
  refine lv_iconst (v := 1) S.1 S.2.1 d_Lw_law_28 (by decide) ?_
  obtain ⟨t12, h13, hf⟩ := xb hf
  refine x_callX (As := [.ref b, .int 1]) (rest := [.int t10, .ref z8, .ref z8]) (st1 := [.int t12, .int t10, .ref z8, .ref z8]) S hw hX hbl hbA (c_Lw_cell hbE h13) (cwS 2 S.2.2.2.2 gs_Lw_9 rfl rfl rfl hd_Lw_cell ⟨Nat.le_of_ble_eq_true rfl, Nat.le_of_ble_eq_true rfl⟩) rfl hl.1 rfl rfl (Nat.le_of_ble_eq_true rfl) d_Lw_law_29 ⟨(show _ ≤ 600000 by (try dsimp only); omega), (show _ ≤ 7302250 by (try dsimp only); omega)⟩ (fun H locs hw => ?_)
  obtain ⟨w14, h15, hf⟩ := xb hf
  refine x_callI (As := [.int t10, .int t12]) (rest := [.ref z8]) S hw (c_Mo_init h15) (cwI 2 S.2.2.2.2 gi_Mo_init rfl rfl rfl (S.2.2.2.2 _ wd_1_14) (S.2.2.2.2 _ wd_4_212) (S.2.2.2.2 _ wd_4_213) rfl hi_Mo_init ⟨Nat.le_of_ble_eq_true rfl, Nat.le_of_ble_eq_true rfl⟩) rfl hl.1 rfl (Nat.le_of_ble_eq_true rfl) d_Lw_law_32 ⟨(show _ ≤ 600000 by (try dsimp only); omega), (show _ ≤ 7302250 by (try dsimp only); omega)⟩ (fun H locs hw => ?_)
  refine lv_astore_n (lv' := [(2, .ref z8), (1, .ref z), (0, .ref b)]) S.1 S.2.1 d_Lw_law_35 rfl hl (by decide) rfl (fun ls hl => ?_)
  refine lv_iconst (v := 2) S.1 S.2.1 d_Lw_law_36 (by decide) ?_
  refine lv_istore_n (lv' := [(3, .int 2), (2, .ref z8), (1, .ref z), (0, .ref b)]) S.1 S.2.1 d_Lw_law_37 rfl hl (by decide) rfl (fun ls hl => ?_)
  refine W.widen (k := (1 + ((25 + (4 + (1 + (xmax 1 (xmin 8 t2)).toNatClampNeg) + (1 + (xmax 1 (xmin 8 t2)).toNatClampNeg) + (1 + (xmax 1 (xmin 8 t2)).toNatClampNeg) + (1 + (xmax 1 (xmin 8 t2)).toNatClampNeg) + (1 + (xmax 1 (xmin 21 t4)).toNatClampNeg))) + 256) + 47)) (n := (9 + ((19729 + (27 + (xmax 1 (xmin 8 t2)).toNatClampNeg + ((xmax 1 (xmin 8 t2)).toNatClampNeg + (xmax 1 (xmin 8 t2)).toNatClampNeg * (7 + (xmax 1 (xmin 21 t4))).toNatClampNeg) + ((xmax 1 (xmin 8 t2)).toNatClampNeg + (xmax 1 (xmin 8 t2)).toNatClampNeg * (xmax 1 (xmin 21 t4)).toNatClampNeg) + ((xmax 1 (xmin 8 t2)).toNatClampNeg + (xmax 1 (xmin 8 t2)).toNatClampNeg * (xmax 1 (xmin 21 t4)).toNatClampNeg) + ((xmax 1 (xmin 8 t2)).toNatClampNeg + (xmax 1 (xmin 8 t2)).toNatClampNeg * 9) + ((xmax 1 (xmin 21 t4)).toNatClampNeg + (xmax 1 (xmin 21 t4)).toNatClampNeg * 9))) + 3296) + 184989)) (by (try dsimp only); omega) (by (try dsimp only); omega) ?_
  exact w_law_38 S hr hlocks hX hbl hE _ _ _ _ _ _ _ _ _ _ _ (by omega) (by omega) hw (lv_sub hl [3, 2, 1, 0] rfl) hf
