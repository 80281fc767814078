def f_Lw_cell (xs : Nat → Int32) (L : Nat) (x1 : Int32) : Option Int32 :=
  if (nI L) ≤ x1 then (
    some 0)
  else (
    (ysc xs L x1).bind fun _ =>
    some (xs (x1).toNatClampNeg))
set_option maxHeartbeats 4000000 in
set_option maxRecDepth 100000 in
theorem c_Lw_cell {l : Launch} {E : xV} {z : Nat} {ω : xS} {b L : Nat} {xs : Nat → Int32} {x1 r : Int32} (hbE : b < E.2.2) (hf : f_Lw_cell xs L x1 = some r) : Met l y_Lw_cell ws_Lw_cell { frames := 0, cells := 0, slots := 0, locals := 0 } (va_Pc [.ref b, .int x1] (fun U => xB E z ω U ∧ va_X b L xs U U.heap)) (xQ E (some (.int r)) z ω) 0 0 (fun q => E.2.2 ≤ q) := by
  refine x_startX (cc := b_Lw_cell) (maxL := 2) (ret := some .int) (by decide) rfl (Nat.le_of_ble_eq_true rfl) ?_
  intro p e s m below meth c S hr hlocks ls hl hw hX
  have hl : lv_has ls 2 [(0, .ref b), (1, .int x1)] := hl
  have hbl : b < s.heap.size := by rw [hw.2.1.1]; exact Nat.lt_of_lt_of_le hbE hw.2.1.2.1
  have hbA : ¬ E.2.2 ≤ b := Nat.not_le.mpr hbE
  unfold f_Lw_cell at hf
  refine lv_iload_n S.1 S.2.1 d_Lw_cell_0 rfl (lv_at hl 1 rfl) ?_
  refine lv_aload_n S.1 S.2.1 d_Lw_cell_1 rfl (lv_at hl 0 rfl) ?_
  refine va_slen S.1 S.2.1 hX hbl hbA hw.2.2 d_Lw_cell_2 ?_
  refine lv_icmp_ge (tgt := 12) S.1 S.2.1 d_Lw_cell_3 (by decide) (fun c1 => ?_) (fun c1 => ?_)
  · replace hf := xt c1 hf
    refine lv_iconst (v := 0) S.1 S.2.1 d_Lw_cell_12 (by decide) ?_
    obtain rfl := xe1 hf
    exact x_iret S hr hlocks hw d_Lw_cell_13
  · replace hf := xf c1 hf
    refine lv_aload_n S.1 S.2.1 d_Lw_cell_6 rfl (lv_at hl 0 rfl) ?_
    refine lv_iload_n S.1 S.2.1 d_Lw_cell_7 rfl (lv_at hl 1 rfl) ?_
    obtain ⟨t2, ht2, hf⟩ := xb hf
    obtain ⟨hvt2, rfl⟩ := ysc_spec ht2
    refine va_sld S.1 S.2.1 hX hbl hbA hw.2.2 hvt2 d_Lw_cell_8 ?_
    refine lv_goto (tgt := 13) S.1 S.2.1 d_Lw_cell_9 (by decide) ?_
    obtain rfl := xe1 hf
    exact x_iret S hr hlocks hw d_Lw_cell_13
