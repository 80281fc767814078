def f_law_594 (xs : Nat → Int32) (L : Nat) (k38 : Nat → Nat → Int32 → Nat → Nat → Nat → xS → Option Unit) (a1 a2 : Nat) (x3 : Int32) (cc uu z : Nat) (ω : xS) : Option Unit :=
  (ysc xs L (x3 + 1)).bind fun _ =>
  xc (xk ω a1 11 (f_RR_descend a1 (xs ((x3 + 1)).toNatClampNeg) ω)) fun t3 w4 =>
  (ysc xs L (x3 + 1)).bind fun _ =>
  xc (xk w4 a2 12 (f_Mo_descend a2 (xs ((x3 + 1)).toNatClampNeg) w4)) fun t7 w8 =>
  if t3 = t7 then (
    k38 a1 a2 (x3 + 5) cc uu z w8)
  else (
    none)
set_option maxHeartbeats 4000000 in
set_option maxRecDepth 100000 in
theorem w_law_594 {p : Program} {l : Launch} {e : Env} {s : State} {m : MethodId} {below : List Frame} {meth : Method} {c : Code} {E : xV} {b L : Nat} {xs : Nat → Int32} (S : CallFix p m c code 4 s #[Value.ref b] xTbl "RosterRulesLaw") (hr : meth.sig.returnType = ret) (hlocks : meth.locks = false) (hX : va_X b L xs s s.heap) (hbl : b < s.heap.size) (hE : E.2.2 = s.heap.size) {k38 : Nat → Nat → Int32 → Nat → Nat → Nat → xS → Option Unit} (hk : ∀ (a1 a2 : Nat) (x3 : Int32) (cc uu z : Nat) (ω : xS) (H : Heap) (locs : List Loc) (ls : Array Slot), cc ≤ 600000 → uu ≤ 7302250 → xW E z ω s s.heap H locs → lv_has ls 4 [(0, .ref b), (1, .ref a1), (2, .ref a2), (3, .int x3)] → k38 a1 a2 x3 cc uu z ω = some () → W p l e room_1 s m #[Value.ref b] below meth c H locs cc uu (lw_Z below #[Value.ref b] s) (F0 m 38 ls [])) : ∀ (a1 a2 : Nat) (x3 : Int32) (cc uu z : Nat) (ω : xS) (H : Heap) (locs : List Loc) (ls : Array Slot), cc ≤ 600000 → uu ≤ 7302250 → xW E z ω s s.heap H locs → lv_has ls 4 [(0, .ref b), (1, .ref a1), (2, .ref a2), (3, .int x3)] → f_law_594 xs L k38 a1 a2 x3 cc uu z ω = some () → W p l e room_1 s m #[Value.ref b] below meth c H locs cc uu (lw_Z below #[Value.ref b] s) (F0 m 594 ls []) := by
  intro a1 a2 x3 cc uu z ω H locs ls hcc huu hw hl hf
  have hbA : ¬ E.2.2 ≤ b := by rw [hE]; exact Nat.not_le.mpr hbl
  unfold f_law_594 at hf
  refine lv_aload_n S.1 S.2.1 d_Lw_law_594 rfl (lv_at hl 1 rfl) ?_
  refine lv_aload_n S.1 S.2.1 d_Lw_law_595 rfl (lv_at hl 0 rfl) ?_
  refine lv_iload_n S.1 S.2.1 d_Lw_law_596 rfl (lv_at hl 3 rfl) ?_
  refine lv_iconst (v := 1) S.1 S.2.1 d_Lw_law_597 (by decide) ?_
  refine lv_iadd S.1 S.2.1 d_Lw_law_598 ?_
  obtain ⟨t1, ht1, hf⟩ := xb hf
  obtain ⟨hvt1, rfl⟩ := ysc_spec ht1
  refine va_sld S.1 S.2.1 hX hbl hbA hw.2.2 hvt1 d_Lw_law_599 ?_
  obtain ⟨t3, w4, h2, hf⟩ := xcb hf
  obtain ⟨h2b, h2⟩ := xkb h2
  refine x_callV (As := [.int (xs ((x3 + 1)).toNatClampNeg)]) (rest := []) (st1 := [.int t3]) S hw (c_RR_descend h2) (cwV 1 S.2.2.2.2 gv_Lw_77 rfl rfl rfl hd_RR_descend ⟨Nat.le_of_ble_eq_true rfl, Nat.le_of_ble_eq_true rfl⟩) rfl h2b rfl hl.1 rfl rfl (Nat.le_of_ble_eq_true rfl) d_Lw_law_600 ⟨(show _ ≤ 600000 by (try dsimp only); omega), (show _ ≤ 7302250 by (try dsimp only); omega)⟩ (fun H locs hw => ?_)
  refine lv_aload_n S.1 S.2.1 d_Lw_law_603 rfl (lv_at hl 2 rfl) ?_
  refine lv_aload_n S.1 S.2.1 d_Lw_law_604 rfl (lv_at hl 0 rfl) ?_
  refine lv_iload_n S.1 S.2.1 d_Lw_law_605 rfl (lv_at hl 3 rfl) ?_
  refine lv_iconst (v := 1) S.1 S.2.1 d_Lw_law_606 (by decide) ?_
  refine lv_iadd S.1 S.2.1 d_Lw_law_607 ?_
  obtain ⟨t5, ht5, hf⟩ := xb hf
  obtain ⟨hvt5, rfl⟩ := ysc_spec ht5
  refine va_sld S.1 S.2.1 hX hbl hbA hw.2.2 hvt5 d_Lw_law_608 ?_
  obtain ⟨t7, w8, h6, hf⟩ := xcb hf
  obtain ⟨h6b, h6⟩ := xkb h6
  refine x_callV (As := [.int (xs ((x3 + 1)).toNatClampNeg)]) (rest := [.int t3]) (st1 := [.int t7, .int t3]) S hw (c_Mo_descend h6) (cwV 1 S.2.2.2.2 gv_Lw_81 rfl rfl rfl hd_Mo_descend ⟨Nat.le_of_ble_eq_true rfl, Nat.le_of_ble_eq_true rfl⟩) rfl h6b rfl hl.1 rfl rfl (Nat.le_of_ble_eq_true rfl) d_Lw_law_609 ⟨(show _ ≤ 600000 by (try dsimp only); omega), (show _ ≤ 7302250 by (try dsimp only); omega)⟩ (fun H locs hw => ?_)
  refine lv_icmp_eq (tgt := 908) S.1 S.2.1 d_Lw_law_612 (by decide) (fun c9 => ?_) (fun c9 => ?_)
  · replace hf := xt c9 hf
    refine lv_iinc (v := (x3 + 5)) (lv' := [(3, .int (x3 + 5)), (0, .ref b), (1, .ref a1), (2, .ref a2)]) S.1 S.2.1 d_Lw_law_908 hl (k := 3) rfl rfl (by decide) rfl (fun ls hl => ?_)
    refine lv_goto (tgt := 38) S.1 S.2.1 d_Lw_law_911 (by decide) ?_
    exact hk _ _ _ _ _ _ _ _ _ _ (by (try dsimp only); omega) (by (try dsimp only); omega) hw (lv_sub hl [1, 2, 3, 0] rfl) hf
  · replace hf := xf c9 hf
    refine lv_iconst (v := 0) S.1 S.2.1 d_Lw_law_615 (by decide) ?_
    cases hf

def f_law_617 (xs : Nat → Int32) (L : Nat) (k38 : Nat → Nat → Int32 → Nat → Nat → Nat → xS → Option Unit) (a1 a2 : Nat) (x3 : Int32) (cc uu z : Nat) (ω : xS) : Option Unit :=
  (ysc xs L (x3 + 1)).bind fun _ =>
  (ysc xs L (x3 + 2)).bind fun _ =>
  (xk ω a1 11 (f_RR_broken a1 (xs ((x3 + 1)).toNatClampNeg) (xs ((x3 + 2)).toNatClampNeg) ω)).bind fun t4 =>
  (ysc xs L (x3 + 1)).bind fun _ =>
  (ysc xs L (x3 + 2)).bind fun _ =>
  (xk ω a2 12 (f_Mo_broken a2 (xs ((x3 + 1)).toNatClampNeg) (xs ((x3 + 2)).toNatClampNeg) ω)).bind fun t8 =>
  if (lg_cmp t4 t8) = 0 then (
    k38 a1 a2 (x3 + 5) cc uu z ω)
  else (
    none)
set_option maxHeartbeats 4000000 in
set_option maxRecDepth 100000 in
theorem w_law_617 {p : Program} {l : Launch} {e : Env} {s : State} {m : MethodId} {below : List Frame} {meth : Method} {c : Code} {E : xV} {b L : Nat} {xs : Nat → Int32} (S : CallFix p m c code 4 s #[Value.ref b] xTbl "RosterRulesLaw") (hr : meth.sig.returnType = ret) (hlocks : meth.locks = false) (hX : va_X b L xs s s.heap) (hbl : b < s.heap.size) (hE : E.2.2 = s.heap.size) {k38 : Nat → Nat → Int32 → Nat → Nat → Nat → xS → Option Unit} (hk : ∀ (a1 a2 : Nat) (x3 : Int32) (cc uu z : Nat) (ω : xS) (H : Heap) (locs : List Loc) (ls : Array Slot), cc ≤ 600000 → uu ≤ 7302250 → xW E z ω s s.heap H locs → lv_has ls 4 [(0, .ref b), (1, .ref a1), (2, .ref a2), (3, .int x3)] → k38 a1 a2 x3 cc uu z ω = some () → W p l e room_1 s m #[Value.ref b] below meth c H locs cc uu (lw_Z below #[Value.ref b] s) (F0 m 38 ls [])) : ∀ (a1 a2 : Nat) (x3 : Int32) (cc uu z : Nat) (ω : xS) (H : Heap) (locs : List Loc) (ls : Array Slot), cc ≤ 600000 → uu ≤ 7302250 → xW E z ω s s.heap H locs → lv_has ls 4 [(0, .ref b), (1, .ref a1), (2, .ref a2), (3, .int x3)] → f_law_617 xs L k38 a1 a2 x3 cc uu z ω = some () → W p l e room_1 s m #[Value.ref b] below meth c H locs cc uu (lw_Z below #[Value.ref b] s) (F0 m 617 ls []) := by
  intro a1 a2 x3 cc uu z ω H locs ls hcc huu hw hl hf
  have hbA : ¬ E.2.2 ≤ b := by rw [hE]; exact Nat.not_le.mpr hbl
  unfold f_law_617 at hf
  refine lv_aload_n S.1 S.2.1 d_Lw_law_617 rfl (lv_at hl 1 rfl) ?_
  refine lv_aload_n S.1 S.2.1 d_Lw_law_618 rfl (lv_at hl 0 rfl) ?_
  refine lv_iload_n S.1 S.2.1 d_Lw_law_619 rfl (lv_at hl 3 rfl) ?_
  refine lv_iconst (v := 1) S.1 S.2.1 d_Lw_law_620 (by decide) ?_
  refine lv_iadd S.1 S.2.1 d_Lw_law_621 ?_
  obtain ⟨t1, ht1, hf⟩ := xb hf
  obtain ⟨hvt1, rfl⟩ := ysc_spec ht1
  refine va_sld S.1 S.2.1 hX hbl hbA hw.2.2 hvt1 d_Lw_law_622 ?_
  refine lv_aload_n S.1 S.2.1 d_Lw_law_623 rfl (lv_at hl 0 rfl) ?_
  refine lv_iload_n S.1 S.2.1 d_Lw_law_624 rfl (lv_at hl 3 rfl) ?_
  refine lv_iconst (v := 2) S.1 S.2.1 d_Lw_law_625 (by decide) ?_
  refine lv_iadd S.1 S.2.1 d_Lw_law_626 ?_
  obtain ⟨t2, ht2, hf⟩ := xb hf
  obtain ⟨hvt2, rfl⟩ := ysc_spec ht2
  refine va_sld S.1 S.2.1 hX hbl hbA hw.2.2 hvt2 d_Lw_law_627 ?_
  obtain ⟨t4, h3, hf⟩ := xb hf
  obtain ⟨h3b, h3⟩ := xkb h3
  refine x_callV (As := [.int (xs ((x3 + 1)).toNatClampNeg), .int (xs ((x3 + 2)).toNatClampNeg)]) (rest := []) (st1 := [.long t4]) S hw (c_RR_broken h3) (cwV 2 S.2.2.2.2 gv_Lw_82 rfl rfl rfl hd_RR_broken ⟨Nat.le_of_ble_eq_true rfl, Nat.le_of_ble_eq_true rfl⟩) rfl h3b rfl hl.1 rfl rfl (Nat.le_of_ble_eq_true rfl) d_Lw_law_628 ⟨(show _ ≤ 600000 by (try dsimp only); omega), (show _ ≤ 7302250 by (try dsimp only); omega)⟩ (fun H locs hw => ?_)
  refine lv_aload_n S.1 S.2.1 d_Lw_law_631 rfl (lv_at hl 2 rfl) ?_
  refine lv_aload_n S.1 S.2.1 d_Lw_law_632 rfl (lv_at hl 0 rfl) ?_
  refine lv_iload_n S.1 S.2.1 d_Lw_law_633 rfl (lv_at hl 3 rfl) ?_
  refine lv_iconst (v := 1) S.1 S.2.1 d_Lw_law_634 (by decide) ?_
  refine lv_iadd S.1 S.2.1 d_Lw_law_635 ?_
  obtain ⟨t5, ht5, hf⟩ := xb hf
  obtain ⟨hvt5, rfl⟩ := ysc_spec ht5
  refine va_sld S.1 S.2.1 hX hbl hbA hw.2.2 hvt5 d_Lw_law_636 ?_
  refine lv_aload_n S.1 S.2.1 d_Lw_law_637 rfl (lv_at hl 0 rfl) ?_
  refine lv_iload_n S.1 S.2.1 d_Lw_law_638 rfl (lv_at hl 3 rfl) ?_
  refine lv_iconst (v := 2) S.1 S.2.1 d_Lw_law_639 (by decide) ?_
  refine lv_iadd S.1 S.2.1 d_Lw_law_640 ?_
  obtain ⟨t6, ht6, hf⟩ := xb hf
  obtain ⟨hvt6, rfl⟩ := ysc_spec ht6
  refine va_sld S.1 S.2.1 hX hbl hbA hw.2.2 hvt6 d_Lw_law_641 ?_
  obtain ⟨t8, h7, hf⟩ := xb hf
  obtain ⟨h7b, h7⟩ := xkb h7
  refine x_callV (As := [.int (xs ((x3 + 1)).toNatClampNeg), .int (xs ((x3 + 2)).toNatClampNeg)]) (rest := [.long t4]) (st1 := [.long t8, .long t4]) S hw (c_Mo_broken h7) (cwV 2 S.2.2.2.2 gv_Lw_86 rfl rfl rfl hd_Mo_broken ⟨Nat.le_of_ble_eq_true rfl, Nat.le_of_ble_eq_true rfl⟩) rfl h7b rfl hl.1 rfl rfl (Nat.le_of_ble_eq_true rfl) d_Lw_law_642 ⟨(show _ ≤ 600000 by (try dsimp only); omega), (show _ ≤ 7302250 by (try dsimp only); omega)⟩ (fun H locs hw => ?_)
  refine W.lcmp S.1 S.2.1 d_Lw_law_645 ?_
  refine lv_if_eq (tgt := 908) S.1 S.2.1 d_Lw_law_646 (by decide) (fun c9 => ?_) (fun c9 => ?_)
  · replace hf := xt c9 hf
    refine lv_iinc (v := (x3 + 5)) (lv' := [(3, .int (x3 + 5)), (0, .ref b), (1, .ref a1), (2, .ref a2)]) S.1 S.2.1 d_Lw_law_908 hl (k := 3) rfl rfl (by decide) rfl (fun ls hl => ?_)
    refine lv_goto (tgt := 38) S.1 S.2.1 d_Lw_law_911 (by decide) ?_
    exact hk _ _ _ _ _ _ _ _ _ _ (by (try dsimp only); omega) (by (try dsimp only); omega) hw (lv_sub hl [1, 2, 3, 0] rfl) hf
  · replace hf := xf c9 hf
    refine lv_iconst (v := 0) S.1 S.2.1 d_Lw_law_649 (by decide) ?_
    cases hf

def f_law_651 (xs : Nat → Int32) (L : Nat) (k38 : Nat → Nat → Int32 → Nat → Nat → Nat → xS → Option Unit) (a1 a2 : Nat) (x3 : Int32) (cc uu z : Nat) (ω : xS) : Option Unit :=
  (xk ω a1 11 (f_RR_score a1  ω)).bind fun t2 =>
  (xk ω a2 12 (f_Mo_score a2  ω)).bind fun t4 =>
  if (lg_cmp t2 t4) = 0 then (
    k38 a1 a2 (x3 + 5) cc uu z ω)
  else (
    none)
set_option maxHeartbeats 4000000 in
set_option maxRecDepth 100000 in
theorem w_law_651 {p : Program} {l : Launch} {e : Env} {s : State} {m : MethodId} {below : List Frame} {meth : Method} {c : Code} {E : xV} {b L : Nat} {xs : Nat → Int32} (S : CallFix p m c code 4 s #[Value.ref b] xTbl "RosterRulesLaw") (hr : meth.sig.returnType = ret) (hlocks : meth.locks = false) (hX : va_X b L xs s s.heap) (hbl : b < s.heap.size) (hE : E.2.2 = s.heap.size) {k38 : Nat → Nat → Int32 → Nat → Nat → Nat → xS → Option Unit} (hk : ∀ (a1 a2 : Nat) (x3 : Int32) (cc uu z : Nat) (ω : xS) (H : Heap) (locs : List Loc) (ls : Array Slot), cc ≤ 600000 → uu ≤ 7302250 → xW E z ω s s.heap H locs → lv_has ls 4 [(0, .ref b), (1, .ref a1), (2, .ref a2), (3, .int x3)] → k38 a1 a2 x3 cc uu z ω = some () → W p l e room_1 s m #[Value.ref b] below meth c H locs cc uu (lw_Z below #[Value.ref b] s) (F0 m 38 ls [])) : ∀ (a1 a2 : Nat) (x3 : Int32) (cc uu z : Nat) (ω : xS) (H : Heap) (locs : List Loc) (ls : Array Slot), cc ≤ 600000 → uu ≤ 7302250 → xW E z ω s s.heap H locs → lv_has ls 4 [(0, .ref b), (1, .ref a1), (2, .ref a2), (3, .int x3)] → f_law_651 xs L k38 a1 a2 x3 cc uu z ω = some () → W p l e room_1 s m #[Value.ref b] below meth c H locs cc uu (lw_Z below #[Value.ref b] s) (F0 m 651 ls []) := by
  intro a1 a2 x3 cc uu z ω H locs ls hcc huu hw hl hf
  have hbA : ¬ E.2.2 ≤ b := by rw [hE]; exact Nat.not_le.mpr hbl
  unfold f_law_651 at hf
  refine lv_aload_n S.1 S.2.1 d_Lw_law_651 rfl (lv_at hl 1 rfl) ?_
  obtain ⟨t2, h1, hf⟩ := xb hf
  obtain ⟨h1b, h1⟩ := xkb h1
  refine x_callV (As := []) (rest := []) (st1 := [.long t2]) S hw (c_RR_score h1) (cwV 0 S.2.2.2.2 gv_Lw_87 rfl rfl rfl hd_RR_score ⟨Nat.le_of_ble_eq_true rfl, Nat.le_of_ble_eq_true rfl⟩) rfl h1b rfl hl.1 rfl rfl (Nat.le_of_ble_eq_true rfl) d_Lw_law_652 ⟨(show _ ≤ 600000 by (try dsimp only); omega), (show _ ≤ 7302250 by (try dsimp only); omega)⟩ (fun H locs hw => ?_)
  refine lv_aload_n S.1 S.2.1 d_Lw_law_655 rfl (lv_at hl 2 rfl) ?_
  obtain ⟨t4, h3, hf⟩ := xb hf
  obtain ⟨h3b, h3⟩ := xkb h3
  refine x_callV (As := []) (rest := [.long t2]) (st1 := [.long t4, .long t2]) S hw (c_Mo_score h3) (cwV 0 S.2.2.2.2 gv_Lw_91 rfl rfl rfl hd_Mo_score ⟨Nat.le_of_ble_eq_true rfl, Nat.le_of_ble_eq_true rfl⟩) rfl h3b rfl hl.1 rfl rfl (Nat.le_of_ble_eq_true rfl) d_Lw_law_656 ⟨(show _ ≤ 600000 by (try dsimp only); omega), (show _ ≤ 7302250 by (try dsimp only); omega)⟩ (fun H locs hw => ?_)
  refine W.lcmp S.1 S.2.1 d_Lw_law_659 ?_
  refine lv_if_eq (tgt := 908) S.1 S.2.1 d_Lw_law_660 (by decide) (fun c5 => ?_) (fun c5 => ?_)
  · replace hf := xt c5 hf
    refine lv_iinc (v := (x3 + 5)) (lv' := [(3, .int (x3 + 5)), (0, .ref b), (1, .ref a1), (2, .ref a2)]) S.1 S.2.1 d_Lw_law_908 hl (k := 3) rfl rfl (by decide) rfl (fun ls hl => ?_)
    refine lv_goto (tgt := 38) S.1 S.2.1 d_Lw_law_911 (by decide) ?_
    exact hk _ _ _ _ _ _ _ _ _ _ (by (try dsimp only); omega) (by (try dsimp only); omega) hw (lv_sub hl [1, 2, 3, 0] rfl) hf
  · replace hf := xf c5 hf
    refine lv_iconst (v := 0) S.1 S.2.1 d_Lw_law_663 (by decide) ?_
    cases hf

def f_law_665 (xs : Nat → Int32) (L : Nat) (k38 : Nat → Nat → Int32 → Nat → Nat → Nat → xS → Option Unit) (a1 a2 : Nat) (x3 : Int32) (cc uu z : Nat) (ω : xS) : Option Unit :=
  (ysc xs L (x3 + 1)).bind fun _ =>
  (ysc xs L (x3 + 2)).bind fun _ =>
  (ysc xs L (x3 + 3)).bind fun _ =>
  (xk ω a1 11 (f_RR_minutes a1 (xs ((x3 + 1)).toNatClampNeg) (xs ((x3 + 2)).toNatClampNeg) (xs ((x3 + 3)).toNatClampNeg) ω)).bind fun t5 =>
  (ysc xs L (x3 + 1)).bind fun _ =>
  (ysc xs L (x3 + 2)).bind fun _ =>
  (ysc xs L (x3 + 3)).bind fun _ =>
  (xk ω a2 12 (f_Mo_minutes a2 (xs ((x3 + 1)).toNatClampNeg) (xs ((x3 + 2)).toNatClampNeg) (xs ((x3 + 3)).toNatClampNeg) ω)).bind fun t10 =>
  if (lg_cmp t5 t10) = 0 then (
    k38 a1 a2 (x3 + 5) cc uu z ω)
  else (
    none)
set_option maxHeartbeats 4000000 in
set_option maxRecDepth 100000 in
theorem w_law_665 {p : Program} {l : Launch} {e : Env} {s : State} {m : MethodId} {below : List Frame} {meth : Method} {c : Code} {E : xV} {b L : Nat} {xs : Nat → Int32} (S : CallFix p m c code 4 s #[Value.ref b] xTbl "RosterRulesLaw") (hr : meth.sig.returnType = ret) (hlocks : meth.locks = false) (hX : va_X b L xs s s.heap) (hbl : b < s.heap.size) (hE : E.2.2 = s.heap.size) {k38 : Nat → Nat → Int32 → Nat → Nat → Nat → xS → Option Unit} (hk : ∀ (a1 a2 : Nat) (x3 : Int32) (cc uu z : Nat) (ω : xS) (H : Heap) (locs : List Loc) (ls : Array Slot), cc ≤ 600000 → uu ≤ 7302250 → xW E z ω s s.heap H locs → lv_has ls 4 [(0, .ref b), (1, .ref a1), (2, .ref a2), (3, .int x3)] → k38 a1 a2 x3 cc uu z ω = some () → W p l e room_1 s m #[Value.ref b] below meth c H locs cc uu (lw_Z below #[Value.ref b] s) (F0 m 38 ls [])) : ∀ (a1 a2 : Nat) (x3 : Int32) (cc uu z : Nat) (ω : xS) (H : Heap) (locs : List Loc) (ls : Array Slot), cc ≤ 600000 → uu ≤ 7302250 → xW E z ω s s.heap H locs → lv_has ls 4 [(0, .ref b), (1, .ref a1), (2, .ref a2), (3, .int x3)] → f_law_665 xs L k38 a1 a2 x3 cc uu z ω = some () → W p l e room_1 s m #[Value.ref b] below meth c H locs cc uu (lw_Z below #[Value.ref b] s) (F0 m 665 ls []) := by
  intro a1 a2 x3 cc uu z ω H locs ls hcc huu hw hl hf
  have hbA : ¬ E.2.2 ≤ b := by rw [hE]; exact Nat.not_le.mpr hbl
  unfold f_law_665 at hf
  refine lv_aload_n S.1 S.2.1 d_Lw_law_665 rfl (lv_at hl 1 rfl) ?_
  refine lv_aload_n S.1 S.2.1 d_Lw_law_666 rfl (lv_at hl 0 rfl) ?_
  refine lv_iload_n S.1 S.2.1 d_Lw_law_667 rfl (lv_at hl 3 rfl) ?_
  refine lv_iconst (v := 1) S.1 S.2.1 d_Lw_law_668 (by decide) ?_
  refine lv_iadd S.1 S.2.1 d_Lw_law_669 ?_
  obtain ⟨t1, ht1, hf⟩ := xb hf
  obtain ⟨hvt1, rfl⟩ := ysc_spec ht1
  refine va_sld S.1 S.2.1 hX hbl hbA hw.2.2 hvt1 d_Lw_law_670 ?_
  refine lv_aload_n S.1 S.2.1 d_Lw_law_671 rfl (lv_at hl 0 rfl) ?_
  refine lv_iload_n S.1 S.2.1 d_Lw_law_672 rfl (lv_at hl 3 rfl) ?_
  refine lv_iconst (v := 2) S.1 S.2.1 d_Lw_law_673 (by decide) ?_
  refine lv_iadd S.1 S.2.1 d_Lw_law_674 ?_
  obtain ⟨t2, ht2, hf⟩ := xb hf
  obtain ⟨hvt2, rfl⟩ := ysc_spec ht2
  refine va_sld S.1 S.2.1 hX hbl hbA hw.2.2 hvt2 d_Lw_law_675 ?_
  refine lv_aload_n S.1 S.2.1 d_Lw_law_676 rfl (lv_at hl 0 rfl) ?_
  refine lv_iload_n S.1 S.2.1 d_Lw_law_677 rfl (lv_at hl 3 rfl) ?_
  refine lv_iconst (v := 3) S.1 S.2.1 d_Lw_law_678 (by decide) ?_
  refine lv_iadd S.1 S.2.1 d_Lw_law_679 ?_
  obtain ⟨t3, ht3, hf⟩ := xb hf
  obtain ⟨hvt3, rfl⟩ := ysc_spec ht3
  refine va_sld S.1 S.2.1 hX hbl hbA hw.2.2 hvt3 d_Lw_law_680 ?_
  obtain ⟨t5, h4, hf⟩ := xb hf
  obtain ⟨h4b, h4⟩ := xkb h4
  refine x_callV (As := [.int (xs ((x3 + 1)).toNatClampNeg), .int (xs ((x3 + 2)).toNatClampNeg), .int (xs ((x3 + 3)).toNatClampNeg)]) (rest := []) (st1 := [.long t5]) S hw (c_RR_minutes h4) (cwV 3 S.2.2.2.2 gv_Lw_92 rfl rfl rfl hd_RR_minutes ⟨Nat.le_of_ble_eq_true rfl, Nat.le_of_ble_eq_true rfl⟩) rfl h4b rfl hl.1 rfl rfl (Nat.le_of_ble_eq_true rfl) d_Lw_law_681 ⟨(show _ ≤ 600000 by (try dsimp only); omega), (show _ ≤ 7302250 by (try dsimp only); omega)⟩ (fun H locs hw => ?_)
  refine lv_aload_n S.1 S.2.1 d_Lw_law_684 rfl (lv_at hl 2 rfl) ?_
  refine lv_aload_n S.1 S.2.1 d_Lw_law_685 rfl (lv_at hl 0 rfl) ?_
  refine lv_iload_n S.1 S.2.1 d_Lw_law_686 rfl (lv_at hl 3 rfl) ?_
  refine lv_iconst (v := 1) S.1 S.2.1 d_Lw_law_687 (by decide) ?_
  refine lv_iadd S.1 S.2.1 d_Lw_law_688 ?_
  obtain ⟨t6, ht6, hf⟩ := xb hf
  obtain ⟨hvt6, rfl⟩ := ysc_spec ht6
  refine va_sld S.1 S.2.1 hX hbl hbA hw.2.2 hvt6 d_Lw_law_689 ?_
  refine lv_aload_n S.1 S.2.1 d_Lw_law_690 rfl (lv_at hl 0 rfl) ?_
  refine lv_iload_n S.1 S.2.1 d_Lw_law_691 rfl (lv_at hl 3 rfl) ?_
  refine lv_iconst (v := 2) S.1 S.2.1 d_Lw_law_692 (by decide) ?_
  refine lv_iadd S.1 S.2.1 d_Lw_law_693 ?_
  obtain ⟨t7, ht7, hf⟩ := xb hf
  obtain ⟨hvt7, rfl⟩ := ysc_spec ht7
  refine va_sld S.1 S.2.1 hX hbl hbA hw.2.2 hvt7 d_Lw_law_694 ?_
  refine lv_aload_n S.1 S.2.1 d_Lw_law_695 rfl (lv_at hl 0 rfl) ?_
  refine lv_iload_n S.1 S.2.1 d_Lw_law_696 rfl (lv_at hl 3 rfl) ?_
  refine lv_iconst (v := 3) S.1 S.2.1 d_Lw_law_697 (by decide) ?_
  refine lv_iadd S.1 S.2.1 d_Lw_law_698 ?_
  obtain ⟨t8, ht8, hf⟩ := xb hf
  obtain ⟨hvt8, rfl⟩ := ysc_spec ht8
  refine va_sld S.1 S.2.1 hX hbl hbA hw.2.2 hvt8 d_Lw_law_699 ?_
  obtain ⟨t10, h9, hf⟩ := xb hf
  obtain ⟨h9b, h9⟩ := xkb h9
  refine x_callV (As := [.int (xs ((x3 + 1)).toNatClampNeg), .int (xs ((x3 + 2)).toNatClampNeg), .int (xs ((x3 + 3)).toNatClampNeg)]) (rest := [.long t5]) (st1 := [.long t10, .long t5]) S hw (c_Mo_minutes h9) (cwV 3 S.2.2.2.2 gv_Lw_95 rfl rfl rfl hd_Mo_minutes ⟨Nat.le_of_ble_eq_true rfl, Nat.le_of_ble_eq_true rfl⟩) rfl h9b rfl hl.1 rfl rfl (Nat.le_of_ble_eq_true rfl) d_Lw_law_700 ⟨(show _ ≤ 600000 by (try dsimp only); omega), (show _ ≤ 7302250 by (try dsimp only); omega)⟩ (fun H locs hw => ?_)
  refine W.lcmp S.1 S.2.1 d_Lw_law_703 ?_
  refine lv_if_eq (tgt := 908) S.1 S.2.1 d_Lw_law_704 (by decide) (fun c11 => ?_) (fun c11 => ?_)
  · replace hf := xt c11 hf
    refine lv_iinc (v := (x3 + 5)) (lv' := [(3, .int (x3 + 5)), (0, .ref b), (1, .ref a1), (2, .ref a2)]) S.1 S.2.1 d_Lw_law_908 hl (k := 3) rfl rfl (by decide) rfl (fun ls hl => ?_)
    refine lv_goto (tgt := 38) S.1 S.2.1 d_Lw_law_911 (by decide) ?_
    exact hk _ _ _ _ _ _ _ _ _ _ (by (try dsimp only); omega) (by (try dsimp only); omega) hw (lv_sub hl [1, 2, 3, 0] rfl) hf
  · replace hf := xf c11 hf
    refine lv_iconst (v := 0) S.1 S.2.1 d_Lw_law_707 (by decide) ?_
    cases hf

def f_law_709 (xs : Nat → Int32) (L : Nat) (k38 : Nat → Nat → Int32 → Nat → Nat → Nat → xS → Option Unit) (a1 a2 : Nat) (x3 : Int32) (cc uu z : Nat) (ω : xS) : Option Unit :=
  (ysc xs L (x3 + 1)).bind fun _ =>
  (ysc xs L (x3 + 2)).bind fun _ =>
  xc4 (xk ω a1 11 (f_RR_law a1 (xs ((x3 + 1)).toNatClampNeg) (xs ((x3 + 2)).toNatClampNeg) z ω)) fun t4 c5 u6 w7 =>
  if 600000 < cc + c5 ∨ 7302250 < uu + u6 then none else
  (ysc xs L (x3 + 1)).bind fun _ =>
  (ysc xs L (x3 + 2)).bind fun _ =>
  (xk w7 a2 12 (f_Mo_law1 a2 (xs ((x3 + 1)).toNatClampNeg) (xs ((x3 + 2)).toNatClampNeg) w7)).bind fun t12 =>
  if t4 = t12 then (
    k38 a1 a2 (x3 + 5) (cc + c5) (uu + u6) (z + c5) w7)
  else (
    none)
set_option maxHeartbeats 4000000 in
set_option maxRecDepth 100000 in
theorem w_law_709 {p : Program} {l : Launch} {e : Env} {s : State} {m : MethodId} {below : List Frame} {meth : Method} {c : Code} {E : xV} {b L : Nat} {xs : Nat → Int32} (S : CallFix p m c code 4 s #[Value.ref b] xTbl "RosterRulesLaw") (hr : meth.sig.returnType = ret) (hlocks : meth.locks = false) (hX : va_X b L xs s s.heap) (hbl : b < s.heap.size) (hE : E.2.2 = s.heap.size) {k38 : Nat → Nat → Int32 → Nat → Nat → Nat → xS → Option Unit} (hk : ∀ (a1 a2 : Nat) (x3 : Int32) (cc uu z : Nat) (ω : xS) (H : Heap) (locs : List Loc) (ls : Array Slot), cc ≤ 600000 → uu ≤ 7302250 → xW E z ω s s.heap H locs → lv_has ls 4 [(0, .ref b), (1, .ref a1), (2, .ref a2), (3, .int x3)] → k38 a1 a2 x3 cc uu z ω = some () → W p l e room_1 s m #[Value.ref b] below meth c H locs cc uu (lw_Z below #[Value.ref b] s) (F0 m 38 ls [])) : ∀ (a1 a2 : Nat) (x3 : Int32) (cc uu z : Nat) (ω : xS) (H : Heap) (locs : List Loc) (ls : Array Slot), cc ≤ 600000 → uu ≤ 7302250 → xW E z ω s s.heap H locs → lv_has ls 4 [(0, .ref b), (1, .ref a1), (2, .ref a2), (3, .int x3)] → f_law_709 xs L k38 a1 a2 x3 cc uu z ω = some () → W p l e room_1 s m #[Value.ref b] below meth c H locs cc uu (lw_Z below #[Value.ref b] s) (F0 m 709 ls []) := by
  intro a1 a2 x3 cc uu z ω H locs ls hcc huu hw hl hf
  have hbA : ¬ E.2.2 ≤ b := by rw [hE]; exact Nat.not_le.mpr hbl
  unfold f_law_709 at hf
  refine lv_aload_n S.1 S.2.1 d_Lw_law_709 rfl (lv_at hl 1 rfl) ?_
  refine lv_aload_n S.1 S.2.1 d_Lw_law_710 rfl (lv_at hl 0 rfl) ?_
  refine lv_iload_n S.1 S.2.1 d_Lw_law_711 rfl (lv_at hl 3 rfl) ?_
  refine lv_iconst (v := 1) S.1 S.2.1 d_Lw_law_712 (by decide) ?_
  refine lv_iadd S.1 S.2.1 d_Lw_law_713 ?_
  obtain ⟨t1, ht1, hf⟩ := xb hf
  obtain ⟨hvt1, rfl⟩ := ysc_spec ht1
  refine va_sld S.1 S.2.1 hX hbl hbA hw.2.2 hvt1 d_Lw_law_714 ?_
  refine lv_aload_n S.1 S.2.1 d_Lw_law_715 rfl (lv_at hl 0 rfl) ?_
  refine lv_iload_n S.1 S.2.1 d_Lw_law_716 rfl (lv_at hl 3 rfl) ?_
  refine lv_iconst (v := 2) S.1 S.2.1 d_Lw_law_717 (by decide) ?_
  refine lv_iadd S.1 S.2.1 d_Lw_law_718 ?_
  obtain ⟨t2, ht2, hf⟩ := xb hf
  obtain ⟨hvt2, rfl⟩ := ysc_spec ht2
  refine va_sld S.1 S.2.1 hX hbl hbA hw.2.2 hvt2 d_Lw_law_719 ?_
  obtain ⟨t4, c5, u6, w7, h3, hf⟩ := xc4b hf
  by_cases g8 : 600000 < cc + c5 ∨ 7302250 < uu + u6
  · replace hf := xt g8 hf
    cases hf
  replace hf := xf g8 hf
  obtain ⟨h3b, h3⟩ := xkb h3
  refine x_callV (As := [.int (xs ((x3 + 1)).toNatClampNeg), .int (xs ((x3 + 2)).toNatClampNeg)]) (rest := []) (st1 := [.int t4]) S hw (c_RR_law h3) (cwV 2 S.2.2.2.2 gv_Lw_96 rfl rfl rfl hd_RR_law ⟨Nat.le_of_ble_eq_true rfl, Nat.le_of_ble_eq_true rfl⟩) rfl h3b rfl hl.1 rfl rfl (Nat.le_of_ble_eq_true rfl) d_Lw_law_720 ⟨(show _ ≤ 600000 by (try dsimp only); omega), (show _ ≤ 7302250 by (try dsimp only); omega)⟩ (fun H locs hw => ?_)
  refine lv_aload_n S.1 S.2.1 d_Lw_law_723 rfl (lv_at hl 2 rfl) ?_
  refine lv_aload_n S.1 S.2.1 d_Lw_law_724 rfl (lv_at hl 0 rfl) ?_
  refine lv_iload_n S.1 S.2.1 d_Lw_law_725 rfl (lv_at hl 3 rfl) ?_
  refine lv_iconst (v := 1) S.1 S.2.1 d_Lw_law_726 (by decide) ?_
  refine lv_iadd S.1 S.2.1 d_Lw_law_727 ?_
  obtain ⟨t9, ht9, hf⟩ := xb hf
  obtain ⟨hvt9, rfl⟩ := ysc_spec ht9
  refine va_sld S.1 S.2.1 hX hbl hbA hw.2.2 hvt9 d_Lw_law_728 ?_
  refine lv_aload_n S.1 S.2.1 d_Lw_law_729 rfl (lv_at hl 0 rfl) ?_
  refine lv_iload_n S.1 S.2.1 d_Lw_law_730 rfl (lv_at hl 3 rfl) ?_
  refine lv_iconst (v := 2) S.1 S.2.1 d_Lw_law_731 (by decide) ?_
  refine lv_iadd S.1 S.2.1 d_Lw_law_732 ?_
  obtain ⟨t10, ht10, hf⟩ := xb hf
  obtain ⟨hvt10, rfl⟩ := ysc_spec ht10
  refine va_sld S.1 S.2.1 hX hbl hbA hw.2.2 hvt10 d_Lw_law_733 ?_
  obtain ⟨t12, h11, hf⟩ := xb hf
  obtain ⟨h11b, h11⟩ := xkb h11
  refine x_callV (As := [.int (xs ((x3 + 1)).toNatClampNeg), .int (xs ((x3 + 2)).toNatClampNeg)]) (rest := [.int t4]) (st1 := [.int t12, .int t4]) S hw (c_Mo_law1 h11) (cwV 2 S.2.2.2.2 gv_Lw_99 rfl rfl rfl hd_Mo_law1 ⟨Nat.le_of_ble_eq_true rfl, Nat.le_of_ble_eq_true rfl⟩) rfl h11b rfl hl.1 rfl rfl (Nat.le_of_ble_eq_true rfl) d_Lw_law_734 ⟨(show _ ≤ 600000 by (try dsimp only); omega), (show _ ≤ 7302250 by (try dsimp only); omega)⟩ (fun H locs hw => ?_)
  refine lv_icmp_eq (tgt := 908) S.1 S.2.1 d_Lw_law_737 (by decide) (fun c13 => ?_) (fun c13 => ?_)
  · replace hf := xt c13 hf
    refine lv_iinc (v := (x3 + 5)) (lv' := [(3, .int (x3 + 5)), (0, .ref b), (1, .ref a1), (2, .ref a2)]) S.1 S.2.1 d_Lw_law_908 hl (k := 3) rfl rfl (by decide) rfl (fun ls hl => ?_)
    refine lv_goto (tgt := 38) S.1 S.2.1 d_Lw_law_911 (by decide) ?_
    exact hk _ _ _ _ _ _ _ _ _ _ (by (try dsimp only); omega) (by (try dsimp only); omega) hw (lv_sub hl [1, 2, 3, 0] rfl) hf
  · replace hf := xf c13 hf
    refine lv_iconst (v := 0) S.1 S.2.1 d_Lw_law_740 (by decide) ?_
    cases hf

def f_law_742 (xs : Nat → Int32) (L : Nat) (k38 : Nat → Nat → Int32 → Nat → Nat → Nat → xS → Option Unit) (a1 a2 : Nat) (x3 : Int32) (cc uu z : Nat) (ω : xS) : Option Unit :=
  (ysc xs L (x3 + 1)).bind fun _ =>
  (ysc xs L (x3 + 2)).bind fun _ =>
  (ysc xs L (x3 + 3)).bind fun _ =>
  xc4 (xk ω a1 11 (f_RR_state a1 (xs ((x3 + 1)).toNatClampNeg) (xs ((x3 + 2)).toNatClampNeg) (xs ((x3 + 3)).toNatClampNeg) z ω)) fun t5 c6 u7 w8 =>
  if 600000 < cc + c6 ∨ 7302250 < uu + u7 then none else
  (ysc xs L (x3 + 1)).bind fun _ =>
  (ysc xs L (x3 + 2)).bind fun _ =>
  (ysc xs L (x3 + 3)).bind fun _ =>
  (xk w8 a2 12 (f_Mo_state a2 (xs ((x3 + 1)).toNatClampNeg) (xs ((x3 + 2)).toNatClampNeg) (xs ((x3 + 3)).toNatClampNeg) w8)).bind fun t14 =>
  if t5 = t14 then (
    k38 a1 a2 (x3 + 5) (cc + c6) (uu + u7) (z + c6) w8)
  else (
    none)
set_option maxHeartbeats 4000000 in
set_option maxRecDepth 100000 in
theorem w_law_742 {p : Program} {l : Launch} {e : Env} {s : State} {m : MethodId} {below : List Frame} {meth : Method} {c : Code} {E : xV} {b L : Nat} {xs : Nat → Int32} (S : CallFix p m c code 4 s #[Value.ref b] xTbl "RosterRulesLaw") (hr : meth.sig.returnType = ret) (hlocks : meth.locks = false) (hX : va_X b L xs s s.heap) (hbl : b < s.heap.size) (hE : E.2.2 = s.heap.size) {k38 : Nat → Nat → Int32 → Nat → Nat → Nat → xS → Option Unit} (hk : ∀ (a1 a2 : Nat) (x3 : Int32) (cc uu z : Nat) (ω : xS) (H : Heap) (locs : List Loc) (ls : Array Slot), cc ≤ 600000 → uu ≤ 7302250 → xW E z ω s s.heap H locs → lv_has ls 4 [(0, .ref b), (1, .ref a1), (2, .ref a2), (3, .int x3)] → k38 a1 a2 x3 cc uu z ω = some () → W p l e room_1 s m #[Value.ref b] below meth c H locs cc uu (lw_Z below #[Value.ref b] s) (F0 m 38 ls [])) : ∀ (a1 a2 : Nat) (x3 : Int32) (cc uu z : Nat) (ω : xS) (H : Heap) (locs : List Loc) (ls : Array Slot), cc ≤ 600000 → uu ≤ 7302250 → xW E z ω s s.heap H locs → lv_has ls 4 [(0, .ref b), (1, .ref a1), (2, .ref a2), (3, .int x3)] → f_law_742 xs L k38 a1 a2 x3 cc uu z ω = some () → W p l e room_1 s m #[Value.ref b] below meth c H locs cc uu (lw_Z below #[Value.ref b] s) (F0 m 742 ls []) := by
  intro a1 a2 x3 cc uu z ω H locs ls hcc huu hw hl hf
  have hbA : ¬ E.2.2 ≤ b := by rw [hE]; exact Nat.not_le.mpr hbl
  unfold f_law_742 at hf
  refine lv_aload_n S.1 S.2.1 d_Lw_law_742 rfl (lv_at hl 1 rfl) ?_
  refine lv_aload_n S.1 S.2.1 d_Lw_law_743 rfl (lv_at hl 0 rfl) ?_
  refine lv_iload_n S.1 S.2.1 d_Lw_law_744 rfl (lv_at hl 3 rfl) ?_
  refine lv_iconst (v := 1) S.1 S.2.1 d_Lw_law_745 (by decide) ?_
  refine lv_iadd S.1 S.2.1 d_Lw_law_746 ?_
  obtain ⟨t1, ht1, hf⟩ := xb hf
  obtain ⟨hvt1, rfl⟩ := ysc_spec ht1
  refine va_sld S.1 S.2.1 hX hbl hbA hw.2.2 hvt1 d_Lw_law_747 ?_
  refine lv_aload_n S.1 S.2.1 d_Lw_law_748 rfl (lv_at hl 0 rfl) ?_
  refine lv_iload_n S.1 S.2.1 d_Lw_law_749 rfl (lv_at hl 3 rfl) ?_
  refine lv_iconst (v := 2) S.1 S.2.1 d_Lw_law_750 (by decide) ?_
  refine lv_iadd S.1 S.2.1 d_Lw_law_751 ?_
  obtain ⟨t2, ht2, hf⟩ := xb hf
  obtain ⟨hvt2, rfl⟩ := ysc_spec ht2
  refine va_sld S.1 S.2.1 hX hbl hbA hw.2.2 hvt2 d_Lw_law_752 ?_
  refine lv_aload_n S.1 S.2.1 d_Lw_law_753 rfl (lv_at hl 0 rfl) ?_
  refine lv_iload_n S.1 S.2.1 d_Lw_law_754 rfl (lv_at hl 3 rfl) ?_
  refine lv_iconst (v := 3) S.1 S.2.1 d_Lw_law_755 (by decide) ?_
  refine lv_iadd S.1 S.2.1 d_Lw_law_756 ?_
  obtain ⟨t3, ht3, hf⟩ := xb hf
  obtain ⟨hvt3, rfl⟩ := ysc_spec ht3
  refine va_sld S.1 S.2.1 hX hbl hbA hw.2.2 hvt3 d_Lw_law_757 ?_
  obtain ⟨t5, c6, u7, w8, h4, hf⟩ := xc4b hf
  by_cases g9 : 600000 < cc + c6 ∨ 7302250 < uu + u7
  · replace hf := xt g9 hf
    cases hf
  replace hf := xf g9 hf
  obtain ⟨h4b, h4⟩ := xkb h4
  refine x_callV (As := [.int (xs ((x3 + 1)).toNatClampNeg), .int (xs ((x3 + 2)).toNatClampNeg), .int (xs ((x3 + 3)).toNatClampNeg)]) (rest := []) (st1 := [.int t5]) S hw (c_RR_state h4) (cwV 3 S.2.2.2.2 gv_Lw_100 rfl rfl rfl hd_RR_state ⟨Nat.le_of_ble_eq_true rfl, Nat.le_of_ble_eq_true rfl⟩) rfl h4b rfl hl.1 rfl rfl (Nat.le_of_ble_eq_true rfl) d_Lw_law_758 ⟨(show _ ≤ 600000 by (try dsimp only); omega), (show _ ≤ 7302250 by (try dsimp only); omega)⟩ (fun H locs hw => ?_)
  refine lv_aload_n S.1 S.2.1 d_Lw_law_761 rfl (lv_at hl 2 rfl) ?_
  refine lv_aload_n S.1 S.2.1 d_Lw_law_762 rfl (lv_at hl 0 rfl) ?_
  refine lv_iload_n S.1 S.2.1 d_Lw_law_763 rfl (lv_at hl 3 rfl) ?_
  refine lv_iconst (v := 1) S.1 S.2.1 d_Lw_law_764 (by decide) ?_
  refine lv_iadd S.1 S.2.1 d_Lw_law_765 ?_
  obtain ⟨t10, ht10, hf⟩ := xb hf
  obtain ⟨hvt10, rfl⟩ := ysc_spec ht10
  refine va_sld S.1 S.2.1 hX hbl hbA hw.2.2 hvt10 d_Lw_law_766 ?_
  refine lv_aload_n S.1 S.2.1 d_Lw_law_767 rfl (lv_at hl 0 rfl) ?_
  refine lv_iload_n S.1 S.2.1 d_Lw_law_768 rfl (lv_at hl 3 rfl) ?_
  refine lv_iconst (v := 2) S.1 S.2.1 d_Lw_law_769 (by decide) ?_
  refine lv_iadd S.1 S.2.1 d_Lw_law_770 ?_
  obtain ⟨t11, ht11, hf⟩ := xb hf
  obtain ⟨hvt11, rfl⟩ := ysc_spec ht11
  refine va_sld S.1 S.2.1 hX hbl hbA hw.2.2 hvt11 d_Lw_law_771 ?_
  refine lv_aload_n S.1 S.2.1 d_Lw_law_772 rfl (lv_at hl 0 rfl) ?_
  refine lv_iload_n S.1 S.2.1 d_Lw_law_773 rfl (lv_at hl 3 rfl) ?_
  refine lv_iconst (v := 3) S.1 S.2.1 d_Lw_law_774 (by decide) ?_
  refine lv_iadd S.1 S.2.1 d_Lw_law_775 ?_
  obtain ⟨t12, ht12, hf⟩ := xb hf
  obtain ⟨hvt12, rfl⟩ := ysc_spec ht12
  refine va_sld S.1 S.2.1 hX hbl hbA hw.2.2 hvt12 d_Lw_law_776 ?_
  obtain ⟨t14, h13, hf⟩ := xb hf
  obtain ⟨h13b, h13⟩ := xkb h13
  refine x_callV (As := [.int (xs ((x3 + 1)).toNatClampNeg), .int (xs ((x3 + 2)).toNatClampNeg), .int (xs ((x3 + 3)).toNatClampNeg)]) (rest := [.int t5]) (st1 := [.int t14, .int t5]) S hw (c_Mo_state h13) (cwV 3 S.2.2.2.2 gv_Lw_103 rfl rfl rfl hd_Mo_state ⟨Nat.le_of_ble_eq_true rfl, Nat.le_of_ble_eq_true rfl⟩) rfl h13b rfl hl.1 rfl rfl (Nat.le_of_ble_eq_true rfl) d_Lw_law_777 ⟨(show _ ≤ 600000 by (try dsimp only); omega), (show _ ≤ 7302250 by (try dsimp only); omega)⟩ (fun H locs hw => ?_)
  refine lv_icmp_eq (tgt := 908) S.1 S.2.1 d_Lw_law_780 (by decide) (fun c15 => ?_) (fun c15 => ?_)
  · replace hf := xt c15 hf
    refine lv_iinc (v := (x3 + 5)) (lv' := [(3, .int (x3 + 5)), (0, .ref b), (1, .ref a1), (2, .ref a2)]) S.1 S.2.1 d_Lw_law_908 hl (k := 3) rfl rfl (by decide) rfl (fun ls hl => ?_)
    refine lv_goto (tgt := 38) S.1 S.2.1 d_Lw_law_911 (by decide) ?_
    exact hk _ _ _ _ _ _ _ _ _ _ (by (try dsimp only); omega) (by (try dsimp only); omega) hw (lv_sub hl [1, 2, 3, 0] rfl) hf
  · replace hf := xf c15 hf
    refine lv_iconst (v := 0) S.1 S.2.1 d_Lw_law_783 (by decide) ?_
    cases hf

