def f_law_785 (xs : Nat → Int32) (L : Nat) (k38 : Nat → Nat → Int32 → Nat → Nat → Nat → xS → Option Unit) (a1 a2 : Nat) (x3 : Int32) (cc uu z : Nat) (ω : xS) : Option Unit :=
  (ysc xs L (x3 + 1)).bind fun _ =>
  (ysc xs L (x3 + 2)).bind fun _ =>
  xc4 (xk ω a1 11 (f_RR_alike a1 (xs ((x3 + 1)).toNatClampNeg) (xs ((x3 + 2)).toNatClampNeg) z ω)) fun t4 c5 u6 w7 =>
  if 600000 < cc + c5 ∨ 7302250 < uu + u6 then none else
  (ysc xs L (x3 + 1)).bind fun _ =>
  (ysc xs L (x3 + 2)).bind fun _ =>
  (xk w7 a2 12 (f_Mo_alike a2 (xs ((x3 + 1)).toNatClampNeg) (xs ((x3 + 2)).toNatClampNeg) w7)).bind fun t12 =>
  if t4 = t12 then (
    k38 a1 a2 (x3 + 5) (cc + c5) (uu + u6) (z + c5) w7)
  else (
    none)
set_option maxHeartbeats 4000000 in
set_option maxRecDepth 100000 in
theorem w_law_785 {p : Program} {l : Launch} {e : Env} {s : State} {m : MethodId} {below : List Frame} {meth : Method} {c : Code} {E : xV} {b L : Nat} {xs : Nat → Int32} (S : CallFix p m c code 4 s #[Value.ref b] xTbl "RosterRulesLaw") (hr : meth.sig.returnType = ret) (hlocks : meth.locks = false) (hX : va_X b L xs s s.heap) (hbl : b < s.heap.size) (hE : E.2.2 = s.heap.size) {k38 : Nat → Nat → Int32 → Nat → Nat → Nat → xS → Option Unit} (hk : ∀ (a1 a2 : Nat) (x3 : Int32) (cc uu z : Nat) (ω : xS) (H : Heap) (locs : List Loc) (ls : Array Slot), cc ≤ 600000 → uu ≤ 7302250 → xW E z ω s s.heap H locs → lv_has ls 4 [(0, .ref b), (1, .ref a1), (2, .ref a2), (3, .int x3)] → k38 a1 a2 x3 cc uu z ω = some () → W p l e room_1 s m #[Value.ref b] below meth c H locs cc uu (lw_Z below #[Value.ref b] s) (F0 m 38 ls [])) : ∀ (a1 a2 : Nat) (x3 : Int32) (cc uu z : Nat) (ω : xS) (H : Heap) (locs : List Loc) (ls : Array Slot), cc ≤ 600000 → uu ≤ 7302250 → xW E z ω s s.heap H locs → lv_has ls 4 [(0, .ref b), (1, .ref a1), (2, .ref a2), (3, .int x3)] → f_law_785 xs L k38 a1 a2 x3 cc uu z ω = some () → W p l e room_1 s m #[Value.ref b] below meth c H locs cc uu (lw_Z below #[Value.ref b] s) (F0 m 785 ls []) := by
  intro a1 a2 x3 cc uu z ω H locs ls hcc huu hw hl hf
  have hbA : ¬ E.2.2 ≤ b := by rw [hE]; exact Nat.not_le.mpr hbl
  unfold f_law_785 at hf
  refine lv_aload_n S.1 S.2.1 d_Lw_law_785 rfl (lv_at hl 1 rfl) ?_
  refine lv_aload_n S.1 S.2.1 d_Lw_law_786 rfl (lv_at hl 0 rfl) ?_
  refine lv_iload_n S.1 S.2.1 d_Lw_law_787 rfl (lv_at hl 3 rfl) ?_
  refine lv_iconst (v := 1) S.1 S.2.1 d_Lw_law_788 (by decide) ?_
  refine lv_iadd S.1 S.2.1 d_Lw_law_789 ?_
  obtain ⟨t1, ht1, hf⟩ := xb hf
  obtain ⟨hvt1, rfl⟩ := ysc_spec ht1
  refine va_sld S.1 S.2.1 hX hbl hbA hw.2.2 hvt1 d_Lw_law_790 ?_
  refine lv_aload_n S.1 S.2.1 d_Lw_law_791 rfl (lv_at hl 0 rfl) ?_
  refine lv_iload_n S.1 S.2.1 d_Lw_law_792 rfl (lv_at hl 3 rfl) ?_
  refine lv_iconst (v := 2) S.1 S.2.1 d_Lw_law_793 (by decide) ?_
  refine lv_iadd S.1 S.2.1 d_Lw_law_794 ?_
  obtain ⟨t2, ht2, hf⟩ := xb hf
  obtain ⟨hvt2, rfl⟩ := ysc_spec ht2
  refine va_sld S.1 S.2.1 hX hbl hbA hw.2.2 hvt2 d_Lw_law_795 ?_
  obtain ⟨t4, c5, u6, w7, h3, hf⟩ := xc4b hf
  by_cases g8 : 600000 < cc + c5 ∨ 7302250 < uu + u6
  · replace hf := xt g8 hf
    cases hf
  replace hf := xf g8 hf
  obtain ⟨h3b, h3⟩ := xkb h3
  refine x_callV (As := [.int (xs ((x3 + 1)).toNatClampNeg), .int (xs ((x3 + 2)).toNatClampNeg)]) (rest := []) (st1 := [.int t4]) S hw (c_RR_alike h3) (cwV 2 S.2.2.2.2 gv_Lw_104 rfl rfl rfl hd_RR_alike ⟨Nat.le_of_ble_eq_true rfl, Nat.le_of_ble_eq_true rfl⟩) rfl h3b rfl hl.1 rfl rfl (Nat.le_of_ble_eq_true rfl) d_Lw_law_796 ⟨(show _ ≤ 600000 by (try dsimp only); omega), (show _ ≤ 7302250 by (try dsimp only); omega)⟩ (fun H locs hw => ?_)
  refine lv_aload_n S.1 S.2.1 d_Lw_law_799 rfl (lv_at hl 2 rfl) ?_
  refine lv_aload_n S.1 S.2.1 d_Lw_law_800 rfl (lv_at hl 0 rfl) ?_
  refine lv_iload_n S.1 S.2.1 d_Lw_law_801 rfl (lv_at hl 3 rfl) ?_
  refine lv_iconst (v := 1) S.1 S.2.1 d_Lw_law_802 (by decide) ?_
  refine lv_iadd S.1 S.2.1 d_Lw_law_803 ?_
  obtain ⟨t9, ht9, hf⟩ := xb hf
  obtain ⟨hvt9, rfl⟩ := ysc_spec ht9
  refine va_sld S.1 S.2.1 hX hbl hbA hw.2.2 hvt9 d_Lw_law_804 ?_
  refine lv_aload_n S.1 S.2.1 d_Lw_law_805 rfl (lv_at hl 0 rfl) ?_
  refine lv_iload_n S.1 S.2.1 d_Lw_law_806 rfl (lv_at hl 3 rfl) ?_
  refine lv_iconst (v := 2) S.1 S.2.1 d_Lw_law_807 (by decide) ?_
  refine lv_iadd S.1 S.2.1 d_Lw_law_808 ?_
  obtain ⟨t10, ht10, hf⟩ := xb hf
  obtain ⟨hvt10, rfl⟩ := ysc_spec ht10
  refine va_sld S.1 S.2.1 hX hbl hbA hw.2.2 hvt10 d_Lw_law_809 ?_
  obtain ⟨t12, h11, hf⟩ := xb hf
  obtain ⟨h11b, h11⟩ := xkb h11
  refine x_callV (As := [.int (xs ((x3 + 1)).toNatClampNeg), .int (xs ((x3 + 2)).toNatClampNeg)]) (rest := [.int t4]) (st1 := [.int t12, .int t4]) S hw (c_Mo_alike h11) (cwV 2 S.2.2.2.2 gv_Lw_107 rfl rfl rfl hd_Mo_alike ⟨Nat.le_of_ble_eq_true rfl, Nat.le_of_ble_eq_true rfl⟩) rfl h11b rfl hl.1 rfl rfl (Nat.le_of_ble_eq_true rfl) d_Lw_law_810 ⟨(show _ ≤ 600000 by (try dsimp only); omega), (show _ ≤ 7302250 by (try dsimp only); omega)⟩ (fun H locs hw => ?_)
  refine lv_icmp_eq (tgt := 908) S.1 S.2.1 d_Lw_law_813 (by decide) (fun c13 => ?_) (fun c13 => ?_)
  · replace hf := xt c13 hf
    refine lv_iinc (v := (x3 + 5)) (lv' := [(3, .int (x3 + 5)), (0, .ref b), (1, .ref a1), (2, .ref a2)]) S.1 S.2.1 d_Lw_law_908 hl (k := 3) rfl rfl (by decide) rfl (fun ls hl => ?_)
    refine lv_goto (tgt := 38) S.1 S.2.1 d_Lw_law_911 (by decide) ?_
    exact hk _ _ _ _ _ _ _ _ _ _ (by (try dsimp only); omega) (by (try dsimp only); omega) hw (lv_sub hl [1, 2, 3, 0] rfl) hf
  · replace hf := xf c13 hf
    refine lv_iconst (v := 0) S.1 S.2.1 d_Lw_law_816 (by decide) ?_
    cases hf

def f_law_818 (xs : Nat → Int32) (L : Nat) (k38 : Nat → Nat → Int32 → Nat → Nat → Nat → xS → Option Unit) (a1 a2 : Nat) (x3 : Int32) (cc uu z : Nat) (ω : xS) : Option Unit :=
  (ysc xs L (x3 + 1)).bind fun _ =>
  (ysc xs L (x3 + 2)).bind fun _ =>
  xc4 (xk ω a1 11 (f_RR_words a1 (xs ((x3 + 1)).toNatClampNeg) (xs ((x3 + 2)).toNatClampNeg) z ω)) fun t4 c5 u6 w7 =>
  if 600000 < cc + c5 ∨ 7302250 < uu + u6 then none else
  (ysc xs L (x3 + 1)).bind fun _ =>
  (ysc xs L (x3 + 2)).bind fun _ =>
  xc (xk w7 a2 12 (f_Mo_words a2 (xs ((x3 + 1)).toNatClampNeg) (xs ((x3 + 2)).toNatClampNeg) w7)) fun t12 w13 =>
  if (lg_cmp t4 t12) = 0 then (
    k38 a1 a2 (x3 + 5) (cc + c5) (uu + u6) (z + c5) w13)
  else (
    none)
set_option maxHeartbeats 4000000 in
set_option maxRecDepth 100000 in
theorem w_law_818 {p : Program} {l : Launch} {e : Env} {s : State} {m : MethodId} {below : List Frame} {meth : Method} {c : Code} {E : xV} {b L : Nat} {xs : Nat → Int32} (S : CallFix p m c code 4 s #[Value.ref b] xTbl "RosterRulesLaw") (hr : meth.sig.returnType = ret) (hlocks : meth.locks = false) (hX : va_X b L xs s s.heap) (hbl : b < s.heap.size) (hE : E.2.2 = s.heap.size) {k38 : Nat → Nat → Int32 → Nat → Nat → Nat → xS → Option Unit} (hk : ∀ (a1 a2 : Nat) (x3 : Int32) (cc uu z : Nat) (ω : xS) (H : Heap) (locs : List Loc) (ls : Array Slot), cc ≤ 600000 → uu ≤ 7302250 → xW E z ω s s.heap H locs → lv_has ls 4 [(0, .ref b), (1, .ref a1), (2, .ref a2), (3, .int x3)] → k38 a1 a2 x3 cc uu z ω = some () → W p l e room_1 s m #[Value.ref b] below meth c H locs cc uu (lw_Z below #[Value.ref b] s) (F0 m 38 ls [])) : ∀ (a1 a2 : Nat) (x3 : Int32) (cc uu z : Nat) (ω : xS) (H : Heap) (locs : List Loc) (ls : Array Slot), cc ≤ 600000 → uu ≤ 7302250 → xW E z ω s s.heap H locs → lv_has ls 4 [(0, .ref b), (1, .ref a1), (2, .ref a2), (3, .int x3)] → f_law_818 xs L k38 a1 a2 x3 cc uu z ω = some () → W p l e room_1 s m #[Value.ref b] below meth c H locs cc uu (lw_Z below #[Value.ref b] s) (F0 m 818 ls []) := by
  intro a1 a2 x3 cc uu z ω H locs ls hcc huu hw hl hf
  have hbA : ¬ E.2.2 ≤ b := by rw [hE]; exact Nat.not_le.mpr hbl
  unfold f_law_818 at hf
  refine lv_aload_n S.1 S.2.1 d_Lw_law_818 rfl (lv_at hl 1 rfl) ?_
  refine lv_aload_n S.1 S.2.1 d_Lw_law_819 rfl (lv_at hl 0 rfl) ?_
  refine lv_iload_n S.1 S.2.1 d_Lw_law_820 rfl (lv_at hl 3 rfl) ?_
  refine lv_iconst (v := 1) S.1 S.2.1 d_Lw_law_821 (by decide) ?_
  refine lv_iadd S.1 S.2.1 d_Lw_law_822 ?_
  obtain ⟨t1, ht1, hf⟩ := xb hf
  obtain ⟨hvt1, rfl⟩ := ysc_spec ht1
  refine va_sld S.1 S.2.1 hX hbl hbA hw.2.2 hvt1 d_Lw_law_823 ?_
  refine lv_aload_n S.1 S.2.1 d_Lw_law_824 rfl (lv_at hl 0 rfl) ?_
  refine lv_iload_n S.1 S.2.1 d_Lw_law_825 rfl (lv_at hl 3 rfl) ?_
  refine lv_iconst (v := 2) S.1 S.2.1 d_Lw_law_826 (by decide) ?_
  refine lv_iadd S.1 S.2.1 d_Lw_law_827 ?_
  obtain ⟨t2, ht2, hf⟩ := xb hf
  obtain ⟨hvt2, rfl⟩ := ysc_spec ht2
  refine va_sld S.1 S.2.1 hX hbl hbA hw.2.2 hvt2 d_Lw_law_828 ?_
  obtain ⟨t4, c5, u6, w7, h3, hf⟩ := xc4b hf
  by_cases g8 : 600000 < cc + c5 ∨ 7302250 < uu + u6
  · replace hf := xt g8 hf
    cases hf
  replace hf := xf g8 hf
  obtain ⟨h3b, h3⟩ := xkb h3
  refine x_callV (As := [.int (xs ((x3 + 1)).toNatClampNeg), .int (xs ((x3 + 2)).toNatClampNeg)]) (rest := []) (st1 := [.long t4]) S hw (c_RR_words h3) (cwV 2 S.2.2.2.2 gv_Lw_108 rfl rfl rfl hd_RR_words ⟨Nat.le_of_ble_eq_true rfl, Nat.le_of_ble_eq_true rfl⟩) rfl h3b rfl hl.1 rfl rfl (Nat.le_of_ble_eq_true rfl) d_Lw_law_829 ⟨(show _ ≤ 600000 by (try dsimp only); omega), (show _ ≤ 7302250 by (try dsimp only); omega)⟩ (fun H locs hw => ?_)
  refine lv_aload_n S.1 S.2.1 d_Lw_law_832 rfl (lv_at hl 2 rfl) ?_
  refine lv_aload_n S.1 S.2.1 d_Lw_law_833 rfl (lv_at hl 0 rfl) ?_
  refine lv_iload_n S.1 S.2.1 d_Lw_law_834 rfl (lv_at hl 3 rfl) ?_
  refine lv_iconst (v := 1) S.1 S.2.1 d_Lw_law_835 (by decide) ?_
  refine lv_iadd S.1 S.2.1 d_Lw_law_836 ?_
  obtain ⟨t9, ht9, hf⟩ := xb hf
  obtain ⟨hvt9, rfl⟩ := ysc_spec ht9
  refine va_sld S.1 S.2.1 hX hbl hbA hw.2.2 hvt9 d_Lw_law_837 ?_
  refine lv_aload_n S.1 S.2.1 d_Lw_law_838 rfl (lv_at hl 0 rfl) ?_
  refine lv_iload_n S.1 S.2.1 d_Lw_law_839 rfl (lv_at hl 3 rfl) ?_
  refine lv_iconst (v := 2) S.1 S.2.1 d_Lw_law_840 (by decide) ?_
  refine lv_iadd S.1 S.2.1 d_Lw_law_841 ?_
  obtain ⟨t10, ht10, hf⟩ := xb hf
  obtain ⟨hvt10, rfl⟩ := ysc_spec ht10
  refine va_sld S.1 S.2.1 hX hbl hbA hw.2.2 hvt10 d_Lw_law_842 ?_
  obtain ⟨t12, w13, h11, hf⟩ := xcb hf
  obtain ⟨h11b, h11⟩ := xkb h11
  refine x_callV (As := [.int (xs ((x3 + 1)).toNatClampNeg), .int (xs ((x3 + 2)).toNatClampNeg)]) (rest := [.long t4]) (st1 := [.long t12, .long t4]) S hw (c_Mo_words h11) (cwV 2 S.2.2.2.2 gv_Lw_111 rfl rfl rfl hd_Mo_words ⟨Nat.le_of_ble_eq_true rfl, Nat.le_of_ble_eq_true rfl⟩) rfl h11b rfl hl.1 rfl rfl (Nat.le_of_ble_eq_true rfl) d_Lw_law_843 ⟨(show _ ≤ 600000 by (try dsimp only); omega), (show _ ≤ 7302250 by (try dsimp only); omega)⟩ (fun H locs hw => ?_)
  refine W.lcmp S.1 S.2.1 d_Lw_law_846 ?_
  refine lv_if_eq (tgt := 908) S.1 S.2.1 d_Lw_law_847 (by decide) (fun c14 => ?_) (fun c14 => ?_)
  · replace hf := xt c14 hf
    refine lv_iinc (v := (x3 + 5)) (lv' := [(3, .int (x3 + 5)), (0, .ref b), (1, .ref a1), (2, .ref a2)]) S.1 S.2.1 d_Lw_law_908 hl (k := 3) rfl rfl (by decide) rfl (fun ls hl => ?_)
    refine lv_goto (tgt := 38) S.1 S.2.1 d_Lw_law_911 (by decide) ?_
    exact hk _ _ _ _ _ _ _ _ _ _ (by (try dsimp only); omega) (by (try dsimp only); omega) hw (lv_sub hl [1, 2, 3, 0] rfl) hf
  · replace hf := xf c14 hf
    refine lv_iconst (v := 0) S.1 S.2.1 d_Lw_law_850 (by decide) ?_
    cases hf

def f_law_852 (xs : Nat → Int32) (L : Nat) (k38 : Nat → Nat → Int32 → Nat → Nat → Nat → xS → Option Unit) (a1 a2 : Nat) (x3 : Int32) (cc uu z : Nat) (ω : xS) : Option Unit :=
  (ysc xs L (x3 + 1)).bind fun _ =>
  (ysc xs L (x3 + 2)).bind fun _ =>
  xc4 (xk ω a1 11 (f_RR_word a1 (xs ((x3 + 1)).toNatClampNeg) (xs ((x3 + 2)).toNatClampNeg) z ω)) fun t4 c5 u6 w7 =>
  if 600000 < cc + c5 ∨ 7302250 < uu + u6 then none else
  (ysc xs L (x3 + 1)).bind fun _ =>
  (ysc xs L (x3 + 2)).bind fun _ =>
  xc (xk w7 a2 12 (f_Mo_word a2 (xs ((x3 + 1)).toNatClampNeg) (xs ((x3 + 2)).toNatClampNeg) w7)) fun t12 w13 =>
  if t4 = t12 then (
    k38 a1 a2 (x3 + 5) (cc + c5) (uu + u6) (z + c5) w13)
  else (
    none)
set_option maxHeartbeats 4000000 in
set_option maxRecDepth 100000 in
theorem w_law_852 {p : Program} {l : Launch} {e : Env} {s : State} {m : MethodId} {below : List Frame} {meth : Method} {c : Code} {E : xV} {b L : Nat} {xs : Nat → Int32} (S : CallFix p m c code 4 s #[Value.ref b] xTbl "RosterRulesLaw") (hr : meth.sig.returnType = ret) (hlocks : meth.locks = false) (hX : va_X b L xs s s.heap) (hbl : b < s.heap.size) (hE : E.2.2 = s.heap.size) {k38 : Nat → Nat → Int32 → Nat → Nat → Nat → xS → Option Unit} (hk : ∀ (a1 a2 : Nat) (x3 : Int32) (cc uu z : Nat) (ω : xS) (H : Heap) (locs : List Loc) (ls : Array Slot), cc ≤ 600000 → uu ≤ 7302250 → xW E z ω s s.heap H locs → lv_has ls 4 [(0, .ref b), (1, .ref a1), (2, .ref a2), (3, .int x3)] → k38 a1 a2 x3 cc uu z ω = some () → W p l e room_1 s m #[Value.ref b] below meth c H locs cc uu (lw_Z below #[Value.ref b] s) (F0 m 38 ls [])) : ∀ (a1 a2 : Nat) (x3 : Int32) (cc uu z : Nat) (ω : xS) (H : Heap) (locs : List Loc) (ls : Array Slot), cc ≤ 600000 → uu ≤ 7302250 → xW E z ω s s.heap H locs → lv_has ls 4 [(0, .ref b), (1, .ref a1), (2, .ref a2), (3, .int x3)] → f_law_852 xs L k38 a1 a2 x3 cc uu z ω = some () → W p l e room_1 s m #[Value.ref b] below meth c H locs cc uu (lw_Z below #[Value.ref b] s) (F0 m 852 ls []) := by
  intro a1 a2 x3 cc uu z ω H locs ls hcc huu hw hl hf
  have hbA : ¬ E.2.2 ≤ b := by rw [hE]; exact Nat.not_le.mpr hbl
  unfold f_law_852 at hf
  refine lv_aload_n S.1 S.2.1 d_Lw_law_852 rfl (lv_at hl 1 rfl) ?_
  refine lv_aload_n S.1 S.2.1 d_Lw_law_853 rfl (lv_at hl 0 rfl) ?_
  refine lv_iload_n S.1 S.2.1 d_Lw_law_854 rfl (lv_at hl 3 rfl) ?_
  refine lv_iconst (v := 1) S.1 S.2.1 d_Lw_law_855 (by decide) ?_
  refine lv_iadd S.1 S.2.1 d_Lw_law_856 ?_
  obtain ⟨t1, ht1, hf⟩ := xb hf
  obtain ⟨hvt1, rfl⟩ := ysc_spec ht1
  refine va_sld S.1 S.2.1 hX hbl hbA hw.2.2 hvt1 d_Lw_law_857 ?_
  refine lv_aload_n S.1 S.2.1 d_Lw_law_858 rfl (lv_at hl 0 rfl) ?_
  refine lv_iload_n S.1 S.2.1 d_Lw_law_859 rfl (lv_at hl 3 rfl) ?_
  refine lv_iconst (v := 2) S.1 S.2.1 d_Lw_law_860 (by decide) ?_
  refine lv_iadd S.1 S.2.1 d_Lw_law_861 ?_
  obtain ⟨t2, ht2, hf⟩ := xb hf
  obtain ⟨hvt2, rfl⟩ := ysc_spec ht2
  refine va_sld S.1 S.2.1 hX hbl hbA hw.2.2 hvt2 d_Lw_law_862 ?_
  obtain ⟨t4, c5, u6, w7, h3, hf⟩ := xc4b hf
  by_cases g8 : 600000 < cc + c5 ∨ 7302250 < uu + u6
  · replace hf := xt g8 hf
    cases hf
  replace hf := xf g8 hf
  obtain ⟨h3b, h3⟩ := xkb h3
  refine x_callV (As := [.int (xs ((x3 + 1)).toNatClampNeg), .int (xs ((x3 + 2)).toNatClampNeg)]) (rest := []) (st1 := [.int t4]) S hw (c_RR_word h3) (cwV 2 S.2.2.2.2 gv_Lw_112 rfl rfl rfl hd_RR_word ⟨Nat.le_of_ble_eq_true rfl, Nat.le_of_ble_eq_true rfl⟩) rfl h3b rfl hl.1 rfl rfl (Nat.le_of_ble_eq_true rfl) d_Lw_law_863 ⟨(show _ ≤ 600000 by (try dsimp only); omega), (show _ ≤ 7302250 by (try dsimp only); omega)⟩ (fun H locs hw => ?_)
  refine lv_aload_n S.1 S.2.1 d_Lw_law_866 rfl (lv_at hl 2 rfl) ?_
  refine lv_aload_n S.1 S.2.1 d_Lw_law_867 rfl (lv_at hl 0 rfl) ?_
  refine lv_iload_n S.1 S.2.1 d_Lw_law_868 rfl (lv_at hl 3 rfl) ?_
  refine lv_iconst (v := 1) S.1 S.2.1 d_Lw_law_869 (by decide) ?_
  refine lv_iadd S.1 S.2.1 d_Lw_law_870 ?_
  obtain ⟨t9, ht9, hf⟩ := xb hf
  obtain ⟨hvt9, rfl⟩ := ysc_spec ht9
  refine va_sld S.1 S.2.1 hX hbl hbA hw.2.2 hvt9 d_Lw_law_871 ?_
  refine lv_aload_n S.1 S.2.1 d_Lw_law_872 rfl (lv_at hl 0 rfl) ?_
  refine lv_iload_n S.1 S.2.1 d_Lw_law_873 rfl (lv_at hl 3 rfl) ?_
  refine lv_iconst (v := 2) S.1 S.2.1 d_Lw_law_874 (by decide) ?_
  refine lv_iadd S.1 S.2.1 d_Lw_law_875 ?_
  obtain ⟨t10, ht10, hf⟩ := xb hf
  obtain ⟨hvt10, rfl⟩ := ysc_spec ht10
  refine va_sld S.1 S.2.1 hX hbl hbA hw.2.2 hvt10 d_Lw_law_876 ?_
  obtain ⟨t12, w13, h11, hf⟩ := xcb hf
  obtain ⟨h11b, h11⟩ := xkb h11
  refine x_callV (As := [.int (xs ((x3 + 1)).toNatClampNeg), .int (xs ((x3 + 2)).toNatClampNeg)]) (rest := [.int t4]) (st1 := [.int t12, .int t4]) S hw (c_Mo_word h11) (cwV 2 S.2.2.2.2 gv_Lw_115 rfl rfl rfl hd_Mo_word ⟨Nat.le_of_ble_eq_true rfl, Nat.le_of_ble_eq_true rfl⟩) rfl h11b rfl hl.1 rfl rfl (Nat.le_of_ble_eq_true rfl) d_Lw_law_877 ⟨(show _ ≤ 600000 by (try dsimp only); omega), (show _ ≤ 7302250 by (try dsimp only); omega)⟩ (fun H locs hw => ?_)
  refine lv_icmp_eq (tgt := 908) S.1 S.2.1 d_Lw_law_880 (by decide) (fun c14 => ?_) (fun c14 => ?_)
  · replace hf := xt c14 hf
    refine lv_iinc (v := (x3 + 5)) (lv' := [(3, .int (x3 + 5)), (0, .ref b), (1, .ref a1), (2, .ref a2)]) S.1 S.2.1 d_Lw_law_908 hl (k := 3) rfl rfl (by decide) rfl (fun ls hl => ?_)
    refine lv_goto (tgt := 38) S.1 S.2.1 d_Lw_law_911 (by decide) ?_
    exact hk _ _ _ _ _ _ _ _ _ _ (by (try dsimp only); omega) (by (try dsimp only); omega) hw (lv_sub hl [1, 2, 3, 0] rfl) hf
  · replace hf := xf c14 hf
    refine lv_iconst (v := 0) S.1 S.2.1 d_Lw_law_883 (by decide) ?_
    cases hf

def f_law_885 (xs : Nat → Int32) (L : Nat) (k38 : Nat → Nat → Int32 → Nat → Nat → Nat → xS → Option Unit) (a1 a2 : Nat) (x3 : Int32) (cc uu z : Nat) (ω : xS) : Option Unit :=
  (ysc xs L (x3 + 1)).bind fun _ =>
  (xk ω a1 11 (f_RR_count a1 (xs ((x3 + 1)).toNatClampNeg) ω)).bind fun t3 =>
  (ysc xs L (x3 + 1)).bind fun _ =>
  (xk ω a2 12 (f_Mo_count a2 (xs ((x3 + 1)).toNatClampNeg) ω)).bind fun t6 =>
  if t3 = t6 then (
    k38 a1 a2 (x3 + 5) cc uu z ω)
  else (
    none)
set_option maxHeartbeats 4000000 in
set_option maxRecDepth 100000 in
theorem w_law_885 {p : Program} {l : Launch} {e : Env} {s : State} {m : MethodId} {below : List Frame} {meth : Method} {c : Code} {E : xV} {b L : Nat} {xs : Nat → Int32} (S : CallFix p m c code 4 s #[Value.ref b] xTbl "RosterRulesLaw") (hr : meth.sig.returnType = ret) (hlocks : meth.locks = false) (hX : va_X b L xs s s.heap) (hbl : b < s.heap.size) (hE : E.2.2 = s.heap.size) {k38 : Nat → Nat → Int32 → Nat → Nat → Nat → xS → Option Unit} (hk : ∀ (a1 a2 : Nat) (x3 : Int32) (cc uu z : Nat) (ω : xS) (H : Heap) (locs : List Loc) (ls : Array Slot), cc ≤ 600000 → uu ≤ 7302250 → xW E z ω s s.heap H locs → lv_has ls 4 [(0, .ref b), (1, .ref a1), (2, .ref a2), (3, .int x3)] → k38 a1 a2 x3 cc uu z ω = some () → W p l e room_1 s m #[Value.ref b] below meth c H locs cc uu (lw_Z below #[Value.ref b] s) (F0 m 38 ls [])) : ∀ (a1 a2 : Nat) (x3 : Int32) (cc uu z : Nat) (ω : xS) (H : Heap) (locs : List Loc) (ls : Array Slot), cc ≤ 600000 → uu ≤ 7302250 → xW E z ω s s.heap H locs → lv_has ls 4 [(0, .ref b), (1, .ref a1), (2, .ref a2), (3, .int x3)] → f_law_885 xs L k38 a1 a2 x3 cc uu z ω = some () → W p l e room_1 s m #[Value.ref b] below meth c H locs cc uu (lw_Z below #[Value.ref b] s) (F0 m 885 ls []) := by
  intro a1 a2 x3 cc uu z ω H locs ls hcc huu hw hl hf
  have hbA : ¬ E.2.2 ≤ b := by rw [hE]; exact Nat.not_le.mpr hbl
  unfold f_law_885 at hf
  refine lv_aload_n S.1 S.2.1 d_Lw_law_885 rfl (lv_at hl 1 rfl) ?_
  refine lv_aload_n S.1 S.2.1 d_Lw_law_886 rfl (lv_at hl 0 rfl) ?_
  refine lv_iload_n S.1 S.2.1 d_Lw_law_887 rfl (lv_at hl 3 rfl) ?_
  refine lv_iconst (v := 1) S.1 S.2.1 d_Lw_law_888 (by decide) ?_
  refine lv_iadd S.1 S.2.1 d_Lw_law_889 ?_
  obtain ⟨t1, ht1, hf⟩ := xb hf
  obtain ⟨hvt1, rfl⟩ := ysc_spec ht1
  refine va_sld S.1 S.2.1 hX hbl hbA hw.2.2 hvt1 d_Lw_law_890 ?_
  obtain ⟨t3, h2, hf⟩ := xb hf
  obtain ⟨h2b, h2⟩ := xkb h2
  refine x_callV (As := [.int (xs ((x3 + 1)).toNatClampNeg)]) (rest := []) (st1 := [.int t3]) S hw (c_RR_count h2) (cwV 1 S.2.2.2.2 gv_Lw_116 rfl rfl rfl hd_RR_count ⟨Nat.le_of_ble_eq_true rfl, Nat.le_of_ble_eq_true rfl⟩) rfl h2b rfl hl.1 rfl rfl (Nat.le_of_ble_eq_true rfl) d_Lw_law_891 ⟨(show _ ≤ 600000 by (try dsimp only); omega), (show _ ≤ 7302250 by (try dsimp only); omega)⟩ (fun H locs hw => ?_)
  refine lv_aload_n S.1 S.2.1 d_Lw_law_894 rfl (lv_at hl 2 rfl) ?_
  refine lv_aload_n S.1 S.2.1 d_Lw_law_895 rfl (lv_at hl 0 rfl) ?_
  refine lv_iload_n S.1 S.2.1 d_Lw_law_896 rfl (lv_at hl 3 rfl) ?_
  refine lv_iconst (v := 1) S.1 S.2.1 d_Lw_law_897 (by decide) ?_
  refine lv_iadd S.1 S.2.1 d_Lw_law_898 ?_
  obtain ⟨t4, ht4, hf⟩ := xb hf
  obtain ⟨hvt4, rfl⟩ := ysc_spec ht4
  refine va_sld S.1 S.2.1 hX hbl hbA hw.2.2 hvt4 d_Lw_law_899 ?_
  obtain ⟨t6, h5, hf⟩ := xb hf
  obtain ⟨h5b, h5⟩ := xkb h5
  refine x_callV (As := [.int (xs ((x3 + 1)).toNatClampNeg)]) (rest := [.int t3]) (st1 := [.int t6, .int t3]) S hw (c_Mo_count h5) (cwV 1 S.2.2.2.2 gv_Lw_119 rfl rfl rfl hd_Mo_count ⟨Nat.le_of_ble_eq_true rfl, Nat.le_of_ble_eq_true rfl⟩) rfl h5b rfl hl.1 rfl rfl (Nat.le_of_ble_eq_true rfl) d_Lw_law_900 ⟨(show _ ≤ 600000 by (try dsimp only); omega), (show _ ≤ 7302250 by (try dsimp only); omega)⟩ (fun H locs hw => ?_)
  refine lv_icmp_eq (tgt := 908) S.1 S.2.1 d_Lw_law_903 (by decide) (fun c7 => ?_) (fun c7 => ?_)
  · replace hf := xt c7 hf
    refine lv_iinc (v := (x3 + 5)) (lv' := [(3, .int (x3 + 5)), (0, .ref b), (1, .ref a1), (2, .ref a2)]) S.1 S.2.1 d_Lw_law_908 hl (k := 3) rfl rfl (by decide) rfl (fun ls hl => ?_)
    refine lv_goto (tgt := 38) S.1 S.2.1 d_Lw_law_911 (by decide) ?_
    exact hk _ _ _ _ _ _ _ _ _ _ (by (try dsimp only); omega) (by (try dsimp only); omega) hw (lv_sub hl [1, 2, 3, 0] rfl) hf
  · replace hf := xf c7 hf
    refine lv_iconst (v := 0) S.1 S.2.1 d_Lw_law_906 (by decide) ?_
    cases hf

