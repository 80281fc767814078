def f_law_156 (xs : Nat → Int32) (L : Nat) (k38 : Nat → Nat → Int32 → Nat → Nat → Nat → xS → Option Unit) (a1 a2 : Nat) (x3 : Int32) (cc uu z : Nat) (ω : xS) : Option Unit :=
  (ysc xs L (x3 + 1)).bind fun _ =>
  (ysc xs L (x3 + 2)).bind fun _ =>
  (ysc xs L (x3 + 3)).bind fun _ =>
  xc (xk ω a1 11 (f_RR_feed a1 (xs ((x3 + 1)).toNatClampNeg) ((xlshl (Int32.toInt64 (xs ((x3 + 2)).toNatClampNeg)) 32) ||| ((Int32.toInt64 (xs ((x3 + 3)).toNatClampNeg)) &&& 4294967295)) ω)) fun t5 w6 =>
  (ysc xs L (x3 + 1)).bind fun _ =>
  (ysc xs L (x3 + 2)).bind fun _ =>
  (ysc xs L (x3 + 3)).bind fun _ =>
  xc (xk w6 a2 12 (f_Mo_feed a2 (xs ((x3 + 1)).toNatClampNeg) ((xlshl (Int32.toInt64 (xs ((x3 + 2)).toNatClampNeg)) 32) ||| ((Int32.toInt64 (xs ((x3 + 3)).toNatClampNeg)) &&& 4294967295)) w6)) fun t11 w12 =>
  if t5 = t11 then (
    k38 a1 a2 (x3 + 5) cc uu z w12)
  else (
    none)
set_option maxHeartbeats 4000000 in
set_option maxRecDepth 100000 in
theorem w_law_156 {p : Program} {l : Launch} {e : Env} {s : State} {m : MethodId} {below : List Frame} {meth : Method} {c : Code} {E : xV} {b L : Nat} {xs : Nat → Int32} (S : CallFix p m c code 4 s #[Value.ref b] xTbl "RosterRulesLaw") (hr : meth.sig.returnType = ret) (hlocks : meth.locks = false) (hX : va_X b L xs s s.heap) (hbl : b < s.heap.size) (hE : E.2.2 = s.heap.size) {k38 : Nat → Nat → Int32 → Nat → Nat → Nat → xS → Option Unit} (hk : ∀ (a1 a2 : Nat) (x3 : Int32) (cc uu z : Nat) (ω : xS) (H : Heap) (locs : List Loc) (ls : Array Slot), cc ≤ 600000 → uu ≤ 7302250 → xW E z ω s s.heap H locs → lv_has ls 4 [(0, .ref b), (1, .ref a1), (2, .ref a2), (3, .int x3)] → k38 a1 a2 x3 cc uu z ω = some () → W p l e room_1 s m #[Value.ref b] below meth c H locs cc uu (lw_Z below #[Value.ref b] s) (F0 m 38 ls [])) : ∀ (a1 a2 : Nat) (x3 : Int32) (cc uu z : Nat) (ω : xS) (H : Heap) (locs : List Loc) (ls : Array Slot), cc ≤ 600000 → uu ≤ 7302250 → xW E z ω s s.heap H locs → lv_has ls 4 [(0, .ref b), (1, .ref a1), (2, .ref a2), (3, .int x3)] → f_law_156 xs L k38 a1 a2 x3 cc uu z ω = some () → W p l e room_1 s m #[Value.ref b] below meth c H locs cc uu (lw_Z below #[Value.ref b] s) (F0 m 156 ls []) := by
  intro a1 a2 x3 cc uu z ω H locs ls hcc huu hw hl hf
  have hbA : ¬ E.2.2 ≤ b := by rw [hE]; exact Nat.not_le.mpr hbl
  unfold f_law_156 at hf
  refine lv_aload_n S.1 S.2.1 d_Lw_law_156 rfl (lv_at hl 1 rfl) ?_
  refine lv_aload_n S.1 S.2.1 d_Lw_law_157 rfl (lv_at hl 0 rfl) ?_
  refine lv_iload_n S.1 S.2.1 d_Lw_law_158 rfl (lv_at hl 3 rfl) ?_
  refine lv_iconst (v := 1) S.1 S.2.1 d_Lw_law_159 (by decide) ?_
  refine lv_iadd S.1 S.2.1 d_Lw_law_160 ?_
  obtain ⟨t1, ht1, hf⟩ := xb hf
  obtain ⟨hvt1, rfl⟩ := ysc_spec ht1
  refine va_sld S.1 S.2.1 hX hbl hbA hw.2.2 hvt1 d_Lw_law_161 ?_
  refine lv_aload_n S.1 S.2.1 d_Lw_law_162 rfl (lv_at hl 0 rfl) ?_
  refine lv_iload_n S.1 S.2.1 d_Lw_law_163 rfl (lv_at hl 3 rfl) ?_
  refine lv_iconst (v := 2) S.1 S.2.1 d_Lw_law_164 (by decide) ?_
  refine lv_iadd S.1 S.2.1 d_Lw_law_165 ?_
  obtain ⟨t2, ht2, hf⟩ := xb hf
  obtain ⟨hvt2, rfl⟩ := ysc_spec ht2
  refine va_sld S.1 S.2.1 hX hbl hbA hw.2.2 hvt2 d_Lw_law_166 ?_
  refine lv_i2l (v := (Int32.toInt64 (xs ((x3 + 2)).toNatClampNeg))) S.1 S.2.1 d_Lw_law_167 rfl ?_
  refine lv_bipush (v := 32) S.1 S.2.1 d_Lw_law_168 (by decide) ?_
  refine lv_lshl (v := (xlshl (Int32.toInt64 (xs ((x3 + 2)).toNatClampNeg)) 32)) S.1 S.2.1 d_Lw_law_170 rfl ?_
  refine lv_aload_n S.1 S.2.1 d_Lw_law_171 rfl (lv_at hl 0 rfl) ?_
  refine lv_iload_n S.1 S.2.1 d_Lw_law_172 rfl (lv_at hl 3 rfl) ?_
  refine lv_iconst (v := 3) S.1 S.2.1 d_Lw_law_173 (by decide) ?_
  refine lv_iadd S.1 S.2.1 d_Lw_law_174 ?_
  obtain ⟨t3, ht3, hf⟩ := xb hf
  obtain ⟨hvt3, rfl⟩ := ysc_spec ht3
  refine va_sld S.1 S.2.1 hX hbl hbA hw.2.2 hvt3 d_Lw_law_175 ?_
  refine lv_i2l (v := (Int32.toInt64 (xs ((x3 + 3)).toNatClampNeg))) S.1 S.2.1 d_Lw_law_176 rfl ?_
  refine lv_ldc2 (v := 4294967295) S.1 S.2.1 S.2.2.2.1 (S.2.2.2.2 _ wd_6_230) d_Lw_law_177 ?_
  refine lv_land S.1 S.2.1 d_Lw_law_180 ?_
  refine lv_lor S.1 S.2.1 d_Lw_law_181 ?_
  obtain ⟨t5, w6, h4, hf⟩ := xcb hf
  obtain ⟨h4b, h4⟩ := xkb h4
  refine x_callV (As := [.int (xs ((x3 + 1)).toNatClampNeg), .long ((xlshl (Int32.toInt64 (xs ((x3 + 2)).toNatClampNeg)) 32) ||| ((Int32.toInt64 (xs ((x3 + 3)).toNatClampNeg)) &&& 4294967295))]) (rest := []) (st1 := [.int t5]) S hw (c_RR_feed h4) (cwV 2 S.2.2.2.2 gv_Lw_23 rfl rfl rfl hd_RR_feed ⟨Nat.le_of_ble_eq_true rfl, Nat.le_of_ble_eq_true rfl⟩) rfl h4b rfl hl.1 rfl rfl (Nat.le_of_ble_eq_true rfl) d_Lw_law_182 ⟨(show _ ≤ 600000 by (try dsimp only); omega), (show _ ≤ 7302250 by (try dsimp only); omega)⟩ (fun H locs hw => ?_)
  refine lv_aload_n S.1 S.2.1 d_Lw_law_185 rfl (lv_at hl 2 rfl) ?_
  refine lv_aload_n S.1 S.2.1 d_Lw_law_186 rfl (lv_at hl 0 rfl) ?_
  refine lv_iload_n S.1 S.2.1 d_Lw_law_187 rfl (lv_at hl 3 rfl) ?_
  refine lv_iconst (v := 1) S.1 S.2.1 d_Lw_law_188 (by decide) ?_
  refine lv_iadd S.1 S.2.1 d_Lw_law_189 ?_
  obtain ⟨t7, ht7, hf⟩ := xb hf
  obtain ⟨hvt7, rfl⟩ := ysc_spec ht7
  refine va_sld S.1 S.2.1 hX hbl hbA hw.2.2 hvt7 d_Lw_law_190 ?_
  refine lv_aload_n S.1 S.2.1 d_Lw_law_191 rfl (lv_at hl 0 rfl) ?_
  refine lv_iload_n S.1 S.2.1 d_Lw_law_192 rfl (lv_at hl 3 rfl) ?_
  refine lv_iconst (v := 2) S.1 S.2.1 d_Lw_law_193 (by decide) ?_
  refine lv_iadd S.1 S.2.1 d_Lw_law_194 ?_
  obtain ⟨t8, ht8, hf⟩ := xb hf
  obtain ⟨hvt8, rfl⟩ := ysc_spec ht8
  refine va_sld S.1 S.2.1 hX hbl hbA hw.2.2 hvt8 d_Lw_law_195 ?_
  refine lv_i2l (v := (Int32.toInt64 (xs ((x3 + 2)).toNatClampNeg))) S.1 S.2.1 d_Lw_law_196 rfl ?_
  refine lv_bipush (v := 32) S.1 S.2.1 d_Lw_law_197 (by decide) ?_
  refine lv_lshl (v := (xlshl (Int32.toInt64 (xs ((x3 + 2)).toNatClampNeg)) 32)) S.1 S.2.1 d_Lw_law_199 rfl ?_
  refine lv_aload_n S.1 S.2.1 d_Lw_law_200 rfl (lv_at hl 0 rfl) ?_
  refine lv_iload_n S.1 S.2.1 d_Lw_law_201 rfl (lv_at hl 3 rfl) ?_
  refine lv_iconst (v := 3) S.1 S.2.1 d_Lw_law_202 (by decide) ?_
  refine lv_iadd S.1 S.2.1 d_Lw_law_203 ?_
  obtain ⟨t9, ht9, hf⟩ := xb hf
  obtain ⟨hvt9, rfl⟩ := ysc_spec ht9
  refine va_sld S.1 S.2.1 hX hbl hbA hw.2.2 hvt9 d_Lw_law_204 ?_
  refine lv_i2l (v := (Int32.toInt64 (xs ((x3 + 3)).toNatClampNeg))) S.1 S.2.1 d_Lw_law_205 rfl ?_
  refine lv_ldc2 (v := 4294967295) S.1 S.2.1 S.2.2.2.1 (S.2.2.2.2 _ wd_6_230) d_Lw_law_206 ?_
  refine lv_land S.1 S.2.1 d_Lw_law_209 ?_
  refine lv_lor S.1 S.2.1 d_Lw_law_210 ?_
  obtain ⟨t11, w12, h10, hf⟩ := xcb hf
  obtain ⟨h10b, h10⟩ := xkb h10
  refine x_callV (As := [.int (xs ((x3 + 1)).toNatClampNeg), .long ((xlshl (Int32.toInt64 (xs ((x3 + 2)).toNatClampNeg)) 32) ||| ((Int32.toInt64 (xs ((x3 + 3)).toNatClampNeg)) &&& 4294967295))]) (rest := [.int t5]) (st1 := [.int t11, .int t5]) S hw (c_Mo_feed h10) (cwV 2 S.2.2.2.2 gv_Lw_27 rfl rfl rfl hd_Mo_feed ⟨Nat.le_of_ble_eq_true rfl, Nat.le_of_ble_eq_true rfl⟩) rfl h10b rfl hl.1 rfl rfl (Nat.le_of_ble_eq_true rfl) d_Lw_law_211 ⟨(show _ ≤ 600000 by (try dsimp only); omega), (show _ ≤ 7302250 by (try dsimp only); omega)⟩ (fun H locs hw => ?_)
  refine lv_icmp_eq (tgt := 908) S.1 S.2.1 d_Lw_law_214 (by decide) (fun c13 => ?_) (fun c13 => ?_)
  · replace hf := xt c13 hf
    refine lv_iinc (v := (x3 + 5)) (lv' := [(3, .int (x3 + 5)), (0, .ref b), (1, .ref a1), (2, .ref a2)]) S.1 S.2.1 d_Lw_law_908 hl (k := 3) rfl rfl (by decide) rfl (fun ls hl => ?_)
    refine lv_goto (tgt := 38) S.1 S.2.1 d_Lw_law_911 (by decide) ?_
    exact hk _ _ _ _ _ _ _ _ _ _ (by (try dsimp only); omega) (by (try dsimp only); omega) hw (lv_sub hl [1, 2, 3, 0] rfl) hf
  · replace hf := xf c13 hf
    refine lv_iconst (v := 0) S.1 S.2.1 d_Lw_law_217 (by decide) ?_
    cases hf

def f_law_219 (xs : Nat → Int32) (L : Nat) (k38 : Nat → Nat → Int32 → Nat → Nat → Nat → xS → Option Unit) (a1 a2 : Nat) (x3 : Int32) (cc uu z : Nat) (ω : xS) : Option Unit :=
  xc (xk ω a1 11 (f_RR_read a1  ω)) fun t2 w3 =>
  xc (xk w3 a2 12 (f_Mo_read a2  w3)) fun t5 w6 =>
  if t2 = t5 then (
    k38 a1 a2 (x3 + 5) cc uu z w6)
  else (
    none)
set_option maxHeartbeats 4000000 in
set_option maxRecDepth 100000 in
theorem w_law_219 {p : Program} {l : Launch} {e : Env} {s : State} {m : MethodId} {below : List Frame} {meth : Method} {c : Code} {E : xV} {b L : Nat} {xs : Nat → Int32} (S : CallFix p m c code 4 s #[Value.ref b] xTbl "RosterRulesLaw") (hr : meth.sig.returnType = ret) (hlocks : meth.locks = false) (hX : va_X b L xs s s.heap) (hbl : b < s.heap.size) (hE : E.2.2 = s.heap.size) {k38 : Nat → Nat → Int32 → Nat → Nat → Nat → xS → Option Unit} (hk : ∀ (a1 a2 : Nat) (x3 : Int32) (cc uu z : Nat) (ω : xS) (H : Heap) (locs : List Loc) (ls : Array Slot), cc ≤ 600000 → uu ≤ 7302250 → xW E z ω s s.heap H locs → lv_has ls 4 [(0, .ref b), (1, .ref a1), (2, .ref a2), (3, .int x3)] → k38 a1 a2 x3 cc uu z ω = some () → W p l e room_1 s m #[Value.ref b] below meth c H locs cc uu (lw_Z below #[Value.ref b] s) (F0 m 38 ls [])) : ∀ (a1 a2 : Nat) (x3 : Int32) (cc uu z : Nat) (ω : xS) (H : Heap) (locs : List Loc) (ls : Array Slot), cc ≤ 600000 → uu ≤ 7302250 → xW E z ω s s.heap H locs → lv_has ls 4 [(0, .ref b), (1, .ref a1), (2, .ref a2), (3, .int x3)] → f_law_219 xs L k38 a1 a2 x3 cc uu z ω = some () → W p l e room_1 s m #[Value.ref b] below meth c H locs cc uu (lw_Z below #[Value.ref b] s) (F0 m 219 ls []) := by
  intro a1 a2 x3 cc uu z ω H locs ls hcc huu hw hl hf
  have hbA : ¬ E.2.2 ≤ b := by rw [hE]; exact Nat.not_le.mpr hbl
  unfold f_law_219 at hf
  refine lv_aload_n S.1 S.2.1 d_Lw_law_219 rfl (lv_at hl 1 rfl) ?_
  obtain ⟨t2, w3, h1, hf⟩ := xcb hf
  obtain ⟨h1b, h1⟩ := xkb h1
  refine x_callV (As := []) (rest := []) (st1 := [.int t2]) S hw (c_RR_read h1) (cwV 0 S.2.2.2.2 gv_Lw_28 rfl rfl rfl hd_RR_read ⟨Nat.le_of_ble_eq_true rfl, Nat.le_of_ble_eq_true rfl⟩) rfl h1b rfl hl.1 rfl rfl (Nat.le_of_ble_eq_true rfl) d_Lw_law_220 ⟨(show _ ≤ 600000 by (try dsimp only); omega), (show _ ≤ 7302250 by (try dsimp only); omega)⟩ (fun H locs hw => ?_)
  refine lv_aload_n S.1 S.2.1 d_Lw_law_223 rfl (lv_at hl 2 rfl) ?_
  obtain ⟨t5, w6, h4, hf⟩ := xcb hf
  obtain ⟨h4b, h4⟩ := xkb h4
  refine x_callV (As := []) (rest := [.int t2]) (st1 := [.int t5, .int t2]) S hw (c_Mo_read h4) (cwV 0 S.2.2.2.2 gv_Lw_32 rfl rfl rfl hd_Mo_read ⟨Nat.le_of_ble_eq_true rfl, Nat.le_of_ble_eq_true rfl⟩) rfl h4b rfl hl.1 rfl rfl (Nat.le_of_ble_eq_true rfl) d_Lw_law_224 ⟨(show _ ≤ 600000 by (try dsimp only); omega), (show _ ≤ 7302250 by (try dsimp only); omega)⟩ (fun H locs hw => ?_)
  refine lv_icmp_eq (tgt := 908) S.1 S.2.1 d_Lw_law_227 (by decide) (fun c7 => ?_) (fun c7 => ?_)
  · replace hf := xt c7 hf
    refine lv_iinc (v := (x3 + 5)) (lv' := [(3, .int (x3 + 5)), (0, .ref b), (1, .ref a1), (2, .ref a2)]) S.1 S.2.1 d_Lw_law_908 hl (k := 3) rfl rfl (by decide) rfl (fun ls hl => ?_)
    refine lv_goto (tgt := 38) S.1 S.2.1 d_Lw_law_911 (by decide) ?_
    exact hk _ _ _ _ _ _ _ _ _ _ (by (try dsimp only); omega) (by (try dsimp only); omega) hw (lv_sub hl [1, 2, 3, 0] rfl) hf
  · replace hf := xf c7 hf
    refine lv_iconst (v := 0) S.1 S.2.1 d_Lw_law_230 (by decide) ?_
    cases hf

def f_law_232 (xs : Nat → Int32) (L : Nat) (k38 : Nat → Nat → Int32 → Nat → Nat → Nat → xS → Option Unit) (a1 a2 : Nat) (x3 : Int32) (cc uu z : Nat) (ω : xS) : Option Unit :=
  (xk ω a1 11 (f_RR_place a1  ω)).bind fun t2 =>
  (xk ω a2 12 (f_Mo_place a2  ω)).bind fun t4 =>
  if t2 = t4 then (
    k38 a1 a2 (x3 + 5) cc uu z ω)
  else (
    none)
set_option maxHeartbeats 4000000 in
set_option maxRecDepth 100000 in
theorem w_law_232 {p : Program} {l : Launch} {e : Env} {s : State} {m : MethodId} {below : List Frame} {meth : Method} {c : Code} {E : xV} {b L : Nat} {xs : Nat → Int32} (S : CallFix p m c code 4 s #[Value.ref b] xTbl "RosterRulesLaw") (hr : meth.sig.returnType = ret) (hlocks : meth.locks = false) (hX : va_X b L xs s s.heap) (hbl : b < s.heap.size) (hE : E.2.2 = s.heap.size) {k38 : Nat → Nat → Int32 → Nat → Nat → Nat → xS → Option Unit} (hk : ∀ (a1 a2 : Nat) (x3 : Int32) (cc uu z : Nat) (ω : xS) (H : Heap) (locs : List Loc) (ls : Array Slot), cc ≤ 600000 → uu ≤ 7302250 → xW E z ω s s.heap H locs → lv_has ls 4 [(0, .ref b), (1, .ref a1), (2, .ref a2), (3, .int x3)] → k38 a1 a2 x3 cc uu z ω = some () → W p l e room_1 s m #[Value.ref b] below meth c H locs cc uu (lw_Z below #[Value.ref b] s) (F0 m 38 ls [])) : ∀ (a1 a2 : Nat) (x3 : Int32) (cc uu z : Nat) (ω : xS) (H : Heap) (locs : List Loc) (ls : Array Slot), cc ≤ 600000 → uu ≤ 7302250 → xW E z ω s s.heap H locs → lv_has ls 4 [(0, .ref b), (1, .ref a1), (2, .ref a2), (3, .int x3)] → f_law_232 xs L k38 a1 a2 x3 cc uu z ω = some () → W p l e room_1 s m #[Value.ref b] below meth c H locs cc uu (lw_Z below #[Value.ref b] s) (F0 m 232 ls []) := by
  intro a1 a2 x3 cc uu z ω H locs ls hcc huu hw hl hf
  have hbA : ¬ E.2.2 ≤ b := by rw [hE]; exact Nat.not_le.mpr hbl
  unfold f_law_232 at hf
  refine lv_aload_n S.1 S.2.1 d_Lw_law_232 rfl (lv_at hl 1 rfl) ?_
  obtain ⟨t2, h1, hf⟩ := xb hf
  obtain ⟨h1b, h1⟩ := xkb h1
  refine x_callV (As := []) (rest := []) (st1 := [.int t2]) S hw (c_RR_place h1) (cwV 0 S.2.2.2.2 gv_Lw_33 rfl rfl rfl hd_RR_place ⟨Nat.le_of_ble_eq_true rfl, Nat.le_of_ble_eq_true rfl⟩) rfl h1b rfl hl.1 rfl rfl (Nat.le_of_ble_eq_true rfl) d_Lw_law_233 ⟨(show _ ≤ 600000 by (try dsimp only); omega), (show _ ≤ 7302250 by (try dsimp only); omega)⟩ (fun H locs hw => ?_)
  refine lv_aload_n S.1 S.2.1 d_Lw_law_236 rfl (lv_at hl 2 rfl) ?_
  obtain ⟨t4, h3, hf⟩ := xb hf
  obtain ⟨h3b, h3⟩ := xkb h3
  refine x_callV (As := []) (rest := [.int t2]) (st1 := [.int t4, .int t2]) S hw (c_Mo_place h3) (cwV 0 S.2.2.2.2 gv_Lw_36 rfl rfl rfl hd_Mo_place ⟨Nat.le_of_ble_eq_true rfl, Nat.le_of_ble_eq_true rfl⟩) rfl h3b rfl hl.1 rfl rfl (Nat.le_of_ble_eq_true rfl) d_Lw_law_237 ⟨(show _ ≤ 600000 by (try dsimp only); omega), (show _ ≤ 7302250 by (try dsimp only); omega)⟩ (fun H locs hw => ?_)
  refine lv_icmp_eq (tgt := 908) S.1 S.2.1 d_Lw_law_240 (by decide) (fun c5 => ?_) (fun c5 => ?_)
  · replace hf := xt c5 hf
    refine lv_iinc (v := (x3 + 5)) (lv' := [(3, .int (x3 + 5)), (0, .ref b), (1, .ref a1), (2, .ref a2)]) S.1 S.2.1 d_Lw_law_908 hl (k := 3) rfl rfl (by decide) rfl (fun ls hl => ?_)
    refine lv_goto (tgt := 38) S.1 S.2.1 d_Lw_law_911 (by decide) ?_
    exact hk _ _ _ _ _ _ _ _ _ _ (by (try dsimp only); omega) (by (try dsimp only); omega) hw (lv_sub hl [1, 2, 3, 0] rfl) hf
  · replace hf := xf c5 hf
    refine lv_iconst (v := 0) S.1 S.2.1 d_Lw_law_243 (by decide) ?_
    cases hf

def f_law_245 (xs : Nat → Int32) (L : Nat) (k38 : Nat → Nat → Int32 → Nat → Nat → Nat → xS → Option Unit) (a1 a2 : Nat) (x3 : Int32) (cc uu z : Nat) (ω : xS) : Option Unit :=
  (ysc xs L (x3 + 1)).bind fun _ =>
  (ysc xs L (x3 + 2)).bind fun _ =>
  (ysc xs L (x3 + 3)).bind fun _ =>
  (ysc xs L (x3 + 4)).bind fun _ =>
  xc (xk ω a1 11 (f_RR_shift a1 (xs ((x3 + 1)).toNatClampNeg) (xs ((x3 + 2)).toNatClampNeg) (xs ((x3 + 3)).toNatClampNeg) (xs ((x3 + 4)).toNatClampNeg) ω)) fun t6 w7 =>
  (ysc xs L (x3 + 1)).bind fun _ =>
  (ysc xs L (x3 + 2)).bind fun _ =>
  (ysc xs L (x3 + 3)).bind fun _ =>
  (ysc xs L (x3 + 4)).bind fun _ =>
  xc (xk w7 a2 12 (f_Mo_shift a2 (xs ((x3 + 1)).toNatClampNeg) (xs ((x3 + 2)).toNatClampNeg) (xs ((x3 + 3)).toNatClampNeg) (xs ((x3 + 4)).toNatClampNeg) w7)) fun t13 w14 =>
  if t6 = t13 then (
    k38 a1 a2 (x3 + 5) cc uu z w14)
  else (
    none)
set_option maxHeartbeats 4000000 in
set_option maxRecDepth 100000 in
theorem w_law_245 {p : Program} {l : Launch} {e : Env} {s : State} {m : MethodId} {below : List Frame} {meth : Method} {c : Code} {E : xV} {b L : Nat} {xs : Nat → Int32} (S : CallFix p m c code 4 s #[Value.ref b] xTbl "RosterRulesLaw") (hr : meth.sig.returnType = ret) (hlocks : meth.locks = false) (hX : va_X b L xs s s.heap) (hbl : b < s.heap.size) (hE : E.2.2 = s.heap.size) {k38 : Nat → Nat → Int32 → Nat → Nat → Nat → xS → Option Unit} (hk : ∀ (a1 a2 : Nat) (x3 : Int32) (cc uu z : Nat) (ω : xS) (H : Heap) (locs : List Loc) (ls : Array Slot), cc ≤ 600000 → uu ≤ 7302250 → xW E z ω s s.heap H locs → lv_has ls 4 [(0, .ref b), (1, .ref a1), (2, .ref a2), (3, .int x3)] → k38 a1 a2 x3 cc uu z ω = some () → W p l e room_1 s m #[Value.ref b] below meth c H locs cc uu (lw_Z below #[Value.ref b] s) (F0 m 38 ls [])) : ∀ (a1 a2 : Nat) (x3 : Int32) (cc uu z : Nat) (ω : xS) (H : Heap) (locs : List Loc) (ls : Array Slot), cc ≤ 600000 → uu ≤ 7302250 → xW E z ω s s.heap H locs → lv_has ls 4 [(0, .ref b), (1, .ref a1), (2, .ref a2), (3, .int x3)] → f_law_245 xs L k38 a1 a2 x3 cc uu z ω = some () → W p l e room_1 s m #[Value.ref b] below meth c H locs cc uu (lw_Z below #[Value.ref b] s) (F0 m 245 ls []) := by
  intro a1 a2 x3 cc uu z ω H locs ls hcc huu hw hl hf
  have hbA : ¬ E.2.2 ≤ b := by rw [hE]; exact Nat.not_le.mpr hbl
  unfold f_law_245 at hf
  refine lv_aload_n S.1 S.2.1 d_Lw_law_245 rfl (lv_at hl 1 rfl) ?_
  refine lv_aload_n S.1 S.2.1 d_Lw_law_246 rfl (lv_at hl 0 rfl) ?_
  refine lv_iload_n S.1 S.2.1 d_Lw_law_247 rfl (lv_at hl 3 rfl) ?_
  refine lv_iconst (v := 1) S.1 S.2.1 d_Lw_law_248 (by decide) ?_
  refine lv_iadd S.1 S.2.1 d_Lw_law_249 ?_
  obtain ⟨t1, ht1, hf⟩ := xb hf
  obtain ⟨hvt1, rfl⟩ := ysc_spec ht1
  refine va_sld S.1 S.2.1 hX hbl hbA hw.2.2 hvt1 d_Lw_law_250 ?_
  refine lv_aload_n S.1 S.2.1 d_Lw_law_251 rfl (lv_at hl 0 rfl) ?_
  refine lv_iload_n S.1 S.2.1 d_Lw_law_252 rfl (lv_at hl 3 rfl) ?_
  refine lv_iconst (v := 2) S.1 S.2.1 d_Lw_law_253 (by decide) ?_
  refine lv_iadd S.1 S.2.1 d_Lw_law_254 ?_
  obtain ⟨t2, ht2, hf⟩ := xb hf
  obtain ⟨hvt2, rfl⟩ := ysc_spec ht2
  refine va_sld S.1 S.2.1 hX hbl hbA hw.2.2 hvt2 d_Lw_law_255 ?_
  refine lv_aload_n S.1 S.2.1 d_Lw_law_256 rfl (lv_at hl 0 rfl) ?_
  refine lv_iload_n S.1 S.2.1 d_Lw_law_257 rfl (lv_at hl 3 rfl) ?_
  refine lv_iconst (v := 3) S.1 S.2.1 d_Lw_law_258 (by decide) ?_
  refine lv_iadd S.1 S.2.1 d_Lw_law_259 ?_
  obtain ⟨t3, ht3, hf⟩ := xb hf
  obtain ⟨hvt3, rfl⟩ := ysc_spec ht3
  refine va_sld S.1 S.2.1 hX hbl hbA hw.2.2 hvt3 d_Lw_law_260 ?_
  refine lv_aload_n S.1 S.2.1 d_Lw_law_261 rfl (lv_at hl 0 rfl) ?_
  refine lv_iload_n S.1 S.2.1 d_Lw_law_262 rfl (lv_at hl 3 rfl) ?_
  refine lv_iconst (v := 4) S.1 S.2.1 d_Lw_law_263 (by decide) ?_
  refine lv_iadd S.1 S.2.1 d_Lw_law_264 ?_
  obtain ⟨t4, ht4, hf⟩ := xb hf
  obtain ⟨hvt4, rfl⟩ := ysc_spec ht4
  refine va_sld S.1 S.2.1 hX hbl hbA hw.2.2 hvt4 d_Lw_law_265 ?_
  obtain ⟨t6, w7, h5, hf⟩ := xcb hf
  obtain ⟨h5b, h5⟩ := xkb h5
  refine x_callV (As := [.int (xs ((x3 + 1)).toNatClampNeg), .int (xs ((x3 + 2)).toNatClampNeg), .int (xs ((x3 + 3)).toNatClampNeg), .int (xs ((x3 + 4)).toNatClampNeg)]) (rest := []) (st1 := [.int t6]) S hw (c_RR_shift h5) (cwV 4 S.2.2.2.2 gv_Lw_37 rfl rfl rfl hd_RR_shift ⟨Nat.le_of_ble_eq_true rfl, Nat.le_of_ble_eq_true rfl⟩) rfl h5b rfl hl.1 rfl rfl (Nat.le_of_ble_eq_true rfl) d_Lw_law_266 ⟨(show _ ≤ 600000 by (try dsimp only); omega), (show _ ≤ 7302250 by (try dsimp only); omega)⟩ (fun H locs hw => ?_)
  refine lv_aload_n S.1 S.2.1 d_Lw_law_269 rfl (lv_at hl 2 rfl) ?_
  refine lv_aload_n S.1 S.2.1 d_Lw_law_270 rfl (lv_at hl 0 rfl) ?_
  refine lv_iload_n S.1 S.2.1 d_Lw_law_271 rfl (lv_at hl 3 rfl) ?_
  refine lv_iconst (v := 1) S.1 S.2.1 d_Lw_law_272 (by decide) ?_
  refine lv_iadd S.1 S.2.1 d_Lw_law_273 ?_
  obtain ⟨t8, ht8, hf⟩ := xb hf
  obtain ⟨hvt8, rfl⟩ := ysc_spec ht8
  refine va_sld S.1 S.2.1 hX hbl hbA hw.2.2 hvt8 d_Lw_law_274 ?_
  refine lv_aload_n S.1 S.2.1 d_Lw_law_275 rfl (lv_at hl 0 rfl) ?_
  refine lv_iload_n S.1 S.2.1 d_Lw_law_276 rfl (lv_at hl 3 rfl) ?_
  refine lv_iconst (v := 2) S.1 S.2.1 d_Lw_law_277 (by decide) ?_
  refine lv_iadd S.1 S.2.1 d_Lw_law_278 ?_
  obtain ⟨t9, ht9, hf⟩ := xb hf
  obtain ⟨hvt9, rfl⟩ := ysc_spec ht9
  refine va_sld S.1 S.2.1 hX hbl hbA hw.2.2 hvt9 d_Lw_law_279 ?_
  refine lv_aload_n S.1 S.2.1 d_Lw_law_280 rfl (lv_at hl 0 rfl) ?_
  refine lv_iload_n S.1 S.2.1 d_Lw_law_281 rfl (lv_at hl 3 rfl) ?_
  refine lv_iconst (v := 3) S.1 S.2.1 d_Lw_law_282 (by decide) ?_
  refine lv_iadd S.1 S.2.1 d_Lw_law_283 ?_
  obtain ⟨t10, ht10, hf⟩ := xb hf
  obtain ⟨hvt10, rfl⟩ := ysc_spec ht10
  refine va_sld S.1 S.2.1 hX hbl hbA hw.2.2 hvt10 d_Lw_law_284 ?_
  refine lv_aload_n S.1 S.2.1 d_Lw_law_285 rfl (lv_at hl 0 rfl) ?_
  refine lv_iload_n S.1 S.2.1 d_Lw_law_286 rfl (lv_at hl 3 rfl) ?_
  refine lv_iconst (v := 4) S.1 S.2.1 d_Lw_law_287 (by decide) ?_
  refine lv_iadd S.1 S.2.1 d_Lw_law_288 ?_
  obtain ⟨t11, ht11, hf⟩ := xb hf
  obtain ⟨hvt11, rfl⟩ := ysc_spec ht11
  refine va_sld S.1 S.2.1 hX hbl hbA hw.2.2 hvt11 d_Lw_law_289 ?_
  obtain ⟨t13, w14, h12, hf⟩ := xcb hf
  obtain ⟨h12b, h12⟩ := xkb h12
  refine x_callV (As := [.int (xs ((x3 + 1)).toNatClampNeg), .int (xs ((x3 + 2)).toNatClampNeg), .int (xs ((x3 + 3)).toNatClampNeg), .int (xs ((x3 + 4)).toNatClampNeg)]) (rest := [.int t6]) (st1 := [.int t13, .int t6]) S hw (c_Mo_shift h12) (cwV 4 S.2.2.2.2 gv_Lw_41 rfl rfl rfl hd_Mo_shift ⟨Nat.le_of_ble_eq_true rfl, Nat.le_of_ble_eq_true rfl⟩) rfl h12b rfl hl.1 rfl rfl (Nat.le_of_ble_eq_true rfl) d_Lw_law_290 ⟨(show _ ≤ 600000 by (try dsimp only); omega), (show _ ≤ 7302250 by (try dsimp only); omega)⟩ (fun H locs hw => ?_)
  refine lv_icmp_eq (tgt := 908) S.1 S.2.1 d_Lw_law_293 (by decide) (fun c15 => ?_) (fun c15 => ?_)
  · replace hf := xt c15 hf
    refine lv_iinc (v := (x3 + 5)) (lv' := [(3, .int (x3 + 5)), (0, .ref b), (1, .ref a1), (2, .ref a2)]) S.1 S.2.1 d_Lw_law_908 hl (k := 3) rfl rfl (by decide) rfl (fun ls hl => ?_)
    refine lv_goto (tgt := 38) S.1 S.2.1 d_Lw_law_911 (by decide) ?_
    exact hk _ _ _ _ _ _ _ _ _ _ (by (try dsimp only); omega) (by (try dsimp only); omega) hw (lv_sub hl [1, 2, 3, 0] rfl) hf
  · replace hf := xf c15 hf
    refine lv_iconst (v := 0) S.1 S.2.1 d_Lw_law_296 (by decide) ?_
    cases hf

def f_law_298 (xs : Nat → Int32) (L : Nat) (k38 : Nat → Nat → Int32 → Nat → Nat → Nat → xS → Option Unit) (a1 a2 : Nat) (x3 : Int32) (cc uu z : Nat) (ω : xS) : Option Unit :=
  (ysc xs L (x3 + 1)).bind fun _ =>
  (ysc xs L (x3 + 2)).bind fun _ =>
  xc (xk ω a1 11 (f_RR_person a1 (xs ((x3 + 1)).toNatClampNeg) (xs ((x3 + 2)).toNatClampNeg) ω)) fun t4 w5 =>
  (ysc xs L (x3 + 1)).bind fun _ =>
  (ysc xs L (x3 + 2)).bind fun _ =>
  xc (xk w5 a2 12 (f_Mo_person a2 (xs ((x3 + 1)).toNatClampNeg) (xs ((x3 + 2)).toNatClampNeg) w5)) fun t9 w10 =>
  if t4 = t9 then (
    k38 a1 a2 (x3 + 5) cc uu z w10)
  else (
    none)
set_option maxHeartbeats 4000000 in
set_option maxRecDepth 100000 in
theorem w_law_298 {p : Program} {l : Launch} {e : Env} {s : State} {m : MethodId} {below : List Frame} {meth : Method} {c : Code} {E : xV} {b L : Nat} {xs : Nat → Int32} (S : CallFix p m c code 4 s #[Value.ref b] xTbl "RosterRulesLaw") (hr : meth.sig.returnType = ret) (hlocks : meth.locks = false) (hX : va_X b L xs s s.heap) (hbl : b < s.heap.size) (hE : E.2.2 = s.heap.size) {k38 : Nat → Nat → Int32 → Nat → Nat → Nat → xS → Option Unit} (hk : ∀ (a1 a2 : Nat) (x3 : Int32) (cc uu z : Nat) (ω : xS) (H : Heap) (locs : List Loc) (ls : Array Slot), cc ≤ 600000 → uu ≤ 7302250 → xW E z ω s s.heap H locs → lv_has ls 4 [(0, .ref b), (1, .ref a1), (2, .ref a2), (3, .int x3)] → k38 a1 a2 x3 cc uu z ω = some () → W p l e room_1 s m #[Value.ref b] below meth c H locs cc uu (lw_Z below #[Value.ref b] s) (F0 m 38 ls [])) : ∀ (a1 a2 : Nat) (x3 : Int32) (cc uu z : Nat) (ω : xS) (H : Heap) (locs : List Loc) (ls : Array Slot), cc ≤ 600000 → uu ≤ 7302250 → xW E z ω s s.heap H locs → lv_has ls 4 [(0, .ref b), (1, .ref a1), (2, .ref a2), (3, .int x3)] → f_law_298 xs L k38 a1 a2 x3 cc uu z ω = some () → W p l e room_1 s m #[Value.ref b] below meth c H locs cc uu (lw_Z below #[Value.ref b] s) (F0 m 298 ls []) := by
  intro a1 a2 x3 cc uu z ω H locs ls hcc huu hw hl hf
  have hbA : ¬ E.2.2 ≤ b := by rw [hE]; exact Nat.not_le.mpr hbl
  unfold f_law_298 at hf
  refine lv_aload_n S.1 S.2.1 d_Lw_law_298 rfl (lv_at hl 1 rfl) ?_
  refine lv_aload_n S.1 S.2.1 d_Lw_law_299 rfl (lv_at hl 0 rfl) ?_
  refine lv_iload_n S.1 S.2.1 d_Lw_law_300 rfl (lv_at hl 3 rfl) ?_
  refine lv_iconst (v := 1) S.1 S.2.1 d_Lw_law_301 (by decide) ?_
  refine lv_iadd S.1 S.2.1 d_Lw_law_302 ?_
  obtain ⟨t1, ht1, hf⟩ := xb hf
  obtain ⟨hvt1, rfl⟩ := ysc_spec ht1
  refine va_sld S.1 S.2.1 hX hbl hbA hw.2.2 hvt1 d_Lw_law_303 ?_
  refine lv_aload_n S.1 S.2.1 d_Lw_law_304 rfl (lv_at hl 0 rfl) ?_
  refine lv_iload_n S.1 S.2.1 d_Lw_law_305 rfl (lv_at hl 3 rfl) ?_
  refine lv_iconst (v := 2) S.1 S.2.1 d_Lw_law_306 (by decide) ?_
  refine lv_iadd S.1 S.2.1 d_Lw_law_307 ?_
  obtain ⟨t2, ht2, hf⟩ := xb hf
  obtain ⟨hvt2, rfl⟩ := ysc_spec ht2
  refine va_sld S.1 S.2.1 hX hbl hbA hw.2.2 hvt2 d_Lw_law_308 ?_
  obtain ⟨t4, w5, h3, hf⟩ := xcb hf
  obtain ⟨h3b, h3⟩ := xkb h3
  refine x_callV (As := [.int (xs ((x3 + 1)).toNatClampNeg), .int (xs ((x3 + 2)).toNatClampNeg)]) (rest := []) (st1 := [.int t4]) S hw (c_RR_person h3) (cwV 2 S.2.2.2.2 gv_Lw_42 rfl rfl rfl hd_RR_person ⟨Nat.le_of_ble_eq_true rfl, Nat.le_of_ble_eq_true rfl⟩) rfl h3b rfl hl.1 rfl rfl (Nat.le_of_ble_eq_true rfl) d_Lw_law_309 ⟨(show _ ≤ 600000 by (try dsimp only); omega), (show _ ≤ 7302250 by (try dsimp only); omega)⟩ (fun H locs hw => ?_)
  refine lv_aload_n S.1 S.2.1 d_Lw_law_312 rfl (lv_at hl 2 rfl) ?_
  refine lv_aload_n S.1 S.2.1 d_Lw_law_313 rfl (lv_at hl 0 rfl) ?_
  refine lv_iload_n S.1 S.2.1 d_Lw_law_314 rfl (lv_at hl 3 rfl) ?_
  refine lv_iconst (v := 1) S.1 S.2.1 d_Lw_law_315 (by decide) ?_
  refine lv_iadd S.1 S.2.1 d_Lw_law_316 ?_
  obtain ⟨t6, ht6, hf⟩ := xb hf
  obtain ⟨hvt6, rfl⟩ := ysc_spec ht6
  refine va_sld S.1 S.2.1 hX hbl hbA hw.2.2 hvt6 d_Lw_law_317 ?_
  refine lv_aload_n S.1 S.2.1 d_Lw_law_318 rfl (lv_at hl 0 rfl) ?_
  refine lv_iload_n S.1 S.2.1 d_Lw_law_319 rfl (lv_at hl 3 rfl) ?_
  refine lv_iconst (v := 2) S.1 S.2.1 d_Lw_law_320 (by decide) ?_
  refine lv_iadd S.1 S.2.1 d_Lw_law_321 ?_
  obtain ⟨t7, ht7, hf⟩ := xb hf
  obtain ⟨hvt7, rfl⟩ := ysc_spec ht7
  refine va_sld S.1 S.2.1 hX hbl hbA hw.2.2 hvt7 d_Lw_law_322 ?_
  obtain ⟨t9, w10, h8, hf⟩ := xcb hf
  obtain ⟨h8b, h8⟩ := xkb h8
  refine x_callV (As := [.int (xs ((x3 + 1)).toNatClampNeg), .int (xs ((x3 + 2)).toNatClampNeg)]) (rest := [.int t4]) (st1 := [.int t9, .int t4]) S hw (c_Mo_person h8) (cwV 2 S.2.2.2.2 gv_Lw_46 rfl rfl rfl hd_Mo_person ⟨Nat.le_of_ble_eq_true rfl, Nat.le_of_ble_eq_true rfl⟩) rfl h8b rfl hl.1 rfl rfl (Nat.le_of_ble_eq_true rfl) d_Lw_law_323 ⟨(show _ ≤ 600000 by (try dsimp only); omega), (show _ ≤ 7302250 by (try dsimp only); omega)⟩ (fun H locs hw => ?_)
  refine lv_icmp_eq (tgt := 908) S.1 S.2.1 d_Lw_law_326 (by decide) (fun c11 => ?_) (fun c11 => ?_)
  · replace hf := xt c11 hf
    refine lv_iinc (v := (x3 + 5)) (lv' := [(3, .int (x3 + 5)), (0, .ref b), (1, .ref a1), (2, .ref a2)]) S.1 S.2.1 d_Lw_law_908 hl (k := 3) rfl rfl (by decide) rfl (fun ls hl => ?_)
    refine lv_goto (tgt := 38) S.1 S.2.1 d_Lw_law_911 (by decide) ?_
    exact hk _ _ _ _ _ _ _ _ _ _ (by (try dsimp only); omega) (by (try dsimp only); omega) hw (lv_sub hl [1, 2, 3, 0] rfl) hf
  · replace hf := xf c11 hf
    refine lv_iconst (v := 0) S.1 S.2.1 d_Lw_law_329 (by decide) ?_
    cases hf

def f_law_331 (xs : Nat → Int32) (L : Nat) (k38 : Nat → Nat → Int32 → Nat → Nat → Nat → xS → Option Unit) (a1 a2 : Nat) (x3 : Int32) (cc uu z : Nat) (ω : xS) : Option Unit :=
  (ysc xs L (x3 + 1)).bind fun _ =>
  (ysc xs L (x3 + 2)).bind fun _ =>
  (ysc xs L (x3 + 3)).bind fun _ =>
  xc (xk ω a1 11 (f_RR_past a1 (xs ((x3 + 1)).toNatClampNeg) (xs ((x3 + 2)).toNatClampNeg) (xs ((x3 + 3)).toNatClampNeg) ω)) fun t5 w6 =>
  (ysc xs L (x3 + 1)).bind fun _ =>
  (ysc xs L (x3 + 2)).bind fun _ =>
  (ysc xs L (x3 + 3)).bind fun _ =>
  xc (xk w6 a2 12 (f_Mo_past a2 (xs ((x3 + 1)).toNatClampNeg) (xs ((x3 + 2)).toNatClampNeg) (xs ((x3 + 3)).toNatClampNeg) w6)) fun t11 w12 =>
  if t5 = t11 then (
    k38 a1 a2 (x3 + 5) cc uu z w12)
  else (
    none)
set_option maxHeartbeats 4000000 in
set_option maxRecDepth 100000 in
theorem w_law_331 {p : Program} {l : Launch} {e : Env} {s : State} {m : MethodId} {below : List Frame} {meth : Method} {c : Code} {E : xV} {b L : Nat} {xs : Nat → Int32} (S : CallFix p m c code 4 s #[Value.ref b] xTbl "RosterRulesLaw") (hr : meth.sig.returnType = ret) (hlocks : meth.locks = false) (hX : va_X b L xs s s.heap) (hbl : b < s.heap.size) (hE : E.2.2 = s.heap.size) {k38 : Nat → Nat → Int32 → Nat → Nat → Nat → xS → Option Unit} (hk : ∀ (a1 a2 : Nat) (x3 : Int32) (cc uu z : Nat) (ω : xS) (H : Heap) (locs : List Loc) (ls : Array Slot), cc ≤ 600000 → uu ≤ 7302250 → xW E z ω s s.heap H locs → lv_has ls 4 [(0, .ref b), (1, .ref a1), (2, .ref a2), (3, .int x3)] → k38 a1 a2 x3 cc uu z ω = some () → W p l e room_1 s m #[Value.ref b] below meth c H locs cc uu (lw_Z below #[Value.ref b] s) (F0 m 38 ls [])) : ∀ (a1 a2 : Nat) (x3 : Int32) (cc uu z : Nat) (ω : xS) (H : Heap) (locs : List Loc) (ls : Array Slot), cc ≤ 600000 → uu ≤ 7302250 → xW E z ω s s.heap H locs → lv_has ls 4 [(0, .ref b), (1, .ref a1), (2, .ref a2), (3, .int x3)] → f_law_331 xs L k38 a1 a2 x3 cc uu z ω = some () → W p l e room_1 s m #[Value.ref b] below meth c H locs cc uu (lw_Z below #[Value.ref b] s) (F0 m 331 ls []) := by
  intro a1 a2 x3 cc uu z ω H locs ls hcc huu hw hl hf
  have hbA : ¬ E.2.2 ≤ b := by rw [hE]; exact Nat.not_le.mpr hbl
  unfold f_law_331 at hf
  refine lv_aload_n S.1 S.2.1 d_Lw_law_331 rfl (lv_at hl 1 rfl) ?_
  refine lv_aload_n S.1 S.2.1 d_Lw_law_332 rfl (lv_at hl 0 rfl) ?_
  refine lv_iload_n S.1 S.2.1 d_Lw_law_333 rfl (lv_at hl 3 rfl) ?_
  refine lv_iconst (v := 1) S.1 S.2.1 d_Lw_law_334 (by decide) ?_
  refine lv_iadd S.1 S.2.1 d_Lw_law_335 ?_
  obtain ⟨t1, ht1, hf⟩ := xb hf
  obtain ⟨hvt1, rfl⟩ := ysc_spec ht1
  refine va_sld S.1 S.2.1 hX hbl hbA hw.2.2 hvt1 d_Lw_law_336 ?_
  refine lv_aload_n S.1 S.2.1 d_Lw_law_337 rfl (lv_at hl 0 rfl) ?_
  refine lv_iload_n S.1 S.2.1 d_Lw_law_338 rfl (lv_at hl 3 rfl) ?_
  refine lv_iconst (v := 2) S.1 S.2.1 d_Lw_law_339 (by decide) ?_
  refine lv_iadd S.1 S.2.1 d_Lw_law_340 ?_
  obtain ⟨t2, ht2, hf⟩ := xb hf
  obtain ⟨hvt2, rfl⟩ := ysc_spec ht2
  refine va_sld S.1 S.2.1 hX hbl hbA hw.2.2 hvt2 d_Lw_law_341 ?_
  refine lv_aload_n S.1 S.2.1 d_Lw_law_342 rfl (lv_at hl 0 rfl) ?_
  refine lv_iload_n S.1 S.2.1 d_Lw_law_343 rfl (lv_at hl 3 rfl) ?_
  refine lv_iconst (v := 3) S.1 S.2.1 d_Lw_law_344 (by decide) ?_
  refine lv_iadd S.1 S.2.1 d_Lw_law_345 ?_
  obtain ⟨t3, ht3, hf⟩ := xb hf
  obtain ⟨hvt3, rfl⟩ := ysc_spec ht3
  refine va_sld S.1 S.2.1 hX hbl hbA hw.2.2 hvt3 d_Lw_law_346 ?_
  obtain ⟨t5, w6, h4, hf⟩ := xcb hf
  obtain ⟨h4b, h4⟩ := xkb h4
  refine x_callV (As := [.int (xs ((x3 + 1)).toNatClampNeg), .int (xs ((x3 + 2)).toNatClampNeg), .int (xs ((x3 + 3)).toNatClampNeg)]) (rest := []) (st1 := [.int t5]) S hw (c_RR_past h4) (cwV 3 S.2.2.2.2 gv_Lw_47 rfl rfl rfl hd_RR_past ⟨Nat.le_of_ble_eq_true rfl, Nat.le_of_ble_eq_true rfl⟩) rfl h4b rfl hl.1 rfl rfl (Nat.le_of_ble_eq_true rfl) d_Lw_law_347 ⟨(show _ ≤ 600000 by (try dsimp only); omega), (show _ ≤ 7302250 by (try dsimp only); omega)⟩ (fun H locs hw => ?_)
  refine lv_aload_n S.1 S.2.1 d_Lw_law_350 rfl (lv_at hl 2 rfl) ?_
  refine lv_aload_n S.1 S.2.1 d_Lw_law_351 rfl (lv_at hl 0 rfl) ?_
  refine lv_iload_n S.1 S.2.1 d_Lw_law_352 rfl (lv_at hl 3 rfl) ?_
  refine lv_iconst (v := 1) S.1 S.2.1 d_Lw_law_353 (by decide) ?_
  refine lv_iadd S.1 S.2.1 d_Lw_law_354 ?_
  obtain ⟨t7, ht7, hf⟩ := xb hf
  obtain ⟨hvt7, rfl⟩ := ysc_spec ht7
  refine va_sld S.1 S.2.1 hX hbl hbA hw.2.2 hvt7 d_Lw_law_355 ?_
  refine lv_aload_n S.1 S.2.1 d_Lw_law_356 rfl (lv_at hl 0 rfl) ?_
  refine lv_iload_n S.1 S.2.1 d_Lw_law_357 rfl (lv_at hl 3 rfl) ?_
  refine lv_iconst (v := 2) S.1 S.2.1 d_Lw_law_358 (by decide) ?_
  refine lv_iadd S.1 S.2.1 d_Lw_law_359 ?_
  obtain ⟨t8, ht8, hf⟩ := xb hf
  obtain ⟨hvt8, rfl⟩ := ysc_spec ht8
  refine va_sld S.1 S.2.1 hX hbl hbA hw.2.2 hvt8 d_Lw_law_360 ?_
  refine lv_aload_n S.1 S.2.1 d_Lw_law_361 rfl (lv_at hl 0 rfl) ?_
  refine lv_iload_n S.1 S.2.1 d_Lw_law_362 rfl (lv_at hl 3 rfl) ?_
  refine lv_iconst (v := 3) S.1 S.2.1 d_Lw_law_363 (by decide) ?_
  refine lv_iadd S.1 S.2.1 d_Lw_law_364 ?_
  obtain ⟨t9, ht9, hf⟩ := xb hf
  obtain ⟨hvt9, rfl⟩ := ysc_spec ht9
  refine va_sld S.1 S.2.1 hX hbl hbA hw.2.2 hvt9 d_Lw_law_365 ?_
  obtain ⟨t11, w12, h10, hf⟩ := xcb hf
  obtain ⟨h10b, h10⟩ := xkb h10
  refine x_callV (As := [.int (xs ((x3 + 1)).toNatClampNeg), .int (xs ((x3 + 2)).toNatClampNeg), .int (xs ((x3 + 3)).toNatClampNeg)]) (rest := [.int t5]) (st1 := [.int t11, .int t5]) S hw (c_Mo_past h10) (cwV 3 S.2.2.2.2 gv_Lw_51 rfl rfl rfl hd_Mo_past ⟨Nat.le_of_ble_eq_true rfl, Nat.le_of_ble_eq_true rfl⟩) rfl h10b rfl hl.1 rfl rfl (Nat.le_of_ble_eq_true rfl) d_Lw_law_366 ⟨(show _ ≤ 600000 by (try dsimp only); omega), (show _ ≤ 7302250 by (try dsimp only); omega)⟩ (fun H locs hw => ?_)
  refine lv_icmp_eq (tgt := 908) S.1 S.2.1 d_Lw_law_369 (by decide) (fun c13 => ?_) (fun c13 => ?_)
  · replace hf := xt c13 hf
    refine lv_iinc (v := (x3 + 5)) (lv' := [(3, .int (x3 + 5)), (0, .ref b), (1, .ref a1), (2, .ref a2)]) S.1 S.2.1 d_Lw_law_908 hl (k := 3) rfl rfl (by decide) rfl (fun ls hl => ?_)
    refine lv_goto (tgt := 38) S.1 S.2.1 d_Lw_law_911 (by decide) ?_
    exact hk _ _ _ _ _ _ _ _ _ _ (by (try dsimp only); omega) (by (try dsimp only); omega) hw (lv_sub hl [1, 2, 3, 0] rfl) hf
  · replace hf := xf c13 hf
    refine lv_iconst (v := 0) S.1 S.2.1 d_Lw_law_372 (by decide) ?_
    cases hf

