def f_Mo_lay_148 (k44 : Nat → Int32 → Int32 → Int32 → xS → Option xS) (k87 : Nat → Int32 → Int32 → Int32 → Int32 → Int32 → xS → Option xS) (a0 : Nat) (x1 : Int32) (x3 : Int32) (x4 : Int32) (x5 : Int32) (x6 : Int32) (x7 : Int32) (ω : xS) : Option xS :=
  (xgr ω a0 12 27).bind fun t35 =>
  (xgr ω a0 12 62).bind fun t36 =>
  (xgr ω a0 12 59).bind fun t37 =>
  (xai ω t37 x7).bind fun t38 =>
  (xai ω t36 t38).bind fun t39 =>
  (xsi ω t35 ((9 * ((1025 * x1) + x4)) + x6) t39).bind fun w40 =>
  k87 a0 x1 x3 x4 x5 (x6 + 1) w40
set_option maxHeartbeats 4000000 in
set_option maxRecDepth 100000 in
theorem w_Mo_lay_148 {p : Program} {l : Launch} {e : Env} {s : State} {m : MethodId} {args : Array Value} {below : List Frame} {meth : Method} {c : Code} {E : xV} {z : Nat} {ω1 : xS} {k44 : Nat → Int32 → Int32 → Int32 → xS → Option xS} {k87 : Nat → Int32 → Int32 → Int32 → Int32 → Int32 → xS → Option xS} (S : CallFix p m c b_Mo_lay 8 s args xTbl "RosterRulesModel") (hr : meth.sig.returnType = none) (hlocks : meth.locks = false) (hk44 : ∀ (a0 : Nat) (x1 : Int32) (x3 : Int32) (x4 : Int32) (ω : xS) (H : Heap) (locs : List Loc) (ls : Array Slot), xW E z ω s s.heap H locs → lv_has ls 8 [(0, .ref a0), (1, .int x1), (3, .int x3), (4, .int x4)] → k44 a0 x1 x3 x4 ω = some ω1 → W p l e (headSpec ws_Mo_lay { frames := 1, cells := 0, slots := 0, locals := 22 }).room s m args below meth c H locs 0 0 (MQ below (xQ E none z ω1) args s 0 0 (fun q => E.2.2 ≤ q)) (F0 m 44 ls [])) (hk87 : ∀ (a0 : Nat) (x1 : Int32) (x3 : Int32) (x4 : Int32) (x5 : Int32) (x6 : Int32) (ω : xS) (H : Heap) (locs : List Loc) (ls : Array Slot), xW E z ω s s.heap H locs → lv_has ls 8 [(0, .ref a0), (1, .int x1), (3, .int x3), (4, .int x4), (5, .int x5), (6, .int x6)] → k87 a0 x1 x3 x4 x5 x6 ω = some ω1 → W p l e (headSpec ws_Mo_lay { frames := 1, cells := 0, slots := 0, locals := 22 }).room s m args below meth c H locs 0 0 (MQ below (xQ E none z ω1) args s 0 0 (fun q => E.2.2 ≤ q)) (F0 m 87 ls [])) : ∀ (a0 : Nat) (x1 : Int32) (x3 : Int32) (x4 : Int32) (x5 : Int32) (x6 : Int32) (x7 : Int32) (ω : xS) (H : Heap) (locs : List Loc) (ls : Array Slot), xW E z ω s s.heap H locs → lv_has ls 8 [(0, .ref a0), (1, .int x1), (3, .int x3), (4, .int x4), (5, .int x5), (6, .int x6), (7, .int x7)] → f_Mo_lay_148 k44 k87 a0 x1 x3 x4 x5 x6 x7 ω = some ω1 → W p l e (headSpec ws_Mo_lay { frames := 1, cells := 0, slots := 0, locals := 22 }).room s m args below meth c H locs 0 0 (MQ below (xQ E none z ω1) args s 0 0 (fun q => E.2.2 ≤ q)) (F0 m 148 ls []) := by
  intro a0 x1 x3 x4 x5 x6 x7 ω H locs ls hw hl hf
  unfold f_Mo_lay_148 at hf
  refine lv_aload_n S.1 S.2.1 d_Mo_lay_148 rfl (lv_at hl 0 rfl) ?_
  obtain ⟨t35, ht35, hf⟩ := xb hf
  refine x_getr S hw lk_Mo_83 ht35 d_Mo_lay_149 ?_
  refine lv_bipush (v := 9) S.1 S.2.1 d_Mo_lay_152 (by decide) ?_
  refine lv_sipush (v := 1025) S.1 S.2.1 d_Mo_lay_154 (by decide) ?_
  refine lv_iload_n S.1 S.2.1 d_Mo_lay_157 rfl (lv_at hl 1 rfl) ?_
  refine lv_imul S.1 S.2.1 d_Mo_lay_158 ?_
  refine lv_iload S.1 S.2.1 d_Mo_lay_159 (lv_at hl 3 rfl) ?_
  refine lv_iadd S.1 S.2.1 d_Mo_lay_161 ?_
  refine lv_imul S.1 S.2.1 d_Mo_lay_162 ?_
  refine lv_iload S.1 S.2.1 d_Mo_lay_163 (lv_at hl 5 rfl) ?_
  refine lv_iadd S.1 S.2.1 d_Mo_lay_165 ?_
  refine lv_aload_n S.1 S.2.1 d_Mo_lay_166 rfl (lv_at hl 0 rfl) ?_
  obtain ⟨t36, ht36, hf⟩ := xb hf
  refine x_getr S hw lk_Mo_147 ht36 d_Mo_lay_167 ?_
  refine lv_aload_n S.1 S.2.1 d_Mo_lay_170 rfl (lv_at hl 0 rfl) ?_
  obtain ⟨t37, ht37, hf⟩ := xb hf
  refine x_getr S hw lk_Mo_138 ht37 d_Mo_lay_171 ?_
  refine lv_iload S.1 S.2.1 d_Mo_lay_174 (lv_at hl 6 rfl) ?_
  obtain ⟨t38, ht38, hf⟩ := xb hf
  refine x_iald S hw ht38 d_Mo_lay_176 ?_
  obtain ⟨t39, ht39, hf⟩ := xb hf
  refine x_iald S hw ht39 d_Mo_lay_177 ?_
  obtain ⟨w40, hw40, hf⟩ := xb hf
  refine x_iast S hw hw40 d_Mo_lay_178 (fun H locs hw => ?_)
  refine lv_iinc (v := (x6 + 1)) (lv' := [(6, .int (x6 + 1)), (0, .ref a0), (1, .int x1), (3, .int x3), (4, .int x4), (5, .int x5), (7, .int x7)]) S.1 S.2.1 d_Mo_lay_179 hl (k := 5) rfl rfl (by decide) rfl (fun ls hl => ?_)
  refine lv_goto (tgt := 87) S.1 S.2.1 d_Mo_lay_182 (by decide) ?_
  exact hk87 _ _ _ _ _ _ _ _ _ _ hw (lv_sub hl [1, 2, 3, 4, 5, 0] rfl) hf
def f_Mo_lay_87 (k44 : Nat → Int32 → Int32 → Int32 → xS → Option xS) : Nat → Nat → Int32 → Int32 → Int32 → Int32 → Int32 → xS → Option xS
  | 0, _, _, _, _, _, _, _ => none
  | n + 1, a0, x1, x3, x4, x5, x6, ω =>
    if 9 ≤ x6 then (
      k44 a0 x1 x3 (x4 + 1) ω)
    else (
      (xgr ω a0 12 58).bind fun t22 =>
      (xai ω t22 ((9 * x5) + x6)).bind fun t23 =>
      (xgr ω a0 12 62).bind fun t24 =>
      (xgr ω a0 12 59).bind fun t25 =>
      (xai ω t25 t23).bind fun t26 =>
      (xai ω t24 t26).bind fun t27 =>
      if 0 ≤ t27 then (
        f_Mo_lay_148 k44 (f_Mo_lay_87 k44 n) a0 x1 x3 x4 x5 x6 t23 ω)
      else (
        (xgr ω a0 12 62).bind fun t29 =>
        (xgr ω a0 12 59).bind fun t30 =>
        (xai ω t30 t23).bind fun t31 =>
        (xsi ω t29 t31 x3).bind fun w32 =>
        (xgr w32 a0 12 60).bind fun t33 =>
        (xsi w32 t33 x3 t23).bind fun w34 =>
        f_Mo_lay_148 k44 (f_Mo_lay_87 k44 n) a0 x1 (x3 + 1) x4 x5 x6 t23 w34))
set_option maxHeartbeats 4000000 in
set_option maxRecDepth 100000 in
theorem w_Mo_lay_87 {p : Program} {l : Launch} {e : Env} {s : State} {m : MethodId} {args : Array Value} {below : List Frame} {meth : Method} {c : Code} {E : xV} {z : Nat} {ω1 : xS} {k44 : Nat → Int32 → Int32 → Int32 → xS → Option xS} (S : CallFix p m c b_Mo_lay 8 s args xTbl "RosterRulesModel") (hr : meth.sig.returnType = none) (hlocks : meth.locks = false) (hk44 : ∀ (a0 : Nat) (x1 : Int32) (x3 : Int32) (x4 : Int32) (ω : xS) (H : Heap) (locs : List Loc) (ls : Array Slot), xW E z ω s s.heap H locs → lv_has ls 8 [(0, .ref a0), (1, .int x1), (3, .int x3), (4, .int x4)] → k44 a0 x1 x3 x4 ω = some ω1 → W p l e (headSpec ws_Mo_lay { frames := 1, cells := 0, slots := 0, locals := 22 }).room s m args below meth c H locs 0 0 (MQ below (xQ E none z ω1) args s 0 0 (fun q => E.2.2 ≤ q)) (F0 m 44 ls [])) : ∀ n : Nat, ∀ (a0 : Nat) (x1 : Int32) (x3 : Int32) (x4 : Int32) (x5 : Int32) (x6 : Int32) (ω : xS) (H : Heap) (locs : List Loc) (ls : Array Slot), xW E z ω s s.heap H locs → lv_has ls 8 [(0, .ref a0), (1, .int x1), (3, .int x3), (4, .int x4), (5, .int x5), (6, .int x6)] → f_Mo_lay_87 k44 n a0 x1 x3 x4 x5 x6 ω = some ω1 → W p l e (headSpec ws_Mo_lay { frames := 1, cells := 0, slots := 0, locals := 22 }).room s m args below meth c H locs 0 0 (MQ below (xQ E none z ω1) args s 0 0 (fun q => E.2.2 ≤ q)) (F0 m 87 ls []) := by
  intro n
  induction n with
  | zero =>
    intro a0 x1 x3 x4 x5 x6 ω H locs ls hw hl hf
    have h2 : (none : Option xS) = some ω1 := hf
    cases h2
  | succ n ih =>
    intro a0 x1 x3 x4 x5 x6 ω H locs ls hw hl hf
    rw [f_Mo_lay_87] at hf
    refine lv_iload S.1 S.2.1 d_Mo_lay_87 (lv_at hl 5 rfl) ?_
    refine lv_bipush (v := 9) S.1 S.2.1 d_Mo_lay_89 (by decide) ?_
    refine lv_icmp_ge (tgt := 185) S.1 S.2.1 d_Mo_lay_91 (by decide) (fun c21 => ?_) (fun c21 => ?_)
    · replace hf := xt c21 hf
      refine lv_iinc (v := (x4 + 1)) (lv' := [(4, .int (x4 + 1)), (0, .ref a0), (1, .int x1), (3, .int x3), (5, .int x5), (6, .int x6)]) S.1 S.2.1 d_Mo_lay_185 hl (k := 3) rfl rfl (by decide) rfl (fun ls hl => ?_)
      refine lv_goto (tgt := 44) S.1 S.2.1 d_Mo_lay_188 (by decide) ?_
      exact hk44 _ _ _ _ _ _ _ _ hw (lv_sub hl [1, 2, 3, 0] rfl) hf
    · replace hf := xf c21 hf
      refine lv_aload_n S.1 S.2.1 d_Mo_lay_94 rfl (lv_at hl 0 rfl) ?_
      obtain ⟨t22, ht22, hf⟩ := xb hf
      refine x_getr S hw lk_Mo_135 ht22 d_Mo_lay_95 ?_
      refine lv_bipush (v := 9) S.1 S.2.1 d_Mo_lay_98 (by decide) ?_
      refine lv_iload S.1 S.2.1 d_Mo_lay_100 (lv_at hl 4 rfl) ?_
      refine lv_imul S.1 S.2.1 d_Mo_lay_102 ?_
      refine lv_iload S.1 S.2.1 d_Mo_lay_103 (lv_at hl 5 rfl) ?_
      refine lv_iadd S.1 S.2.1 d_Mo_lay_105 ?_
      obtain ⟨t23, ht23, hf⟩ := xb hf
      refine x_iald S hw ht23 d_Mo_lay_106 ?_
      refine lv_istore (lv' := [(7, .int t23), (0, .ref a0), (1, .int x1), (3, .int x3), (4, .int x4), (5, .int x5), (6, .int x6)]) S.1 S.2.1 d_Mo_lay_107 hl (by decide) rfl (fun ls hl => ?_)
      refine lv_aload_n S.1 S.2.1 d_Mo_lay_109 rfl (lv_at hl 1 rfl) ?_
      obtain ⟨t24, ht24, hf⟩ := xb hf
      refine x_getr S hw lk_Mo_147 ht24 d_Mo_lay_110 ?_
      refine lv_aload_n S.1 S.2.1 d_Mo_lay_113 rfl (lv_at hl 1 rfl) ?_
      obtain ⟨t25, ht25, hf⟩ := xb hf
      refine x_getr S hw lk_Mo_138 ht25 d_Mo_lay_114 ?_
      refine lv_iload S.1 S.2.1 d_Mo_lay_117 (lv_at hl 0 rfl) ?_
      obtain ⟨t26, ht26, hf⟩ := xb hf
      refine x_iald S hw ht26 d_Mo_lay_119 ?_
      obtain ⟨t27, ht27, hf⟩ := xb hf
      refine x_iald S hw ht27 d_Mo_lay_120 ?_
      refine lv_if_ge (tgt := 148) S.1 S.2.1 d_Mo_lay_121 (by decide) (fun c28 => ?_) (fun c28 => ?_)
      · replace hf := xt c28 hf
        exact w_Mo_lay_148 S hr hlocks hk44 ih _ _ _ _ _ _ _ _ _ _ _ hw (lv_sub hl [1, 2, 3, 4, 5, 6, 0] rfl) hf
      · replace hf := xf c28 hf
        refine lv_aload_n S.1 S.2.1 d_Mo_lay_124 rfl (lv_at hl 1 rfl) ?_
        obtain ⟨t29, ht29, hf⟩ := xb hf
        refine x_getr S hw lk_Mo_147 ht29 d_Mo_lay_125 ?_
        refine lv_aload_n S.1 S.2.1 d_Mo_lay_128 rfl (lv_at hl 1 rfl) ?_
        obtain ⟨t30, ht30, hf⟩ := xb hf
        refine x_getr S hw lk_Mo_138 ht30 d_Mo_lay_129 ?_
        refine lv_iload S.1 S.2.1 d_Mo_lay_132 (lv_at hl 0 rfl) ?_
        obtain ⟨t31, ht31, hf⟩ := xb hf
        refine x_iald S hw ht31 d_Mo_lay_134 ?_
        refine lv_iload_n S.1 S.2.1 d_Mo_lay_135 rfl (lv_at hl 3 rfl) ?_
        obtain ⟨w32, hw32, hf⟩ := xb hf
        refine x_iast S hw hw32 d_Mo_lay_136 (fun H locs hw => ?_)
        refine lv_aload_n S.1 S.2.1 d_Mo_lay_137 rfl (lv_at hl 1 rfl) ?_
        obtain ⟨t33, ht33, hf⟩ := xb hf
        refine x_getr S hw lk_Mo_141 ht33 d_Mo_lay_138 ?_
        refine lv_iload_n S.1 S.2.1 d_Mo_lay_141 rfl (lv_at hl 3 rfl) ?_
        refine lv_iload S.1 S.2.1 d_Mo_lay_142 (lv_at hl 0 rfl) ?_
        obtain ⟨w34, hw34, hf⟩ := xb hf
        refine x_iast S hw hw34 d_Mo_lay_144 (fun H locs hw => ?_)
        refine lv_iinc (v := (x3 + 1)) (lv' := [(3, .int (x3 + 1)), (7, .int t23), (0, .ref a0), (1, .int x1), (4, .int x4), (5, .int x5), (6, .int x6)]) S.1 S.2.1 d_Mo_lay_145 hl (k := 3) rfl rfl (by decide) rfl (fun ls hl => ?_)
        exact w_Mo_lay_148 S hr hlocks hk44 ih _ _ _ _ _ _ _ _ _ _ _ hw (lv_sub hl [2, 3, 0, 4, 5, 6, 1] rfl) hf
def f_Mo_lay_44 : Nat → Nat → Int32 → Int32 → Int32 → xS → Option xS
  | 0, _, _, _, _, _ => none
  | n + 1, a0, x1, x3, x4, ω =>
    if x3 ≤ x4 then (
      (xgr ω a0 12 26).bind fun t11 =>
      (xsi ω t11 x1 x3).bind fun w12 =>
      some w12)
    else (
      (xgr ω a0 12 60).bind fun t13 =>
      (xai ω t13 x4).bind fun t14 =>
      (xgr ω a0 12 28).bind fun t15 =>
      (xgr ω a0 12 56).bind fun t16 =>
      (xai ω t16 t14).bind fun t17 =>
      (xk ω a0 12 (f_Mo_isEnd a0 x1 t17 ω)).bind fun t19 =>
      (xsz ω t15 ((1025 * x1) + x4) t19).bind fun w20 =>
      f_Mo_lay_87 (f_Mo_lay_44  n) xFU a0 x1 x3 x4 t14 0 w20)
set_option maxHeartbeats 4000000 in
set_option maxRecDepth 100000 in
theorem w_Mo_lay_44 {p : Program} {l : Launch} {e : Env} {s : State} {m : MethodId} {args : Array Value} {below : List Frame} {meth : Method} {c : Code} {E : xV} {z : Nat} {ω1 : xS} (S : CallFix p m c b_Mo_lay 8 s args xTbl "RosterRulesModel") (hr : meth.sig.returnType = none) (hlocks : meth.locks = false) : ∀ n : Nat, ∀ (a0 : Nat) (x1 : Int32) (x3 : Int32) (x4 : Int32) (ω : xS) (H : Heap) (locs : List Loc) (ls : Array Slot), xW E z ω s s.heap H locs → lv_has ls 8 [(0, .ref a0), (1, .int x1), (3, .int x3), (4, .int x4)] → f_Mo_lay_44 n a0 x1 x3 x4 ω = some ω1 → W p l e (headSpec ws_Mo_lay { frames := 1, cells := 0, slots := 0, locals := 22 }).room s m args below meth c H locs 0 0 (MQ below (xQ E none z ω1) args s 0 0 (fun q => E.2.2 ≤ q)) (F0 m 44 ls []) := by
  intro n
  induction n with
  | zero =>
    intro a0 x1 x3 x4 ω H locs ls hw hl hf
    have h2 : (none : Option xS) = some ω1 := hf
    cases h2
  | succ n ih =>
    intro a0 x1 x3 x4 ω H locs ls hw hl hf
    rw [f_Mo_lay_44] at hf
    refine lv_iload S.1 S.2.1 d_Mo_lay_44 (lv_at hl 3 rfl) ?_
    refine lv_iload_n S.1 S.2.1 d_Mo_lay_46 rfl (lv_at hl 2 rfl) ?_
    refine lv_icmp_ge (tgt := 191) S.1 S.2.1 d_Mo_lay_47 (by decide) (fun c10 => ?_) (fun c10 => ?_)
    · replace hf := xt c10 hf
      refine lv_aload_n S.1 S.2.1 d_Mo_lay_191 rfl (lv_at hl 0 rfl) ?_
      obtain ⟨t11, ht11, hf⟩ := xb hf
      refine x_getr S hw lk_Mo_79 ht11 d_Mo_lay_192 ?_
      refine lv_iload_n S.1 S.2.1 d_Mo_lay_195 rfl (lv_at hl 1 rfl) ?_
      refine lv_iload_n S.1 S.2.1 d_Mo_lay_196 rfl (lv_at hl 2 rfl) ?_
      obtain ⟨w12, hw12, hf⟩ := xb hf
      refine x_iast S hw hw12 d_Mo_lay_197 (fun H locs hw => ?_)
      cases hf
      exact x_vret S hr hlocks hw d_Mo_lay_198
    · replace hf := xf c10 hf
      refine lv_aload_n S.1 S.2.1 d_Mo_lay_50 rfl (lv_at hl 0 rfl) ?_
      obtain ⟨t13, ht13, hf⟩ := xb hf
      refine x_getr S hw lk_Mo_141 ht13 d_Mo_lay_51 ?_
      refine lv_iload S.1 S.2.1 d_Mo_lay_54 (lv_at hl 3 rfl) ?_
      obtain ⟨t14, ht14, hf⟩ := xb hf
      refine x_iald S hw ht14 d_Mo_lay_56 ?_
      refine lv_istore (lv' := [(5, .int t14), (0, .ref a0), (1, .int x1), (3, .int x3), (4, .int x4)]) S.1 S.2.1 d_Mo_lay_57 hl (by decide) rfl (fun ls hl => ?_)
      refine lv_aload_n S.1 S.2.1 d_Mo_lay_59 rfl (lv_at hl 1 rfl) ?_
      obtain ⟨t15, ht15, hf⟩ := xb hf
      refine x_getr S hw lk_Mo_86 ht15 d_Mo_lay_60 ?_
      refine lv_sipush (v := 1025) S.1 S.2.1 d_Mo_lay_63 (by decide) ?_
      refine lv_iload_n S.1 S.2.1 d_Mo_lay_66 rfl (lv_at hl 2 rfl) ?_
      refine lv_imul S.1 S.2.1 d_Mo_lay_67 ?_
      refine lv_iload S.1 S.2.1 d_Mo_lay_68 (lv_at hl 4 rfl) ?_
      refine lv_iadd S.1 S.2.1 d_Mo_lay_70 ?_
      refine lv_aload_n S.1 S.2.1 d_Mo_lay_71 rfl (lv_at hl 1 rfl) ?_
      refine lv_iload_n S.1 S.2.1 d_Mo_lay_72 rfl (lv_at hl 2 rfl) ?_
      refine lv_aload_n S.1 S.2.1 d_Mo_lay_73 rfl (lv_at hl 1 rfl) ?_
      obtain ⟨t16, ht16, hf⟩ := xb hf
      refine x_getr S hw lk_Mo_129 ht16 d_Mo_lay_74 ?_
      refine lv_iload S.1 S.2.1 d_Mo_lay_77 (lv_at hl 0 rfl) ?_
      obtain ⟨t17, ht17, hf⟩ := xb hf
      refine x_iald S hw ht17 d_Mo_lay_79 ?_
      obtain ⟨t19, h18, hf⟩ := xb hf
      obtain ⟨h18b, h18⟩ := xkb h18
      refine x_callV (As := [.int x1, .int t17]) (rest := [.int ((1025 * x1) + x4), .ref t15]) (st1 := [.int t19, .int ((1025 * x1) + x4), .ref t15]) S hw (c_Mo_isEnd h18) (cwV 2 S.2.2.2.2 gv_Mo_335 rfl rfl rfl hd_Mo_isEnd ⟨Nat.le_of_ble_eq_true rfl, Nat.le_of_ble_eq_true rfl⟩) rfl h18b rfl hl.1 rfl rfl (Nat.le_of_ble_eq_true rfl) d_Mo_lay_80 ⟨Nat.le_of_ble_eq_true rfl, Nat.le_of_ble_eq_true rfl⟩ (fun H locs hw => ?_)
      obtain ⟨w20, hw20, hf⟩ := xb hf
      refine x_zast S hw hw20 d_Mo_lay_83 (fun H locs hw => ?_)
      refine lv_iconst (v := 0) S.1 S.2.1 d_Mo_lay_84 (by decide) ?_
      refine lv_istore (lv' := [(6, .int 0), (5, .int t14), (0, .ref a0), (1, .int x1), (3, .int x3), (4, .int x4)]) S.1 S.2.1 d_Mo_lay_85 hl (by decide) rfl (fun ls hl => ?_)
      exact w_Mo_lay_87 S hr hlocks ih _ _ _ _ _ _ _ _ _ _ _ hw (lv_sub hl [2, 3, 4, 5, 1, 0] rfl) hf
def f_Mo_lay_2 : Nat → Nat → Int32 → Int32 → Int32 → xS → Option xS
  | 0, _, _, _, _, _ => none
  | n + 1, a0, x1, x2, x3, ω =>
    if x2 ≤ x3 then (
      (xgr ω a0 12 62).bind fun t2 =>
      (xgr ω a0 12 59).bind fun t3 =>
      (xai ω t3 0).bind fun t4 =>
      (xsi ω t2 t4 0).bind fun w5 =>
      (xgr w5 a0 12 60).bind fun t6 =>
      (xsi w5 t6 0 0).bind fun w7 =>
      f_Mo_lay_44  xFU a0 x1 1 0 w7)
    else (
      (xgr ω a0 12 62).bind fun t8 =>
      (xsi ω t8 x3 (-1)).bind fun w9 =>
      f_Mo_lay_2  n a0 x1 x2 (x3 + 1) w9)
set_option maxHeartbeats 4000000 in
set_option maxRecDepth 100000 in
theorem w_Mo_lay_2 {p : Program} {l : Launch} {e : Env} {s : State} {m : MethodId} {args : Array Value} {below : List Frame} {meth : Method} {c : Code} {E : xV} {z : Nat} {ω1 : xS} (S : CallFix p m c b_Mo_lay 8 s args xTbl "RosterRulesModel") (hr : meth.sig.returnType = none) (hlocks : meth.locks = false) : ∀ n : Nat, ∀ (a0 : Nat) (x1 : Int32) (x2 : Int32) (x3 : Int32) (ω : xS) (H : Heap) (locs : List Loc) (ls : Array Slot), xW E z ω s s.heap H locs → lv_has ls 8 [(0, .ref a0), (1, .int x1), (2, .int x2), (3, .int x3)] → f_Mo_lay_2 n a0 x1 x2 x3 ω = some ω1 → W p l e (headSpec ws_Mo_lay { frames := 1, cells := 0, slots := 0, locals := 22 }).room s m args below meth c H locs 0 0 (MQ below (xQ E none z ω1) args s 0 0 (fun q => E.2.2 ≤ q)) (F0 m 2 ls []) := by
  intro n
  induction n with
  | zero =>
    intro a0 x1 x2 x3 ω H locs ls hw hl hf
    have h2 : (none : Option xS) = some ω1 := hf
    cases h2
  | succ n ih =>
    intro a0 x1 x2 x3 ω H locs ls hw hl hf
    rw [f_Mo_lay_2] at hf
    refine lv_iload_n S.1 S.2.1 d_Mo_lay_2 rfl (lv_at hl 3 rfl) ?_
    refine lv_iload_n S.1 S.2.1 d_Mo_lay_3 rfl (lv_at hl 2 rfl) ?_
    refine lv_icmp_ge (tgt := 20) S.1 S.2.1 d_Mo_lay_4 (by decide) (fun c1 => ?_) (fun c1 => ?_)
    · replace hf := xt c1 hf
      refine lv_iconst (v := 1) S.1 S.2.1 d_Mo_lay_20 (by decide) ?_
      refine lv_istore_n (lv' := [(3, .int 1), (0, .ref a0), (1, .int x1), (2, .int x2)]) S.1 S.2.1 d_Mo_lay_21 rfl hl (by decide) rfl (fun ls hl => ?_)
      refine lv_aload_n S.1 S.2.1 d_Mo_lay_22 rfl (lv_at hl 1 rfl) ?_
      obtain ⟨t2, ht2, hf⟩ := xb hf
      refine x_getr S hw lk_Mo_147 ht2 d_Mo_lay_23 ?_
      refine lv_aload_n S.1 S.2.1 d_Mo_lay_26 rfl (lv_at hl 1 rfl) ?_
      obtain ⟨t3, ht3, hf⟩ := xb hf
      refine x_getr S hw lk_Mo_138 ht3 d_Mo_lay_27 ?_
      refine lv_iconst (v := 0) S.1 S.2.1 d_Mo_lay_30 (by decide) ?_
      obtain ⟨t4, ht4, hf⟩ := xb hf
      refine x_iald S hw ht4 d_Mo_lay_31 ?_
      refine lv_iconst (v := 0) S.1 S.2.1 d_Mo_lay_32 (by decide) ?_
      obtain ⟨w5, hw5, hf⟩ := xb hf
      refine x_iast S hw hw5 d_Mo_lay_33 (fun H locs hw => ?_)
      refine lv_aload_n S.1 S.2.1 d_Mo_lay_34 rfl (lv_at hl 1 rfl) ?_
      obtain ⟨t6, ht6, hf⟩ := xb hf
      refine x_getr S hw lk_Mo_141 ht6 d_Mo_lay_35 ?_
      refine lv_iconst (v := 0) S.1 S.2.1 d_Mo_lay_38 (by decide) ?_
      refine lv_iconst (v := 0) S.1 S.2.1 d_Mo_lay_39 (by decide) ?_
      obtain ⟨w7, hw7, hf⟩ := xb hf
      refine x_iast S hw hw7 d_Mo_lay_40 (fun H locs hw => ?_)
      refine lv_iconst (v := 0) S.1 S.2.1 d_Mo_lay_41 (by decide) ?_
      refine lv_istore (lv' := [(4, .int 0), (3, .int 1), (0, .ref a0), (1, .int x1), (2, .int x2)]) S.1 S.2.1 d_Mo_lay_42 hl (by decide) rfl (fun ls hl => ?_)
      exact w_Mo_lay_44 S hr hlocks  _ _ _ _ _ _ _ _ _ hw (lv_sub hl [2, 3, 1, 0] rfl) hf
    · replace hf := xf c1 hf
      refine lv_aload_n S.1 S.2.1 d_Mo_lay_7 rfl (lv_at hl 0 rfl) ?_
      obtain ⟨t8, ht8, hf⟩ := xb hf
      refine x_getr S hw lk_Mo_147 ht8 d_Mo_lay_8 ?_
      refine lv_iload_n S.1 S.2.1 d_Mo_lay_11 rfl (lv_at hl 3 rfl) ?_
      refine lv_iconst (v := (-1)) S.1 S.2.1 d_Mo_lay_12 (by decide) ?_
      obtain ⟨w9, hw9, hf⟩ := xb hf
      refine x_iast S hw hw9 d_Mo_lay_13 (fun H locs hw => ?_)
      refine lv_iinc (v := (x3 + 1)) (lv' := [(3, .int (x3 + 1)), (0, .ref a0), (1, .int x1), (2, .int x2)]) S.1 S.2.1 d_Mo_lay_14 hl (k := 3) rfl rfl (by decide) rfl (fun ls hl => ?_)
      refine lv_goto (tgt := 2) S.1 S.2.1 d_Mo_lay_17 (by decide) ?_
      exact ih _ _ _ _ _ _ _ _ hw (lv_sub hl [1, 2, 3, 0] rfl) hf
def f_Mo_lay (a0 : Nat) (x1 : Int32) (x2 : Int32) (ω : xS) : Option xS :=
  f_Mo_lay_2  xFU a0 x1 x2 0 ω
set_option maxHeartbeats 4000000 in
set_option maxRecDepth 100000 in
theorem c_Mo_lay {l : Launch} {E : xV} {z : Nat} {a0 : Nat} {x1 : Int32} {x2 : Int32} {ω1 : xS} {ω : xS} (hf : f_Mo_lay a0 x1 x2 ω = some ω1) : xM l E y_Mo_lay ws_Mo_lay { frames := 1, cells := 0, slots := 0, locals := 22 } [.ref a0, .int x1, .int x2] z ω none z ω1 := by
  refine x_start (cc := b_Mo_lay) (maxL := 8) (ret := none) (by decide) rfl (Nat.le_of_ble_eq_true rfl) ?_
  intro p e s m below meth c S hr hlocks hin ls hl hw
  have hl : lv_has ls 8 [(0, .ref a0), (1, .int x1), (2, .int x2)] := hl
  unfold f_Mo_lay at hf
  refine lv_iconst (v := 0) S.1 S.2.1 d_Mo_lay_0 (by decide) ?_
  refine lv_istore_n (lv' := [(3, .int 0), (0, .ref a0), (1, .int x1), (2, .int x2)]) S.1 S.2.1 d_Mo_lay_1 rfl hl (by decide) rfl (fun ls hl => ?_)
  exact w_Mo_lay_2 S hr hlocks  _ _ _ _ _ _ _ _ _ hw (lv_sub hl [1, 2, 3, 0] rfl) hf
def f_Mo_automaton_175 : Nat → Nat → Int32 → Int32 → Int32 → Int32 → xS → Option xS
  | 0, _, _, _, _, _, _ => none
  | n + 1, a0, x1, x2, x3, x4, ω =>
    if x3 = x4 then (
      (xk ω a0 12 (f_Mo_lay a0 x1 x2 ω)).bind fun w21 =>
      some w21)
    else (
      xc (xk ω a0 12 (f_Mo_refine a0 x2 ω)) fun t23 w24 =>
      f_Mo_automaton_175  n a0 x1 x2 t23 x3 w24)
set_option maxHeartbeats 4000000 in
set_option maxRecDepth 100000 in
theorem w_Mo_automaton_175 {p : Program} {l : Launch} {e : Env} {s : State} {m : MethodId} {args : Array Value} {below : List Frame} {meth : Method} {c : Code} {E : xV} {z : Nat} {ω1 : xS} (S : CallFix p m c b_Mo_automaton 6 s args xTbl "RosterRulesModel") (hr : meth.sig.returnType = none) (hlocks : meth.locks = false) : ∀ n : Nat, ∀ (a0 : Nat) (x1 : Int32) (x2 : Int32) (x3 : Int32) (x4 : Int32) (ω : xS) (H : Heap) (locs : List Loc) (ls : Array Slot), xW E z ω s s.heap H locs → lv_has ls 6 [(0, .ref a0), (1, .int x1), (2, .int x2), (3, .int x3), (4, .int x4)] → f_Mo_automaton_175 n a0 x1 x2 x3 x4 ω = some ω1 → W p l e (headSpec ws_Mo_automaton { frames := 2, cells := 0, slots := 0, locals := 49 }).room s m args below meth c H locs 0 0 (MQ below (xQ E none z ω1) args s 0 0 (fun q => E.2.2 ≤ q)) (F0 m 175 ls []) := by
  intro n
  induction n with
  | zero =>
    intro a0 x1 x2 x3 x4 ω H locs ls hw hl hf
    have h2 : (none : Option xS) = some ω1 := hf
    cases h2
  | succ n ih =>
    intro a0 x1 x2 x3 x4 ω H locs ls hw hl hf
    rw [f_Mo_automaton_175] at hf
    refine lv_iload_n S.1 S.2.1 d_Mo_automaton_175 rfl (lv_at hl 3 rfl) ?_
    refine lv_iload S.1 S.2.1 d_Mo_automaton_176 (lv_at hl 4 rfl) ?_
    refine lv_icmp_eq (tgt := 193) S.1 S.2.1 d_Mo_automaton_178 (by decide) (fun c18 => ?_) (fun c18 => ?_)
    · replace hf := xt c18 hf
      refine lv_aload_n S.1 S.2.1 d_Mo_automaton_193 rfl (lv_at hl 0 rfl) ?_
      refine lv_iload_n S.1 S.2.1 d_Mo_automaton_194 rfl (lv_at hl 1 rfl) ?_
      refine lv_iload_n S.1 S.2.1 d_Mo_automaton_195 rfl (lv_at hl 2 rfl) ?_
      obtain ⟨w21, h19, hf⟩ := xb hf
      obtain ⟨h19b, h19⟩ := xkb h19
      refine x_callV (As := [.int x1, .int x2]) (rest := []) (st1 := []) S hw (c_Mo_lay h19) (cwV 2 S.2.2.2.2 gv_Mo_341 rfl rfl rfl hd_Mo_lay ⟨Nat.le_of_ble_eq_true rfl, Nat.le_of_ble_eq_true rfl⟩) rfl h19b rfl hl.1 rfl rfl (Nat.le_of_ble_eq_true rfl) d_Mo_automaton_196 ⟨Nat.le_of_ble_eq_true rfl, Nat.le_of_ble_eq_true rfl⟩ (fun H locs hw => ?_)
      cases hf
      exact x_vret S hr hlocks hw d_Mo_automaton_199
    · replace hf := xf c18 hf
      refine lv_iload_n S.1 S.2.1 d_Mo_automaton_181 rfl (lv_at hl 3 rfl) ?_
      refine lv_istore (lv' := [(4, .int x3), (0, .ref a0), (1, .int x1), (2, .int x2), (3, .int x3)]) S.1 S.2.1 d_Mo_automaton_182 hl (by decide) rfl (fun ls hl => ?_)
      refine lv_aload_n S.1 S.2.1 d_Mo_automaton_184 rfl (lv_at hl 1 rfl) ?_
      refine lv_iload_n S.1 S.2.1 d_Mo_automaton_185 rfl (lv_at hl 3 rfl) ?_
      obtain ⟨t23, w24, h22, hf⟩ := xcb hf
      obtain ⟨h22b, h22⟩ := xkb h22
      refine x_callV (As := [.int x2]) (rest := []) (st1 := [.int t23]) S hw (c_Mo_refine h22) (cwV 1 S.2.2.2.2 gv_Mo_338 rfl rfl rfl hd_Mo_refine ⟨Nat.le_of_ble_eq_true rfl, Nat.le_of_ble_eq_true rfl⟩) rfl h22b rfl hl.1 rfl rfl (Nat.le_of_ble_eq_true rfl) d_Mo_automaton_186 ⟨Nat.le_of_ble_eq_true rfl, Nat.le_of_ble_eq_true rfl⟩ (fun H locs hw => ?_)
      refine lv_istore_n (lv' := [(3, .int t23), (4, .int x3), (0, .ref a0), (1, .int x1), (2, .int x2)]) S.1 S.2.1 d_Mo_automaton_189 rfl hl (by decide) rfl (fun ls hl => ?_)
      refine lv_goto (tgt := 175) S.1 S.2.1 d_Mo_automaton_190 (by decide) ?_
      exact ih _ _ _ _ _ _ _ _ _ hw (lv_sub hl [2, 3, 4, 0, 1] rfl) hf
def f_Mo_automaton_134 : Nat → Nat → Int32 → Int32 → Int32 → xS → Option xS
  | 0, _, _, _, _, _ => none
  | n + 1, a0, x1, x2, x3, ω =>
    if x2 ≤ x3 then (
      f_Mo_automaton_175  xFU a0 x1 x2 0 (-1) ω)
    else (
      (xgr ω a0 12 59).bind fun t10 =>
      (xgr ω a0 12 56).bind fun t11 =>
      (xai ω t11 x3).bind fun t12 =>
      (xk ω a0 12 (f_Mo_isEnd a0 x1 t12 ω)).bind fun t14 =>
      if t14 = 0 then (
        (xsi ω t10 x3 0).bind fun w16 =>
        f_Mo_automaton_134  n a0 x1 x2 (x3 + 1) w16)
      else (
        (xsi ω t10 x3 1).bind fun w17 =>
        f_Mo_automaton_134  n a0 x1 x2 (x3 + 1) w17))
set_option maxHeartbeats 4000000 in
set_option maxRecDepth 100000 in
theorem w_Mo_automaton_134 {p : Program} {l : Launch} {e : Env} {s : State} {m : MethodId} {args : Array Value} {below : List Frame} {meth : Method} {c : Code} {E : xV} {z : Nat} {ω1 : xS} (S : CallFix p m c b_Mo_automaton 6 s args xTbl "RosterRulesModel") (hr : meth.sig.returnType = none) (hlocks : meth.locks = false) : ∀ n : Nat, ∀ (a0 : Nat) (x1 : Int32) (x2 : Int32) (x3 : Int32) (ω : xS) (H : Heap) (locs : List Loc) (ls : Array Slot), xW E z ω s s.heap H locs → lv_has ls 6 [(0, .ref a0), (1, .int x1), (2, .int x2), (3, .int x3)] → f_Mo_automaton_134 n a0 x1 x2 x3 ω = some ω1 → W p l e (headSpec ws_Mo_automaton { frames := 2, cells := 0, slots := 0, locals := 49 }).room s m args below meth c H locs 0 0 (MQ below (xQ E none z ω1) args s 0 0 (fun q => E.2.2 ≤ q)) (F0 m 134 ls []) := by
  intro n
  induction n with
  | zero =>
    intro a0 x1 x2 x3 ω H locs ls hw hl hf
    have h2 : (none : Option xS) = some ω1 := hf
    cases h2
  | succ n ih =>
    intro a0 x1 x2 x3 ω H locs ls hw hl hf
    rw [f_Mo_automaton_134] at hf
    refine lv_iload_n S.1 S.2.1 d_Mo_automaton_134 rfl (lv_at hl 3 rfl) ?_
    refine lv_iload_n S.1 S.2.1 d_Mo_automaton_135 rfl (lv_at hl 2 rfl) ?_
    refine lv_icmp_ge (tgt := 170) S.1 S.2.1 d_Mo_automaton_136 (by decide) (fun c9 => ?_) (fun c9 => ?_)
    · replace hf := xt c9 hf
      refine lv_iconst (v := 0) S.1 S.2.1 d_Mo_automaton_170 (by decide) ?_
      refine lv_istore_n (lv' := [(3, .int 0), (0, .ref a0), (1, .int x1), (2, .int x2)]) S.1 S.2.1 d_Mo_automaton_171 rfl hl (by decide) rfl (fun ls hl => ?_)
      refine lv_iconst (v := (-1)) S.1 S.2.1 d_Mo_automaton_172 (by decide) ?_
      refine lv_istore (lv' := [(4, .int (-1)), (3, .int 0), (0, .ref a0), (1, .int x1), (2, .int x2)]) S.1 S.2.1 d_Mo_automaton_173 hl (by decide) rfl (fun ls hl => ?_)
      exact w_Mo_automaton_175 S hr hlocks  _ _ _ _ _ _ _ _ _ _ hw (lv_sub hl [2, 3, 4, 1, 0] rfl) hf
    · replace hf := xf c9 hf
      refine lv_aload_n S.1 S.2.1 d_Mo_automaton_139 rfl (lv_at hl 0 rfl) ?_
      obtain ⟨t10, ht10, hf⟩ := xb hf
      refine x_getr S hw lk_Mo_138 ht10 d_Mo_automaton_140 ?_
      refine lv_iload_n S.1 S.2.1 d_Mo_automaton_143 rfl (lv_at hl 3 rfl) ?_
      refine lv_aload_n S.1 S.2.1 d_Mo_automaton_144 rfl (lv_at hl 0 rfl) ?_
      refine lv_iload_n S.1 S.2.1 d_Mo_automaton_145 rfl (lv_at hl 1 rfl) ?_
      refine lv_aload_n S.1 S.2.1 d_Mo_automaton_146 rfl (lv_at hl 0 rfl) ?_
      obtain ⟨t11, ht11, hf⟩ := xb hf
      refine x_getr S hw lk_Mo_129 ht11 d_Mo_automaton_147 ?_
      refine lv_iload_n S.1 S.2.1 d_Mo_automaton_150 rfl (lv_at hl 3 rfl) ?_
      obtain ⟨t12, ht12, hf⟩ := xb hf
      refine x_iald S hw ht12 d_Mo_automaton_151 ?_
      obtain ⟨t14, h13, hf⟩ := xb hf
      obtain ⟨h13b, h13⟩ := xkb h13
      refine x_callV (As := [.int x1, .int t12]) (rest := [.int x3, .ref t10]) (st1 := [.int t14, .int x3, .ref t10]) S hw (c_Mo_isEnd h13) (cwV 2 S.2.2.2.2 gv_Mo_335 rfl rfl rfl hd_Mo_isEnd ⟨Nat.le_of_ble_eq_true rfl, Nat.le_of_ble_eq_true rfl⟩) rfl h13b rfl hl.1 rfl rfl (Nat.le_of_ble_eq_true rfl) d_Mo_automaton_152 ⟨Nat.le_of_ble_eq_true rfl, Nat.le_of_ble_eq_true rfl⟩ (fun H locs hw => ?_)
      refine lv_if_eq (tgt := 162) S.1 S.2.1 d_Mo_automaton_155 (by decide) (fun c15 => ?_) (fun c15 => ?_)
      · replace hf := xt c15 hf
        refine lv_iconst (v := 0) S.1 S.2.1 d_Mo_automaton_162 (by decide) ?_
        obtain ⟨w16, hw16, hf⟩ := xb hf
        refine x_iast S hw hw16 d_Mo_automaton_163 (fun H locs hw => ?_)
        refine lv_iinc (v := (x3 + 1)) (lv' := [(3, .int (x3 + 1)), (0, .ref a0), (1, .int x1), (2, .int x2)]) S.1 S.2.1 d_Mo_automaton_164 hl (k := 3) rfl rfl (by decide) rfl (fun ls hl => ?_)
        refine lv_goto (tgt := 134) S.1 S.2.1 d_Mo_automaton_167 (by decide) ?_
        exact ih _ _ _ _ _ _ _ _ hw (lv_sub hl [1, 2, 3, 0] rfl) hf
      · replace hf := xf c15 hf
        refine lv_iconst (v := 1) S.1 S.2.1 d_Mo_automaton_158 (by decide) ?_
        refine lv_goto (tgt := 163) S.1 S.2.1 d_Mo_automaton_159 (by decide) ?_
        obtain ⟨w17, hw17, hf⟩ := xb hf
        refine x_iast S hw hw17 d_Mo_automaton_163 (fun H locs hw => ?_)
        refine lv_iinc (v := (x3 + 1)) (lv' := [(3, .int (x3 + 1)), (0, .ref a0), (1, .int x1), (2, .int x2)]) S.1 S.2.1 d_Mo_automaton_164 hl (k := 3) rfl rfl (by decide) rfl (fun ls hl => ?_)
        refine lv_goto (tgt := 134) S.1 S.2.1 d_Mo_automaton_167 (by decide) ?_
        exact ih _ _ _ _ _ _ _ _ hw (lv_sub hl [1, 2, 3, 0] rfl) hf
def f_Mo_automaton_52 (k44 : Nat → Int32 → Int32 → Int32 → xS → Option xS) : Nat → Nat → Int32 → Int32 → Int32 → Int32 → xS → Option xS
  | 0, _, _, _, _, _, _ => none
  | n + 1, a0, x1, x2, x3, x4, ω =>
    if 9 ≤ x4 then (
      k44 a0 x1 x2 (x3 + 1) ω)
    else (
      (xgr ω a0 12 56).bind fun t26 =>
      (xai ω t26 x3).bind fun t27 =>
      (xk ω a0 12 (f_Mo_lead a0 x1 t27 x4 ω)).bind fun t29 =>
      (xk ω a0 12 (f_Mo_idOf a0 t29 ω)).bind fun t31 =>
      if 0 ≤ t31 then (
        (xgr ω a0 12 58).bind fun t33 =>
        (xk ω a0 12 (f_Mo_idOf a0 t29 ω)).bind fun t35 =>
        (xsi ω t33 ((9 * x3) + x4) t35).bind fun w36 =>
        f_Mo_automaton_52 k44 n a0 x1 x2 x3 (x4 + 1) w36)
      else (
        (xgr ω a0 12 57).bind fun t37 =>
        (xsi ω t37 t29 x2).bind fun w38 =>
        (xgr w38 a0 12 56).bind fun t39 =>
        (xsi w38 t39 x2 t29).bind fun w40 =>
        (xgr w40 a0 12 58).bind fun t41 =>
        (xk w40 a0 12 (f_Mo_idOf a0 t29 w40)).bind fun t43 =>
        (xsi w40 t41 ((9 * x3) + x4) t43).bind fun w44 =>
        f_Mo_automaton_52 k44 n a0 x1 (x2 + 1) x3 (x4 + 1) w44))
set_option maxHeartbeats 4000000 in
set_option maxRecDepth 100000 in
theorem w_Mo_automaton_52 {p : Program} {l : Launch} {e : Env} {s : State} {m : MethodId} {args : Array Value} {below : List Frame} {meth : Method} {c : Code} {E : xV} {z : Nat} {ω1 : xS} {k44 : Nat → Int32 → Int32 → Int32 → xS → Option xS} (S : CallFix p m c b_Mo_automaton 6 s args xTbl "RosterRulesModel") (hr : meth.sig.returnType = none) (hlocks : meth.locks = false) (hk44 : ∀ (a0 : Nat) (x1 : Int32) (x2 : Int32) (x3 : Int32) (ω : xS) (H : Heap) (locs : List Loc) (ls : Array Slot), xW E z ω s s.heap H locs → lv_has ls 6 [(0, .ref a0), (1, .int x1), (2, .int x2), (3, .int x3)] → k44 a0 x1 x2 x3 ω = some ω1 → W p l e (headSpec ws_Mo_automaton { frames := 2, cells := 0, slots := 0, locals := 49 }).room s m args below meth c H locs 0 0 (MQ below (xQ E none z ω1) args s 0 0 (fun q => E.2.2 ≤ q)) (F0 m 44 ls [])) : ∀ n : Nat, ∀ (a0 : Nat) (x1 : Int32) (x2 : Int32) (x3 : Int32) (x4 : Int32) (ω : xS) (H : Heap) (locs : List Loc) (ls : Array Slot), xW E z ω s s.heap H locs → lv_has ls 6 [(0, .ref a0), (1, .int x1), (2, .int x2), (3, .int x3), (4, .int x4)] → f_Mo_automaton_52 k44 n a0 x1 x2 x3 x4 ω = some ω1 → W p l e (headSpec ws_Mo_automaton { frames := 2, cells := 0, slots := 0, locals := 49 }).room s m args below meth c H locs 0 0 (MQ below (xQ E none z ω1) args s 0 0 (fun q => E.2.2 ≤ q)) (F0 m 52 ls []) := by
  intro n
  induction n with
  | zero =>
    intro a0 x1 x2 x3 x4 ω H locs ls hw hl hf
    have h2 : (none : Option xS) = some ω1 := hf
    cases h2
  | succ n ih =>
    intro a0 x1 x2 x3 x4 ω H locs ls hw hl hf
    rw [f_Mo_automaton_52] at hf
    refine lv_iload S.1 S.2.1 d_Mo_automaton_52 (lv_at hl 4 rfl) ?_
    refine lv_bipush (v := 9) S.1 S.2.1 d_Mo_automaton_54 (by decide) ?_
    refine lv_icmp_ge (tgt := 126) S.1 S.2.1 d_Mo_automaton_56 (by decide) (fun c25 => ?_) (fun c25 => ?_)
    · replace hf := xt c25 hf
      refine lv_iinc (v := (x3 + 1)) (lv' := [(3, .int (x3 + 1)), (0, .ref a0), (1, .int x1), (2, .int x2), (4, .int x4)]) S.1 S.2.1 d_Mo_automaton_126 hl (k := 3) rfl rfl (by decide) rfl (fun ls hl => ?_)
      refine lv_goto (tgt := 44) S.1 S.2.1 d_Mo_automaton_129 (by decide) ?_
      exact hk44 _ _ _ _ _ _ _ _ hw (lv_sub hl [1, 2, 3, 0] rfl) hf
    · replace hf := xf c25 hf
      refine lv_aload_n S.1 S.2.1 d_Mo_automaton_59 rfl (lv_at hl 0 rfl) ?_
      refine lv_iload_n S.1 S.2.1 d_Mo_automaton_60 rfl (lv_at hl 1 rfl) ?_
      refine lv_aload_n S.1 S.2.1 d_Mo_automaton_61 rfl (lv_at hl 0 rfl) ?_
      obtain ⟨t26, ht26, hf⟩ := xb hf
      refine x_getr S hw lk_Mo_129 ht26 d_Mo_automaton_62 ?_
      refine lv_iload_n S.1 S.2.1 d_Mo_automaton_65 rfl (lv_at hl 3 rfl) ?_
      obtain ⟨t27, ht27, hf⟩ := xb hf
      refine x_iald S hw ht27 d_Mo_automaton_66 ?_
      refine lv_iload S.1 S.2.1 d_Mo_automaton_67 (lv_at hl 4 rfl) ?_
      obtain ⟨t29, h28, hf⟩ := xb hf
      obtain ⟨h28b, h28⟩ := xkb h28
      refine x_callV (As := [.int x1, .int t27, .int x4]) (rest := []) (st1 := [.int t29]) S hw (c_Mo_lead h28) (cwV 3 S.2.2.2.2 gv_Mo_330 rfl rfl rfl hd_Mo_lead ⟨Nat.le_of_ble_eq_true rfl, Nat.le_of_ble_eq_true rfl⟩) rfl h28b rfl hl.1 rfl rfl (Nat.le_of_ble_eq_true rfl) d_Mo_automaton_69 ⟨Nat.le_of_ble_eq_true rfl, Nat.le_of_ble_eq_true rfl⟩ (fun H locs hw => ?_)
      refine lv_istore (lv' := [(5, .int t29), (0, .ref a0), (1, .int x1), (2, .int x2), (3, .int x3), (4, .int x4)]) S.1 S.2.1 d_Mo_automaton_72 hl (by decide) rfl (fun ls hl => ?_)
      refine lv_aload_n S.1 S.2.1 d_Mo_automaton_74 rfl (lv_at hl 1 rfl) ?_
      refine lv_iload S.1 S.2.1 d_Mo_automaton_75 (lv_at hl 0 rfl) ?_
      obtain ⟨t31, h30, hf⟩ := xb hf
      obtain ⟨h30b, h30⟩ := xkb h30
      refine x_callV (As := [.int t29]) (rest := []) (st1 := [.int t31]) S hw (c_Mo_idOf h30) (cwV 1 S.2.2.2.2 gv_Mo_333 rfl rfl rfl hd_Mo_idOf ⟨Nat.le_of_ble_eq_true rfl, Nat.le_of_ble_eq_true rfl⟩) rfl h30b rfl hl.1 rfl rfl (Nat.le_of_ble_eq_true rfl) d_Mo_automaton_77 ⟨Nat.le_of_ble_eq_true rfl, Nat.le_of_ble_eq_true rfl⟩ (fun H locs hw => ?_)
      refine lv_if_ge (tgt := 102) S.1 S.2.1 d_Mo_automaton_80 (by decide) (fun c32 => ?_) (fun c32 => ?_)
      · replace hf := xt c32 hf
        refine lv_aload_n S.1 S.2.1 d_Mo_automaton_102 rfl (lv_at hl 1 rfl) ?_
        obtain ⟨t33, ht33, hf⟩ := xb hf
        refine x_getr S hw lk_Mo_135 ht33 d_Mo_automaton_103 ?_
        refine lv_bipush (v := 9) S.1 S.2.1 d_Mo_automaton_106 (by decide) ?_
        refine lv_iload_n S.1 S.2.1 d_Mo_automaton_108 rfl (lv_at hl 4 rfl) ?_
        refine lv_imul S.1 S.2.1 d_Mo_automaton_109 ?_
        refine lv_iload S.1 S.2.1 d_Mo_automaton_110 (lv_at hl 5 rfl) ?_
        refine lv_iadd S.1 S.2.1 d_Mo_automaton_112 ?_
        refine lv_aload_n S.1 S.2.1 d_Mo_automaton_113 rfl (lv_at hl 1 rfl) ?_
        refine lv_iload S.1 S.2.1 d_Mo_automaton_114 (lv_at hl 0 rfl) ?_
        obtain ⟨t35, h34, hf⟩ := xb hf
        obtain ⟨h34b, h34⟩ := xkb h34
        refine x_callV (As := [.int t29]) (rest := [.int ((9 * x3) + x4), .ref t33]) (st1 := [.int t35, .int ((9 * x3) + x4), .ref t33]) S hw (c_Mo_idOf h34) (cwV 1 S.2.2.2.2 gv_Mo_333 rfl rfl rfl hd_Mo_idOf ⟨Nat.le_of_ble_eq_true rfl, Nat.le_of_ble_eq_true rfl⟩) rfl h34b rfl hl.1 rfl rfl (Nat.le_of_ble_eq_true rfl) d_Mo_automaton_116 ⟨Nat.le_of_ble_eq_true rfl, Nat.le_of_ble_eq_true rfl⟩ (fun H locs hw => ?_)
        obtain ⟨w36, hw36, hf⟩ := xb hf
        refine x_iast S hw hw36 d_Mo_automaton_119 (fun H locs hw => ?_)
        refine lv_iinc (v := (x4 + 1)) (lv' := [(4, .int (x4 + 1)), (5, .int t29), (0, .ref a0), (1, .int x1), (2, .int x2), (3, .int x3)]) S.1 S.2.1 d_Mo_automaton_120 hl (k := 5) rfl rfl (by decide) rfl (fun ls hl => ?_)
        refine lv_goto (tgt := 52) S.1 S.2.1 d_Mo_automaton_123 (by decide) ?_
        exact ih _ _ _ _ _ _ _ _ _ hw (lv_sub hl [2, 3, 4, 5, 0] rfl) hf
      · replace hf := xf c32 hf
        refine lv_aload_n S.1 S.2.1 d_Mo_automaton_83 rfl (lv_at hl 1 rfl) ?_
        obtain ⟨t37, ht37, hf⟩ := xb hf
        refine x_getr S hw lk_Mo_132 ht37 d_Mo_automaton_84 ?_
        refine lv_iload S.1 S.2.1 d_Mo_automaton_87 (lv_at hl 0 rfl) ?_
        refine lv_iload_n S.1 S.2.1 d_Mo_automaton_89 rfl (lv_at hl 3 rfl) ?_
        obtain ⟨w38, hw38, hf⟩ := xb hf
        refine x_iast S hw hw38 d_Mo_automaton_90 (fun H locs hw => ?_)
        refine lv_aload_n S.1 S.2.1 d_Mo_automaton_91 rfl (lv_at hl 1 rfl) ?_
        obtain ⟨t39, ht39, hf⟩ := xb hf
        refine x_getr S hw lk_Mo_129 ht39 d_Mo_automaton_92 ?_
        refine lv_iload_n S.1 S.2.1 d_Mo_automaton_95 rfl (lv_at hl 3 rfl) ?_
        refine lv_iload S.1 S.2.1 d_Mo_automaton_96 (lv_at hl 0 rfl) ?_
        obtain ⟨w40, hw40, hf⟩ := xb hf
        refine x_iast S hw hw40 d_Mo_automaton_98 (fun H locs hw => ?_)
        refine lv_iinc (v := (x2 + 1)) (lv' := [(2, .int (x2 + 1)), (5, .int t29), (0, .ref a0), (1, .int x1), (3, .int x3), (4, .int x4)]) S.1 S.2.1 d_Mo_automaton_99 hl (k := 3) rfl rfl (by decide) rfl (fun ls hl => ?_)
        refine lv_aload_n S.1 S.2.1 d_Mo_automaton_102 rfl (lv_at hl 2 rfl) ?_
        obtain ⟨t41, ht41, hf⟩ := xb hf
        refine x_getr S hw lk_Mo_135 ht41 d_Mo_automaton_103 ?_
        refine lv_bipush (v := 9) S.1 S.2.1 d_Mo_automaton_106 (by decide) ?_
        refine lv_iload_n S.1 S.2.1 d_Mo_automaton_108 rfl (lv_at hl 4 rfl) ?_
        refine lv_imul S.1 S.2.1 d_Mo_automaton_109 ?_
        refine lv_iload S.1 S.2.1 d_Mo_automaton_110 (lv_at hl 5 rfl) ?_
        refine lv_iadd S.1 S.2.1 d_Mo_automaton_112 ?_
        refine lv_aload_n S.1 S.2.1 d_Mo_automaton_113 rfl (lv_at hl 2 rfl) ?_
        refine lv_iload S.1 S.2.1 d_Mo_automaton_114 (lv_at hl 1 rfl) ?_
        obtain ⟨t43, h42, hf⟩ := xb hf
        obtain ⟨h42b, h42⟩ := xkb h42
        refine x_callV (As := [.int t29]) (rest := [.int ((9 * x3) + x4), .ref t41]) (st1 := [.int t43, .int ((9 * x3) + x4), .ref t41]) S hw (c_Mo_idOf h42) (cwV 1 S.2.2.2.2 gv_Mo_333 rfl rfl rfl hd_Mo_idOf ⟨Nat.le_of_ble_eq_true rfl, Nat.le_of_ble_eq_true rfl⟩) rfl h42b rfl hl.1 rfl rfl (Nat.le_of_ble_eq_true rfl) d_Mo_automaton_116 ⟨Nat.le_of_ble_eq_true rfl, Nat.le_of_ble_eq_true rfl⟩ (fun H locs hw => ?_)
        obtain ⟨w44, hw44, hf⟩ := xb hf
        refine x_iast S hw hw44 d_Mo_automaton_119 (fun H locs hw => ?_)
        refine lv_iinc (v := (x4 + 1)) (lv' := [(4, .int (x4 + 1)), (2, .int (x2 + 1)), (5, .int t29), (0, .ref a0), (1, .int x1), (3, .int x3)]) S.1 S.2.1 d_Mo_automaton_120 hl (k := 5) rfl rfl (by decide) rfl (fun ls hl => ?_)
        refine lv_goto (tgt := 52) S.1 S.2.1 d_Mo_automaton_123 (by decide) ?_
        exact ih _ _ _ _ _ _ _ _ _ hw (lv_sub hl [3, 4, 1, 5, 0] rfl) hf
def f_Mo_automaton_44 : Nat → Nat → Int32 → Int32 → Int32 → xS → Option xS
  | 0, _, _, _, _, _ => none
  | n + 1, a0, x1, x2, x3, ω =>
    if x2 ≤ x3 then (
      f_Mo_automaton_134  xFU a0 x1 x2 0 ω)
    else (
      f_Mo_automaton_52 (f_Mo_automaton_44  n) xFU a0 x1 x2 x3 0 ω)
set_option maxHeartbeats 4000000 in
set_option maxRecDepth 100000 in
theorem w_Mo_automaton_44 {p : Program} {l : Launch} {e : Env} {s : State} {m : MethodId} {args : Array Value} {below : List Frame} {meth : Method} {c : Code} {E : xV} {z : Nat} {ω1 : xS} (S : CallFix p m c b_Mo_automaton 6 s args xTbl "RosterRulesModel") (hr : meth.sig.returnType = none) (hlocks : meth.locks = false) : ∀ n : Nat, ∀ (a0 : Nat) (x1 : Int32) (x2 : Int32) (x3 : Int32) (ω : xS) (H : Heap) (locs : List Loc) (ls : Array Slot), xW E z ω s s.heap H locs → lv_has ls 6 [(0, .ref a0), (1, .int x1), (2, .int x2), (3, .int x3)] → f_Mo_automaton_44 n a0 x1 x2 x3 ω = some ω1 → W p l e (headSpec ws_Mo_automaton { frames := 2, cells := 0, slots := 0, locals := 49 }).room s m args below meth c H locs 0 0 (MQ below (xQ E none z ω1) args s 0 0 (fun q => E.2.2 ≤ q)) (F0 m 44 ls []) := by
  intro n
  induction n with
  | zero =>
    intro a0 x1 x2 x3 ω H locs ls hw hl hf
    have h2 : (none : Option xS) = some ω1 := hf
    cases h2
  | succ n ih =>
    intro a0 x1 x2 x3 ω H locs ls hw hl hf
    rw [f_Mo_automaton_44] at hf
    refine lv_iload_n S.1 S.2.1 d_Mo_automaton_44 rfl (lv_at hl 3 rfl) ?_
    refine lv_iload_n S.1 S.2.1 d_Mo_automaton_45 rfl (lv_at hl 2 rfl) ?_
    refine lv_icmp_ge (tgt := 132) S.1 S.2.1 d_Mo_automaton_46 (by decide) (fun c8 => ?_) (fun c8 => ?_)
    · replace hf := xt c8 hf
      refine lv_iconst (v := 0) S.1 S.2.1 d_Mo_automaton_132 (by decide) ?_
      refine lv_istore_n (lv' := [(3, .int 0), (0, .ref a0), (1, .int x1), (2, .int x2)]) S.1 S.2.1 d_Mo_automaton_133 rfl hl (by decide) rfl (fun ls hl => ?_)
      exact w_Mo_automaton_134 S hr hlocks  _ _ _ _ _ _ _ _ _ hw (lv_sub hl [1, 2, 3, 0] rfl) hf
    · replace hf := xf c8 hf
      refine lv_iconst (v := 0) S.1 S.2.1 d_Mo_automaton_49 (by decide) ?_
      refine lv_istore (lv' := [(4, .int 0), (0, .ref a0), (1, .int x1), (2, .int x2), (3, .int x3)]) S.1 S.2.1 d_Mo_automaton_50 hl (by decide) rfl (fun ls hl => ?_)
      exact w_Mo_automaton_52 S hr hlocks ih _ _ _ _ _ _ _ _ _ _ hw (lv_sub hl [1, 2, 3, 4, 0] rfl) hf
def f_Mo_automaton_2 : Nat → Nat → Int32 → Int32 → xS → Option xS
  | 0, _, _, _, _ => none
  | n + 1, a0, x1, x2, ω =>
    if 1025 ≤ x2 then (
      (xgr ω a0 12 56).bind fun t2 =>
      (xsi ω t2 0 1024).bind fun w3 =>
      (xgr w3 a0 12 57).bind fun t4 =>
      (xsi w3 t4 1024 0).bind fun w5 =>
      f_Mo_automaton_44  xFU a0 x1 1 0 w5)
    else (
      (xgr ω a0 12 57).bind fun t6 =>
      (xsi ω t6 x2 (-1)).bind fun w7 =>
      f_Mo_automaton_2  n a0 x1 (x2 + 1) w7)
set_option maxHeartbeats 4000000 in
set_option maxRecDepth 100000 in
theorem w_Mo_automaton_2 {p : Program} {l : Launch} {e : Env} {s : State} {m : MethodId} {args : Array Value} {below : List Frame} {meth : Method} {c : Code} {E : xV} {z : Nat} {ω1 : xS} (S : CallFix p m c b_Mo_automaton 6 s args xTbl "RosterRulesModel") (hr : meth.sig.returnType = none) (hlocks : meth.locks = false) : ∀ n : Nat, ∀ (a0 : Nat) (x1 : Int32) (x2 : Int32) (ω : xS) (H : Heap) (locs : List Loc) (ls : Array Slot), xW E z ω s s.heap H locs → lv_has ls 6 [(0, .ref a0), (1, .int x1), (2, .int x2)] → f_Mo_automaton_2 n a0 x1 x2 ω = some ω1 → W p l e (headSpec ws_Mo_automaton { frames := 2, cells := 0, slots := 0, locals := 49 }).room s m args below meth c H locs 0 0 (MQ below (xQ E none z ω1) args s 0 0 (fun q => E.2.2 ≤ q)) (F0 m 2 ls []) := by
  intro n
  induction n with
  | zero =>
    intro a0 x1 x2 ω H locs ls hw hl hf
    have h2 : (none : Option xS) = some ω1 := hf
    cases h2
  | succ n ih =>
    intro a0 x1 x2 ω H locs ls hw hl hf
    rw [f_Mo_automaton_2] at hf
    refine lv_iload_n S.1 S.2.1 d_Mo_automaton_2 rfl (lv_at hl 2 rfl) ?_
    refine lv_sipush (v := 1025) S.1 S.2.1 d_Mo_automaton_3 (by decide) ?_
    refine lv_icmp_ge (tgt := 22) S.1 S.2.1 d_Mo_automaton_6 (by decide) (fun c1 => ?_) (fun c1 => ?_)
    · replace hf := xt c1 hf
      refine lv_iconst (v := 1) S.1 S.2.1 d_Mo_automaton_22 (by decide) ?_
      refine lv_istore_n (lv' := [(2, .int 1), (0, .ref a0), (1, .int x1)]) S.1 S.2.1 d_Mo_automaton_23 rfl hl (by decide) rfl (fun ls hl => ?_)
      refine lv_aload_n S.1 S.2.1 d_Mo_automaton_24 rfl (lv_at hl 1 rfl) ?_
      obtain ⟨t2, ht2, hf⟩ := xb hf
      refine x_getr S hw lk_Mo_129 ht2 d_Mo_automaton_25 ?_
      refine lv_iconst (v := 0) S.1 S.2.1 d_Mo_automaton_28 (by decide) ?_
      refine lv_sipush (v := 1024) S.1 S.2.1 d_Mo_automaton_29 (by decide) ?_
      obtain ⟨w3, hw3, hf⟩ := xb hf
      refine x_iast S hw hw3 d_Mo_automaton_32 (fun H locs hw => ?_)
      refine lv_aload_n S.1 S.2.1 d_Mo_automaton_33 rfl (lv_at hl 1 rfl) ?_
      obtain ⟨t4, ht4, hf⟩ := xb hf
      refine x_getr S hw lk_Mo_132 ht4 d_Mo_automaton_34 ?_
      refine lv_sipush (v := 1024) S.1 S.2.1 d_Mo_automaton_37 (by decide) ?_
      refine lv_iconst (v := 0) S.1 S.2.1 d_Mo_automaton_40 (by decide) ?_
      obtain ⟨w5, hw5, hf⟩ := xb hf
      refine x_iast S hw hw5 d_Mo_automaton_41 (fun H locs hw => ?_)
      refine lv_iconst (v := 0) S.1 S.2.1 d_Mo_automaton_42 (by decide) ?_
      refine lv_istore_n (lv' := [(3, .int 0), (2, .int 1), (0, .ref a0), (1, .int x1)]) S.1 S.2.1 d_Mo_automaton_43 rfl hl (by decide) rfl (fun ls hl => ?_)
      exact w_Mo_automaton_44 S hr hlocks  _ _ _ _ _ _ _ _ _ hw (lv_sub hl [2, 3, 1, 0] rfl) hf
    · replace hf := xf c1 hf
      refine lv_aload_n S.1 S.2.1 d_Mo_automaton_9 rfl (lv_at hl 0 rfl) ?_
      obtain ⟨t6, ht6, hf⟩ := xb hf
      refine x_getr S hw lk_Mo_132 ht6 d_Mo_automaton_10 ?_
      refine lv_iload_n S.1 S.2.1 d_Mo_automaton_13 rfl (lv_at hl 2 rfl) ?_
      refine lv_iconst (v := (-1)) S.1 S.2.1 d_Mo_automaton_14 (by decide) ?_
      obtain ⟨w7, hw7, hf⟩ := xb hf
      refine x_iast S hw hw7 d_Mo_automaton_15 (fun H locs hw => ?_)
      refine lv_iinc (v := (x2 + 1)) (lv' := [(2, .int (x2 + 1)), (0, .ref a0), (1, .int x1)]) S.1 S.2.1 d_Mo_automaton_16 hl (k := 2) rfl rfl (by decide) rfl (fun ls hl => ?_)
      refine lv_goto (tgt := 2) S.1 S.2.1 d_Mo_automaton_19 (by decide) ?_
      exact ih _ _ _ _ _ _ _ hw (lv_sub hl [1, 2, 0] rfl) hf
def f_Mo_automaton (a0 : Nat) (x1 : Int32) (ω : xS) : Option xS :=
  f_Mo_automaton_2  xFU a0 x1 0 ω
set_option maxHeartbeats 4000000 in
set_option maxRecDepth 100000 in
theorem c_Mo_automaton {l : Launch} {E : xV} {z : Nat} {a0 : Nat} {x1 : Int32} {ω1 : xS} {ω : xS} (hf : f_Mo_automaton a0 x1 ω = some ω1) : xM l E y_Mo_automaton ws_Mo_automaton { frames := 2, cells := 0, slots := 0, locals := 49 } [.ref a0, .int x1] z ω none z ω1 := by
  refine x_start (cc := b_Mo_automaton) (maxL := 6) (ret := none) (by decide) rfl (Nat.le_of_ble_eq_true rfl) ?_
  intro p e s m below meth c S hr hlocks hin ls hl hw
  have hl : lv_has ls 6 [(0, .ref a0), (1, .int x1)] := hl
  unfold f_Mo_automaton at hf
  refine lv_iconst (v := 0) S.1 S.2.1 d_Mo_automaton_0 (by decide) ?_
  refine lv_istore_n (lv' := [(2, .int 0), (0, .ref a0), (1, .int x1)]) S.1 S.2.1 d_Mo_automaton_1 rfl hl (by decide) rfl (fun ls hl => ?_)
  exact w_Mo_automaton_2 S hr hlocks  _ _ _ _ _ _ _ _ hw (lv_sub hl [1, 2, 0] rfl) hf
def f_Mo_pattern_86 : Nat → Nat → Int32 → Int32 → Int32 → Int32 → xS → Option xS
  | 0, _, _, _, _, _, _ => none
  | n + 1, a0, x1, x2, x3, x5, ω =>
    if 11 ≤ x5 then (
      (xp ω a0 12 42 (.int x2)).bind fun w23 =>
      xc (xk w23 a0 12 (f_Mo_build a0 x3 w23)) fun t25 w26 =>
      (xgr w26 a0 12 22).bind fun t27 =>
      (f_Mo_firstOf t25 w26).bind fun t29 =>
      (xsi w26 t27 ((11 * x1) + 10) t29).bind fun w30 =>
      (xgr w30 a0 12 23).bind fun t31 =>
      (f_Mo_lastOf t25 w30).bind fun t33 =>
      (xsi w30 t31 x1 t33).bind fun w34 =>
      (xgr w34 a0 12 24).bind fun t35 =>
      (f_Mo_noneOf t25 w34).bind fun t37 =>
      (xsz w34 t35 x1 t37).bind fun w38 =>
      (xk w38 a0 12 (f_Mo_automaton a0 x1 w38)).bind fun w41 =>
      some w41)
    else (
      (xgr ω a0 12 22).bind fun t42 =>
      (xsi ω t42 ((11 * x1) + x5) 0).bind fun w43 =>
      f_Mo_pattern_86  n a0 x1 x2 x3 (x5 + 1) w43)
set_option maxHeartbeats 4000000 in
set_option maxRecDepth 100000 in
theorem w_Mo_pattern_86 {p : Program} {l : Launch} {e : Env} {s : State} {m : MethodId} {args : Array Value} {below : List Frame} {meth : Method} {c : Code} {E : xV} {z : Nat} {ω1 : xS} (S : CallFix p m c b_Mo_pattern 7 s args xTbl "RosterRulesModel") (hr : meth.sig.returnType = none) (hlocks : meth.locks = false) : ∀ n : Nat, ∀ (a0 : Nat) (x1 : Int32) (x2 : Int32) (x3 : Int32) (x5 : Int32) (ω : xS) (H : Heap) (locs : List Loc) (ls : Array Slot), xW E z ω s s.heap H locs → lv_has ls 7 [(0, .ref a0), (1, .int x1), (2, .int x2), (3, .int x3), (5, .int x5)] → f_Mo_pattern_86 n a0 x1 x2 x3 x5 ω = some ω1 → W p l e (headSpec ws_Mo_pattern { frames := 5, cells := 0, slots := 0, locals := 117 }).room s m args below meth c H locs 0 0 (MQ below (xQ E none z ω1) args s 0 0 (fun q => E.2.2 ≤ q)) (F0 m 86 ls []) := by
  intro n
  induction n with
  | zero =>
    intro a0 x1 x2 x3 x5 ω H locs ls hw hl hf
    have h2 : (none : Option xS) = some ω1 := hf
    cases h2
  | succ n ih =>
    intro a0 x1 x2 x3 x5 ω H locs ls hw hl hf
    rw [f_Mo_pattern_86] at hf
    refine lv_iload S.1 S.2.1 d_Mo_pattern_86 (lv_at hl 4 rfl) ?_
    refine lv_bipush (v := 11) S.1 S.2.1 d_Mo_pattern_88 (by decide) ?_
    refine lv_icmp_ge (tgt := 112) S.1 S.2.1 d_Mo_pattern_90 (by decide) (fun c22 => ?_) (fun c22 => ?_)
    · replace hf := xt c22 hf
      refine lv_aload_n S.1 S.2.1 d_Mo_pattern_112 rfl (lv_at hl 0 rfl) ?_
      refine lv_iload_n S.1 S.2.1 d_Mo_pattern_113 rfl (lv_at hl 2 rfl) ?_
      obtain ⟨w23, hw23, hf⟩ := xb hf
      refine x_puti S hw lp_Mo_247 hw23 d_Mo_pattern_114 (fun H locs hw => ?_)
      refine lv_aload_n S.1 S.2.1 d_Mo_pattern_117 rfl (lv_at hl 0 rfl) ?_
      refine lv_iload_n S.1 S.2.1 d_Mo_pattern_118 rfl (lv_at hl 3 rfl) ?_
      obtain ⟨t25, w26, h24, hf⟩ := xcb hf
      obtain ⟨h24b, h24⟩ := xkb h24
      refine x_callV (As := [.int x3]) (rest := []) (st1 := [.long t25]) S hw (c_Mo_build h24) (cwV 1 S.2.2.2.2 gv_Mo_259 rfl rfl rfl hd_Mo_build ⟨Nat.le_of_ble_eq_true rfl, Nat.le_of_ble_eq_true rfl⟩) rfl h24b rfl hl.1 rfl rfl (Nat.le_of_ble_eq_true rfl) d_Mo_pattern_119 ⟨Nat.le_of_ble_eq_true rfl, Nat.le_of_ble_eq_true rfl⟩ (fun H locs hw => ?_)
      refine lv_lstore (lv' := [(5, .long t25), (0, .ref a0), (1, .int x1), (2, .int x2), (3, .int x3)]) S.1 S.2.1 d_Mo_pattern_122 hl (by decide) rfl (fun ls hl => ?_)
      refine lv_aload_n S.1 S.2.1 d_Mo_pattern_124 rfl (lv_at hl 1 rfl) ?_
      obtain ⟨t27, ht27, hf⟩ := xb hf
      refine x_getr S hw lk_Mo_66 ht27 d_Mo_pattern_125 ?_
      refine lv_bipush (v := 11) S.1 S.2.1 d_Mo_pattern_128 (by decide) ?_
      refine lv_iload_n S.1 S.2.1 d_Mo_pattern_130 rfl (lv_at hl 2 rfl) ?_
      refine lv_imul S.1 S.2.1 d_Mo_pattern_131 ?_
      refine lv_bipush (v := 10) S.1 S.2.1 d_Mo_pattern_132 (by decide) ?_
      refine lv_iadd S.1 S.2.1 d_Mo_pattern_134 ?_
      refine lv_lload S.1 S.2.1 d_Mo_pattern_135 (lv_at hl 0 rfl) ?_
      obtain ⟨t29, h28, hf⟩ := xb hf
      refine x_callS (As := [.long t25]) (rest := [.int ((11 * x1) + 10), .ref t27]) (st1 := [.int t29, .int ((11 * x1) + 10), .ref t27]) S hw (c_Mo_firstOf h28) (cwS 1 S.2.2.2.2 gs_Mo_263 rfl rfl rfl hd_Mo_firstOf ⟨Nat.le_of_ble_eq_true rfl, Nat.le_of_ble_eq_true rfl⟩) rfl hl.1 rfl rfl (Nat.le_of_ble_eq_true rfl) d_Mo_pattern_137 ⟨Nat.le_of_ble_eq_true rfl, Nat.le_of_ble_eq_true rfl⟩ (fun H locs hw => ?_)
      obtain ⟨w30, hw30, hf⟩ := xb hf
      refine x_iast S hw hw30 d_Mo_pattern_140 (fun H locs hw => ?_)
      refine lv_aload_n S.1 S.2.1 d_Mo_pattern_141 rfl (lv_at hl 1 rfl) ?_
      obtain ⟨t31, ht31, hf⟩ := xb hf
      refine x_getr S hw lk_Mo_69 ht31 d_Mo_pattern_142 ?_
      refine lv_iload_n S.1 S.2.1 d_Mo_pattern_145 rfl (lv_at hl 2 rfl) ?_
      refine lv_lload S.1 S.2.1 d_Mo_pattern_146 (lv_at hl 0 rfl) ?_
      obtain ⟨t33, h32, hf⟩ := xb hf
      refine x_callS (As := [.long t25]) (rest := [.int x1, .ref t31]) (st1 := [.int t33, .int x1, .ref t31]) S hw (c_Mo_lastOf h32) (cwS 1 S.2.2.2.2 gs_Mo_267 rfl rfl rfl hd_Mo_lastOf ⟨Nat.le_of_ble_eq_true rfl, Nat.le_of_ble_eq_true rfl⟩) rfl hl.1 rfl rfl (Nat.le_of_ble_eq_true rfl) d_Mo_pattern_148 ⟨Nat.le_of_ble_eq_true rfl, Nat.le_of_ble_eq_true rfl⟩ (fun H locs hw => ?_)
      obtain ⟨w34, hw34, hf⟩ := xb hf
      refine x_iast S hw hw34 d_Mo_pattern_151 (fun H locs hw => ?_)
      refine lv_aload_n S.1 S.2.1 d_Mo_pattern_152 rfl (lv_at hl 1 rfl) ?_
      obtain ⟨t35, ht35, hf⟩ := xb hf
      refine x_getr S hw lk_Mo_72 ht35 d_Mo_pattern_153 ?_
      refine lv_iload_n S.1 S.2.1 d_Mo_pattern_156 rfl (lv_at hl 2 rfl) ?_
      refine lv_lload S.1 S.2.1 d_Mo_pattern_157 (lv_at hl 0 rfl) ?_
      obtain ⟨t37, h36, hf⟩ := xb hf
      refine x_callS (As := [.long t25]) (rest := [.int x1, .ref t35]) (st1 := [.int t37, .int x1, .ref t35]) S hw (c_Mo_noneOf h36) (cwS 1 S.2.2.2.2 gs_Mo_270 rfl rfl rfl hd_Mo_noneOf ⟨Nat.le_of_ble_eq_true rfl, Nat.le_of_ble_eq_true rfl⟩) rfl hl.1 rfl rfl (Nat.le_of_ble_eq_true rfl) d_Mo_pattern_159 ⟨Nat.le_of_ble_eq_true rfl, Nat.le_of_ble_eq_true rfl⟩ (fun H locs hw => ?_)
      obtain ⟨w38, hw38, hf⟩ := xb hf
      refine x_zast S hw hw38 d_Mo_pattern_162 (fun H locs hw => ?_)
      refine lv_aload_n S.1 S.2.1 d_Mo_pattern_163 rfl (lv_at hl 1 rfl) ?_
      refine lv_iload_n S.1 S.2.1 d_Mo_pattern_164 rfl (lv_at hl 2 rfl) ?_
      obtain ⟨w41, h39, hf⟩ := xb hf
      obtain ⟨h39b, h39⟩ := xkb h39
      refine x_callV (As := [.int x1]) (rest := []) (st1 := []) S hw (c_Mo_automaton h39) (cwV 1 S.2.2.2.2 gv_Mo_274 rfl rfl rfl hd_Mo_automaton ⟨Nat.le_of_ble_eq_true rfl, Nat.le_of_ble_eq_true rfl⟩) rfl h39b rfl hl.1 rfl rfl (Nat.le_of_ble_eq_true rfl) d_Mo_pattern_165 ⟨Nat.le_of_ble_eq_true rfl, Nat.le_of_ble_eq_true rfl⟩ (fun H locs hw => ?_)
      cases hf
      exact x_vret S hr hlocks hw d_Mo_pattern_168
    · replace hf := xf c22 hf
      refine lv_aload_n S.1 S.2.1 d_Mo_pattern_93 rfl (lv_at hl 0 rfl) ?_
      obtain ⟨t42, ht42, hf⟩ := xb hf
      refine x_getr S hw lk_Mo_66 ht42 d_Mo_pattern_94 ?_
      refine lv_bipush (v := 11) S.1 S.2.1 d_Mo_pattern_97 (by decide) ?_
      refine lv_iload_n S.1 S.2.1 d_Mo_pattern_99 rfl (lv_at hl 1 rfl) ?_
      refine lv_imul S.1 S.2.1 d_Mo_pattern_100 ?_
      refine lv_iload S.1 S.2.1 d_Mo_pattern_101 (lv_at hl 4 rfl) ?_
      refine lv_iadd S.1 S.2.1 d_Mo_pattern_103 ?_
      refine lv_iconst (v := 0) S.1 S.2.1 d_Mo_pattern_104 (by decide) ?_
      obtain ⟨w43, hw43, hf⟩ := xb hf
      refine x_iast S hw hw43 d_Mo_pattern_105 (fun H locs hw => ?_)
      refine lv_iinc (v := (x5 + 1)) (lv' := [(5, .int (x5 + 1)), (0, .ref a0), (1, .int x1), (2, .int x2), (3, .int x3)]) S.1 S.2.1 d_Mo_pattern_106 hl (k := 4) rfl rfl (by decide) rfl (fun ls hl => ?_)
      refine lv_goto (tgt := 86) S.1 S.2.1 d_Mo_pattern_109 (by decide) ?_
      exact ih _ _ _ _ _ _ _ _ _ hw (lv_sub hl [1, 2, 3, 4, 0] rfl) hf
def f_Mo_pattern_50 (a0 : Nat) (x1 : Int32) (x2 : Int32) (x3 : Int32) (x4 : Int32) (ω : xS) : Option xS :=
  (xgi ω a0 12 39).bind fun t14 =>
  if t14 = 0 then (
    (xgi ω a0 12 41).bind fun t16 =>
    if t16 = 0 then (
      some ω)
    else (
      (xgr ω a0 12 25).bind fun t18 =>
      (xsi ω t18 x1 x4).bind fun w19 =>
      (xp w19 a0 12 44 (.int x1)).bind fun w20 =>
      (xp w20 a0 12 43 (.int 0)).bind fun w21 =>
      f_Mo_pattern_86  xFU a0 x1 x2 x3 0 w21))
  else (
    some ω)
set_option maxHeartbeats 4000000 in
set_option maxRecDepth 100000 in
theorem w_Mo_pattern_50 {p : Program} {l : Launch} {e : Env} {s : State} {m : MethodId} {args : Array Value} {below : List Frame} {meth : Method} {c : Code} {E : xV} {z : Nat} {ω1 : xS} (S : CallFix p m c b_Mo_pattern 7 s args xTbl "RosterRulesModel") (hr : meth.sig.returnType = none) (hlocks : meth.locks = false) : ∀ (a0 : Nat) (x1 : Int32) (x2 : Int32) (x3 : Int32) (x4 : Int32) (ω : xS) (H : Heap) (locs : List Loc) (ls : Array Slot), xW E z ω s s.heap H locs → lv_has ls 7 [(0, .ref a0), (1, .int x1), (2, .int x2), (3, .int x3), (4, .int x4)] → f_Mo_pattern_50 a0 x1 x2 x3 x4 ω = some ω1 → W p l e (headSpec ws_Mo_pattern { frames := 5, cells := 0, slots := 0, locals := 117 }).room s m args below meth c H locs 0 0 (MQ below (xQ E none z ω1) args s 0 0 (fun q => E.2.2 ≤ q)) (F0 m 50 ls []) := by
  intro a0 x1 x2 x3 x4 ω H locs ls hw hl hf
  unfold f_Mo_pattern_50 at hf
  refine lv_aload_n S.1 S.2.1 d_Mo_pattern_50 rfl (lv_at hl 0 rfl) ?_
  obtain ⟨t14, ht14, hf⟩ := xb hf
  refine x_geti S hw lk_Mo_172 ht14 d_Mo_pattern_51 ?_
  refine lv_if_ne (tgt := 64) S.1 S.2.1 d_Mo_pattern_54 (by decide) (fun c15 => ?_) (fun c15 => ?_)
  · replace hf := xf c15 hf
    cases hf
    exact x_vret S hr hlocks hw d_Mo_pattern_64
  · replace hf := xt c15 hf
    refine lv_aload_n S.1 S.2.1 d_Mo_pattern_57 rfl (lv_at hl 0 rfl) ?_
    obtain ⟨t16, ht16, hf⟩ := xb hf
    refine x_geti S hw lk_Mo_212 ht16 d_Mo_pattern_58 ?_
    refine lv_if_ne (tgt := 65) S.1 S.2.1 d_Mo_pattern_61 (by decide) (fun c17 => ?_) (fun c17 => ?_)
    · replace hf := xf c17 hf
      refine lv_aload_n S.1 S.2.1 d_Mo_pattern_65 rfl (lv_at hl 0 rfl) ?_
      obtain ⟨t18, ht18, hf⟩ := xb hf
      refine x_getr S hw lk_Mo_76 ht18 d_Mo_pattern_66 ?_
      refine lv_iload_n S.1 S.2.1 d_Mo_pattern_69 rfl (lv_at hl 1 rfl) ?_
      refine lv_iload S.1 S.2.1 d_Mo_pattern_70 (lv_at hl 4 rfl) ?_
      obtain ⟨w19, hw19, hf⟩ := xb hf
      refine x_iast S hw hw19 d_Mo_pattern_72 (fun H locs hw => ?_)
      refine lv_aload_n S.1 S.2.1 d_Mo_pattern_73 rfl (lv_at hl 0 rfl) ?_
      refine lv_iload_n S.1 S.2.1 d_Mo_pattern_74 rfl (lv_at hl 1 rfl) ?_
      obtain ⟨w20, hw20, hf⟩ := xb hf
      refine x_puti S hw lp_Mo_253 hw20 d_Mo_pattern_75 (fun H locs hw => ?_)
      refine lv_aload_n S.1 S.2.1 d_Mo_pattern_78 rfl (lv_at hl 0 rfl) ?_
      refine lv_iconst (v := 0) S.1 S.2.1 d_Mo_pattern_79 (by decide) ?_
      obtain ⟨w21, hw21, hf⟩ := xb hf
      refine x_puti S hw lp_Mo_256 hw21 d_Mo_pattern_80 (fun H locs hw => ?_)
      refine lv_iconst (v := 0) S.1 S.2.1 d_Mo_pattern_83 (by decide) ?_
      refine lv_istore (lv' := [(5, .int 0), (0, .ref a0), (1, .int x1), (2, .int x2), (3, .int x3), (4, .int x4)]) S.1 S.2.1 d_Mo_pattern_84 hl (by decide) rfl (fun ls hl => ?_)
      exact w_Mo_pattern_86 S hr hlocks  _ _ _ _ _ _ _ _ _ _ hw (lv_sub hl [1, 2, 3, 4, 0] rfl) hf
    · replace hf := xt c17 hf
      cases hf
      exact x_vret S hr hlocks hw d_Mo_pattern_64
def f_Mo_pattern (a0 : Nat) (x1 : Int32) (ω : xS) : Option xS :=
  (xgi ω a0 12 36).bind fun t1 =>
  (xgi ω a0 12 37).bind fun t2 =>
  (xp ω a0 12 42 (.int (t1 + 1))).bind fun w3 =>
  xc (xk w3 a0 12 (f_Mo_check a0 (t2 - 1) w3)) fun t5 w6 =>
  (xgi w6 a0 12 39).bind fun t7 =>
  if t7 = 0 then (
    if t5 ≤ 10 then (
      f_Mo_pattern_50  a0 x1 (t1 + 1) (t2 - 1) t5 w6)
    else (
      (xgi w6 a0 12 36).bind fun t10 =>
      xc (xk w6 a0 12 (f_Mo_fails a0 3 t10 w6)) fun t12 w13 =>
      f_Mo_pattern_50  a0 x1 (t1 + 1) (t2 - 1) t5 w13))
  else (
    f_Mo_pattern_50  a0 x1 (t1 + 1) (t2 - 1) t5 w6)
set_option maxHeartbeats 4000000 in
set_option maxRecDepth 100000 in
theorem c_Mo_pattern {l : Launch} {E : xV} {z : Nat} {a0 : Nat} {x1 : Int32} {ω1 : xS} {ω : xS} (hf : f_Mo_pattern a0 x1 ω = some ω1) : xM l E y_Mo_pattern ws_Mo_pattern { frames := 5, cells := 0, slots := 0, locals := 117 } [.ref a0, .int x1] z ω none z ω1 := by
  refine x_start (cc := b_Mo_pattern) (maxL := 7) (ret := none) (by decide) rfl (Nat.le_of_ble_eq_true rfl) ?_
  intro p e s m below meth c S hr hlocks hin ls hl hw
  have hl : lv_has ls 7 [(0, .ref a0), (1, .int x1)] := hl
  unfold f_Mo_pattern at hf
  refine lv_aload_n S.1 S.2.1 d_Mo_pattern_0 rfl (lv_at hl 0 rfl) ?_
  obtain ⟨t1, ht1, hf⟩ := xb hf
  refine x_geti S hw lk_Mo_185 ht1 d_Mo_pattern_1 ?_
  refine lv_iconst (v := 1) S.1 S.2.1 d_Mo_pattern_4 (by decide) ?_
  refine lv_iadd S.1 S.2.1 d_Mo_pattern_5 ?_
  refine lv_istore_n (lv' := [(2, .int (t1 + 1)), (0, .ref a0), (1, .int x1)]) S.1 S.2.1 d_Mo_pattern_6 rfl hl (by decide) rfl (fun ls hl => ?_)
  refine lv_aload_n S.1 S.2.1 d_Mo_pattern_7 rfl (lv_at hl 1 rfl) ?_
  obtain ⟨t2, ht2, hf⟩ := xb hf
  refine x_geti S hw lk_Mo_205 ht2 d_Mo_pattern_8 ?_
  refine lv_iconst (v := 1) S.1 S.2.1 d_Mo_pattern_11 (by decide) ?_
  refine lv_isub S.1 S.2.1 d_Mo_pattern_12 ?_
  refine lv_istore_n (lv' := [(3, .int (t2 - 1)), (2, .int (t1 + 1)), (0, .ref a0), (1, .int x1)]) S.1 S.2.1 d_Mo_pattern_13 rfl hl (by decide) rfl (fun ls hl => ?_)
  refine lv_aload_n S.1 S.2.1 d_Mo_pattern_14 rfl (lv_at hl 2 rfl) ?_
  refine lv_iload_n S.1 S.2.1 d_Mo_pattern_15 rfl (lv_at hl 1 rfl) ?_
  obtain ⟨w3, hw3, hf⟩ := xb hf
  refine x_puti S hw lp_Mo_247 hw3 d_Mo_pattern_16 (fun H locs hw => ?_)
  refine lv_aload_n S.1 S.2.1 d_Mo_pattern_19 rfl (lv_at hl 2 rfl) ?_
  refine lv_iload_n S.1 S.2.1 d_Mo_pattern_20 rfl (lv_at hl 0 rfl) ?_
  obtain ⟨t5, w6, h4, hf⟩ := xcb hf
  obtain ⟨h4b, h4⟩ := xkb h4
  refine x_callV (As := [.int (t2 - 1)]) (rest := []) (st1 := [.int t5]) S hw (c_Mo_check h4) (cwV 1 S.2.2.2.2 gv_Mo_250 rfl rfl rfl hd_Mo_check ⟨Nat.le_of_ble_eq_true rfl, Nat.le_of_ble_eq_true rfl⟩) rfl h4b rfl hl.1 rfl rfl (Nat.le_of_ble_eq_true rfl) d_Mo_pattern_21 ⟨Nat.le_of_ble_eq_true rfl, Nat.le_of_ble_eq_true rfl⟩ (fun H locs hw => ?_)
  refine lv_istore (lv' := [(4, .int t5), (3, .int (t2 - 1)), (2, .int (t1 + 1)), (0, .ref a0), (1, .int x1)]) S.1 S.2.1 d_Mo_pattern_24 hl (by decide) rfl (fun ls hl => ?_)
  refine lv_aload_n S.1 S.2.1 d_Mo_pattern_26 rfl (lv_at hl 3 rfl) ?_
  obtain ⟨t7, ht7, hf⟩ := xb hf
  refine x_geti S hw lk_Mo_172 ht7 d_Mo_pattern_27 ?_
  refine lv_if_ne (tgt := 50) S.1 S.2.1 d_Mo_pattern_30 (by decide) (fun c8 => ?_) (fun c8 => ?_)
  · replace hf := xf c8 hf
    exact w_Mo_pattern_50 S hr hlocks  _ _ _ _ _ _ _ _ _ hw (lv_sub hl [3, 4, 2, 1, 0] rfl) hf
  · replace hf := xt c8 hf
    refine lv_iload S.1 S.2.1 d_Mo_pattern_33 (lv_at hl 0 rfl) ?_
    refine lv_bipush (v := 10) S.1 S.2.1 d_Mo_pattern_35 (by decide) ?_
    refine lv_icmp_le (tgt := 50) S.1 S.2.1 d_Mo_pattern_37 (by decide) (fun c9 => ?_) (fun c9 => ?_)
    · replace hf := xt c9 hf
      exact w_Mo_pattern_50 S hr hlocks  _ _ _ _ _ _ _ _ _ hw (lv_sub hl [3, 4, 2, 1, 0] rfl) hf
    · replace hf := xf c9 hf
      refine lv_aload_n S.1 S.2.1 d_Mo_pattern_40 rfl (lv_at hl 3 rfl) ?_
      refine lv_iconst (v := 3) S.1 S.2.1 d_Mo_pattern_41 (by decide) ?_
      refine lv_aload_n S.1 S.2.1 d_Mo_pattern_42 rfl (lv_at hl 3 rfl) ?_
      obtain ⟨t10, ht10, hf⟩ := xb hf
      refine x_geti S hw lk_Mo_185 ht10 d_Mo_pattern_43 ?_
      obtain ⟨t12, w13, h11, hf⟩ := xcb hf
      obtain ⟨h11b, h11⟩ := xkb h11
      refine x_callV (As := [.int 3, .int t10]) (rest := []) (st1 := [.int t12]) S hw (c_Mo_fails h11) (cwV 2 S.2.2.2.2 gv_Mo_198 rfl rfl rfl hd_Mo_fails ⟨Nat.le_of_ble_eq_true rfl, Nat.le_of_ble_eq_true rfl⟩) rfl h11b rfl hl.1 rfl rfl (Nat.le_of_ble_eq_true rfl) d_Mo_pattern_46 ⟨Nat.le_of_ble_eq_true rfl, Nat.le_of_ble_eq_true rfl⟩ (fun H locs hw => ?_)
      refine lv_pop S.1 S.2.1 d_Mo_pattern_49 rfl ?_
      exact w_Mo_pattern_50 S hr hlocks  _ _ _ _ _ _ _ _ _ hw (lv_sub hl [3, 4, 2, 1, 0] rfl) hf
