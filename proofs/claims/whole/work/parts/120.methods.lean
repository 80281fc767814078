def f_Mo_byPerson_43 : Nat → Nat → Int32 → Int64 → Int32 → xS → Option Int64
  | 0, _, _, _, _, _ => none
  | n + 1, a0, x2, x3, x5, ω =>
    (xgi ω a0 12 1).bind fun t11 =>
    if t11 ≤ x5 then (
      some x3)
    else (
      (xgr ω a0 12 2).bind fun t13 =>
      (xai ω t13 ((21 * x2) + x5)).bind fun t14 =>
      if t14 < 0 then (
        f_Mo_byPerson_43  n a0 x2 (x3 + 0) (x5 + 1) ω)
      else (
        (xgr ω a0 12 7).bind fun t16 =>
        (xai ω t16 x2).bind fun t17 =>
        (xgr ω a0 12 6).bind fun t18 =>
        (xai ω t18 t14).bind fun t19 =>
        if ((t17 >>> (t19 &&& 31)) &&& 1) = 0 then (
          f_Mo_byPerson_43  n a0 x2 (x3 + 1) (x5 + 1) ω)
        else (
          f_Mo_byPerson_43  n a0 x2 (x3 + 0) (x5 + 1) ω)))
set_option maxHeartbeats 4000000 in
set_option maxRecDepth 100000 in
theorem w_Mo_byPerson_43 {p : Program} {l : Launch} {e : Env} {s : State} {m : MethodId} {args : Array Value} {below : List Frame} {meth : Method} {c : Code} {E : xV} {z : Nat} {r : Int64} {ω : xS} (S : CallFix p m c b_Mo_byPerson 8 s args xTbl "RosterRulesModel") (hr : meth.sig.returnType = (some .long)) (hlocks : meth.locks = false) : ∀ n : Nat, ∀ (a0 : Nat) (x2 : Int32) (x3 : Int64) (x5 : Int32) (H : Heap) (locs : List Loc) (ls : Array Slot), xW E z ω s s.heap H locs → lv_has ls 8 [(0, .ref a0), (2, .int x2), (3, .long x3), (5, .int x5)] → f_Mo_byPerson_43 n a0 x2 x3 x5 ω = some r → W p l e (headSpec ws_Mo_byPerson { frames := 3, cells := 0, slots := 0, locals := 69 }).room s m args below meth c H locs 0 0 (MQ below (xQ E (some (.long r)) z ω) args s 0 0 (fun q => E.2.2 ≤ q)) (F0 m 43 ls []) := by
  intro n
  induction n with
  | zero =>
    intro a0 x2 x3 x5 H locs ls hw hl hf
    have h2 : (none : Option Int64) = some r := hf
    cases h2
  | succ n ih =>
    intro a0 x2 x3 x5 H locs ls hw hl hf
    rw [f_Mo_byPerson_43] at hf
    refine lv_iload S.1 S.2.1 d_Mo_byPerson_43 (lv_at hl 3 rfl) ?_
    refine lv_aload_n S.1 S.2.1 d_Mo_byPerson_45 rfl (lv_at hl 0 rfl) ?_
    obtain ⟨t11, ht11, hf⟩ := xb hf
    refine x_geti S hw lk_Mo_159 ht11 d_Mo_byPerson_46 ?_
    refine lv_icmp_ge (tgt := 104) S.1 S.2.1 d_Mo_byPerson_49 (by decide) (fun c12 => ?_) (fun c12 => ?_)
    · replace hf := xt c12 hf
      refine lv_lload_n S.1 S.2.1 d_Mo_byPerson_104 rfl (lv_at hl 2 rfl) ?_
      obtain rfl := xe1 hf
      exact x_lret S hr hlocks hw d_Mo_byPerson_105
    · replace hf := xf c12 hf
      refine lv_aload_n S.1 S.2.1 d_Mo_byPerson_52 rfl (lv_at hl 0 rfl) ?_
      obtain ⟨t13, ht13, hf⟩ := xb hf
      refine x_getr S hw lk_Mo_7 ht13 d_Mo_byPerson_53 ?_
      refine lv_bipush (v := 21) S.1 S.2.1 d_Mo_byPerson_56 (by decide) ?_
      refine lv_iload_n S.1 S.2.1 d_Mo_byPerson_58 rfl (lv_at hl 1 rfl) ?_
      refine lv_imul S.1 S.2.1 d_Mo_byPerson_59 ?_
      refine lv_iload S.1 S.2.1 d_Mo_byPerson_60 (lv_at hl 3 rfl) ?_
      refine lv_iadd S.1 S.2.1 d_Mo_byPerson_62 ?_
      obtain ⟨t14, ht14, hf⟩ := xb hf
      refine x_iald S hw ht14 d_Mo_byPerson_63 ?_
      refine lv_istore (lv' := [(6, .int t14), (0, .ref a0), (2, .int x2), (3, .long x3), (5, .int x5)]) S.1 S.2.1 d_Mo_byPerson_64 hl (by decide) rfl (fun ls hl => ?_)
      refine lv_lload_n S.1 S.2.1 d_Mo_byPerson_66 rfl (lv_at hl 3 rfl) ?_
      refine lv_iload S.1 S.2.1 d_Mo_byPerson_67 (lv_at hl 0 rfl) ?_
      refine lv_if_lt (tgt := 95) S.1 S.2.1 d_Mo_byPerson_69 (by decide) (fun c15 => ?_) (fun c15 => ?_)
      · replace hf := xt c15 hf
        refine lv_lconst (v := 0) S.1 S.2.1 d_Mo_byPerson_95 (by decide) ?_
        refine lv_ladd S.1 S.2.1 d_Mo_byPerson_96 ?_
        refine lv_lstore_n (lv' := [(3, .long (x3 + 0)), (6, .int t14), (0, .ref a0), (2, .int x2), (5, .int x5)]) S.1 S.2.1 d_Mo_byPerson_97 rfl hl (by decide) rfl (fun ls hl => ?_)
        refine lv_iinc (v := (x5 + 1)) (lv' := [(5, .int (x5 + 1)), (3, .long (x3 + 0)), (6, .int t14), (0, .ref a0), (2, .int x2)]) S.1 S.2.1 d_Mo_byPerson_98 hl (k := 4) rfl rfl (by decide) rfl (fun ls hl => ?_)
        refine lv_goto (tgt := 43) S.1 S.2.1 d_Mo_byPerson_101 (by decide) ?_
        exact ih _ _ _ _ _ _ _ hw (lv_sub hl [3, 4, 1, 0] rfl) hf
      · replace hf := xf c15 hf
        refine lv_aload_n S.1 S.2.1 d_Mo_byPerson_72 rfl (lv_at hl 1 rfl) ?_
        obtain ⟨t16, ht16, hf⟩ := xb hf
        refine x_getr S hw lk_Mo_25 ht16 d_Mo_byPerson_73 ?_
        refine lv_iload_n S.1 S.2.1 d_Mo_byPerson_76 rfl (lv_at hl 2 rfl) ?_
        obtain ⟨t17, ht17, hf⟩ := xb hf
        refine x_iald S hw ht17 d_Mo_byPerson_77 ?_
        refine lv_aload_n S.1 S.2.1 d_Mo_byPerson_78 rfl (lv_at hl 1 rfl) ?_
        obtain ⟨t18, ht18, hf⟩ := xb hf
        refine x_getr S hw lk_Mo_22 ht18 d_Mo_byPerson_79 ?_
        refine lv_iload S.1 S.2.1 d_Mo_byPerson_82 (lv_at hl 0 rfl) ?_
        obtain ⟨t19, ht19, hf⟩ := xb hf
        refine x_iald S hw ht19 d_Mo_byPerson_84 ?_
        refine lv_ishr S.1 S.2.1 d_Mo_byPerson_85 ?_
        refine lv_iconst (v := 1) S.1 S.2.1 d_Mo_byPerson_86 (by decide) ?_
        refine lv_iand S.1 S.2.1 d_Mo_byPerson_87 ?_
        refine lv_if_ne (tgt := 95) S.1 S.2.1 d_Mo_byPerson_88 (by decide) (fun c20 => ?_) (fun c20 => ?_)
        · replace hf := xf c20 hf
          refine lv_lconst (v := 0) S.1 S.2.1 d_Mo_byPerson_95 (by decide) ?_
          refine lv_ladd S.1 S.2.1 d_Mo_byPerson_96 ?_
          refine lv_lstore_n (lv' := [(3, .long (x3 + 0)), (6, .int t14), (0, .ref a0), (2, .int x2), (5, .int x5)]) S.1 S.2.1 d_Mo_byPerson_97 rfl hl (by decide) rfl (fun ls hl => ?_)
          refine lv_iinc (v := (x5 + 1)) (lv' := [(5, .int (x5 + 1)), (3, .long (x3 + 0)), (6, .int t14), (0, .ref a0), (2, .int x2)]) S.1 S.2.1 d_Mo_byPerson_98 hl (k := 4) rfl rfl (by decide) rfl (fun ls hl => ?_)
          refine lv_goto (tgt := 43) S.1 S.2.1 d_Mo_byPerson_101 (by decide) ?_
          exact ih _ _ _ _ _ _ _ hw (lv_sub hl [3, 4, 1, 0] rfl) hf
        · replace hf := xt c20 hf
          refine lv_lconst (v := 1) S.1 S.2.1 d_Mo_byPerson_91 (by decide) ?_
          refine lv_goto (tgt := 96) S.1 S.2.1 d_Mo_byPerson_92 (by decide) ?_
          refine lv_ladd S.1 S.2.1 d_Mo_byPerson_96 ?_
          refine lv_lstore_n (lv' := [(3, .long (x3 + 1)), (6, .int t14), (0, .ref a0), (2, .int x2), (5, .int x5)]) S.1 S.2.1 d_Mo_byPerson_97 rfl hl (by decide) rfl (fun ls hl => ?_)
          refine lv_iinc (v := (x5 + 1)) (lv' := [(5, .int (x5 + 1)), (3, .long (x3 + 1)), (6, .int t14), (0, .ref a0), (2, .int x2)]) S.1 S.2.1 d_Mo_byPerson_98 hl (k := 4) rfl rfl (by decide) rfl (fun ls hl => ?_)
          refine lv_goto (tgt := 43) S.1 S.2.1 d_Mo_byPerson_101 (by decide) ?_
          exact ih _ _ _ _ _ _ _ hw (lv_sub hl [3, 4, 1, 0] rfl) hf
def f_Mo_byPerson_116 : Nat → Nat → Int32 → Int32 → Int64 → Int32 → xS → Option Int64
  | 0, _, _, _, _, _, _ => none
  | n + 1, a0, x1, x2, x3, x5, ω =>
    (xgr ω a0 12 18).bind fun t21 =>
    (xai ω t21 x1).bind fun t22 =>
    (xgi ω a0 12 1).bind fun t23 =>
    if t23 < (x5 + t22) then (
      some x3)
    else (
      (xgr ω a0 12 18).bind fun t25 =>
      (xai ω t25 x1).bind fun t26 =>
      (xk ω a0 12 (f_Mo_minutes a0 x2 x5 ((x5 + t26) - 1) ω)).bind fun t28 =>
      (xgr ω a0 12 16).bind fun t29 =>
      (xai ω t29 x1).bind fun t30 =>
      if 0 ≤ (lg_cmp t28 (Int32.toInt64 t30)) then (
        (xgr ω a0 12 17).bind fun t32 =>
        (xai ω t32 x1).bind fun t33 =>
        if (lg_cmp t28 (Int32.toInt64 t33)) ≤ 0 then (
          f_Mo_byPerson_116  n a0 x1 x2 (x3 + 0) (x5 + 1) ω)
        else (
          (xgr ω a0 12 17).bind fun t35 =>
          (xai ω t35 x1).bind fun t36 =>
          f_Mo_byPerson_116  n a0 x1 x2 (x3 + (t28 - (Int32.toInt64 t36))) (x5 + 1) ω))
      else (
        (xgr ω a0 12 16).bind fun t37 =>
        (xai ω t37 x1).bind fun t38 =>
        f_Mo_byPerson_116  n a0 x1 x2 (x3 + ((Int32.toInt64 t38) - t28)) (x5 + 1) ω))
set_option maxHeartbeats 4000000 in
set_option maxRecDepth 100000 in
theorem w_Mo_byPerson_116 {p : Program} {l : Launch} {e : Env} {s : State} {m : MethodId} {args : Array Value} {below : List Frame} {meth : Method} {c : Code} {E : xV} {z : Nat} {r : Int64} {ω : xS} (S : CallFix p m c b_Mo_byPerson 8 s args xTbl "RosterRulesModel") (hr : meth.sig.returnType = (some .long)) (hlocks : meth.locks = false) : ∀ n : Nat, ∀ (a0 : Nat) (x1 : Int32) (x2 : Int32) (x3 : Int64) (x5 : Int32) (H : Heap) (locs : List Loc) (ls : Array Slot), xW E z ω s s.heap H locs → lv_has ls 8 [(0, .ref a0), (1, .int x1), (2, .int x2), (3, .long x3), (5, .int x5)] → f_Mo_byPerson_116 n a0 x1 x2 x3 x5 ω = some r → W p l e (headSpec ws_Mo_byPerson { frames := 3, cells := 0, slots := 0, locals := 69 }).room s m args below meth c H locs 0 0 (MQ below (xQ E (some (.long r)) z ω) args s 0 0 (fun q => E.2.2 ≤ q)) (F0 m 116 ls []) := by
  intro n
  induction n with
  | zero =>
    intro a0 x1 x2 x3 x5 H locs ls hw hl hf
    have h2 : (none : Option Int64) = some r := hf
    cases h2
  | succ n ih =>
    intro a0 x1 x2 x3 x5 H locs ls hw hl hf
    rw [f_Mo_byPerson_116] at hf
    refine lv_iload S.1 S.2.1 d_Mo_byPerson_116 (lv_at hl 4 rfl) ?_
    refine lv_aload_n S.1 S.2.1 d_Mo_byPerson_118 rfl (lv_at hl 0 rfl) ?_
    obtain ⟨t21, ht21, hf⟩ := xb hf
    refine x_getr S hw lk_Mo_57 ht21 d_Mo_byPerson_119 ?_
    refine lv_iload_n S.1 S.2.1 d_Mo_byPerson_122 rfl (lv_at hl 1 rfl) ?_
    obtain ⟨t22, ht22, hf⟩ := xb hf
    refine x_iald S hw ht22 d_Mo_byPerson_123 ?_
    refine lv_iadd S.1 S.2.1 d_Mo_byPerson_124 ?_
    refine lv_aload_n S.1 S.2.1 d_Mo_byPerson_125 rfl (lv_at hl 0 rfl) ?_
    obtain ⟨t23, ht23, hf⟩ := xb hf
    refine x_geti S hw lk_Mo_159 ht23 d_Mo_byPerson_126 ?_
    refine lv_icmp_gt (tgt := 214) S.1 S.2.1 d_Mo_byPerson_129 (by decide) (fun c24 => ?_) (fun c24 => ?_)
    · replace hf := xt c24 hf
      refine lv_lload_n S.1 S.2.1 d_Mo_byPerson_214 rfl (lv_at hl 3 rfl) ?_
      obtain rfl := xe1 hf
      exact x_lret S hr hlocks hw d_Mo_byPerson_215
    · replace hf := xf c24 hf
      refine lv_aload_n S.1 S.2.1 d_Mo_byPerson_132 rfl (lv_at hl 0 rfl) ?_
      refine lv_iload_n S.1 S.2.1 d_Mo_byPerson_133 rfl (lv_at hl 2 rfl) ?_
      refine lv_iload S.1 S.2.1 d_Mo_byPerson_134 (lv_at hl 4 rfl) ?_
      refine lv_iload S.1 S.2.1 d_Mo_byPerson_136 (lv_at hl 4 rfl) ?_
      refine lv_aload_n S.1 S.2.1 d_Mo_byPerson_138 rfl (lv_at hl 0 rfl) ?_
      obtain ⟨t25, ht25, hf⟩ := xb hf
      refine x_getr S hw lk_Mo_57 ht25 d_Mo_byPerson_139 ?_
      refine lv_iload_n S.1 S.2.1 d_Mo_byPerson_142 rfl (lv_at hl 1 rfl) ?_
      obtain ⟨t26, ht26, hf⟩ := xb hf
      refine x_iald S hw ht26 d_Mo_byPerson_143 ?_
      refine lv_iadd S.1 S.2.1 d_Mo_byPerson_144 ?_
      refine lv_iconst (v := 1) S.1 S.2.1 d_Mo_byPerson_145 (by decide) ?_
      refine lv_isub S.1 S.2.1 d_Mo_byPerson_146 ?_
      obtain ⟨t28, h27, hf⟩ := xb hf
      obtain ⟨h27b, h27⟩ := xkb h27
      refine x_callV (As := [.int x2, .int x5, .int ((x5 + t26) - 1)]) (rest := []) (st1 := [.long t28]) S hw (c_Mo_minutes h27) (cwV 3 S.2.2.2.2 gv_Mo_357 rfl rfl rfl hd_Mo_minutes ⟨Nat.le_of_ble_eq_true rfl, Nat.le_of_ble_eq_true rfl⟩) rfl h27b rfl hl.1 rfl rfl (Nat.le_of_ble_eq_true rfl) d_Mo_byPerson_147 ⟨Nat.le_of_ble_eq_true rfl, Nat.le_of_ble_eq_true rfl⟩ (fun H locs hw => ?_)
      refine lv_lstore (lv' := [(6, .long t28), (0, .ref a0), (1, .int x1), (2, .int x2), (3, .long x3), (5, .int x5)]) S.1 S.2.1 d_Mo_byPerson_150 hl (by decide) rfl (fun ls hl => ?_)
      refine lv_lload_n S.1 S.2.1 d_Mo_byPerson_152 rfl (lv_at hl 4 rfl) ?_
      refine lv_lload S.1 S.2.1 d_Mo_byPerson_153 (lv_at hl 0 rfl) ?_
      refine lv_aload_n S.1 S.2.1 d_Mo_byPerson_155 rfl (lv_at hl 1 rfl) ?_
      obtain ⟨t29, ht29, hf⟩ := xb hf
      refine x_getr S hw lk_Mo_51 ht29 d_Mo_byPerson_156 ?_
      refine lv_iload_n S.1 S.2.1 d_Mo_byPerson_159 rfl (lv_at hl 2 rfl) ?_
      obtain ⟨t30, ht30, hf⟩ := xb hf
      refine x_iald S hw ht30 d_Mo_byPerson_160 ?_
      refine lv_i2l (v := (Int32.toInt64 t30)) S.1 S.2.1 d_Mo_byPerson_161 rfl ?_
      refine W.lcmp S.1 S.2.1 d_Mo_byPerson_162 ?_
      refine lv_if_ge (tgt := 179) S.1 S.2.1 d_Mo_byPerson_163 (by decide) (fun c31 => ?_) (fun c31 => ?_)
      · replace hf := xt c31 hf
        refine lv_lload S.1 S.2.1 d_Mo_byPerson_179 (lv_at hl 0 rfl) ?_
        refine lv_aload_n S.1 S.2.1 d_Mo_byPerson_181 rfl (lv_at hl 1 rfl) ?_
        obtain ⟨t32, ht32, hf⟩ := xb hf
        refine x_getr S hw lk_Mo_54 ht32 d_Mo_byPerson_182 ?_
        refine lv_iload_n S.1 S.2.1 d_Mo_byPerson_185 rfl (lv_at hl 2 rfl) ?_
        obtain ⟨t33, ht33, hf⟩ := xb hf
        refine x_iald S hw ht33 d_Mo_byPerson_186 ?_
        refine lv_i2l (v := (Int32.toInt64 t33)) S.1 S.2.1 d_Mo_byPerson_187 rfl ?_
        refine W.lcmp S.1 S.2.1 d_Mo_byPerson_188 ?_
        refine lv_if_le (tgt := 205) S.1 S.2.1 d_Mo_byPerson_189 (by decide) (fun c34 => ?_) (fun c34 => ?_)
        · replace hf := xt c34 hf
          refine lv_lconst (v := 0) S.1 S.2.1 d_Mo_byPerson_205 (by decide) ?_
          refine lv_ladd S.1 S.2.1 d_Mo_byPerson_206 ?_
          refine lv_lstore_n (lv' := [(3, .long (x3 + 0)), (6, .long t28), (0, .ref a0), (1, .int x1), (2, .int x2), (5, .int x5)]) S.1 S.2.1 d_Mo_byPerson_207 rfl hl (by decide) rfl (fun ls hl => ?_)
          refine lv_iinc (v := (x5 + 1)) (lv' := [(5, .int (x5 + 1)), (3, .long (x3 + 0)), (6, .long t28), (0, .ref a0), (1, .int x1), (2, .int x2)]) S.1 S.2.1 d_Mo_byPerson_208 hl (k := 5) rfl rfl (by decide) rfl (fun ls hl => ?_)
          refine lv_goto (tgt := 116) S.1 S.2.1 d_Mo_byPerson_211 (by decide) ?_
          exact ih _ _ _ _ _ _ _ _ hw (lv_sub hl [3, 4, 5, 1, 0] rfl) hf
        · replace hf := xf c34 hf
          refine lv_lload S.1 S.2.1 d_Mo_byPerson_192 (lv_at hl 0 rfl) ?_
          refine lv_aload_n S.1 S.2.1 d_Mo_byPerson_194 rfl (lv_at hl 1 rfl) ?_
          obtain ⟨t35, ht35, hf⟩ := xb hf
          refine x_getr S hw lk_Mo_54 ht35 d_Mo_byPerson_195 ?_
          refine lv_iload_n S.1 S.2.1 d_Mo_byPerson_198 rfl (lv_at hl 2 rfl) ?_
          obtain ⟨t36, ht36, hf⟩ := xb hf
          refine x_iald S hw ht36 d_Mo_byPerson_199 ?_
          refine lv_i2l (v := (Int32.toInt64 t36)) S.1 S.2.1 d_Mo_byPerson_200 rfl ?_
          refine lv_lsub S.1 S.2.1 d_Mo_byPerson_201 ?_
          refine lv_goto (tgt := 206) S.1 S.2.1 d_Mo_byPerson_202 (by decide) ?_
          refine lv_ladd S.1 S.2.1 d_Mo_byPerson_206 ?_
          refine lv_lstore_n (lv' := [(3, .long (x3 + (t28 - (Int32.toInt64 t36)))), (6, .long t28), (0, .ref a0), (1, .int x1), (2, .int x2), (5, .int x5)]) S.1 S.2.1 d_Mo_byPerson_207 rfl hl (by decide) rfl (fun ls hl => ?_)
          refine lv_iinc (v := (x5 + 1)) (lv' := [(5, .int (x5 + 1)), (3, .long (x3 + (t28 - (Int32.toInt64 t36)))), (6, .long t28), (0, .ref a0), (1, .int x1), (2, .int x2)]) S.1 S.2.1 d_Mo_byPerson_208 hl (k := 5) rfl rfl (by decide) rfl (fun ls hl => ?_)
          refine lv_goto (tgt := 116) S.1 S.2.1 d_Mo_byPerson_211 (by decide) ?_
          exact ih _ _ _ _ _ _ _ _ hw (lv_sub hl [3, 4, 5, 1, 0] rfl) hf
      · replace hf := xf c31 hf
        refine lv_aload_n S.1 S.2.1 d_Mo_byPerson_166 rfl (lv_at hl 1 rfl) ?_
        obtain ⟨t37, ht37, hf⟩ := xb hf
        refine x_getr S hw lk_Mo_51 ht37 d_Mo_byPerson_167 ?_
        refine lv_iload_n S.1 S.2.1 d_Mo_byPerson_170 rfl (lv_at hl 2 rfl) ?_
        obtain ⟨t38, ht38, hf⟩ := xb hf
        refine x_iald S hw ht38 d_Mo_byPerson_171 ?_
        refine lv_i2l (v := (Int32.toInt64 t38)) S.1 S.2.1 d_Mo_byPerson_172 rfl ?_
        refine lv_lload S.1 S.2.1 d_Mo_byPerson_173 (lv_at hl 0 rfl) ?_
        refine lv_lsub S.1 S.2.1 d_Mo_byPerson_175 ?_
        refine lv_goto (tgt := 206) S.1 S.2.1 d_Mo_byPerson_176 (by decide) ?_
        refine lv_ladd S.1 S.2.1 d_Mo_byPerson_206 ?_
        refine lv_lstore_n (lv' := [(3, .long (x3 + ((Int32.toInt64 t38) - t28))), (6, .long t28), (0, .ref a0), (1, .int x1), (2, .int x2), (5, .int x5)]) S.1 S.2.1 d_Mo_byPerson_207 rfl hl (by decide) rfl (fun ls hl => ?_)
        refine lv_iinc (v := (x5 + 1)) (lv' := [(5, .int (x5 + 1)), (3, .long (x3 + ((Int32.toInt64 t38) - t28))), (6, .long t28), (0, .ref a0), (1, .int x1), (2, .int x2)]) S.1 S.2.1 d_Mo_byPerson_208 hl (k := 5) rfl rfl (by decide) rfl (fun ls hl => ?_)
        refine lv_goto (tgt := 116) S.1 S.2.1 d_Mo_byPerson_211 (by decide) ?_
        exact ih _ _ _ _ _ _ _ _ hw (lv_sub hl [3, 4, 5, 1, 0] rfl) hf
def f_Mo_byPerson_229 : Nat → Nat → Int32 → Int32 → Int32 → Int32 → xS → Option Int64
  | 0, _, _, _, _, _, _ => none
  | n + 1, a0, x1, x2, x5, x6, ω =>
    (xgi ω a0 12 1).bind fun t39 =>
    if t39 ≤ x6 then (
      (xgr ω a0 12 28).bind fun t41 =>
      (xaz ω t41 ((1025 * x1) + x5)).bind fun t42 =>
      if t42 = 0 then (
        some 1)
      else (
        some 0))
    else (
      (xgr ω a0 12 27).bind fun t44 =>
      (xgr ω a0 12 2).bind fun t45 =>
      (xai ω t45 ((21 * x2) + x6)).bind fun t46 =>
      (xai ω t44 (((9 * ((1025 * x1) + x5)) + t46) + 1)).bind fun t47 =>
      f_Mo_byPerson_229  n a0 x1 x2 t47 (x6 + 1) ω)
set_option maxHeartbeats 4000000 in
set_option maxRecDepth 100000 in
theorem w_Mo_byPerson_229 {p : Program} {l : Launch} {e : Env} {s : State} {m : MethodId} {args : Array Value} {below : List Frame} {meth : Method} {c : Code} {E : xV} {z : Nat} {r : Int64} {ω : xS} (S : CallFix p m c b_Mo_byPerson 8 s args xTbl "RosterRulesModel") (hr : meth.sig.returnType = (some .long)) (hlocks : meth.locks = false) : ∀ n : Nat, ∀ (a0 : Nat) (x1 : Int32) (x2 : Int32) (x5 : Int32) (x6 : Int32) (H : Heap) (locs : List Loc) (ls : Array Slot), xW E z ω s s.heap H locs → lv_has ls 8 [(0, .ref a0), (1, .int x1), (2, .int x2), (5, .int x5), (6, .int x6)] → f_Mo_byPerson_229 n a0 x1 x2 x5 x6 ω = some r → W p l e (headSpec ws_Mo_byPerson { frames := 3, cells := 0, slots := 0, locals := 69 }).room s m args below meth c H locs 0 0 (MQ below (xQ E (some (.long r)) z ω) args s 0 0 (fun q => E.2.2 ≤ q)) (F0 m 229 ls []) := by
  intro n
  induction n with
  | zero =>
    intro a0 x1 x2 x5 x6 H locs ls hw hl hf
    have h2 : (none : Option Int64) = some r := hf
    cases h2
  | succ n ih =>
    intro a0 x1 x2 x5 x6 H locs ls hw hl hf
    rw [f_Mo_byPerson_229] at hf
    refine lv_iload S.1 S.2.1 d_Mo_byPerson_229 (lv_at hl 4 rfl) ?_
    refine lv_aload_n S.1 S.2.1 d_Mo_byPerson_231 rfl (lv_at hl 0 rfl) ?_
    obtain ⟨t39, ht39, hf⟩ := xb hf
    refine x_geti S hw lk_Mo_159 ht39 d_Mo_byPerson_232 ?_
    refine lv_icmp_ge (tgt := 277) S.1 S.2.1 d_Mo_byPerson_235 (by decide) (fun c40 => ?_) (fun c40 => ?_)
    · replace hf := xt c40 hf
      refine lv_aload_n S.1 S.2.1 d_Mo_byPerson_277 rfl (lv_at hl 0 rfl) ?_
      obtain ⟨t41, ht41, hf⟩ := xb hf
      refine x_getr S hw lk_Mo_86 ht41 d_Mo_byPerson_278 ?_
      refine lv_sipush (v := 1025) S.1 S.2.1 d_Mo_byPerson_281 (by decide) ?_
      refine lv_iload_n S.1 S.2.1 d_Mo_byPerson_284 rfl (lv_at hl 1 rfl) ?_
      refine lv_imul S.1 S.2.1 d_Mo_byPerson_285 ?_
      refine lv_iload S.1 S.2.1 d_Mo_byPerson_286 (lv_at hl 3 rfl) ?_
      refine lv_iadd S.1 S.2.1 d_Mo_byPerson_288 ?_
      obtain ⟨t42, ht42, hf⟩ := xb hf
      refine x_zald S hw ht42 d_Mo_byPerson_289 ?_
      refine lv_if_eq (tgt := 297) S.1 S.2.1 d_Mo_byPerson_290 (by decide) (fun c43 => ?_) (fun c43 => ?_)
      · replace hf := xt c43 hf
        refine lv_lconst (v := 1) S.1 S.2.1 d_Mo_byPerson_297 (by decide) ?_
        obtain rfl := xe1 hf
        exact x_lret S hr hlocks hw d_Mo_byPerson_298
      · replace hf := xf c43 hf
        refine lv_lconst (v := 0) S.1 S.2.1 d_Mo_byPerson_293 (by decide) ?_
        refine lv_goto (tgt := 298) S.1 S.2.1 d_Mo_byPerson_294 (by decide) ?_
        obtain rfl := xe1 hf
        exact x_lret S hr hlocks hw d_Mo_byPerson_298
    · replace hf := xf c40 hf
      refine lv_aload_n S.1 S.2.1 d_Mo_byPerson_238 rfl (lv_at hl 0 rfl) ?_
      obtain ⟨t44, ht44, hf⟩ := xb hf
      refine x_getr S hw lk_Mo_83 ht44 d_Mo_byPerson_239 ?_
      refine lv_bipush (v := 9) S.1 S.2.1 d_Mo_byPerson_242 (by decide) ?_
      refine lv_sipush (v := 1025) S.1 S.2.1 d_Mo_byPerson_244 (by decide) ?_
      refine lv_iload_n S.1 S.2.1 d_Mo_byPerson_247 rfl (lv_at hl 1 rfl) ?_
      refine lv_imul S.1 S.2.1 d_Mo_byPerson_248 ?_
      refine lv_iload S.1 S.2.1 d_Mo_byPerson_249 (lv_at hl 3 rfl) ?_
      refine lv_iadd S.1 S.2.1 d_Mo_byPerson_251 ?_
      refine lv_imul S.1 S.2.1 d_Mo_byPerson_252 ?_
      refine lv_aload_n S.1 S.2.1 d_Mo_byPerson_253 rfl (lv_at hl 0 rfl) ?_
      obtain ⟨t45, ht45, hf⟩ := xb hf
      refine x_getr S hw lk_Mo_7 ht45 d_Mo_byPerson_254 ?_
      refine lv_bipush (v := 21) S.1 S.2.1 d_Mo_byPerson_257 (by decide) ?_
      refine lv_iload_n S.1 S.2.1 d_Mo_byPerson_259 rfl (lv_at hl 2 rfl) ?_
      refine lv_imul S.1 S.2.1 d_Mo_byPerson_260 ?_
      refine lv_iload S.1 S.2.1 d_Mo_byPerson_261 (lv_at hl 4 rfl) ?_
      refine lv_iadd S.1 S.2.1 d_Mo_byPerson_263 ?_
      obtain ⟨t46, ht46, hf⟩ := xb hf
      refine x_iald S hw ht46 d_Mo_byPerson_264 ?_
      refine lv_iadd S.1 S.2.1 d_Mo_byPerson_265 ?_
      refine lv_iconst (v := 1) S.1 S.2.1 d_Mo_byPerson_266 (by decide) ?_
      refine lv_iadd S.1 S.2.1 d_Mo_byPerson_267 ?_
      obtain ⟨t47, ht47, hf⟩ := xb hf
      refine x_iald S hw ht47 d_Mo_byPerson_268 ?_
      refine lv_istore (lv' := [(5, .int t47), (0, .ref a0), (1, .int x1), (2, .int x2), (6, .int x6)]) S.1 S.2.1 d_Mo_byPerson_269 hl (by decide) rfl (fun ls hl => ?_)
      refine lv_iinc (v := (x6 + 1)) (lv' := [(6, .int (x6 + 1)), (5, .int t47), (0, .ref a0), (1, .int x1), (2, .int x2)]) S.1 S.2.1 d_Mo_byPerson_271 hl (k := 4) rfl rfl (by decide) rfl (fun ls hl => ?_)
      refine lv_goto (tgt := 229) S.1 S.2.1 d_Mo_byPerson_274 (by decide) ?_
      exact ih _ _ _ _ _ _ _ _ hw (lv_sub hl [2, 3, 4, 1, 0] rfl) hf
def f_Mo_byPerson (a0 : Nat) (x1 : Int32) (x2 : Int32) (ω : xS) : Option Int64 :=
  (xgr ω a0 12 13).bind fun t1 =>
  (xai ω t1 x1).bind fun t2 =>
  if t2 = 0 then (
    f_Mo_byPerson_43  xFU a0 x2 0 0 ω)
  else (
  if t2 = 1 then (
    (xk ω a0 12 (f_Mo_restOf a0 x1 x2 ω)).bind fun t6 =>
    some t6)
  else (
  if t2 = 2 then (
    f_Mo_byPerson_116  xFU a0 x1 x2 0 0 ω)
  else (
  if t2 = 3 then (
    (xk ω a0 12 (f_Mo_neverOf a0 x1 x2 ω)).bind fun t10 =>
    some t10)
  else (
  f_Mo_byPerson_229  xFU a0 x1 x2 0 0 ω))))
set_option maxHeartbeats 4000000 in
set_option maxRecDepth 100000 in
theorem c_Mo_byPerson {l : Launch} {E : xV} {z : Nat} {a0 : Nat} {x1 : Int32} {x2 : Int32} {r : Int64} {ω : xS} (hf : f_Mo_byPerson a0 x1 x2 ω = some r) : xM l E y_Mo_byPerson ws_Mo_byPerson { frames := 3, cells := 0, slots := 0, locals := 69 } [.ref a0, .int x1, .int x2] z ω (some (.long r)) z ω := by
  refine x_start (cc := b_Mo_byPerson) (maxL := 8) (ret := (some .long)) (by decide) rfl (Nat.le_of_ble_eq_true rfl) ?_
  intro p e s m below meth c S hr hlocks hin ls hl hw
  have hl : lv_has ls 8 [(0, .ref a0), (1, .int x1), (2, .int x2)] := hl
  unfold f_Mo_byPerson at hf
  refine lv_lconst (v := 0) S.1 S.2.1 d_Mo_byPerson_0 (by decide) ?_
  refine lv_lstore_n (lv' := [(3, .long 0), (0, .ref a0), (1, .int x1), (2, .int x2)]) S.1 S.2.1 d_Mo_byPerson_1 rfl hl (by decide) rfl (fun ls hl => ?_)
  refine lv_aload_n S.1 S.2.1 d_Mo_byPerson_2 rfl (lv_at hl 1 rfl) ?_
  obtain ⟨t1, ht1, hf⟩ := xb hf
  refine x_getr S hw lk_Mo_42 ht1 d_Mo_byPerson_3 ?_
  refine lv_iload_n S.1 S.2.1 d_Mo_byPerson_6 rfl (lv_at hl 2 rfl) ?_
  obtain ⟨t2, ht2, hf⟩ := xb hf
  refine x_iald S hw ht2 d_Mo_byPerson_7 ?_
  by_cases c3 : t2 = 0
  · replace hf := xt c3 hf
    refine lv_tableIn (tgt := 40) S.1 S.2.1 d_Mo_byPerson_8 (by rw [c3]; decide) (by rw [c3]; decide) (by rw [c3]; rfl) (by decide) ?_
    refine lv_iconst (v := 0) S.1 S.2.1 d_Mo_byPerson_40 (by decide) ?_
    refine lv_istore (lv' := [(5, .int 0), (3, .long 0), (0, .ref a0), (1, .int x1), (2, .int x2)]) S.1 S.2.1 d_Mo_byPerson_41 hl (by decide) rfl (fun ls hl => ?_)
    exact w_Mo_byPerson_43 S hr hlocks  _ _ _ _ _ _ _ _ hw (lv_sub hl [2, 4, 1, 0] rfl) hf
  replace hf := xf c3 hf
  by_cases c4 : t2 = 1
  · replace hf := xt c4 hf
    refine lv_tableIn (tgt := 106) S.1 S.2.1 d_Mo_byPerson_8 (by rw [c4]; decide) (by rw [c4]; decide) (by rw [c4]; rfl) (by decide) ?_
    refine lv_aload_n S.1 S.2.1 d_Mo_byPerson_106 rfl (lv_at hl 1 rfl) ?_
    refine lv_iload_n S.1 S.2.1 d_Mo_byPerson_107 rfl (lv_at hl 2 rfl) ?_
    refine lv_iload_n S.1 S.2.1 d_Mo_byPerson_108 rfl (lv_at hl 3 rfl) ?_
    obtain ⟨t6, h5, hf⟩ := xb hf
    obtain ⟨h5b, h5⟩ := xkb h5
    refine x_callV (As := [.int x1, .int x2]) (rest := []) (st1 := [.long t6]) S hw (c_Mo_restOf h5) (cwV 2 S.2.2.2.2 gv_Mo_353 rfl rfl rfl hd_Mo_restOf ⟨Nat.le_of_ble_eq_true rfl, Nat.le_of_ble_eq_true rfl⟩) rfl h5b rfl hl.1 rfl rfl (Nat.le_of_ble_eq_true rfl) d_Mo_byPerson_109 ⟨Nat.le_of_ble_eq_true rfl, Nat.le_of_ble_eq_true rfl⟩ (fun H locs hw => ?_)
    obtain rfl := xe1 hf
    exact x_lret S hr hlocks hw d_Mo_byPerson_112
  replace hf := xf c4 hf
  by_cases c7 : t2 = 2
  · replace hf := xt c7 hf
    refine lv_tableIn (tgt := 113) S.1 S.2.1 d_Mo_byPerson_8 (by rw [c7]; decide) (by rw [c7]; decide) (by rw [c7]; rfl) (by decide) ?_
    refine lv_iconst (v := 0) S.1 S.2.1 d_Mo_byPerson_113 (by decide) ?_
    refine lv_istore (lv' := [(5, .int 0), (3, .long 0), (0, .ref a0), (1, .int x1), (2, .int x2)]) S.1 S.2.1 d_Mo_byPerson_114 hl (by decide) rfl (fun ls hl => ?_)
    exact w_Mo_byPerson_116 S hr hlocks  _ _ _ _ _ _ _ _ _ hw (lv_sub hl [2, 3, 4, 1, 0] rfl) hf
  replace hf := xf c7 hf
  by_cases c8 : t2 = 3
  · replace hf := xt c8 hf
    refine lv_tableIn (tgt := 216) S.1 S.2.1 d_Mo_byPerson_8 (by rw [c8]; decide) (by rw [c8]; decide) (by rw [c8]; rfl) (by decide) ?_
    refine lv_aload_n S.1 S.2.1 d_Mo_byPerson_216 rfl (lv_at hl 1 rfl) ?_
    refine lv_iload_n S.1 S.2.1 d_Mo_byPerson_217 rfl (lv_at hl 2 rfl) ?_
    refine lv_iload_n S.1 S.2.1 d_Mo_byPerson_218 rfl (lv_at hl 3 rfl) ?_
    obtain ⟨t10, h9, hf⟩ := xb hf
    obtain ⟨h9b, h9⟩ := xkb h9
    refine x_callV (As := [.int x1, .int x2]) (rest := []) (st1 := [.long t10]) S hw (c_Mo_neverOf h9) (cwV 2 S.2.2.2.2 gv_Mo_360 rfl rfl rfl hd_Mo_neverOf ⟨Nat.le_of_ble_eq_true rfl, Nat.le_of_ble_eq_true rfl⟩) rfl h9b rfl hl.1 rfl rfl (Nat.le_of_ble_eq_true rfl) d_Mo_byPerson_219 ⟨Nat.le_of_ble_eq_true rfl, Nat.le_of_ble_eq_true rfl⟩ (fun H locs hw => ?_)
    obtain rfl := xe1 hf
    exact x_lret S hr hlocks hw d_Mo_byPerson_222
  replace hf := xf c8 hf
  refine lv_tableOut (tgt := 223) S.1 S.2.1 d_Mo_byPerson_8 (by have h_c3 := lv_neT (a := 0) c3 (by decide); have h_c4 := lv_neT (a := 1) c4 (by decide); have h_c7 := lv_neT (a := 2) c7 (by decide); have h_c8 := lv_neT (a := 3) c8 (by decide); omega) (by decide) ?_
  refine lv_iconst (v := 0) S.1 S.2.1 d_Mo_byPerson_223 (by decide) ?_
  refine lv_istore (lv' := [(5, .int 0), (3, .long 0), (0, .ref a0), (1, .int x1), (2, .int x2)]) S.1 S.2.1 d_Mo_byPerson_224 hl (by decide) rfl (fun ls hl => ?_)
  refine lv_iconst (v := 0) S.1 S.2.1 d_Mo_byPerson_226 (by decide) ?_
  refine lv_istore (lv' := [(6, .int 0), (5, .int 0), (3, .long 0), (0, .ref a0), (1, .int x1), (2, .int x2)]) S.1 S.2.1 d_Mo_byPerson_227 hl (by decide) rfl (fun ls hl => ?_)
  exact w_Mo_byPerson_229 S hr hlocks  _ _ _ _ _ _ _ _ _ hw (lv_sub hl [3, 4, 5, 1, 0] rfl) hf
def f_Mo_byDay_5 : Nat → Nat → Int32 → Int32 → Int32 → Int32 → xS → Option Int64
  | 0, _, _, _, _, _, _ => none
  | n + 1, a0, x1, x2, x3, x4, ω =>
    (xgi ω a0 12 0).bind fun t1 =>
    if t1 ≤ x4 then (
      (xgr ω a0 12 16).bind fun t3 =>
      (xai ω t3 x1).bind fun t4 =>
      if t4 ≤ x3 then (
        (xgr ω a0 12 17).bind fun t6 =>
        (xai ω t6 x1).bind fun t7 =>
        if x3 ≤ t7 then (
          some 0)
        else (
          (xgr ω a0 12 17).bind fun t9 =>
          (xai ω t9 x1).bind fun t10 =>
          some (Int32.toInt64 (x3 - t10))))
      else (
        (xgr ω a0 12 16).bind fun t11 =>
        (xai ω t11 x1).bind fun t12 =>
        some (Int32.toInt64 (t12 - x3))))
    else (
      (xgr ω a0 12 2).bind fun t13 =>
      (xai ω t13 ((21 * x4) + x2)).bind fun t14 =>
      (xgr ω a0 12 19).bind fun t15 =>
      (xai ω t15 x1).bind fun t16 =>
      if t14 = t16 then (
        f_Mo_byDay_5  n a0 x1 x2 (x3 + 1) (x4 + 1) ω)
      else (
        f_Mo_byDay_5  n a0 x1 x2 (x3 + 0) (x4 + 1) ω))
set_option maxHeartbeats 4000000 in
set_option maxRecDepth 100000 in
theorem w_Mo_byDay_5 {p : Program} {l : Launch} {e : Env} {s : State} {m : MethodId} {args : Array Value} {below : List Frame} {meth : Method} {c : Code} {E : xV} {z : Nat} {r : Int64} {ω : xS} (S : CallFix p m c b_Mo_byDay 5 s args xTbl "RosterRulesModel") (hr : meth.sig.returnType = (some .long)) (hlocks : meth.locks = false) : ∀ n : Nat, ∀ (a0 : Nat) (x1 : Int32) (x2 : Int32) (x3 : Int32) (x4 : Int32) (H : Heap) (locs : List Loc) (ls : Array Slot), xW E z ω s s.heap H locs → lv_has ls 5 [(0, .ref a0), (1, .int x1), (2, .int x2), (3, .int x3), (4, .int x4)] → f_Mo_byDay_5 n a0 x1 x2 x3 x4 ω = some r → W p l e (headSpec ws_Mo_byDay { frames := 0, cells := 0, slots := 0, locals := 0 }).room s m args below meth c H locs 0 0 (MQ below (xQ E (some (.long r)) z ω) args s 0 0 (fun q => E.2.2 ≤ q)) (F0 m 5 ls []) := by
  intro n
  induction n with
  | zero =>
    intro a0 x1 x2 x3 x4 H locs ls hw hl hf
    have h2 : (none : Option Int64) = some r := hf
    cases h2
  | succ n ih =>
    intro a0 x1 x2 x3 x4 H locs ls hw hl hf
    rw [f_Mo_byDay_5] at hf
    refine lv_iload S.1 S.2.1 d_Mo_byDay_5 (lv_at hl 4 rfl) ?_
    refine lv_aload_n S.1 S.2.1 d_Mo_byDay_7 rfl (lv_at hl 0 rfl) ?_
    obtain ⟨t1, ht1, hf⟩ := xb hf
    refine x_geti S hw lk_Mo_156 ht1 d_Mo_byDay_8 ?_
    refine lv_icmp_ge (tgt := 49) S.1 S.2.1 d_Mo_byDay_11 (by decide) (fun c2 => ?_) (fun c2 => ?_)
    · replace hf := xt c2 hf
      refine lv_iload_n S.1 S.2.1 d_Mo_byDay_49 rfl (lv_at hl 3 rfl) ?_
      refine lv_aload_n S.1 S.2.1 d_Mo_byDay_50 rfl (lv_at hl 0 rfl) ?_
      obtain ⟨t3, ht3, hf⟩ := xb hf
      refine x_getr S hw lk_Mo_51 ht3 d_Mo_byDay_51 ?_
      refine lv_iload_n S.1 S.2.1 d_Mo_byDay_54 rfl (lv_at hl 1 rfl) ?_
      obtain ⟨t4, ht4, hf⟩ := xb hf
      refine x_iald S hw ht4 d_Mo_byDay_55 ?_
      refine lv_icmp_ge (tgt := 71) S.1 S.2.1 d_Mo_byDay_56 (by decide) (fun c5 => ?_) (fun c5 => ?_)
      · replace hf := xt c5 hf
        refine lv_iload_n S.1 S.2.1 d_Mo_byDay_71 rfl (lv_at hl 3 rfl) ?_
        refine lv_aload_n S.1 S.2.1 d_Mo_byDay_72 rfl (lv_at hl 0 rfl) ?_
        obtain ⟨t6, ht6, hf⟩ := xb hf
        refine x_getr S hw lk_Mo_54 ht6 d_Mo_byDay_73 ?_
        refine lv_iload_n S.1 S.2.1 d_Mo_byDay_76 rfl (lv_at hl 1 rfl) ?_
        obtain ⟨t7, ht7, hf⟩ := xb hf
        refine x_iald S hw ht7 d_Mo_byDay_77 ?_
        refine lv_icmp_le (tgt := 93) S.1 S.2.1 d_Mo_byDay_78 (by decide) (fun c8 => ?_) (fun c8 => ?_)
        · replace hf := xt c8 hf
          refine lv_lconst (v := 0) S.1 S.2.1 d_Mo_byDay_93 (by decide) ?_
          obtain rfl := xe1 hf
          exact x_lret S hr hlocks hw d_Mo_byDay_94
        · replace hf := xf c8 hf
          refine lv_iload_n S.1 S.2.1 d_Mo_byDay_81 rfl (lv_at hl 3 rfl) ?_
          refine lv_aload_n S.1 S.2.1 d_Mo_byDay_82 rfl (lv_at hl 0 rfl) ?_
          obtain ⟨t9, ht9, hf⟩ := xb hf
          refine x_getr S hw lk_Mo_54 ht9 d_Mo_byDay_83 ?_
          refine lv_iload_n S.1 S.2.1 d_Mo_byDay_86 rfl (lv_at hl 1 rfl) ?_
          obtain ⟨t10, ht10, hf⟩ := xb hf
          refine x_iald S hw ht10 d_Mo_byDay_87 ?_
          refine lv_isub S.1 S.2.1 d_Mo_byDay_88 ?_
          refine lv_i2l (v := (Int32.toInt64 (x3 - t10))) S.1 S.2.1 d_Mo_byDay_89 rfl ?_
          refine lv_goto (tgt := 94) S.1 S.2.1 d_Mo_byDay_90 (by decide) ?_
          obtain rfl := xe1 hf
          exact x_lret S hr hlocks hw d_Mo_byDay_94
      · replace hf := xf c5 hf
        refine lv_aload_n S.1 S.2.1 d_Mo_byDay_59 rfl (lv_at hl 0 rfl) ?_
        obtain ⟨t11, ht11, hf⟩ := xb hf
        refine x_getr S hw lk_Mo_51 ht11 d_Mo_byDay_60 ?_
        refine lv_iload_n S.1 S.2.1 d_Mo_byDay_63 rfl (lv_at hl 1 rfl) ?_
        obtain ⟨t12, ht12, hf⟩ := xb hf
        refine x_iald S hw ht12 d_Mo_byDay_64 ?_
        refine lv_iload_n S.1 S.2.1 d_Mo_byDay_65 rfl (lv_at hl 3 rfl) ?_
        refine lv_isub S.1 S.2.1 d_Mo_byDay_66 ?_
        refine lv_i2l (v := (Int32.toInt64 (t12 - x3))) S.1 S.2.1 d_Mo_byDay_67 rfl ?_
        refine lv_goto (tgt := 94) S.1 S.2.1 d_Mo_byDay_68 (by decide) ?_
        obtain rfl := xe1 hf
        exact x_lret S hr hlocks hw d_Mo_byDay_94
    · replace hf := xf c2 hf
      refine lv_iload_n S.1 S.2.1 d_Mo_byDay_14 rfl (lv_at hl 3 rfl) ?_
      refine lv_aload_n S.1 S.2.1 d_Mo_byDay_15 rfl (lv_at hl 0 rfl) ?_
      obtain ⟨t13, ht13, hf⟩ := xb hf
      refine x_getr S hw lk_Mo_7 ht13 d_Mo_byDay_16 ?_
      refine lv_bipush (v := 21) S.1 S.2.1 d_Mo_byDay_19 (by decide) ?_
      refine lv_iload S.1 S.2.1 d_Mo_byDay_21 (lv_at hl 4 rfl) ?_
      refine lv_imul S.1 S.2.1 d_Mo_byDay_23 ?_
      refine lv_iload_n S.1 S.2.1 d_Mo_byDay_24 rfl (lv_at hl 2 rfl) ?_
      refine lv_iadd S.1 S.2.1 d_Mo_byDay_25 ?_
      obtain ⟨t14, ht14, hf⟩ := xb hf
      refine x_iald S hw ht14 d_Mo_byDay_26 ?_
      refine lv_aload_n S.1 S.2.1 d_Mo_byDay_27 rfl (lv_at hl 0 rfl) ?_
      obtain ⟨t15, ht15, hf⟩ := xb hf
      refine x_getr S hw lk_Mo_60 ht15 d_Mo_byDay_28 ?_
      refine lv_iload_n S.1 S.2.1 d_Mo_byDay_31 rfl (lv_at hl 1 rfl) ?_
      obtain ⟨t16, ht16, hf⟩ := xb hf
      refine x_iald S hw ht16 d_Mo_byDay_32 ?_
      refine lv_icmp_ne (tgt := 40) S.1 S.2.1 d_Mo_byDay_33 (by decide) (fun c17 => ?_) (fun c17 => ?_)
      · replace hf := xf c17 hf
        refine lv_iconst (v := 0) S.1 S.2.1 d_Mo_byDay_40 (by decide) ?_
        refine lv_iadd S.1 S.2.1 d_Mo_byDay_41 ?_
        refine lv_istore_n (lv' := [(3, .int (x3 + 0)), (0, .ref a0), (1, .int x1), (2, .int x2), (4, .int x4)]) S.1 S.2.1 d_Mo_byDay_42 rfl hl (by decide) rfl (fun ls hl => ?_)
        refine lv_iinc (v := (x4 + 1)) (lv' := [(4, .int (x4 + 1)), (3, .int (x3 + 0)), (0, .ref a0), (1, .int x1), (2, .int x2)]) S.1 S.2.1 d_Mo_byDay_43 hl (k := 4) rfl rfl (by decide) rfl (fun ls hl => ?_)
        refine lv_goto (tgt := 5) S.1 S.2.1 d_Mo_byDay_46 (by decide) ?_
        exact ih _ _ _ _ _ _ _ _ hw (lv_sub hl [2, 3, 4, 1, 0] rfl) hf
      · replace hf := xt c17 hf
        refine lv_iconst (v := 1) S.1 S.2.1 d_Mo_byDay_36 (by decide) ?_
        refine lv_goto (tgt := 41) S.1 S.2.1 d_Mo_byDay_37 (by decide) ?_
        refine lv_iadd S.1 S.2.1 d_Mo_byDay_41 ?_
        refine lv_istore_n (lv' := [(3, .int (x3 + 1)), (0, .ref a0), (1, .int x1), (2, .int x2), (4, .int x4)]) S.1 S.2.1 d_Mo_byDay_42 rfl hl (by decide) rfl (fun ls hl => ?_)
        refine lv_iinc (v := (x4 + 1)) (lv' := [(4, .int (x4 + 1)), (3, .int (x3 + 1)), (0, .ref a0), (1, .int x1), (2, .int x2)]) S.1 S.2.1 d_Mo_byDay_43 hl (k := 4) rfl rfl (by decide) rfl (fun ls hl => ?_)
        refine lv_goto (tgt := 5) S.1 S.2.1 d_Mo_byDay_46 (by decide) ?_
        exact ih _ _ _ _ _ _ _ _ hw (lv_sub hl [2, 3, 4, 1, 0] rfl) hf
def f_Mo_byDay (a0 : Nat) (x1 : Int32) (x2 : Int32) (ω : xS) : Option Int64 :=
  f_Mo_byDay_5  xFU a0 x1 x2 0 0 ω
set_option maxHeartbeats 4000000 in
set_option maxRecDepth 100000 in
theorem c_Mo_byDay {l : Launch} {E : xV} {z : Nat} {a0 : Nat} {x1 : Int32} {x2 : Int32} {r : Int64} {ω : xS} (hf : f_Mo_byDay a0 x1 x2 ω = some r) : xM l E y_Mo_byDay ws_Mo_byDay { frames := 0, cells := 0, slots := 0, locals := 0 } [.ref a0, .int x1, .int x2] z ω (some (.long r)) z ω := by
  refine x_start (cc := b_Mo_byDay) (maxL := 5) (ret := (some .long)) (by decide) rfl (Nat.le_of_ble_eq_true rfl) ?_
  intro p e s m below meth c S hr hlocks hin ls hl hw
  have hl : lv_has ls 5 [(0, .ref a0), (1, .int x1), (2, .int x2)] := hl
  unfold f_Mo_byDay at hf
  refine lv_iconst (v := 0) S.1 S.2.1 d_Mo_byDay_0 (by decide) ?_
  refine lv_istore_n (lv' := [(3, .int 0), (0, .ref a0), (1, .int x1), (2, .int x2)]) S.1 S.2.1 d_Mo_byDay_1 rfl hl (by decide) rfl (fun ls hl => ?_)
  refine lv_iconst (v := 0) S.1 S.2.1 d_Mo_byDay_2 (by decide) ?_
  refine lv_istore (lv' := [(4, .int 0), (3, .int 0), (0, .ref a0), (1, .int x1), (2, .int x2)]) S.1 S.2.1 d_Mo_byDay_3 hl (by decide) rfl (fun ls hl => ?_)
  exact w_Mo_byDay_5 S hr hlocks  _ _ _ _ _ _ _ _ _ hw (lv_sub hl [2, 3, 4, 1, 0] rfl) hf
def f_Mo_spread_23 (k8 : Nat → Int32 → Int32 → Int32 → Int32 → xS → Option Int64) : Nat → Nat → Int32 → Int32 → Int32 → Int32 → Int32 → Int32 → xS → Option Int64
  | 0, _, _, _, _, _, _, _, _ => none
  | n + 1, a0, x1, x2, x3, x4, x5, x6, ω =>
    (xgi ω a0 12 1).bind fun t3 =>
    if t3 ≤ x6 then (
      if x2 ≤ x5 then (
        if x5 ≤ x3 then (
          k8 a0 x1 x2 x3 (x4 + 1) ω)
        else (
          k8 a0 x1 x2 x5 (x4 + 1) ω))
      else (
        if x5 ≤ x3 then (
          k8 a0 x1 x5 x3 (x4 + 1) ω)
        else (
          k8 a0 x1 x5 x5 (x4 + 1) ω)))
    else (
      (xgr ω a0 12 2).bind fun t8 =>
      (xai ω t8 ((21 * x4) + x6)).bind fun t9 =>
      (xgr ω a0 12 19).bind fun t10 =>
      (xai ω t10 x1).bind fun t11 =>
      if t9 = t11 then (
        f_Mo_spread_23 k8 n a0 x1 x2 x3 x4 (x5 + 1) (x6 + 1) ω)
      else (
        f_Mo_spread_23 k8 n a0 x1 x2 x3 x4 (x5 + 0) (x6 + 1) ω))
set_option maxHeartbeats 4000000 in
set_option maxRecDepth 100000 in
theorem w_Mo_spread_23 {p : Program} {l : Launch} {e : Env} {s : State} {m : MethodId} {args : Array Value} {below : List Frame} {meth : Method} {c : Code} {E : xV} {z : Nat} {r : Int64} {ω : xS} {k8 : Nat → Int32 → Int32 → Int32 → Int32 → xS → Option Int64} (S : CallFix p m c b_Mo_spread 7 s args xTbl "RosterRulesModel") (hr : meth.sig.returnType = (some .long)) (hlocks : meth.locks = false) (hk8 : ∀ (a0 : Nat) (x1 : Int32) (x2 : Int32) (x3 : Int32) (x4 : Int32) (H : Heap) (locs : List Loc) (ls : Array Slot), xW E z ω s s.heap H locs → lv_has ls 7 [(0, .ref a0), (1, .int x1), (2, .int x2), (3, .int x3), (4, .int x4)] → k8 a0 x1 x2 x3 x4 ω = some r → W p l e (headSpec ws_Mo_spread { frames := 0, cells := 0, slots := 0, locals := 0 }).room s m args below meth c H locs 0 0 (MQ below (xQ E (some (.long r)) z ω) args s 0 0 (fun q => E.2.2 ≤ q)) (F0 m 8 ls [])) : ∀ n : Nat, ∀ (a0 : Nat) (x1 : Int32) (x2 : Int32) (x3 : Int32) (x4 : Int32) (x5 : Int32) (x6 : Int32) (H : Heap) (locs : List Loc) (ls : Array Slot), xW E z ω s s.heap H locs → lv_has ls 7 [(0, .ref a0), (1, .int x1), (2, .int x2), (3, .int x3), (4, .int x4), (5, .int x5), (6, .int x6)] → f_Mo_spread_23 k8 n a0 x1 x2 x3 x4 x5 x6 ω = some r → W p l e (headSpec ws_Mo_spread { frames := 0, cells := 0, slots := 0, locals := 0 }).room s m args below meth c H locs 0 0 (MQ below (xQ E (some (.long r)) z ω) args s 0 0 (fun q => E.2.2 ≤ q)) (F0 m 23 ls []) := by
  intro n
  induction n with
  | zero =>
    intro a0 x1 x2 x3 x4 x5 x6 H locs ls hw hl hf
    have h2 : (none : Option Int64) = some r := hf
    cases h2
  | succ n ih =>
    intro a0 x1 x2 x3 x4 x5 x6 H locs ls hw hl hf
    rw [f_Mo_spread_23] at hf
    refine lv_iload S.1 S.2.1 d_Mo_spread_23 (lv_at hl 6 rfl) ?_
    refine lv_aload_n S.1 S.2.1 d_Mo_spread_25 rfl (lv_at hl 0 rfl) ?_
    obtain ⟨t3, ht3, hf⟩ := xb hf
    refine x_geti S hw lk_Mo_159 ht3 d_Mo_spread_26 ?_
    refine lv_icmp_ge (tgt := 70) S.1 S.2.1 d_Mo_spread_29 (by decide) (fun c4 => ?_) (fun c4 => ?_)
    · replace hf := xt c4 hf
      refine lv_iload S.1 S.2.1 d_Mo_spread_70 (lv_at hl 5 rfl) ?_
      refine lv_iload_n S.1 S.2.1 d_Mo_spread_72 rfl (lv_at hl 2 rfl) ?_
      refine lv_icmp_ge (tgt := 81) S.1 S.2.1 d_Mo_spread_73 (by decide) (fun c5 => ?_) (fun c5 => ?_)
      · replace hf := xt c5 hf
        refine lv_iload_n S.1 S.2.1 d_Mo_spread_81 rfl (lv_at hl 2 rfl) ?_
        refine lv_istore_n (lv' := [(2, .int x2), (0, .ref a0), (1, .int x1), (3, .int x3), (4, .int x4), (5, .int x5), (6, .int x6)]) S.1 S.2.1 d_Mo_spread_82 rfl hl (by decide) rfl (fun ls hl => ?_)
        refine lv_iload S.1 S.2.1 d_Mo_spread_83 (lv_at hl 5 rfl) ?_
        refine lv_iload_n S.1 S.2.1 d_Mo_spread_85 rfl (lv_at hl 3 rfl) ?_
        refine lv_icmp_le (tgt := 94) S.1 S.2.1 d_Mo_spread_86 (by decide) (fun c6 => ?_) (fun c6 => ?_)
        · replace hf := xt c6 hf
          refine lv_iload_n S.1 S.2.1 d_Mo_spread_94 rfl (lv_at hl 3 rfl) ?_
          refine lv_istore_n (lv' := [(3, .int x3), (2, .int x2), (0, .ref a0), (1, .int x1), (4, .int x4), (5, .int x5), (6, .int x6)]) S.1 S.2.1 d_Mo_spread_95 rfl hl (by decide) rfl (fun ls hl => ?_)
          refine lv_iinc (v := (x4 + 1)) (lv' := [(4, .int (x4 + 1)), (3, .int x3), (2, .int x2), (0, .ref a0), (1, .int x1), (5, .int x5), (6, .int x6)]) S.1 S.2.1 d_Mo_spread_96 hl (k := 4) rfl rfl (by decide) rfl (fun ls hl => ?_)
          refine lv_goto (tgt := 8) S.1 S.2.1 d_Mo_spread_99 (by decide) ?_
          exact hk8 _ _ _ _ _ _ _ _ hw (lv_sub hl [3, 4, 2, 1, 0] rfl) hf
        · replace hf := xf c6 hf
          refine lv_iload S.1 S.2.1 d_Mo_spread_89 (lv_at hl 5 rfl) ?_
          refine lv_goto (tgt := 95) S.1 S.2.1 d_Mo_spread_91 (by decide) ?_
          refine lv_istore_n (lv' := [(3, .int x5), (2, .int x2), (0, .ref a0), (1, .int x1), (4, .int x4), (5, .int x5), (6, .int x6)]) S.1 S.2.1 d_Mo_spread_95 rfl hl (by decide) rfl (fun ls hl => ?_)
          refine lv_iinc (v := (x4 + 1)) (lv' := [(4, .int (x4 + 1)), (3, .int x5), (2, .int x2), (0, .ref a0), (1, .int x1), (5, .int x5), (6, .int x6)]) S.1 S.2.1 d_Mo_spread_96 hl (k := 4) rfl rfl (by decide) rfl (fun ls hl => ?_)
          refine lv_goto (tgt := 8) S.1 S.2.1 d_Mo_spread_99 (by decide) ?_
          exact hk8 _ _ _ _ _ _ _ _ hw (lv_sub hl [3, 4, 2, 1, 0] rfl) hf
      · replace hf := xf c5 hf
        refine lv_iload S.1 S.2.1 d_Mo_spread_76 (lv_at hl 5 rfl) ?_
        refine lv_goto (tgt := 82) S.1 S.2.1 d_Mo_spread_78 (by decide) ?_
        refine lv_istore_n (lv' := [(2, .int x5), (0, .ref a0), (1, .int x1), (3, .int x3), (4, .int x4), (5, .int x5), (6, .int x6)]) S.1 S.2.1 d_Mo_spread_82 rfl hl (by decide) rfl (fun ls hl => ?_)
        refine lv_iload S.1 S.2.1 d_Mo_spread_83 (lv_at hl 5 rfl) ?_
        refine lv_iload_n S.1 S.2.1 d_Mo_spread_85 rfl (lv_at hl 3 rfl) ?_
        refine lv_icmp_le (tgt := 94) S.1 S.2.1 d_Mo_spread_86 (by decide) (fun c7 => ?_) (fun c7 => ?_)
        · replace hf := xt c7 hf
          refine lv_iload_n S.1 S.2.1 d_Mo_spread_94 rfl (lv_at hl 3 rfl) ?_
          refine lv_istore_n (lv' := [(3, .int x3), (2, .int x5), (0, .ref a0), (1, .int x1), (4, .int x4), (5, .int x5), (6, .int x6)]) S.1 S.2.1 d_Mo_spread_95 rfl hl (by decide) rfl (fun ls hl => ?_)
          refine lv_iinc (v := (x4 + 1)) (lv' := [(4, .int (x4 + 1)), (3, .int x3), (2, .int x5), (0, .ref a0), (1, .int x1), (5, .int x5), (6, .int x6)]) S.1 S.2.1 d_Mo_spread_96 hl (k := 4) rfl rfl (by decide) rfl (fun ls hl => ?_)
          refine lv_goto (tgt := 8) S.1 S.2.1 d_Mo_spread_99 (by decide) ?_
          exact hk8 _ _ _ _ _ _ _ _ hw (lv_sub hl [3, 4, 2, 1, 0] rfl) hf
        · replace hf := xf c7 hf
          refine lv_iload S.1 S.2.1 d_Mo_spread_89 (lv_at hl 5 rfl) ?_
          refine lv_goto (tgt := 95) S.1 S.2.1 d_Mo_spread_91 (by decide) ?_
          refine lv_istore_n (lv' := [(3, .int x5), (2, .int x5), (0, .ref a0), (1, .int x1), (4, .int x4), (5, .int x5), (6, .int x6)]) S.1 S.2.1 d_Mo_spread_95 rfl hl (by decide) rfl (fun ls hl => ?_)
          refine lv_iinc (v := (x4 + 1)) (lv' := [(4, .int (x4 + 1)), (3, .int x5), (2, .int x5), (0, .ref a0), (1, .int x1), (5, .int x5), (6, .int x6)]) S.1 S.2.1 d_Mo_spread_96 hl (k := 4) rfl rfl (by decide) rfl (fun ls hl => ?_)
          refine lv_goto (tgt := 8) S.1 S.2.1 d_Mo_spread_99 (by decide) ?_
          exact hk8 _ _ _ _ _ _ _ _ hw (lv_sub hl [3, 4, 2, 1, 0] rfl) hf
    · replace hf := xf c4 hf
      refine lv_iload S.1 S.2.1 d_Mo_spread_32 (lv_at hl 5 rfl) ?_
      refine lv_aload_n S.1 S.2.1 d_Mo_spread_34 rfl (lv_at hl 0 rfl) ?_
      obtain ⟨t8, ht8, hf⟩ := xb hf
      refine x_getr S hw lk_Mo_7 ht8 d_Mo_spread_35 ?_
      refine lv_bipush (v := 21) S.1 S.2.1 d_Mo_spread_38 (by decide) ?_
      refine lv_iload S.1 S.2.1 d_Mo_spread_40 (lv_at hl 4 rfl) ?_
      refine lv_imul S.1 S.2.1 d_Mo_spread_42 ?_
      refine lv_iload S.1 S.2.1 d_Mo_spread_43 (lv_at hl 6 rfl) ?_
      refine lv_iadd S.1 S.2.1 d_Mo_spread_45 ?_
      obtain ⟨t9, ht9, hf⟩ := xb hf
      refine x_iald S hw ht9 d_Mo_spread_46 ?_
      refine lv_aload_n S.1 S.2.1 d_Mo_spread_47 rfl (lv_at hl 0 rfl) ?_
      obtain ⟨t10, ht10, hf⟩ := xb hf
      refine x_getr S hw lk_Mo_60 ht10 d_Mo_spread_48 ?_
      refine lv_iload_n S.1 S.2.1 d_Mo_spread_51 rfl (lv_at hl 1 rfl) ?_
      obtain ⟨t11, ht11, hf⟩ := xb hf
      refine x_iald S hw ht11 d_Mo_spread_52 ?_
      refine lv_icmp_ne (tgt := 60) S.1 S.2.1 d_Mo_spread_53 (by decide) (fun c12 => ?_) (fun c12 => ?_)
      · replace hf := xf c12 hf
        refine lv_iconst (v := 0) S.1 S.2.1 d_Mo_spread_60 (by decide) ?_
        refine lv_iadd S.1 S.2.1 d_Mo_spread_61 ?_
        refine lv_istore (lv' := [(5, .int (x5 + 0)), (0, .ref a0), (1, .int x1), (2, .int x2), (3, .int x3), (4, .int x4), (6, .int x6)]) S.1 S.2.1 d_Mo_spread_62 hl (by decide) rfl (fun ls hl => ?_)
        refine lv_iinc (v := (x6 + 1)) (lv' := [(6, .int (x6 + 1)), (5, .int (x5 + 0)), (0, .ref a0), (1, .int x1), (2, .int x2), (3, .int x3), (4, .int x4)]) S.1 S.2.1 d_Mo_spread_64 hl (k := 6) rfl rfl (by decide) rfl (fun ls hl => ?_)
        refine lv_goto (tgt := 23) S.1 S.2.1 d_Mo_spread_67 (by decide) ?_
        exact ih _ _ _ _ _ _ _ _ _ _ hw (lv_sub hl [2, 3, 4, 5, 6, 1, 0] rfl) hf
      · replace hf := xt c12 hf
        refine lv_iconst (v := 1) S.1 S.2.1 d_Mo_spread_56 (by decide) ?_
        refine lv_goto (tgt := 61) S.1 S.2.1 d_Mo_spread_57 (by decide) ?_
        refine lv_iadd S.1 S.2.1 d_Mo_spread_61 ?_
        refine lv_istore (lv' := [(5, .int (x5 + 1)), (0, .ref a0), (1, .int x1), (2, .int x2), (3, .int x3), (4, .int x4), (6, .int x6)]) S.1 S.2.1 d_Mo_spread_62 hl (by decide) rfl (fun ls hl => ?_)
        refine lv_iinc (v := (x6 + 1)) (lv' := [(6, .int (x6 + 1)), (5, .int (x5 + 1)), (0, .ref a0), (1, .int x1), (2, .int x2), (3, .int x3), (4, .int x4)]) S.1 S.2.1 d_Mo_spread_64 hl (k := 6) rfl rfl (by decide) rfl (fun ls hl => ?_)
        refine lv_goto (tgt := 23) S.1 S.2.1 d_Mo_spread_67 (by decide) ?_
        exact ih _ _ _ _ _ _ _ _ _ _ hw (lv_sub hl [2, 3, 4, 5, 6, 1, 0] rfl) hf
def f_Mo_spread_8 : Nat → Nat → Int32 → Int32 → Int32 → Int32 → xS → Option Int64
  | 0, _, _, _, _, _, _ => none
  | n + 1, a0, x1, x2, x3, x4, ω =>
    (xgi ω a0 12 0).bind fun t1 =>
    if t1 ≤ x4 then (
      some (Int32.toInt64 (x3 - x2)))
    else (
      f_Mo_spread_23 (f_Mo_spread_8  n) xFU a0 x1 x2 x3 x4 0 0 ω)
set_option maxHeartbeats 4000000 in
set_option maxRecDepth 100000 in
theorem w_Mo_spread_8 {p : Program} {l : Launch} {e : Env} {s : State} {m : MethodId} {args : Array Value} {below : List Frame} {meth : Method} {c : Code} {E : xV} {z : Nat} {r : Int64} {ω : xS} (S : CallFix p m c b_Mo_spread 7 s args xTbl "RosterRulesModel") (hr : meth.sig.returnType = (some .long)) (hlocks : meth.locks = false) : ∀ n : Nat, ∀ (a0 : Nat) (x1 : Int32) (x2 : Int32) (x3 : Int32) (x4 : Int32) (H : Heap) (locs : List Loc) (ls : Array Slot), xW E z ω s s.heap H locs → lv_has ls 7 [(0, .ref a0), (1, .int x1), (2, .int x2), (3, .int x3), (4, .int x4)] → f_Mo_spread_8 n a0 x1 x2 x3 x4 ω = some r → W p l e (headSpec ws_Mo_spread { frames := 0, cells := 0, slots := 0, locals := 0 }).room s m args below meth c H locs 0 0 (MQ below (xQ E (some (.long r)) z ω) args s 0 0 (fun q => E.2.2 ≤ q)) (F0 m 8 ls []) := by
  intro n
  induction n with
  | zero =>
    intro a0 x1 x2 x3 x4 H locs ls hw hl hf
    have h2 : (none : Option Int64) = some r := hf
    cases h2
  | succ n ih =>
    intro a0 x1 x2 x3 x4 H locs ls hw hl hf
    rw [f_Mo_spread_8] at hf
    refine lv_iload S.1 S.2.1 d_Mo_spread_8 (lv_at hl 4 rfl) ?_
    refine lv_aload_n S.1 S.2.1 d_Mo_spread_10 rfl (lv_at hl 0 rfl) ?_
    obtain ⟨t1, ht1, hf⟩ := xb hf
    refine x_geti S hw lk_Mo_156 ht1 d_Mo_spread_11 ?_
    refine lv_icmp_ge (tgt := 102) S.1 S.2.1 d_Mo_spread_14 (by decide) (fun c2 => ?_) (fun c2 => ?_)
    · replace hf := xt c2 hf
      refine lv_iload_n S.1 S.2.1 d_Mo_spread_102 rfl (lv_at hl 3 rfl) ?_
      refine lv_iload_n S.1 S.2.1 d_Mo_spread_103 rfl (lv_at hl 2 rfl) ?_
      refine lv_isub S.1 S.2.1 d_Mo_spread_104 ?_
      refine lv_i2l (v := (Int32.toInt64 (x3 - x2))) S.1 S.2.1 d_Mo_spread_105 rfl ?_
      obtain rfl := xe1 hf
      exact x_lret S hr hlocks hw d_Mo_spread_106
    · replace hf := xf c2 hf
      refine lv_iconst (v := 0) S.1 S.2.1 d_Mo_spread_17 (by decide) ?_
      refine lv_istore (lv' := [(5, .int 0), (0, .ref a0), (1, .int x1), (2, .int x2), (3, .int x3), (4, .int x4)]) S.1 S.2.1 d_Mo_spread_18 hl (by decide) rfl (fun ls hl => ?_)
      refine lv_iconst (v := 0) S.1 S.2.1 d_Mo_spread_20 (by decide) ?_
      refine lv_istore (lv' := [(6, .int 0), (5, .int 0), (0, .ref a0), (1, .int x1), (2, .int x2), (3, .int x3), (4, .int x4)]) S.1 S.2.1 d_Mo_spread_21 hl (by decide) rfl (fun ls hl => ?_)
      exact w_Mo_spread_23 S hr hlocks ih _ _ _ _ _ _ _ _ _ _ _ hw (lv_sub hl [2, 3, 4, 5, 6, 1, 0] rfl) hf
def f_Mo_spread (a0 : Nat) (x1 : Int32) (ω : xS) : Option Int64 :=
  f_Mo_spread_8  xFU a0 x1 99 0 0 ω
set_option maxHeartbeats 4000000 in
set_option maxRecDepth 100000 in
theorem c_Mo_spread {l : Launch} {E : xV} {z : Nat} {a0 : Nat} {x1 : Int32} {r : Int64} {ω : xS} (hf : f_Mo_spread a0 x1 ω = some r) : xM l E y_Mo_spread ws_Mo_spread { frames := 0, cells := 0, slots := 0, locals := 0 } [.ref a0, .int x1] z ω (some (.long r)) z ω := by
  refine x_start (cc := b_Mo_spread) (maxL := 7) (ret := (some .long)) (by decide) rfl (Nat.le_of_ble_eq_true rfl) ?_
  intro p e s m below meth c S hr hlocks hin ls hl hw
  have hl : lv_has ls 7 [(0, .ref a0), (1, .int x1)] := hl
  unfold f_Mo_spread at hf
  refine lv_bipush (v := 99) S.1 S.2.1 d_Mo_spread_0 (by decide) ?_
  refine lv_istore_n (lv' := [(2, .int 99), (0, .ref a0), (1, .int x1)]) S.1 S.2.1 d_Mo_spread_2 rfl hl (by decide) rfl (fun ls hl => ?_)
  refine lv_iconst (v := 0) S.1 S.2.1 d_Mo_spread_3 (by decide) ?_
  refine lv_istore_n (lv' := [(3, .int 0), (2, .int 99), (0, .ref a0), (1, .int x1)]) S.1 S.2.1 d_Mo_spread_4 rfl hl (by decide) rfl (fun ls hl => ?_)
  refine lv_iconst (v := 0) S.1 S.2.1 d_Mo_spread_5 (by decide) ?_
  refine lv_istore (lv' := [(4, .int 0), (3, .int 0), (2, .int 99), (0, .ref a0), (1, .int x1)]) S.1 S.2.1 d_Mo_spread_6 hl (by decide) rfl (fun ls hl => ?_)
  exact w_Mo_spread_8 S hr hlocks  _ _ _ _ _ _ _ _ _ hw (lv_sub hl [3, 4, 2, 1, 0] rfl) hf
def f_Mo_wishOf (a0 : Nat) (x1 : Int32) (x2 : Int32) (ω : xS) : Option Int64 :=
  (xgr ω a0 12 9).bind fun t1 =>
  (xai ω t1 ((21 * x1) + x2)).bind fun t2 =>
  if t2 ≤ 0 then (
    some 0)
  else (
    (xgr ω a0 12 8).bind fun t4 =>
    (xai ω t4 ((21 * x1) + x2)).bind fun t5 =>
    (xgr ω a0 12 2).bind fun t6 =>
    (xai ω t6 ((21 * x1) + x2)).bind fun t7 =>
    if t5 = t7 then (
      some 0)
    else (
      (xgr ω a0 12 9).bind fun t9 =>
      (xai ω t9 ((21 * x1) + x2)).bind fun t10 =>
      some (Int32.toInt64 t10)))
set_option maxHeartbeats 4000000 in
set_option maxRecDepth 100000 in
theorem c_Mo_wishOf {l : Launch} {E : xV} {z : Nat} {a0 : Nat} {x1 : Int32} {x2 : Int32} {r : Int64} {ω : xS} (hf : f_Mo_wishOf a0 x1 x2 ω = some r) : xM l E y_Mo_wishOf ws_Mo_wishOf { frames := 0, cells := 0, slots := 0, locals := 0 } [.ref a0, .int x1, .int x2] z ω (some (.long r)) z ω := by
  refine x_start (cc := b_Mo_wishOf) (maxL := 3) (ret := (some .long)) (by decide) rfl (Nat.le_of_ble_eq_true rfl) ?_
  intro p e s m below meth c S hr hlocks hin ls hl hw
  have hl : lv_has ls 3 [(0, .ref a0), (1, .int x1), (2, .int x2)] := hl
  unfold f_Mo_wishOf at hf
  refine lv_aload_n S.1 S.2.1 d_Mo_wishOf_0 rfl (lv_at hl 0 rfl) ?_
  obtain ⟨t1, ht1, hf⟩ := xb hf
  refine x_getr S hw lk_Mo_31 ht1 d_Mo_wishOf_1 ?_
  refine lv_bipush (v := 21) S.1 S.2.1 d_Mo_wishOf_4 (by decide) ?_
  refine lv_iload_n S.1 S.2.1 d_Mo_wishOf_6 rfl (lv_at hl 1 rfl) ?_
  refine lv_imul S.1 S.2.1 d_Mo_wishOf_7 ?_
  refine lv_iload_n S.1 S.2.1 d_Mo_wishOf_8 rfl (lv_at hl 2 rfl) ?_
  refine lv_iadd S.1 S.2.1 d_Mo_wishOf_9 ?_
  obtain ⟨t2, ht2, hf⟩ := xb hf
  refine x_iald S hw ht2 d_Mo_wishOf_10 ?_
  refine lv_if_le (tgt := 54) S.1 S.2.1 d_Mo_wishOf_11 (by decide) (fun c3 => ?_) (fun c3 => ?_)
  · replace hf := xt c3 hf
    refine lv_lconst (v := 0) S.1 S.2.1 d_Mo_wishOf_54 (by decide) ?_
    obtain rfl := xe1 hf
    exact x_lret S hr hlocks hw d_Mo_wishOf_55
  · replace hf := xf c3 hf
    refine lv_aload_n S.1 S.2.1 d_Mo_wishOf_14 rfl (lv_at hl 0 rfl) ?_
    obtain ⟨t4, ht4, hf⟩ := xb hf
    refine x_getr S hw lk_Mo_28 ht4 d_Mo_wishOf_15 ?_
    refine lv_bipush (v := 21) S.1 S.2.1 d_Mo_wishOf_18 (by decide) ?_
    refine lv_iload_n S.1 S.2.1 d_Mo_wishOf_20 rfl (lv_at hl 1 rfl) ?_
    refine lv_imul S.1 S.2.1 d_Mo_wishOf_21 ?_
    refine lv_iload_n S.1 S.2.1 d_Mo_wishOf_22 rfl (lv_at hl 2 rfl) ?_
    refine lv_iadd S.1 S.2.1 d_Mo_wishOf_23 ?_
    obtain ⟨t5, ht5, hf⟩ := xb hf
    refine x_iald S hw ht5 d_Mo_wishOf_24 ?_
    refine lv_aload_n S.1 S.2.1 d_Mo_wishOf_25 rfl (lv_at hl 0 rfl) ?_
    obtain ⟨t6, ht6, hf⟩ := xb hf
    refine x_getr S hw lk_Mo_7 ht6 d_Mo_wishOf_26 ?_
    refine lv_bipush (v := 21) S.1 S.2.1 d_Mo_wishOf_29 (by decide) ?_
    refine lv_iload_n S.1 S.2.1 d_Mo_wishOf_31 rfl (lv_at hl 1 rfl) ?_
    refine lv_imul S.1 S.2.1 d_Mo_wishOf_32 ?_
    refine lv_iload_n S.1 S.2.1 d_Mo_wishOf_33 rfl (lv_at hl 2 rfl) ?_
    refine lv_iadd S.1 S.2.1 d_Mo_wishOf_34 ?_
    obtain ⟨t7, ht7, hf⟩ := xb hf
    refine x_iald S hw ht7 d_Mo_wishOf_35 ?_
    refine lv_icmp_eq (tgt := 54) S.1 S.2.1 d_Mo_wishOf_36 (by decide) (fun c8 => ?_) (fun c8 => ?_)
    · replace hf := xt c8 hf
      refine lv_lconst (v := 0) S.1 S.2.1 d_Mo_wishOf_54 (by decide) ?_
      obtain rfl := xe1 hf
      exact x_lret S hr hlocks hw d_Mo_wishOf_55
    · replace hf := xf c8 hf
      refine lv_aload_n S.1 S.2.1 d_Mo_wishOf_39 rfl (lv_at hl 0 rfl) ?_
      obtain ⟨t9, ht9, hf⟩ := xb hf
      refine x_getr S hw lk_Mo_31 ht9 d_Mo_wishOf_40 ?_
      refine lv_bipush (v := 21) S.1 S.2.1 d_Mo_wishOf_43 (by decide) ?_
      refine lv_iload_n S.1 S.2.1 d_Mo_wishOf_45 rfl (lv_at hl 1 rfl) ?_
      refine lv_imul S.1 S.2.1 d_Mo_wishOf_46 ?_
      refine lv_iload_n S.1 S.2.1 d_Mo_wishOf_47 rfl (lv_at hl 2 rfl) ?_
      refine lv_iadd S.1 S.2.1 d_Mo_wishOf_48 ?_
      obtain ⟨t10, ht10, hf⟩ := xb hf
      refine x_iald S hw ht10 d_Mo_wishOf_49 ?_
      refine lv_i2l (v := (Int32.toInt64 t10)) S.1 S.2.1 d_Mo_wishOf_50 rfl ?_
      refine lv_goto (tgt := 55) S.1 S.2.1 d_Mo_wishOf_51 (by decide) ?_
      obtain rfl := xe1 hf
      exact x_lret S hr hlocks hw d_Mo_wishOf_55
def f_Mo_broken_124 (k105 : Nat → Int32 → Int32 → Int64 → Int32 → xS → Option Int64) (a0 : Nat) (x1 : Int32) (x3 : Int32) (x4 : Int64) (x6 : Int32) (y0 : Int32) (y1 : Int32) (ω : xS) : Option Int64 :=
  if y0 ≤ y1 then (
    some x4)
  else (
    if x3 = 6 then (
      (xk ω a0 12 (f_Mo_byDay a0 x1 x6 ω)).bind fun t29 =>
      k105 a0 x1 x3 (x4 + t29) (x6 + 1) ω)
    else (
      (xk ω a0 12 (f_Mo_byPerson a0 x1 x6 ω)).bind fun t27 =>
      k105 a0 x1 x3 (x4 + t27) (x6 + 1) ω))
set_option maxHeartbeats 4000000 in
set_option maxRecDepth 100000 in
theorem w_Mo_broken_124 {p : Program} {l : Launch} {e : Env} {s : State} {m : MethodId} {args : Array Value} {below : List Frame} {meth : Method} {c : Code} {E : xV} {z : Nat} {r : Int64} {ω : xS} {k105 : Nat → Int32 → Int32 → Int64 → Int32 → xS → Option Int64} (S : CallFix p m c b_Mo_broken 7 s args xTbl "RosterRulesModel") (hr : meth.sig.returnType = (some .long)) (hlocks : meth.locks = false) (hk105 : ∀ (a0 : Nat) (x1 : Int32) (x3 : Int32) (x4 : Int64) (x6 : Int32) (H : Heap) (locs : List Loc) (ls : Array Slot), xW E z ω s s.heap H locs → lv_has ls 7 [(0, .ref a0), (1, .int x1), (3, .int x3), (4, .long x4), (6, .int x6)] → k105 a0 x1 x3 x4 x6 ω = some r → W p l e (headSpec ws_Mo_broken { frames := 4, cells := 0, slots := 0, locals := 96 }).room s m args below meth c H locs 0 0 (MQ below (xQ E (some (.long r)) z ω) args s 0 0 (fun q => E.2.2 ≤ q)) (F0 m 105 ls [])) : ∀ (a0 : Nat) (x1 : Int32) (x3 : Int32) (x4 : Int64) (x6 : Int32) (y0 : Int32) (y1 : Int32) (H : Heap) (locs : List Loc) (ls : Array Slot), xW E z ω s s.heap H locs → lv_has ls 7 [(0, .ref a0), (1, .int x1), (3, .int x3), (4, .long x4), (6, .int x6)] → f_Mo_broken_124 k105 a0 x1 x3 x4 x6 y0 y1 ω = some r → W p l e (headSpec ws_Mo_broken { frames := 4, cells := 0, slots := 0, locals := 96 }).room s m args below meth c H locs 0 0 (MQ below (xQ E (some (.long r)) z ω) args s 0 0 (fun q => E.2.2 ≤ q)) (F0 m 124 ls [.int y0, .int y1]) := by
  intro a0 x1 x3 x4 x6 y0 y1 H locs ls hw hl hf
  unfold f_Mo_broken_124 at hf
  refine lv_icmp_ge (tgt := 161) S.1 S.2.1 d_Mo_broken_124 (by decide) (fun c24 => ?_) (fun c24 => ?_)
  · replace hf := xt c24 hf
    refine lv_lload S.1 S.2.1 d_Mo_broken_161 (lv_at hl 3 rfl) ?_
    obtain rfl := xe1 hf
    exact x_lret S hr hlocks hw d_Mo_broken_163
  · replace hf := xf c24 hf
    refine lv_lload S.1 S.2.1 d_Mo_broken_127 (lv_at hl 3 rfl) ?_
    refine lv_iload_n S.1 S.2.1 d_Mo_broken_129 rfl (lv_at hl 2 rfl) ?_
    refine lv_bipush (v := 6) S.1 S.2.1 d_Mo_broken_130 (by decide) ?_
    refine lv_icmp_ne (tgt := 145) S.1 S.2.1 d_Mo_broken_132 (by decide) (fun c25 => ?_) (fun c25 => ?_)
    · replace hf := xf c25 hf
      refine lv_aload_n S.1 S.2.1 d_Mo_broken_145 rfl (lv_at hl 0 rfl) ?_
      refine lv_iload_n S.1 S.2.1 d_Mo_broken_146 rfl (lv_at hl 1 rfl) ?_
      refine lv_iload S.1 S.2.1 d_Mo_broken_147 (lv_at hl 4 rfl) ?_
      obtain ⟨t27, h26, hf⟩ := xb hf
      obtain ⟨h26b, h26⟩ := xkb h26
      refine x_callV (As := [.int x1, .int x6]) (rest := [.long x4]) (st1 := [.long t27, .long x4]) S hw (c_Mo_byPerson h26) (cwV 2 S.2.2.2.2 gv_Mo_374 rfl rfl rfl hd_Mo_byPerson ⟨Nat.le_of_ble_eq_true rfl, Nat.le_of_ble_eq_true rfl⟩) rfl h26b rfl hl.1 rfl rfl (Nat.le_of_ble_eq_true rfl) d_Mo_broken_149 ⟨Nat.le_of_ble_eq_true rfl, Nat.le_of_ble_eq_true rfl⟩ (fun H locs hw => ?_)
      refine lv_ladd S.1 S.2.1 d_Mo_broken_152 ?_
      refine lv_lstore (lv' := [(4, .long (x4 + t27)), (0, .ref a0), (1, .int x1), (3, .int x3), (6, .int x6)]) S.1 S.2.1 d_Mo_broken_153 hl (by decide) rfl (fun ls hl => ?_)
      refine lv_iinc (v := (x6 + 1)) (lv' := [(6, .int (x6 + 1)), (4, .long (x4 + t27)), (0, .ref a0), (1, .int x1), (3, .int x3)]) S.1 S.2.1 d_Mo_broken_155 hl (k := 4) rfl rfl (by decide) rfl (fun ls hl => ?_)
      refine lv_goto (tgt := 105) S.1 S.2.1 d_Mo_broken_158 (by decide) ?_
      exact hk105 _ _ _ _ _ _ _ _ hw (lv_sub hl [2, 3, 4, 1, 0] rfl) hf
    · replace hf := xt c25 hf
      refine lv_aload_n S.1 S.2.1 d_Mo_broken_135 rfl (lv_at hl 0 rfl) ?_
      refine lv_iload_n S.1 S.2.1 d_Mo_broken_136 rfl (lv_at hl 1 rfl) ?_
      refine lv_iload S.1 S.2.1 d_Mo_broken_137 (lv_at hl 4 rfl) ?_
      obtain ⟨t29, h28, hf⟩ := xb hf
      obtain ⟨h28b, h28⟩ := xkb h28
      refine x_callV (As := [.int x1, .int x6]) (rest := [.long x4]) (st1 := [.long t29, .long x4]) S hw (c_Mo_byDay h28) (cwV 2 S.2.2.2.2 gv_Mo_371 rfl rfl rfl hd_Mo_byDay ⟨Nat.le_of_ble_eq_true rfl, Nat.le_of_ble_eq_true rfl⟩) rfl h28b rfl hl.1 rfl rfl (Nat.le_of_ble_eq_true rfl) d_Mo_broken_139 ⟨Nat.le_of_ble_eq_true rfl, Nat.le_of_ble_eq_true rfl⟩ (fun H locs hw => ?_)
      refine lv_goto (tgt := 152) S.1 S.2.1 d_Mo_broken_142 (by decide) ?_
      refine lv_ladd S.1 S.2.1 d_Mo_broken_152 ?_
      refine lv_lstore (lv' := [(4, .long (x4 + t29)), (0, .ref a0), (1, .int x1), (3, .int x3), (6, .int x6)]) S.1 S.2.1 d_Mo_broken_153 hl (by decide) rfl (fun ls hl => ?_)
      refine lv_iinc (v := (x6 + 1)) (lv' := [(6, .int (x6 + 1)), (4, .long (x4 + t29)), (0, .ref a0), (1, .int x1), (3, .int x3)]) S.1 S.2.1 d_Mo_broken_155 hl (k := 4) rfl rfl (by decide) rfl (fun ls hl => ?_)
      refine lv_goto (tgt := 105) S.1 S.2.1 d_Mo_broken_158 (by decide) ?_
      exact hk105 _ _ _ _ _ _ _ _ hw (lv_sub hl [2, 3, 4, 1, 0] rfl) hf
def f_Mo_broken_105 : Nat → Nat → Int32 → Int32 → Int64 → Int32 → xS → Option Int64
  | 0, _, _, _, _, _, _ => none
  | n + 1, a0, x1, x3, x4, x6, ω =>
    if x3 = 6 then (
      (xgi ω a0 12 1).bind fun t23 =>
      f_Mo_broken_124 (f_Mo_broken_105  n) a0 x1 x3 x4 x6 t23 x6 ω)
    else (
      (xgi ω a0 12 0).bind fun t22 =>
      f_Mo_broken_124 (f_Mo_broken_105  n) a0 x1 x3 x4 x6 t22 x6 ω)
set_option maxHeartbeats 4000000 in
set_option maxRecDepth 100000 in
theorem w_Mo_broken_105 {p : Program} {l : Launch} {e : Env} {s : State} {m : MethodId} {args : Array Value} {below : List Frame} {meth : Method} {c : Code} {E : xV} {z : Nat} {r : Int64} {ω : xS} (S : CallFix p m c b_Mo_broken 7 s args xTbl "RosterRulesModel") (hr : meth.sig.returnType = (some .long)) (hlocks : meth.locks = false) : ∀ n : Nat, ∀ (a0 : Nat) (x1 : Int32) (x3 : Int32) (x4 : Int64) (x6 : Int32) (H : Heap) (locs : List Loc) (ls : Array Slot), xW E z ω s s.heap H locs → lv_has ls 7 [(0, .ref a0), (1, .int x1), (3, .int x3), (4, .long x4), (6, .int x6)] → f_Mo_broken_105 n a0 x1 x3 x4 x6 ω = some r → W p l e (headSpec ws_Mo_broken { frames := 4, cells := 0, slots := 0, locals := 96 }).room s m args below meth c H locs 0 0 (MQ below (xQ E (some (.long r)) z ω) args s 0 0 (fun q => E.2.2 ≤ q)) (F0 m 105 ls []) := by
  intro n
  induction n with
  | zero =>
    intro a0 x1 x3 x4 x6 H locs ls hw hl hf
    have h2 : (none : Option Int64) = some r := hf
    cases h2
  | succ n ih =>
    intro a0 x1 x3 x4 x6 H locs ls hw hl hf
    rw [f_Mo_broken_105] at hf
    refine lv_iload S.1 S.2.1 d_Mo_broken_105 (lv_at hl 4 rfl) ?_
    refine lv_iload_n S.1 S.2.1 d_Mo_broken_107 rfl (lv_at hl 2 rfl) ?_
    refine lv_bipush (v := 6) S.1 S.2.1 d_Mo_broken_108 (by decide) ?_
    refine lv_icmp_ne (tgt := 120) S.1 S.2.1 d_Mo_broken_110 (by decide) (fun c21 => ?_) (fun c21 => ?_)
    · replace hf := xf c21 hf
      refine lv_aload_n S.1 S.2.1 d_Mo_broken_120 rfl (lv_at hl 0 rfl) ?_
      obtain ⟨t22, ht22, hf⟩ := xb hf
      refine x_geti S hw lk_Mo_156 ht22 d_Mo_broken_121 ?_
      exact w_Mo_broken_124 S hr hlocks ih _ _ _ _ _ _ _ _ _ _ hw (lv_sub hl [0, 1, 2, 3, 4] rfl) hf
    · replace hf := xt c21 hf
      refine lv_aload_n S.1 S.2.1 d_Mo_broken_113 rfl (lv_at hl 0 rfl) ?_
      obtain ⟨t23, ht23, hf⟩ := xb hf
      refine x_geti S hw lk_Mo_159 ht23 d_Mo_broken_114 ?_
      refine lv_goto (tgt := 124) S.1 S.2.1 d_Mo_broken_117 (by decide) ?_
      exact w_Mo_broken_124 S hr hlocks ih _ _ _ _ _ _ _ _ _ _ hw (lv_sub hl [0, 1, 2, 3, 4] rfl) hf
def f_Mo_broken_55 (a0 : Nat) (x1 : Int32) (x2 : Int32) (x3 : Int32) (y0 : Int32) (y1 : Int32) (ω : xS) : Option Int64 :=
  if y1 < y0 then (
    if x3 = 5 then (
      (xk ω a0 12 (f_Mo_spread a0 x1 ω)).bind fun t20 =>
      some t20)
    else (
      if x2 < 0 then (
        f_Mo_broken_105  xFU a0 x1 x3 0 0 ω)
      else (
        if x3 = 6 then (
          (xk ω a0 12 (f_Mo_byDay a0 x1 x2 ω)).bind fun t18 =>
          some t18)
        else (
          (xk ω a0 12 (f_Mo_byPerson a0 x1 x2 ω)).bind fun t16 =>
          some t16))))
  else (
    some (-1))
set_option maxHeartbeats 4000000 in
set_option maxRecDepth 100000 in
theorem w_Mo_broken_55 {p : Program} {l : Launch} {e : Env} {s : State} {m : MethodId} {args : Array Value} {below : List Frame} {meth : Method} {c : Code} {E : xV} {z : Nat} {r : Int64} {ω : xS} (S : CallFix p m c b_Mo_broken 7 s args xTbl "RosterRulesModel") (hr : meth.sig.returnType = (some .long)) (hlocks : meth.locks = false) : ∀ (a0 : Nat) (x1 : Int32) (x2 : Int32) (x3 : Int32) (y0 : Int32) (y1 : Int32) (H : Heap) (locs : List Loc) (ls : Array Slot), xW E z ω s s.heap H locs → lv_has ls 7 [(0, .ref a0), (1, .int x1), (2, .int x2), (3, .int x3)] → f_Mo_broken_55 a0 x1 x2 x3 y0 y1 ω = some r → W p l e (headSpec ws_Mo_broken { frames := 4, cells := 0, slots := 0, locals := 96 }).room s m args below meth c H locs 0 0 (MQ below (xQ E (some (.long r)) z ω) args s 0 0 (fun q => E.2.2 ≤ q)) (F0 m 55 ls [.int y0, .int y1]) := by
  intro a0 x1 x2 x3 y0 y1 H locs ls hw hl hf
  unfold f_Mo_broken_55 at hf
  refine lv_icmp_lt (tgt := 62) S.1 S.2.1 d_Mo_broken_55 (by decide) (fun c11 => ?_) (fun c11 => ?_)
  · replace hf := xt c11 hf
    refine lv_iload_n S.1 S.2.1 d_Mo_broken_62 rfl (lv_at hl 3 rfl) ?_
    refine lv_iconst (v := 5) S.1 S.2.1 d_Mo_broken_63 (by decide) ?_
    refine lv_icmp_ne (tgt := 73) S.1 S.2.1 d_Mo_broken_64 (by decide) (fun c12 => ?_) (fun c12 => ?_)
    · replace hf := xf c12 hf
      refine lv_iload_n S.1 S.2.1 d_Mo_broken_73 rfl (lv_at hl 2 rfl) ?_
      refine lv_if_lt (tgt := 99) S.1 S.2.1 d_Mo_broken_74 (by decide) (fun c13 => ?_) (fun c13 => ?_)
      · replace hf := xt c13 hf
        refine lv_lconst (v := 0) S.1 S.2.1 d_Mo_broken_99 (by decide) ?_
        refine lv_lstore (lv' := [(4, .long 0), (0, .ref a0), (1, .int x1), (2, .int x2), (3, .int x3)]) S.1 S.2.1 d_Mo_broken_100 hl (by decide) rfl (fun ls hl => ?_)
        refine lv_iconst (v := 0) S.1 S.2.1 d_Mo_broken_102 (by decide) ?_
        refine lv_istore (lv' := [(6, .int 0), (4, .long 0), (0, .ref a0), (1, .int x1), (2, .int x2), (3, .int x3)]) S.1 S.2.1 d_Mo_broken_103 hl (by decide) rfl (fun ls hl => ?_)
        exact w_Mo_broken_105 S hr hlocks  _ _ _ _ _ _ _ _ _ hw (lv_sub hl [2, 3, 5, 1, 0] rfl) hf
      · replace hf := xf c13 hf
        refine lv_iload_n S.1 S.2.1 d_Mo_broken_77 rfl (lv_at hl 3 rfl) ?_
        refine lv_bipush (v := 6) S.1 S.2.1 d_Mo_broken_78 (by decide) ?_
        refine lv_icmp_ne (tgt := 92) S.1 S.2.1 d_Mo_broken_80 (by decide) (fun c14 => ?_) (fun c14 => ?_)
        · replace hf := xf c14 hf
          refine lv_aload_n S.1 S.2.1 d_Mo_broken_92 rfl (lv_at hl 0 rfl) ?_
          refine lv_iload_n S.1 S.2.1 d_Mo_broken_93 rfl (lv_at hl 1 rfl) ?_
          refine lv_iload_n S.1 S.2.1 d_Mo_broken_94 rfl (lv_at hl 2 rfl) ?_
          obtain ⟨t16, h15, hf⟩ := xb hf
          obtain ⟨h15b, h15⟩ := xkb h15
          refine x_callV (As := [.int x1, .int x2]) (rest := []) (st1 := [.long t16]) S hw (c_Mo_byPerson h15) (cwV 2 S.2.2.2.2 gv_Mo_374 rfl rfl rfl hd_Mo_byPerson ⟨Nat.le_of_ble_eq_true rfl, Nat.le_of_ble_eq_true rfl⟩) rfl h15b rfl hl.1 rfl rfl (Nat.le_of_ble_eq_true rfl) d_Mo_broken_95 ⟨Nat.le_of_ble_eq_true rfl, Nat.le_of_ble_eq_true rfl⟩ (fun H locs hw => ?_)
          obtain rfl := xe1 hf
          exact x_lret S hr hlocks hw d_Mo_broken_98
        · replace hf := xt c14 hf
          refine lv_aload_n S.1 S.2.1 d_Mo_broken_83 rfl (lv_at hl 0 rfl) ?_
          refine lv_iload_n S.1 S.2.1 d_Mo_broken_84 rfl (lv_at hl 1 rfl) ?_
          refine lv_iload_n S.1 S.2.1 d_Mo_broken_85 rfl (lv_at hl 2 rfl) ?_
          obtain ⟨t18, h17, hf⟩ := xb hf
          obtain ⟨h17b, h17⟩ := xkb h17
          refine x_callV (As := [.int x1, .int x2]) (rest := []) (st1 := [.long t18]) S hw (c_Mo_byDay h17) (cwV 2 S.2.2.2.2 gv_Mo_371 rfl rfl rfl hd_Mo_byDay ⟨Nat.le_of_ble_eq_true rfl, Nat.le_of_ble_eq_true rfl⟩) rfl h17b rfl hl.1 rfl rfl (Nat.le_of_ble_eq_true rfl) d_Mo_broken_86 ⟨Nat.le_of_ble_eq_true rfl, Nat.le_of_ble_eq_true rfl⟩ (fun H locs hw => ?_)
          refine lv_goto (tgt := 98) S.1 S.2.1 d_Mo_broken_89 (by decide) ?_
          obtain rfl := xe1 hf
          exact x_lret S hr hlocks hw d_Mo_broken_98
    · replace hf := xt c12 hf
      refine lv_aload_n S.1 S.2.1 d_Mo_broken_67 rfl (lv_at hl 0 rfl) ?_
      refine lv_iload_n S.1 S.2.1 d_Mo_broken_68 rfl (lv_at hl 1 rfl) ?_
      obtain ⟨t20, h19, hf⟩ := xb hf
      obtain ⟨h19b, h19⟩ := xkb h19
      refine x_callV (As := [.int x1]) (rest := []) (st1 := [.long t20]) S hw (c_Mo_spread h19) (cwV 1 S.2.2.2.2 gv_Mo_368 rfl rfl rfl hd_Mo_spread ⟨Nat.le_of_ble_eq_true rfl, Nat.le_of_ble_eq_true rfl⟩) rfl h19b rfl hl.1 rfl rfl (Nat.le_of_ble_eq_true rfl) d_Mo_broken_69 ⟨Nat.le_of_ble_eq_true rfl, Nat.le_of_ble_eq_true rfl⟩ (fun H locs hw => ?_)
      obtain rfl := xe1 hf
      exact x_lret S hr hlocks hw d_Mo_broken_72
  · replace hf := xf c11 hf
    refine lv_ldc2 (v := (-1)) S.1 S.2.1 S.2.2.2.1 (S.2.2.2.2 _ wd_6_125) d_Mo_broken_58 ?_
    obtain rfl := xe1 hf
    exact x_lret S hr hlocks hw d_Mo_broken_61
def f_Mo_broken (a0 : Nat) (x1 : Int32) (x2 : Int32) (ω : xS) : Option Int64 :=
  if x1 < 0 then (
    some (-1))
  else (
    (xgi ω a0 12 20).bind fun t2 =>
    if t2 ≤ x1 then (
      some (-1))
    else (
      if (-1) ≤ x2 then (
        (xgr ω a0 12 13).bind fun t5 =>
        (xai ω t5 x1).bind fun t6 =>
        if t6 = 5 then (
          f_Mo_broken_55  a0 x1 x2 t6 0 x2 ω)
        else (
          if t6 = 6 then (
            (xgi ω a0 12 1).bind fun t10 =>
            f_Mo_broken_55  a0 x1 x2 t6 t10 x2 ω)
          else (
            (xgi ω a0 12 0).bind fun t9 =>
            f_Mo_broken_55  a0 x1 x2 t6 t9 x2 ω)))
      else (
        some (-1))))
set_option maxHeartbeats 4000000 in
set_option maxRecDepth 100000 in
theorem c_Mo_broken {l : Launch} {E : xV} {z : Nat} {a0 : Nat} {x1 : Int32} {x2 : Int32} {r : Int64} {ω : xS} (hf : f_Mo_broken a0 x1 x2 ω = some r) : xM l E y_Mo_broken ws_Mo_broken { frames := 4, cells := 0, slots := 0, locals := 96 } [.ref a0, .int x1, .int x2] z ω (some (.long r)) z ω := by
  refine x_start (cc := b_Mo_broken) (maxL := 7) (ret := (some .long)) (by decide) rfl (Nat.le_of_ble_eq_true rfl) ?_
  intro p e s m below meth c S hr hlocks hin ls hl hw
  have hl : lv_has ls 7 [(0, .ref a0), (1, .int x1), (2, .int x2)] := hl
  unfold f_Mo_broken at hf
  refine lv_iload_n S.1 S.2.1 d_Mo_broken_0 rfl (lv_at hl 1 rfl) ?_
  refine lv_if_lt (tgt := 17) S.1 S.2.1 d_Mo_broken_1 (by decide) (fun c1 => ?_) (fun c1 => ?_)
  · replace hf := xt c1 hf
    refine lv_ldc2 (v := (-1)) S.1 S.2.1 S.2.2.2.1 (S.2.2.2.2 _ wd_6_125) d_Mo_broken_17 ?_
    obtain rfl := xe1 hf
    exact x_lret S hr hlocks hw d_Mo_broken_20
  · replace hf := xf c1 hf
    refine lv_iload_n S.1 S.2.1 d_Mo_broken_4 rfl (lv_at hl 1 rfl) ?_
    refine lv_aload_n S.1 S.2.1 d_Mo_broken_5 rfl (lv_at hl 0 rfl) ?_
    obtain ⟨t2, ht2, hf⟩ := xb hf
    refine x_geti S hw lk_Mo_219 ht2 d_Mo_broken_6 ?_
    refine lv_icmp_ge (tgt := 17) S.1 S.2.1 d_Mo_broken_9 (by decide) (fun c3 => ?_) (fun c3 => ?_)
    · replace hf := xt c3 hf
      refine lv_ldc2 (v := (-1)) S.1 S.2.1 S.2.2.2.1 (S.2.2.2.2 _ wd_6_125) d_Mo_broken_17 ?_
      obtain rfl := xe1 hf
      exact x_lret S hr hlocks hw d_Mo_broken_20
    · replace hf := xf c3 hf
      refine lv_iload_n S.1 S.2.1 d_Mo_broken_12 rfl (lv_at hl 2 rfl) ?_
      refine lv_iconst (v := (-1)) S.1 S.2.1 d_Mo_broken_13 (by decide) ?_
      refine lv_icmp_ge (tgt := 21) S.1 S.2.1 d_Mo_broken_14 (by decide) (fun c4 => ?_) (fun c4 => ?_)
      · replace hf := xt c4 hf
        refine lv_aload_n S.1 S.2.1 d_Mo_broken_21 rfl (lv_at hl 0 rfl) ?_
        obtain ⟨t5, ht5, hf⟩ := xb hf
        refine x_getr S hw lk_Mo_42 ht5 d_Mo_broken_22 ?_
        refine lv_iload_n S.1 S.2.1 d_Mo_broken_25 rfl (lv_at hl 1 rfl) ?_
        obtain ⟨t6, ht6, hf⟩ := xb hf
        refine x_iald S hw ht6 d_Mo_broken_26 ?_
        refine lv_istore_n (lv' := [(3, .int t6), (0, .ref a0), (1, .int x1), (2, .int x2)]) S.1 S.2.1 d_Mo_broken_27 rfl hl (by decide) rfl (fun ls hl => ?_)
        refine lv_iload_n S.1 S.2.1 d_Mo_broken_28 rfl (lv_at hl 3 rfl) ?_
        refine lv_iload_n S.1 S.2.1 d_Mo_broken_29 rfl (lv_at hl 0 rfl) ?_
        refine lv_iconst (v := 5) S.1 S.2.1 d_Mo_broken_30 (by decide) ?_
        refine lv_icmp_ne (tgt := 38) S.1 S.2.1 d_Mo_broken_31 (by decide) (fun c7 => ?_) (fun c7 => ?_)
        · replace hf := xf c7 hf
          refine lv_iload_n S.1 S.2.1 d_Mo_broken_38 rfl (lv_at hl 0 rfl) ?_
          refine lv_bipush (v := 6) S.1 S.2.1 d_Mo_broken_39 (by decide) ?_
          refine lv_icmp_ne (tgt := 51) S.1 S.2.1 d_Mo_broken_41 (by decide) (fun c8 => ?_) (fun c8 => ?_)
          · replace hf := xf c8 hf
            refine lv_aload_n S.1 S.2.1 d_Mo_broken_51 rfl (lv_at hl 1 rfl) ?_
            obtain ⟨t9, ht9, hf⟩ := xb hf
            refine x_geti S hw lk_Mo_156 ht9 d_Mo_broken_52 ?_
            exact w_Mo_broken_55 S hr hlocks  _ _ _ _ _ _ _ _ _ hw (lv_sub hl [1, 2, 3, 0] rfl) hf
          · replace hf := xt c8 hf
            refine lv_aload_n S.1 S.2.1 d_Mo_broken_44 rfl (lv_at hl 1 rfl) ?_
            obtain ⟨t10, ht10, hf⟩ := xb hf
            refine x_geti S hw lk_Mo_159 ht10 d_Mo_broken_45 ?_
            refine lv_goto (tgt := 55) S.1 S.2.1 d_Mo_broken_48 (by decide) ?_
            exact w_Mo_broken_55 S hr hlocks  _ _ _ _ _ _ _ _ _ hw (lv_sub hl [1, 2, 3, 0] rfl) hf
        · replace hf := xt c7 hf
          refine lv_iconst (v := 0) S.1 S.2.1 d_Mo_broken_34 (by decide) ?_
          refine lv_goto (tgt := 55) S.1 S.2.1 d_Mo_broken_35 (by decide) ?_
          exact w_Mo_broken_55 S hr hlocks  _ _ _ _ _ _ _ _ _ hw (lv_sub hl [1, 2, 3, 0] rfl) hf
      · replace hf := xf c4 hf
        refine lv_ldc2 (v := (-1)) S.1 S.2.1 S.2.2.2.1 (S.2.2.2.2 _ wd_6_125) d_Mo_broken_17 ?_
        obtain rfl := xe1 hf
        exact x_lret S hr hlocks hw d_Mo_broken_20
