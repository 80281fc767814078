def f_Mo_word_205 (k196 : Nat → Int32 → Int32 → Int32 → Int32 → Int32 → xS → Option (Int32 × xS)) : Nat → Nat → Int32 → Int32 → Int32 → Int32 → Int32 → xS → Option (Int32 × xS)
  | 0, _, _, _, _, _, _, _ => none
  | n + 1, a0, x1, x2, x5, x7, x8, ω =>
    (xgr ω a0 12 60).bind fun t22 =>
    (xgr ω a0 12 27).bind fun t23 =>
    (xai ω t23 ((9 * ((1025 * x1) + x5)) + x8)).bind fun t24 =>
    (xai ω t22 t24).bind fun t25 =>
    (xgr ω a0 12 60).bind fun t26 =>
    (xai ω t26 x5).bind fun t27 =>
    if (t25 + 1) = t27 then (
      (xgr ω a0 12 27).bind fun t29 =>
      (xai ω t29 ((9 * ((1025 * x1) + x5)) + x8)).bind fun t30 =>
      k196 a0 x1 x2 t30 x8 (x7 + 1) ω)
    else (
      f_Mo_word_205 k196 n a0 x1 x2 x5 x7 (x8 + 1) ω)
set_option maxHeartbeats 4000000 in
set_option maxRecDepth 100000 in
theorem w_Mo_word_205 {p : Program} {l : Launch} {e : Env} {s : State} {m : MethodId} {args : Array Value} {below : List Frame} {meth : Method} {c : Code} {E : xV} {z : Nat} {r : Int32} {ω1 : xS} {k196 : Nat → Int32 → Int32 → Int32 → Int32 → Int32 → xS → Option (Int32 × xS)} (S : CallFix p m c b_Mo_word 9 s args xTbl "RosterRulesModel") (hr : meth.sig.returnType = (some .int)) (hlocks : meth.locks = false) (hk196 : ∀ (a0 : Nat) (x1 : Int32) (x2 : Int32) (x5 : Int32) (x6 : Int32) (x7 : Int32) (ω : xS) (H : Heap) (locs : List Loc) (ls : Array Slot), xW E z ω s s.heap H locs → lv_has ls 9 [(0, .ref a0), (1, .int x1), (2, .int x2), (5, .int x5), (6, .int x6), (7, .int x7)] → k196 a0 x1 x2 x5 x6 x7 ω = some (r, ω1) → W p l e (headSpec ws_Mo_word { frames := 1, cells := 0, slots := 0, locals := 21 }).room s m args below meth c H locs 0 0 (MQ below (xQ E (some (.int r)) z ω1) args s 0 0 (fun q => E.2.2 ≤ q)) (F0 m 196 ls [])) : ∀ n : Nat, ∀ (a0 : Nat) (x1 : Int32) (x2 : Int32) (x5 : Int32) (x7 : Int32) (x8 : Int32) (ω : xS) (H : Heap) (locs : List Loc) (ls : Array Slot), xW E z ω s s.heap H locs → lv_has ls 9 [(0, .ref a0), (1, .int x1), (2, .int x2), (5, .int x5), (7, .int x7), (8, .int x8)] → f_Mo_word_205 k196 n a0 x1 x2 x5 x7 x8 ω = some (r, ω1) → W p l e (headSpec ws_Mo_word { frames := 1, cells := 0, slots := 0, locals := 21 }).room s m args below meth c H locs 0 0 (MQ below (xQ E (some (.int r)) z ω1) args s 0 0 (fun q => E.2.2 ≤ q)) (F0 m 205 ls []) := by
  intro n
  induction n with
  | zero =>
    intro a0 x1 x2 x5 x7 x8 ω H locs ls hw hl hf
    have h2 : (none : Option (Int32 × xS)) = some (r, ω1) := hf
    cases h2
  | succ n ih =>
    intro a0 x1 x2 x5 x7 x8 ω H locs ls hw hl hf
    rw [f_Mo_word_205] at hf
    refine lv_aload_n S.1 S.2.1 d_Mo_word_205 rfl (lv_at hl 0 rfl) ?_
    obtain ⟨t22, ht22, hf⟩ := xb hf
    refine x_getr S hw lk_Mo_141 ht22 d_Mo_word_206 ?_
    refine lv_aload_n S.1 S.2.1 d_Mo_word_209 rfl (lv_at hl 0 rfl) ?_
    obtain ⟨t23, ht23, hf⟩ := xb hf
    refine x_getr S hw lk_Mo_83 ht23 d_Mo_word_210 ?_
    refine lv_bipush (v := 9) S.1 S.2.1 d_Mo_word_213 (by decide) ?_
    refine lv_sipush (v := 1025) S.1 S.2.1 d_Mo_word_215 (by decide) ?_
    refine lv_iload_n S.1 S.2.1 d_Mo_word_218 rfl (lv_at hl 1 rfl) ?_
    refine lv_imul S.1 S.2.1 d_Mo_word_219 ?_
    refine lv_iload S.1 S.2.1 d_Mo_word_220 (lv_at hl 3 rfl) ?_
    refine lv_iadd S.1 S.2.1 d_Mo_word_222 ?_
    refine lv_imul S.1 S.2.1 d_Mo_word_223 ?_
    refine lv_iload S.1 S.2.1 d_Mo_word_224 (lv_at hl 5 rfl) ?_
    refine lv_iadd S.1 S.2.1 d_Mo_word_226 ?_
    obtain ⟨t24, ht24, hf⟩ := xb hf
    refine x_iald S hw ht24 d_Mo_word_227 ?_
    obtain ⟨t25, ht25, hf⟩ := xb hf
    refine x_iald S hw ht25 d_Mo_word_228 ?_
    refine lv_iconst (v := 1) S.1 S.2.1 d_Mo_word_229 (by decide) ?_
    refine lv_iadd S.1 S.2.1 d_Mo_word_230 ?_
    refine lv_aload_n S.1 S.2.1 d_Mo_word_231 rfl (lv_at hl 0 rfl) ?_
    obtain ⟨t26, ht26, hf⟩ := xb hf
    refine x_getr S hw lk_Mo_141 ht26 d_Mo_word_232 ?_
    refine lv_iload S.1 S.2.1 d_Mo_word_235 (lv_at hl 3 rfl) ?_
    obtain ⟨t27, ht27, hf⟩ := xb hf
    refine x_iald S hw ht27 d_Mo_word_237 ?_
    refine lv_icmp_eq (tgt := 247) S.1 S.2.1 d_Mo_word_238 (by decide) (fun c28 => ?_) (fun c28 => ?_)
    · replace hf := xt c28 hf
      refine lv_iload S.1 S.2.1 d_Mo_word_247 (lv_at hl 5 rfl) ?_
      refine lv_istore (lv' := [(6, .int x8), (0, .ref a0), (1, .int x1), (2, .int x2), (5, .int x5), (7, .int x7), (8, .int x8)]) S.1 S.2.1 d_Mo_word_249 hl (by decide) rfl (fun ls hl => ?_)
      refine lv_aload_n S.1 S.2.1 d_Mo_word_251 rfl (lv_at hl 1 rfl) ?_
      obtain ⟨t29, ht29, hf⟩ := xb hf
      refine x_getr S hw lk_Mo_83 ht29 d_Mo_word_252 ?_
      refine lv_bipush (v := 9) S.1 S.2.1 d_Mo_word_255 (by decide) ?_
      refine lv_sipush (v := 1025) S.1 S.2.1 d_Mo_word_257 (by decide) ?_
      refine lv_iload_n S.1 S.2.1 d_Mo_word_260 rfl (lv_at hl 2 rfl) ?_
      refine lv_imul S.1 S.2.1 d_Mo_word_261 ?_
      refine lv_iload S.1 S.2.1 d_Mo_word_262 (lv_at hl 4 rfl) ?_
      refine lv_iadd S.1 S.2.1 d_Mo_word_264 ?_
      refine lv_imul S.1 S.2.1 d_Mo_word_265 ?_
      refine lv_iload S.1 S.2.1 d_Mo_word_266 (lv_at hl 6 rfl) ?_
      refine lv_iadd S.1 S.2.1 d_Mo_word_268 ?_
      obtain ⟨t30, ht30, hf⟩ := xb hf
      refine x_iald S hw ht30 d_Mo_word_269 ?_
      refine lv_istore (lv' := [(5, .int t30), (6, .int x8), (0, .ref a0), (1, .int x1), (2, .int x2), (7, .int x7), (8, .int x8)]) S.1 S.2.1 d_Mo_word_270 hl (by decide) rfl (fun ls hl => ?_)
      refine lv_iinc (v := (x7 + 1)) (lv' := [(7, .int (x7 + 1)), (5, .int t30), (6, .int x8), (0, .ref a0), (1, .int x1), (2, .int x2), (8, .int x8)]) S.1 S.2.1 d_Mo_word_272 hl (k := 5) rfl rfl (by decide) rfl (fun ls hl => ?_)
      refine lv_goto (tgt := 196) S.1 S.2.1 d_Mo_word_275 (by decide) ?_
      exact hk196 _ _ _ _ _ _ _ _ _ _ hw (lv_sub hl [3, 4, 5, 1, 2, 0] rfl) hf
    · replace hf := xf c28 hf
      refine lv_iinc (v := (x8 + 1)) (lv' := [(8, .int (x8 + 1)), (0, .ref a0), (1, .int x1), (2, .int x2), (5, .int x5), (7, .int x7)]) S.1 S.2.1 d_Mo_word_241 hl (k := 5) rfl rfl (by decide) rfl (fun ls hl => ?_)
      refine lv_goto (tgt := 205) S.1 S.2.1 d_Mo_word_244 (by decide) ?_
      exact ih _ _ _ _ _ _ _ _ _ _ hw (lv_sub hl [1, 2, 3, 4, 5, 0] rfl) hf
def f_Mo_word_196 : Nat → Nat → Int32 → Int32 → Int32 → Int32 → Int32 → xS → Option (Int32 × xS)
  | 0, _, _, _, _, _, _, _ => none
  | n + 1, a0, x1, x2, x5, x6, x7, ω =>
    if x2 < x7 then (
      some (x6, ω))
    else (
      f_Mo_word_205 (f_Mo_word_196  n) xFU a0 x1 x2 x5 x7 0 ω)
set_option maxHeartbeats 4000000 in
set_option maxRecDepth 100000 in
theorem w_Mo_word_196 {p : Program} {l : Launch} {e : Env} {s : State} {m : MethodId} {args : Array Value} {below : List Frame} {meth : Method} {c : Code} {E : xV} {z : Nat} {r : Int32} {ω1 : xS} (S : CallFix p m c b_Mo_word 9 s args xTbl "RosterRulesModel") (hr : meth.sig.returnType = (some .int)) (hlocks : meth.locks = false) : ∀ n : Nat, ∀ (a0 : Nat) (x1 : Int32) (x2 : Int32) (x5 : Int32) (x6 : Int32) (x7 : Int32) (ω : xS) (H : Heap) (locs : List Loc) (ls : Array Slot), xW E z ω s s.heap H locs → lv_has ls 9 [(0, .ref a0), (1, .int x1), (2, .int x2), (5, .int x5), (6, .int x6), (7, .int x7)] → f_Mo_word_196 n a0 x1 x2 x5 x6 x7 ω = some (r, ω1) → W p l e (headSpec ws_Mo_word { frames := 1, cells := 0, slots := 0, locals := 21 }).room s m args below meth c H locs 0 0 (MQ below (xQ E (some (.int r)) z ω1) args s 0 0 (fun q => E.2.2 ≤ q)) (F0 m 196 ls []) := by
  intro n
  induction n with
  | zero =>
    intro a0 x1 x2 x5 x6 x7 ω H locs ls hw hl hf
    have h2 : (none : Option (Int32 × xS)) = some (r, ω1) := hf
    cases h2
  | succ n ih =>
    intro a0 x1 x2 x5 x6 x7 ω H locs ls hw hl hf
    rw [f_Mo_word_196] at hf
    refine lv_iload S.1 S.2.1 d_Mo_word_196 (lv_at hl 5 rfl) ?_
    refine lv_iload_n S.1 S.2.1 d_Mo_word_198 rfl (lv_at hl 2 rfl) ?_
    refine lv_icmp_gt (tgt := 278) S.1 S.2.1 d_Mo_word_199 (by decide) (fun c21 => ?_) (fun c21 => ?_)
    · replace hf := xt c21 hf
      refine lv_iload S.1 S.2.1 d_Mo_word_278 (lv_at hl 4 rfl) ?_
      obtain ⟨rfl, rfl⟩ := xe2 hf
      exact x_iret S hr hlocks hw d_Mo_word_280
    · replace hf := xf c21 hf
      refine lv_iconst (v := 0) S.1 S.2.1 d_Mo_word_202 (by decide) ?_
      refine lv_istore (lv' := [(8, .int 0), (0, .ref a0), (1, .int x1), (2, .int x2), (5, .int x5), (6, .int x6), (7, .int x7)]) S.1 S.2.1 d_Mo_word_203 hl (by decide) rfl (fun ls hl => ?_)
      exact w_Mo_word_205 S hr hlocks ih _ _ _ _ _ _ _ _ _ _ _ hw (lv_sub hl [1, 2, 3, 4, 6, 0] rfl) hf
def f_Mo_word_100 (k80 : Nat → Int32 → Int32 → Int32 → Int32 → xS → Option (Int32 × xS)) (k91 : Nat → Int32 → Int32 → Int32 → Int32 → Int32 → xS → Option (Int32 × xS)) : Nat → Nat → Int32 → Int32 → Int32 → Int32 → Int32 → Int32 → xS → Option (Int32 × xS)
  | 0, _, _, _, _, _, _, _, _ => none
  | n + 1, a0, x1, x2, x3, x4, x5, x6, ω =>
    if 9 ≤ x6 then (
      k91 a0 x1 x2 x3 x4 (x5 + 1) ω)
    else (
      (xgr ω a0 12 60).bind fun t33 =>
      (xgr ω a0 12 27).bind fun t34 =>
      (xai ω t34 ((9 * ((1025 * x1) + x5)) + x6)).bind fun t35 =>
      (xai ω t33 t35).bind fun t36 =>
      (xgr ω a0 12 60).bind fun t37 =>
      (xai ω t37 x5).bind fun t38 =>
      if t38 ≤ (t36 + 1) then (
        f_Mo_word_100 k80 k91 n a0 x1 x2 x3 x4 x5 (x6 + 1) ω)
      else (
        (xgr ω a0 12 60).bind fun t40 =>
        (xsi ω t40 x5 (t36 + 1)).bind fun w41 =>
        f_Mo_word_100 k80 k91 n a0 x1 x2 x3 1 x5 (x6 + 1) w41))
set_option maxHeartbeats 4000000 in
set_option maxRecDepth 100000 in
theorem w_Mo_word_100 {p : Program} {l : Launch} {e : Env} {s : State} {m : MethodId} {args : Array Value} {below : List Frame} {meth : Method} {c : Code} {E : xV} {z : Nat} {r : Int32} {ω1 : xS} {k80 : Nat → Int32 → Int32 → Int32 → Int32 → xS → Option (Int32 × xS)} {k91 : Nat → Int32 → Int32 → Int32 → Int32 → Int32 → xS → Option (Int32 × xS)} (S : CallFix p m c b_Mo_word 9 s args xTbl "RosterRulesModel") (hr : meth.sig.returnType = (some .int)) (hlocks : meth.locks = false) (hk80 : ∀ (a0 : Nat) (x1 : Int32) (x2 : Int32) (x3 : Int32) (x4 : Int32) (ω : xS) (H : Heap) (locs : List Loc) (ls : Array Slot), xW E z ω s s.heap H locs → lv_has ls 9 [(0, .ref a0), (1, .int x1), (2, .int x2), (3, .int x3), (4, .int x4)] → k80 a0 x1 x2 x3 x4 ω = some (r, ω1) → W p l e (headSpec ws_Mo_word { frames := 1, cells := 0, slots := 0, locals := 21 }).room s m args below meth c H locs 0 0 (MQ below (xQ E (some (.int r)) z ω1) args s 0 0 (fun q => E.2.2 ≤ q)) (F0 m 80 ls [])) (hk91 : ∀ (a0 : Nat) (x1 : Int32) (x2 : Int32) (x3 : Int32) (x4 : Int32) (x5 : Int32) (ω : xS) (H : Heap) (locs : List Loc) (ls : Array Slot), xW E z ω s s.heap H locs → lv_has ls 9 [(0, .ref a0), (1, .int x1), (2, .int x2), (3, .int x3), (4, .int x4), (5, .int x5)] → k91 a0 x1 x2 x3 x4 x5 ω = some (r, ω1) → W p l e (headSpec ws_Mo_word { frames := 1, cells := 0, slots := 0, locals := 21 }).room s m args below meth c H locs 0 0 (MQ below (xQ E (some (.int r)) z ω1) args s 0 0 (fun q => E.2.2 ≤ q)) (F0 m 91 ls [])) : ∀ n : Nat, ∀ (a0 : Nat) (x1 : Int32) (x2 : Int32) (x3 : Int32) (x4 : Int32) (x5 : Int32) (x6 : Int32) (ω : xS) (H : Heap) (locs : List Loc) (ls : Array Slot), xW E z ω s s.heap H locs → lv_has ls 9 [(0, .ref a0), (1, .int x1), (2, .int x2), (3, .int x3), (4, .int x4), (5, .int x5), (6, .int x6)] → f_Mo_word_100 k80 k91 n a0 x1 x2 x3 x4 x5 x6 ω = some (r, ω1) → W p l e (headSpec ws_Mo_word { frames := 1, cells := 0, slots := 0, locals := 21 }).room s m args below meth c H locs 0 0 (MQ below (xQ E (some (.int r)) z ω1) args s 0 0 (fun q => E.2.2 ≤ q)) (F0 m 100 ls []) := by
  intro n
  induction n with
  | zero =>
    intro a0 x1 x2 x3 x4 x5 x6 ω H locs ls hw hl hf
    have h2 : (none : Option (Int32 × xS)) = some (r, ω1) := hf
    cases h2
  | succ n ih =>
    intro a0 x1 x2 x3 x4 x5 x6 ω H locs ls hw hl hf
    rw [f_Mo_word_100] at hf
    refine lv_iload S.1 S.2.1 d_Mo_word_100 (lv_at hl 6 rfl) ?_
    refine lv_bipush (v := 9) S.1 S.2.1 d_Mo_word_102 (by decide) ?_
    refine lv_icmp_ge (tgt := 165) S.1 S.2.1 d_Mo_word_104 (by decide) (fun c32 => ?_) (fun c32 => ?_)
    · replace hf := xt c32 hf
      refine lv_iinc (v := (x5 + 1)) (lv' := [(5, .int (x5 + 1)), (0, .ref a0), (1, .int x1), (2, .int x2), (3, .int x3), (4, .int x4), (6, .int x6)]) S.1 S.2.1 d_Mo_word_165 hl (k := 5) rfl rfl (by decide) rfl (fun ls hl => ?_)
      refine lv_goto (tgt := 91) S.1 S.2.1 d_Mo_word_168 (by decide) ?_
      exact hk91 _ _ _ _ _ _ _ _ _ _ hw (lv_sub hl [1, 2, 3, 4, 5, 0] rfl) hf
    · replace hf := xf c32 hf
      refine lv_aload_n S.1 S.2.1 d_Mo_word_107 rfl (lv_at hl 0 rfl) ?_
      obtain ⟨t33, ht33, hf⟩ := xb hf
      refine x_getr S hw lk_Mo_141 ht33 d_Mo_word_108 ?_
      refine lv_aload_n S.1 S.2.1 d_Mo_word_111 rfl (lv_at hl 0 rfl) ?_
      obtain ⟨t34, ht34, hf⟩ := xb hf
      refine x_getr S hw lk_Mo_83 ht34 d_Mo_word_112 ?_
      refine lv_bipush (v := 9) S.1 S.2.1 d_Mo_word_115 (by decide) ?_
      refine lv_sipush (v := 1025) S.1 S.2.1 d_Mo_word_117 (by decide) ?_
      refine lv_iload_n S.1 S.2.1 d_Mo_word_120 rfl (lv_at hl 1 rfl) ?_
      refine lv_imul S.1 S.2.1 d_Mo_word_121 ?_
      refine lv_iload S.1 S.2.1 d_Mo_word_122 (lv_at hl 5 rfl) ?_
      refine lv_iadd S.1 S.2.1 d_Mo_word_124 ?_
      refine lv_imul S.1 S.2.1 d_Mo_word_125 ?_
      refine lv_iload S.1 S.2.1 d_Mo_word_126 (lv_at hl 6 rfl) ?_
      refine lv_iadd S.1 S.2.1 d_Mo_word_128 ?_
      obtain ⟨t35, ht35, hf⟩ := xb hf
      refine x_iald S hw ht35 d_Mo_word_129 ?_
      obtain ⟨t36, ht36, hf⟩ := xb hf
      refine x_iald S hw ht36 d_Mo_word_130 ?_
      refine lv_iconst (v := 1) S.1 S.2.1 d_Mo_word_131 (by decide) ?_
      refine lv_iadd S.1 S.2.1 d_Mo_word_132 ?_
      refine lv_istore (lv' := [(7, .int (t36 + 1)), (0, .ref a0), (1, .int x1), (2, .int x2), (3, .int x3), (4, .int x4), (5, .int x5), (6, .int x6)]) S.1 S.2.1 d_Mo_word_133 hl (by decide) rfl (fun ls hl => ?_)
      refine lv_iload S.1 S.2.1 d_Mo_word_135 (lv_at hl 0 rfl) ?_
      refine lv_aload_n S.1 S.2.1 d_Mo_word_137 rfl (lv_at hl 1 rfl) ?_
      obtain ⟨t37, ht37, hf⟩ := xb hf
      refine x_getr S hw lk_Mo_141 ht37 d_Mo_word_138 ?_
      refine lv_iload S.1 S.2.1 d_Mo_word_141 (lv_at hl 6 rfl) ?_
      obtain ⟨t38, ht38, hf⟩ := xb hf
      refine x_iald S hw ht38 d_Mo_word_143 ?_
      refine lv_icmp_ge (tgt := 159) S.1 S.2.1 d_Mo_word_144 (by decide) (fun c39 => ?_) (fun c39 => ?_)
      · replace hf := xt c39 hf
        refine lv_iinc (v := (x6 + 1)) (lv' := [(6, .int (x6 + 1)), (7, .int (t36 + 1)), (0, .ref a0), (1, .int x1), (2, .int x2), (3, .int x3), (4, .int x4), (5, .int x5)]) S.1 S.2.1 d_Mo_word_159 hl (k := 7) rfl rfl (by decide) rfl (fun ls hl => ?_)
        refine lv_goto (tgt := 100) S.1 S.2.1 d_Mo_word_162 (by decide) ?_
        exact ih _ _ _ _ _ _ _ _ _ _ _ hw (lv_sub hl [2, 3, 4, 5, 6, 7, 0] rfl) hf
      · replace hf := xf c39 hf
        refine lv_aload_n S.1 S.2.1 d_Mo_word_147 rfl (lv_at hl 1 rfl) ?_
        obtain ⟨t40, ht40, hf⟩ := xb hf
        refine x_getr S hw lk_Mo_141 ht40 d_Mo_word_148 ?_
        refine lv_iload S.1 S.2.1 d_Mo_word_151 (lv_at hl 6 rfl) ?_
        refine lv_iload S.1 S.2.1 d_Mo_word_153 (lv_at hl 0 rfl) ?_
        obtain ⟨w41, hw41, hf⟩ := xb hf
        refine x_iast S hw hw41 d_Mo_word_155 (fun H locs hw => ?_)
        refine lv_iconst (v := 1) S.1 S.2.1 d_Mo_word_156 (by decide) ?_
        refine lv_istore (lv' := [(4, .int 1), (7, .int (t36 + 1)), (0, .ref a0), (1, .int x1), (2, .int x2), (3, .int x3), (5, .int x5), (6, .int x6)]) S.1 S.2.1 d_Mo_word_157 hl (by decide) rfl (fun ls hl => ?_)
        refine lv_iinc (v := (x6 + 1)) (lv' := [(6, .int (x6 + 1)), (4, .int 1), (7, .int (t36 + 1)), (0, .ref a0), (1, .int x1), (2, .int x2), (3, .int x3), (5, .int x5)]) S.1 S.2.1 d_Mo_word_159 hl (k := 7) rfl rfl (by decide) rfl (fun ls hl => ?_)
        refine lv_goto (tgt := 100) S.1 S.2.1 d_Mo_word_162 (by decide) ?_
        exact ih _ _ _ _ _ _ _ _ _ _ _ hw (lv_sub hl [3, 4, 5, 6, 1, 7, 0] rfl) hf
def f_Mo_word_91 (k80 : Nat → Int32 → Int32 → Int32 → Int32 → xS → Option (Int32 × xS)) : Nat → Nat → Int32 → Int32 → Int32 → Int32 → Int32 → xS → Option (Int32 × xS)
  | 0, _, _, _, _, _, _, _ => none
  | n + 1, a0, x1, x2, x3, x4, x5, ω =>
    if x3 ≤ x5 then (
      k80 a0 x1 x2 x3 x4 ω)
    else (
      f_Mo_word_100 k80 (f_Mo_word_91 k80 n) xFU a0 x1 x2 x3 x4 x5 0 ω)
set_option maxHeartbeats 4000000 in
set_option maxRecDepth 100000 in
theorem w_Mo_word_91 {p : Program} {l : Launch} {e : Env} {s : State} {m : MethodId} {args : Array Value} {below : List Frame} {meth : Method} {c : Code} {E : xV} {z : Nat} {r : Int32} {ω1 : xS} {k80 : Nat → Int32 → Int32 → Int32 → Int32 → xS → Option (Int32 × xS)} (S : CallFix p m c b_Mo_word 9 s args xTbl "RosterRulesModel") (hr : meth.sig.returnType = (some .int)) (hlocks : meth.locks = false) (hk80 : ∀ (a0 : Nat) (x1 : Int32) (x2 : Int32) (x3 : Int32) (x4 : Int32) (ω : xS) (H : Heap) (locs : List Loc) (ls : Array Slot), xW E z ω s s.heap H locs → lv_has ls 9 [(0, .ref a0), (1, .int x1), (2, .int x2), (3, .int x3), (4, .int x4)] → k80 a0 x1 x2 x3 x4 ω = some (r, ω1) → W p l e (headSpec ws_Mo_word { frames := 1, cells := 0, slots := 0, locals := 21 }).room s m args below meth c H locs 0 0 (MQ below (xQ E (some (.int r)) z ω1) args s 0 0 (fun q => E.2.2 ≤ q)) (F0 m 80 ls [])) : ∀ n : Nat, ∀ (a0 : Nat) (x1 : Int32) (x2 : Int32) (x3 : Int32) (x4 : Int32) (x5 : Int32) (ω : xS) (H : Heap) (locs : List Loc) (ls : Array Slot), xW E z ω s s.heap H locs → lv_has ls 9 [(0, .ref a0), (1, .int x1), (2, .int x2), (3, .int x3), (4, .int x4), (5, .int x5)] → f_Mo_word_91 k80 n a0 x1 x2 x3 x4 x5 ω = some (r, ω1) → W p l e (headSpec ws_Mo_word { frames := 1, cells := 0, slots := 0, locals := 21 }).room s m args below meth c H locs 0 0 (MQ below (xQ E (some (.int r)) z ω1) args s 0 0 (fun q => E.2.2 ≤ q)) (F0 m 91 ls []) := by
  intro n
  induction n with
  | zero =>
    intro a0 x1 x2 x3 x4 x5 ω H locs ls hw hl hf
    have h2 : (none : Option (Int32 × xS)) = some (r, ω1) := hf
    cases h2
  | succ n ih =>
    intro a0 x1 x2 x3 x4 x5 ω H locs ls hw hl hf
    rw [f_Mo_word_91] at hf
    refine lv_iload S.1 S.2.1 d_Mo_word_91 (lv_at hl 5 rfl) ?_
    refine lv_iload_n S.1 S.2.1 d_Mo_word_93 rfl (lv_at hl 3 rfl) ?_
    refine lv_icmp_ge (tgt := 171) S.1 S.2.1 d_Mo_word_94 (by decide) (fun c31 => ?_) (fun c31 => ?_)
    · replace hf := xt c31 hf
      refine lv_goto (tgt := 80) S.1 S.2.1 d_Mo_word_171 (by decide) ?_
      exact hk80 _ _ _ _ _ _ _ _ _ hw (lv_sub hl [0, 1, 2, 3, 4] rfl) hf
    · replace hf := xf c31 hf
      refine lv_iconst (v := 0) S.1 S.2.1 d_Mo_word_97 (by decide) ?_
      refine lv_istore (lv' := [(6, .int 0), (0, .ref a0), (1, .int x1), (2, .int x2), (3, .int x3), (4, .int x4), (5, .int x5)]) S.1 S.2.1 d_Mo_word_98 hl (by decide) rfl (fun ls hl => ?_)
      exact w_Mo_word_100 S hr hlocks hk80 ih _ _ _ _ _ _ _ _ _ _ _ _ hw (lv_sub hl [1, 2, 3, 4, 5, 6, 0] rfl) hf
def f_Mo_word_80 : Nat → Nat → Int32 → Int32 → Int32 → Int32 → xS → Option (Int32 × xS)
  | 0, _, _, _, _, _, _ => none
  | n + 1, a0, x1, x2, x3, x4, ω =>
    if x4 = 0 then (
      (xgr ω a0 12 60).bind fun t18 =>
      (xai ω t18 0).bind fun t19 =>
      if x2 < t19 then (
        f_Mo_word_196  xFU a0 x1 x2 0 0 0 ω)
      else (
        some ((-2), ω)))
    else (
      f_Mo_word_91 (f_Mo_word_80  n) xFU a0 x1 x2 x3 0 0 ω)
set_option maxHeartbeats 4000000 in
set_option maxRecDepth 100000 in
theorem w_Mo_word_80 {p : Program} {l : Launch} {e : Env} {s : State} {m : MethodId} {args : Array Value} {below : List Frame} {meth : Method} {c : Code} {E : xV} {z : Nat} {r : Int32} {ω1 : xS} (S : CallFix p m c b_Mo_word 9 s args xTbl "RosterRulesModel") (hr : meth.sig.returnType = (some .int)) (hlocks : meth.locks = false) : ∀ n : Nat, ∀ (a0 : Nat) (x1 : Int32) (x2 : Int32) (x3 : Int32) (x4 : Int32) (ω : xS) (H : Heap) (locs : List Loc) (ls : Array Slot), xW E z ω s s.heap H locs → lv_has ls 9 [(0, .ref a0), (1, .int x1), (2, .int x2), (3, .int x3), (4, .int x4)] → f_Mo_word_80 n a0 x1 x2 x3 x4 ω = some (r, ω1) → W p l e (headSpec ws_Mo_word { frames := 1, cells := 0, slots := 0, locals := 21 }).room s m args below meth c H locs 0 0 (MQ below (xQ E (some (.int r)) z ω1) args s 0 0 (fun q => E.2.2 ≤ q)) (F0 m 80 ls []) := by
  intro n
  induction n with
  | zero =>
    intro a0 x1 x2 x3 x4 ω H locs ls hw hl hf
    have h2 : (none : Option (Int32 × xS)) = some (r, ω1) := hf
    cases h2
  | succ n ih =>
    intro a0 x1 x2 x3 x4 ω H locs ls hw hl hf
    rw [f_Mo_word_80] at hf
    refine lv_iload S.1 S.2.1 d_Mo_word_80 (lv_at hl 4 rfl) ?_
    refine lv_if_eq (tgt := 174) S.1 S.2.1 d_Mo_word_82 (by decide) (fun c17 => ?_) (fun c17 => ?_)
    · replace hf := xt c17 hf
      refine lv_iload_n S.1 S.2.1 d_Mo_word_174 rfl (lv_at hl 2 rfl) ?_
      refine lv_aload_n S.1 S.2.1 d_Mo_word_175 rfl (lv_at hl 0 rfl) ?_
      obtain ⟨t18, ht18, hf⟩ := xb hf
      refine x_getr S hw lk_Mo_141 ht18 d_Mo_word_176 ?_
      refine lv_iconst (v := 0) S.1 S.2.1 d_Mo_word_179 (by decide) ?_
      obtain ⟨t19, ht19, hf⟩ := xb hf
      refine x_iald S hw ht19 d_Mo_word_180 ?_
      refine lv_icmp_lt (tgt := 187) S.1 S.2.1 d_Mo_word_181 (by decide) (fun c20 => ?_) (fun c20 => ?_)
      · replace hf := xt c20 hf
        refine lv_iconst (v := 0) S.1 S.2.1 d_Mo_word_187 (by decide) ?_
        refine lv_istore (lv' := [(5, .int 0), (0, .ref a0), (1, .int x1), (2, .int x2), (3, .int x3), (4, .int x4)]) S.1 S.2.1 d_Mo_word_188 hl (by decide) rfl (fun ls hl => ?_)
        refine lv_iconst (v := 0) S.1 S.2.1 d_Mo_word_190 (by decide) ?_
        refine lv_istore (lv' := [(6, .int 0), (5, .int 0), (0, .ref a0), (1, .int x1), (2, .int x2), (3, .int x3), (4, .int x4)]) S.1 S.2.1 d_Mo_word_191 hl (by decide) rfl (fun ls hl => ?_)
        refine lv_iconst (v := 0) S.1 S.2.1 d_Mo_word_193 (by decide) ?_
        refine lv_istore (lv' := [(7, .int 0), (6, .int 0), (5, .int 0), (0, .ref a0), (1, .int x1), (2, .int x2), (3, .int x3), (4, .int x4)]) S.1 S.2.1 d_Mo_word_194 hl (by decide) rfl (fun ls hl => ?_)
        exact w_Mo_word_196 S hr hlocks  _ _ _ _ _ _ _ _ _ _ _ hw (lv_sub hl [3, 4, 5, 2, 1, 0] rfl) hf
      · replace hf := xf c20 hf
        refine lv_bipush (v := (-2)) S.1 S.2.1 d_Mo_word_184 (by decide) ?_
        obtain ⟨rfl, rfl⟩ := xe2 hf
        exact x_iret S hr hlocks hw d_Mo_word_186
    · replace hf := xf c17 hf
      refine lv_iconst (v := 0) S.1 S.2.1 d_Mo_word_85 (by decide) ?_
      refine lv_istore (lv' := [(4, .int 0), (0, .ref a0), (1, .int x1), (2, .int x2), (3, .int x3)]) S.1 S.2.1 d_Mo_word_86 hl (by decide) rfl (fun ls hl => ?_)
      refine lv_iconst (v := 0) S.1 S.2.1 d_Mo_word_88 (by decide) ?_
      refine lv_istore (lv' := [(5, .int 0), (4, .int 0), (0, .ref a0), (1, .int x1), (2, .int x2), (3, .int x3)]) S.1 S.2.1 d_Mo_word_89 hl (by decide) rfl (fun ls hl => ?_)
      exact w_Mo_word_91 S hr hlocks ih _ _ _ _ _ _ _ _ _ _ _ hw (lv_sub hl [2, 3, 4, 5, 1, 0] rfl) hf
def f_Mo_word_35 : Nat → Nat → Int32 → Int32 → Int32 → Int32 → xS → Option (Int32 × xS)
  | 0, _, _, _, _, _, _ => none
  | n + 1, a0, x1, x2, x3, x4, ω =>
    if x3 ≤ x4 then (
      f_Mo_word_80  xFU a0 x1 x2 x3 1 ω)
    else (
      (xgr ω a0 12 60).bind fun t11 =>
      (xgr ω a0 12 28).bind fun t12 =>
      (xaz ω t12 ((1025 * x1) + x4)).bind fun t13 =>
      if t13 = 0 then (
        (xsi ω t11 x4 100000).bind fun w15 =>
        f_Mo_word_35  n a0 x1 x2 x3 (x4 + 1) w15)
      else (
        (xsi ω t11 x4 0).bind fun w16 =>
        f_Mo_word_35  n a0 x1 x2 x3 (x4 + 1) w16))
set_option maxHeartbeats 4000000 in
set_option maxRecDepth 100000 in
theorem w_Mo_word_35 {p : Program} {l : Launch} {e : Env} {s : State} {m : MethodId} {args : Array Value} {below : List Frame} {meth : Method} {c : Code} {E : xV} {z : Nat} {r : Int32} {ω1 : xS} (S : CallFix p m c b_Mo_word 9 s args xTbl "RosterRulesModel") (hr : meth.sig.returnType = (some .int)) (hlocks : meth.locks = false) : ∀ n : Nat, ∀ (a0 : Nat) (x1 : Int32) (x2 : Int32) (x3 : Int32) (x4 : Int32) (ω : xS) (H : Heap) (locs : List Loc) (ls : Array Slot), xW E z ω s s.heap H locs → lv_has ls 9 [(0, .ref a0), (1, .int x1), (2, .int x2), (3, .int x3), (4, .int x4)] → f_Mo_word_35 n a0 x1 x2 x3 x4 ω = some (r, ω1) → W p l e (headSpec ws_Mo_word { frames := 1, cells := 0, slots := 0, locals := 21 }).room s m args below meth c H locs 0 0 (MQ below (xQ E (some (.int r)) z ω1) args s 0 0 (fun q => E.2.2 ≤ q)) (F0 m 35 ls []) := by
  intro n
  induction n with
  | zero =>
    intro a0 x1 x2 x3 x4 ω H locs ls hw hl hf
    have h2 : (none : Option (Int32 × xS)) = some (r, ω1) := hf
    cases h2
  | succ n ih =>
    intro a0 x1 x2 x3 x4 ω H locs ls hw hl hf
    rw [f_Mo_word_35] at hf
    refine lv_iload S.1 S.2.1 d_Mo_word_35 (lv_at hl 4 rfl) ?_
    refine lv_iload_n S.1 S.2.1 d_Mo_word_37 rfl (lv_at hl 3 rfl) ?_
    refine lv_icmp_ge (tgt := 77) S.1 S.2.1 d_Mo_word_38 (by decide) (fun c10 => ?_) (fun c10 => ?_)
    · replace hf := xt c10 hf
      refine lv_iconst (v := 1) S.1 S.2.1 d_Mo_word_77 (by decide) ?_
      refine lv_istore (lv' := [(4, .int 1), (0, .ref a0), (1, .int x1), (2, .int x2), (3, .int x3)]) S.1 S.2.1 d_Mo_word_78 hl (by decide) rfl (fun ls hl => ?_)
      exact w_Mo_word_80 S hr hlocks  _ _ _ _ _ _ _ _ _ _ hw (lv_sub hl [1, 2, 3, 4, 0] rfl) hf
    · replace hf := xf c10 hf
      refine lv_aload_n S.1 S.2.1 d_Mo_word_41 rfl (lv_at hl 0 rfl) ?_
      obtain ⟨t11, ht11, hf⟩ := xb hf
      refine x_getr S hw lk_Mo_141 ht11 d_Mo_word_42 ?_
      refine lv_iload S.1 S.2.1 d_Mo_word_45 (lv_at hl 4 rfl) ?_
      refine lv_aload_n S.1 S.2.1 d_Mo_word_47 rfl (lv_at hl 0 rfl) ?_
      obtain ⟨t12, ht12, hf⟩ := xb hf
      refine x_getr S hw lk_Mo_86 ht12 d_Mo_word_48 ?_
      refine lv_sipush (v := 1025) S.1 S.2.1 d_Mo_word_51 (by decide) ?_
      refine lv_iload_n S.1 S.2.1 d_Mo_word_54 rfl (lv_at hl 1 rfl) ?_
      refine lv_imul S.1 S.2.1 d_Mo_word_55 ?_
      refine lv_iload S.1 S.2.1 d_Mo_word_56 (lv_at hl 4 rfl) ?_
      refine lv_iadd S.1 S.2.1 d_Mo_word_58 ?_
      obtain ⟨t13, ht13, hf⟩ := xb hf
      refine x_zald S hw ht13 d_Mo_word_59 ?_
      refine lv_if_eq (tgt := 67) S.1 S.2.1 d_Mo_word_60 (by decide) (fun c14 => ?_) (fun c14 => ?_)
      · replace hf := xt c14 hf
        refine lv_ldcw (v := 100000) S.1 S.2.1 S.2.2.2.1 (S.2.2.2.2 _ wd_6_225) d_Mo_word_67 ?_
        obtain ⟨w15, hw15, hf⟩ := xb hf
        refine x_iast S hw hw15 d_Mo_word_70 (fun H locs hw => ?_)
        refine lv_iinc (v := (x4 + 1)) (lv' := [(4, .int (x4 + 1)), (0, .ref a0), (1, .int x1), (2, .int x2), (3, .int x3)]) S.1 S.2.1 d_Mo_word_71 hl (k := 4) rfl rfl (by decide) rfl (fun ls hl => ?_)
        refine lv_goto (tgt := 35) S.1 S.2.1 d_Mo_word_74 (by decide) ?_
        exact ih _ _ _ _ _ _ _ _ _ hw (lv_sub hl [1, 2, 3, 4, 0] rfl) hf
      · replace hf := xf c14 hf
        refine lv_iconst (v := 0) S.1 S.2.1 d_Mo_word_63 (by decide) ?_
        refine lv_goto (tgt := 70) S.1 S.2.1 d_Mo_word_64 (by decide) ?_
        obtain ⟨w16, hw16, hf⟩ := xb hf
        refine x_iast S hw hw16 d_Mo_word_70 (fun H locs hw => ?_)
        refine lv_iinc (v := (x4 + 1)) (lv' := [(4, .int (x4 + 1)), (0, .ref a0), (1, .int x1), (2, .int x2), (3, .int x3)]) S.1 S.2.1 d_Mo_word_71 hl (k := 4) rfl rfl (by decide) rfl (fun ls hl => ?_)
        refine lv_goto (tgt := 35) S.1 S.2.1 d_Mo_word_74 (by decide) ?_
        exact ih _ _ _ _ _ _ _ _ _ hw (lv_sub hl [1, 2, 3, 4, 0] rfl) hf
def f_Mo_word (a0 : Nat) (x1 : Int32) (x2 : Int32) (ω : xS) : Option (Int32 × xS) :=
  (xk ω a0 12 (f_Mo_isLaw a0 x1 ω)).bind fun t2 =>
  if t2 = 0 then (
    some ((-1), ω))
  else (
    if 0 ≤ x2 then (
      (xk ω a0 12 (f_Mo_hasPattern a0 x1 ω)).bind fun t6 =>
      if t6 = 0 then (
        some ((-2), ω))
      else (
        (xgr ω a0 12 26).bind fun t8 =>
        (xai ω t8 x1).bind fun t9 =>
        f_Mo_word_35  xFU a0 x1 x2 t9 0 ω))
    else (
      some ((-1), ω)))
set_option maxHeartbeats 4000000 in
set_option maxRecDepth 100000 in
theorem c_Mo_word {l : Launch} {E : xV} {z : Nat} {a0 : Nat} {x1 : Int32} {x2 : Int32} {r : Int32} {ω1 : xS} {ω : xS} (hf : f_Mo_word a0 x1 x2 ω = some (r, ω1)) : xM l E y_Mo_word ws_Mo_word { frames := 1, cells := 0, slots := 0, locals := 21 } [.ref a0, .int x1, .int x2] z ω (some (.int r)) z ω1 := by
  refine x_start (cc := b_Mo_word) (maxL := 9) (ret := (some .int)) (by decide) rfl (Nat.le_of_ble_eq_true rfl) ?_
  intro p e s m below meth c S hr hlocks hin ls hl hw
  have hl : lv_has ls 9 [(0, .ref a0), (1, .int x1), (2, .int x2)] := hl
  unfold f_Mo_word at hf
  refine lv_aload_n S.1 S.2.1 d_Mo_word_0 rfl (lv_at hl 0 rfl) ?_
  refine lv_iload_n S.1 S.2.1 d_Mo_word_1 rfl (lv_at hl 1 rfl) ?_
  obtain ⟨t2, h1, hf⟩ := xb hf
  obtain ⟨h1b, h1⟩ := xkb h1
  refine x_callV (As := [.int x1]) (rest := []) (st1 := [.int t2]) S hw (c_Mo_isLaw h1) (cwV 1 S.2.2.2.2 gv_Mo_399 rfl rfl rfl hd_Mo_isLaw ⟨Nat.le_of_ble_eq_true rfl, Nat.le_of_ble_eq_true rfl⟩) rfl h1b rfl hl.1 rfl rfl (Nat.le_of_ble_eq_true rfl) d_Mo_word_2 ⟨Nat.le_of_ble_eq_true rfl, Nat.le_of_ble_eq_true rfl⟩ (fun H locs hw => ?_)
  refine lv_if_eq (tgt := 12) S.1 S.2.1 d_Mo_word_5 (by decide) (fun c3 => ?_) (fun c3 => ?_)
  · replace hf := xt c3 hf
    refine lv_iconst (v := (-1)) S.1 S.2.1 d_Mo_word_12 (by decide) ?_
    obtain ⟨rfl, rfl⟩ := xe2 hf
    exact x_iret S hr hlocks hw d_Mo_word_13
  · replace hf := xf c3 hf
    refine lv_iload_n S.1 S.2.1 d_Mo_word_8 rfl (lv_at hl 2 rfl) ?_
    refine lv_if_ge (tgt := 14) S.1 S.2.1 d_Mo_word_9 (by decide) (fun c4 => ?_) (fun c4 => ?_)
    · replace hf := xt c4 hf
      refine lv_aload_n S.1 S.2.1 d_Mo_word_14 rfl (lv_at hl 0 rfl) ?_
      refine lv_iload_n S.1 S.2.1 d_Mo_word_15 rfl (lv_at hl 1 rfl) ?_
      obtain ⟨t6, h5, hf⟩ := xb hf
      obtain ⟨h5b, h5⟩ := xkb h5
      refine x_callV (As := [.int x1]) (rest := []) (st1 := [.int t6]) S hw (c_Mo_hasPattern h5) (cwV 1 S.2.2.2.2 gv_Mo_402 rfl rfl rfl hd_Mo_hasPattern ⟨Nat.le_of_ble_eq_true rfl, Nat.le_of_ble_eq_true rfl⟩) rfl h5b rfl hl.1 rfl rfl (Nat.le_of_ble_eq_true rfl) d_Mo_word_16 ⟨Nat.le_of_ble_eq_true rfl, Nat.le_of_ble_eq_true rfl⟩ (fun H locs hw => ?_)
      refine lv_if_ne (tgt := 25) S.1 S.2.1 d_Mo_word_19 (by decide) (fun c7 => ?_) (fun c7 => ?_)
      · replace hf := xf c7 hf
        refine lv_aload_n S.1 S.2.1 d_Mo_word_25 rfl (lv_at hl 0 rfl) ?_
        obtain ⟨t8, ht8, hf⟩ := xb hf
        refine x_getr S hw lk_Mo_79 ht8 d_Mo_word_26 ?_
        refine lv_iload_n S.1 S.2.1 d_Mo_word_29 rfl (lv_at hl 1 rfl) ?_
        obtain ⟨t9, ht9, hf⟩ := xb hf
        refine x_iald S hw ht9 d_Mo_word_30 ?_
        refine lv_istore_n (lv' := [(3, .int t9), (0, .ref a0), (1, .int x1), (2, .int x2)]) S.1 S.2.1 d_Mo_word_31 rfl hl (by decide) rfl (fun ls hl => ?_)
        refine lv_iconst (v := 0) S.1 S.2.1 d_Mo_word_32 (by decide) ?_
        refine lv_istore (lv' := [(4, .int 0), (3, .int t9), (0, .ref a0), (1, .int x1), (2, .int x2)]) S.1 S.2.1 d_Mo_word_33 hl (by decide) rfl (fun ls hl => ?_)
        exact w_Mo_word_35 S hr hlocks  _ _ _ _ _ _ _ _ _ _ hw (lv_sub hl [2, 3, 4, 1, 0] rfl) hf
      · replace hf := xt c7 hf
        refine lv_bipush (v := (-2)) S.1 S.2.1 d_Mo_word_22 (by decide) ?_
        obtain ⟨rfl, rfl⟩ := xe2 hf
        exact x_iret S hr hlocks hw d_Mo_word_24
    · replace hf := xf c4 hf
      refine lv_iconst (v := (-1)) S.1 S.2.1 d_Mo_word_12 (by decide) ?_
      obtain ⟨rfl, rfl⟩ := xe2 hf
      exact x_iret S hr hlocks hw d_Mo_word_13
def f_Mo_count_15 (k4 : Nat → Int32 → Int32 → Int32 → xS → Option Int32) : Nat → Nat → Int32 → Int32 → Int32 → Int32 → xS → Option Int32
  | 0, _, _, _, _, _, _ => none
  | n + 1, a0, x1, x2, x3, x4, ω =>
    (xgi ω a0 12 1).bind fun t11 =>
    if t11 ≤ x4 then (
      k4 a0 x1 x2 (x3 + 1) ω)
    else (
      if x1 = 2 then (
        (xgr ω a0 12 2).bind fun t17 =>
        (xai ω t17 ((21 * x3) + x4)).bind fun t18 =>
        if t18 < 0 then (
          f_Mo_count_15 k4 n a0 x1 (x2 + 0) x3 (x4 + 1) ω)
        else (
          f_Mo_count_15 k4 n a0 x1 (x2 + 1) x3 (x4 + 1) ω))
      else (
        (xgr ω a0 12 9).bind fun t14 =>
        (xai ω t14 ((21 * x3) + x4)).bind fun t15 =>
        if t15 ≤ 0 then (
          f_Mo_count_15 k4 n a0 x1 (x2 + 0) x3 (x4 + 1) ω)
        else (
          f_Mo_count_15 k4 n a0 x1 (x2 + 1) x3 (x4 + 1) ω)))
set_option maxHeartbeats 4000000 in
set_option maxRecDepth 100000 in
theorem w_Mo_count_15 {p : Program} {l : Launch} {e : Env} {s : State} {m : MethodId} {args : Array Value} {below : List Frame} {meth : Method} {c : Code} {E : xV} {z : Nat} {r : Int32} {ω : xS} {k4 : Nat → Int32 → Int32 → Int32 → xS → Option Int32} (S : CallFix p m c b_Mo_count 5 s args xTbl "RosterRulesModel") (hr : meth.sig.returnType = (some .int)) (hlocks : meth.locks = false) (hk4 : ∀ (a0 : Nat) (x1 : Int32) (x2 : Int32) (x3 : Int32) (H : Heap) (locs : List Loc) (ls : Array Slot), xW E z ω s s.heap H locs → lv_has ls 5 [(0, .ref a0), (1, .int x1), (2, .int x2), (3, .int x3)] → k4 a0 x1 x2 x3 ω = some r → W p l e (headSpec ws_Mo_count { frames := 0, cells := 0, slots := 0, locals := 0 }).room s m args below meth c H locs 0 0 (MQ below (xQ E (some (.int r)) z ω) args s 0 0 (fun q => E.2.2 ≤ q)) (F0 m 4 ls [])) : ∀ n : Nat, ∀ (a0 : Nat) (x1 : Int32) (x2 : Int32) (x3 : Int32) (x4 : Int32) (H : Heap) (locs : List Loc) (ls : Array Slot), xW E z ω s s.heap H locs → lv_has ls 5 [(0, .ref a0), (1, .int x1), (2, .int x2), (3, .int x3), (4, .int x4)] → f_Mo_count_15 k4 n a0 x1 x2 x3 x4 ω = some r → W p l e (headSpec ws_Mo_count { frames := 0, cells := 0, slots := 0, locals := 0 }).room s m args below meth c H locs 0 0 (MQ below (xQ E (some (.int r)) z ω) args s 0 0 (fun q => E.2.2 ≤ q)) (F0 m 15 ls []) := by
  intro n
  induction n with
  | zero =>
    intro a0 x1 x2 x3 x4 H locs ls hw hl hf
    have h2 : (none : Option Int32) = some r := hf
    cases h2
  | succ n ih =>
    intro a0 x1 x2 x3 x4 H locs ls hw hl hf
    rw [f_Mo_count_15] at hf
    refine lv_iload S.1 S.2.1 d_Mo_count_15 (lv_at hl 4 rfl) ?_
    refine lv_aload_n S.1 S.2.1 d_Mo_count_17 rfl (lv_at hl 0 rfl) ?_
    obtain ⟨t11, ht11, hf⟩ := xb hf
    refine x_geti S hw lk_Mo_159 ht11 d_Mo_count_18 ?_
    refine lv_icmp_ge (tgt := 81) S.1 S.2.1 d_Mo_count_21 (by decide) (fun c12 => ?_) (fun c12 => ?_)
    · replace hf := xt c12 hf
      refine lv_iinc (v := (x3 + 1)) (lv' := [(3, .int (x3 + 1)), (0, .ref a0), (1, .int x1), (2, .int x2), (4, .int x4)]) S.1 S.2.1 d_Mo_count_81 hl (k := 3) rfl rfl (by decide) rfl (fun ls hl => ?_)
      refine lv_goto (tgt := 4) S.1 S.2.1 d_Mo_count_84 (by decide) ?_
      exact hk4 _ _ _ _ _ _ _ hw (lv_sub hl [1, 2, 3, 0] rfl) hf
    · replace hf := xf c12 hf
      refine lv_iload_n S.1 S.2.1 d_Mo_count_24 rfl (lv_at hl 2 rfl) ?_
      refine lv_iload_n S.1 S.2.1 d_Mo_count_25 rfl (lv_at hl 1 rfl) ?_
      refine lv_iconst (v := 2) S.1 S.2.1 d_Mo_count_26 (by decide) ?_
      refine lv_icmp_ne (tgt := 53) S.1 S.2.1 d_Mo_count_27 (by decide) (fun c13 => ?_) (fun c13 => ?_)
      · replace hf := xf c13 hf
        refine lv_aload_n S.1 S.2.1 d_Mo_count_53 rfl (lv_at hl 0 rfl) ?_
        obtain ⟨t14, ht14, hf⟩ := xb hf
        refine x_getr S hw lk_Mo_31 ht14 d_Mo_count_54 ?_
        refine lv_bipush (v := 21) S.1 S.2.1 d_Mo_count_57 (by decide) ?_
        refine lv_iload_n S.1 S.2.1 d_Mo_count_59 rfl (lv_at hl 3 rfl) ?_
        refine lv_imul S.1 S.2.1 d_Mo_count_60 ?_
        refine lv_iload S.1 S.2.1 d_Mo_count_61 (lv_at hl 4 rfl) ?_
        refine lv_iadd S.1 S.2.1 d_Mo_count_63 ?_
        obtain ⟨t15, ht15, hf⟩ := xb hf
        refine x_iald S hw ht15 d_Mo_count_64 ?_
        refine lv_if_le (tgt := 72) S.1 S.2.1 d_Mo_count_65 (by decide) (fun c16 => ?_) (fun c16 => ?_)
        · replace hf := xt c16 hf
          refine lv_iconst (v := 0) S.1 S.2.1 d_Mo_count_72 (by decide) ?_
          refine lv_iadd S.1 S.2.1 d_Mo_count_73 ?_
          refine lv_istore_n (lv' := [(2, .int (x2 + 0)), (0, .ref a0), (1, .int x1), (3, .int x3), (4, .int x4)]) S.1 S.2.1 d_Mo_count_74 rfl hl (by decide) rfl (fun ls hl => ?_)
          refine lv_iinc (v := (x4 + 1)) (lv' := [(4, .int (x4 + 1)), (2, .int (x2 + 0)), (0, .ref a0), (1, .int x1), (3, .int x3)]) S.1 S.2.1 d_Mo_count_75 hl (k := 4) rfl rfl (by decide) rfl (fun ls hl => ?_)
          refine lv_goto (tgt := 15) S.1 S.2.1 d_Mo_count_78 (by decide) ?_
          exact ih _ _ _ _ _ _ _ _ hw (lv_sub hl [2, 3, 1, 4, 0] rfl) hf
        · replace hf := xf c16 hf
          refine lv_iconst (v := 1) S.1 S.2.1 d_Mo_count_68 (by decide) ?_
          refine lv_goto (tgt := 73) S.1 S.2.1 d_Mo_count_69 (by decide) ?_
          refine lv_iadd S.1 S.2.1 d_Mo_count_73 ?_
          refine lv_istore_n (lv' := [(2, .int (x2 + 1)), (0, .ref a0), (1, .int x1), (3, .int x3), (4, .int x4)]) S.1 S.2.1 d_Mo_count_74 rfl hl (by decide) rfl (fun ls hl => ?_)
          refine lv_iinc (v := (x4 + 1)) (lv' := [(4, .int (x4 + 1)), (2, .int (x2 + 1)), (0, .ref a0), (1, .int x1), (3, .int x3)]) S.1 S.2.1 d_Mo_count_75 hl (k := 4) rfl rfl (by decide) rfl (fun ls hl => ?_)
          refine lv_goto (tgt := 15) S.1 S.2.1 d_Mo_count_78 (by decide) ?_
          exact ih _ _ _ _ _ _ _ _ hw (lv_sub hl [2, 3, 1, 4, 0] rfl) hf
      · replace hf := xt c13 hf
        refine lv_aload_n S.1 S.2.1 d_Mo_count_30 rfl (lv_at hl 0 rfl) ?_
        obtain ⟨t17, ht17, hf⟩ := xb hf
        refine x_getr S hw lk_Mo_7 ht17 d_Mo_count_31 ?_
        refine lv_bipush (v := 21) S.1 S.2.1 d_Mo_count_34 (by decide) ?_
        refine lv_iload_n S.1 S.2.1 d_Mo_count_36 rfl (lv_at hl 3 rfl) ?_
        refine lv_imul S.1 S.2.1 d_Mo_count_37 ?_
        refine lv_iload S.1 S.2.1 d_Mo_count_38 (lv_at hl 4 rfl) ?_
        refine lv_iadd S.1 S.2.1 d_Mo_count_40 ?_
        obtain ⟨t18, ht18, hf⟩ := xb hf
        refine x_iald S hw ht18 d_Mo_count_41 ?_
        refine lv_if_lt (tgt := 49) S.1 S.2.1 d_Mo_count_42 (by decide) (fun c19 => ?_) (fun c19 => ?_)
        · replace hf := xt c19 hf
          refine lv_iconst (v := 0) S.1 S.2.1 d_Mo_count_49 (by decide) ?_
          refine lv_goto (tgt := 73) S.1 S.2.1 d_Mo_count_50 (by decide) ?_
          refine lv_iadd S.1 S.2.1 d_Mo_count_73 ?_
          refine lv_istore_n (lv' := [(2, .int (x2 + 0)), (0, .ref a0), (1, .int x1), (3, .int x3), (4, .int x4)]) S.1 S.2.1 d_Mo_count_74 rfl hl (by decide) rfl (fun ls hl => ?_)
          refine lv_iinc (v := (x4 + 1)) (lv' := [(4, .int (x4 + 1)), (2, .int (x2 + 0)), (0, .ref a0), (1, .int x1), (3, .int x3)]) S.1 S.2.1 d_Mo_count_75 hl (k := 4) rfl rfl (by decide) rfl (fun ls hl => ?_)
          refine lv_goto (tgt := 15) S.1 S.2.1 d_Mo_count_78 (by decide) ?_
          exact ih _ _ _ _ _ _ _ _ hw (lv_sub hl [2, 3, 1, 4, 0] rfl) hf
        · replace hf := xf c19 hf
          refine lv_iconst (v := 1) S.1 S.2.1 d_Mo_count_45 (by decide) ?_
          refine lv_goto (tgt := 73) S.1 S.2.1 d_Mo_count_46 (by decide) ?_
          refine lv_iadd S.1 S.2.1 d_Mo_count_73 ?_
          refine lv_istore_n (lv' := [(2, .int (x2 + 1)), (0, .ref a0), (1, .int x1), (3, .int x3), (4, .int x4)]) S.1 S.2.1 d_Mo_count_74 rfl hl (by decide) rfl (fun ls hl => ?_)
          refine lv_iinc (v := (x4 + 1)) (lv' := [(4, .int (x4 + 1)), (2, .int (x2 + 1)), (0, .ref a0), (1, .int x1), (3, .int x3)]) S.1 S.2.1 d_Mo_count_75 hl (k := 4) rfl rfl (by decide) rfl (fun ls hl => ?_)
          refine lv_goto (tgt := 15) S.1 S.2.1 d_Mo_count_78 (by decide) ?_
          exact ih _ _ _ _ _ _ _ _ hw (lv_sub hl [2, 3, 1, 4, 0] rfl) hf
def f_Mo_count_4 : Nat → Nat → Int32 → Int32 → Int32 → xS → Option Int32
  | 0, _, _, _, _, _ => none
  | n + 1, a0, x1, x2, x3, ω =>
    (xgi ω a0 12 0).bind fun t1 =>
    if t1 ≤ x3 then (
      if x1 = 0 then (
        (xgi ω a0 12 20).bind fun t10 =>
        some t10)
      else (
        if x1 = 1 then (
          (xgi ω a0 12 11).bind fun t9 =>
          some t9)
        else (
          if x1 = 2 then (
            some x2)
          else (
            if x1 = 3 then (
              some x2)
            else (
              if x1 = 4 then (
                (xgi ω a0 12 32).bind fun t8 =>
                some t8)
              else (
                some (-1)))))))
    else (
      f_Mo_count_15 (f_Mo_count_4  n) xFU a0 x1 x2 x3 0 ω)
set_option maxHeartbeats 4000000 in
set_option maxRecDepth 100000 in
theorem w_Mo_count_4 {p : Program} {l : Launch} {e : Env} {s : State} {m : MethodId} {args : Array Value} {below : List Frame} {meth : Method} {c : Code} {E : xV} {z : Nat} {r : Int32} {ω : xS} (S : CallFix p m c b_Mo_count 5 s args xTbl "RosterRulesModel") (hr : meth.sig.returnType = (some .int)) (hlocks : meth.locks = false) : ∀ n : Nat, ∀ (a0 : Nat) (x1 : Int32) (x2 : Int32) (x3 : Int32) (H : Heap) (locs : List Loc) (ls : Array Slot), xW E z ω s s.heap H locs → lv_has ls 5 [(0, .ref a0), (1, .int x1), (2, .int x2), (3, .int x3)] → f_Mo_count_4 n a0 x1 x2 x3 ω = some r → W p l e (headSpec ws_Mo_count { frames := 0, cells := 0, slots := 0, locals := 0 }).room s m args below meth c H locs 0 0 (MQ below (xQ E (some (.int r)) z ω) args s 0 0 (fun q => E.2.2 ≤ q)) (F0 m 4 ls []) := by
  intro n
  induction n with
  | zero =>
    intro a0 x1 x2 x3 H locs ls hw hl hf
    have h2 : (none : Option Int32) = some r := hf
    cases h2
  | succ n ih =>
    intro a0 x1 x2 x3 H locs ls hw hl hf
    rw [f_Mo_count_4] at hf
    refine lv_iload_n S.1 S.2.1 d_Mo_count_4 rfl (lv_at hl 3 rfl) ?_
    refine lv_aload_n S.1 S.2.1 d_Mo_count_5 rfl (lv_at hl 0 rfl) ?_
    obtain ⟨t1, ht1, hf⟩ := xb hf
    refine x_geti S hw lk_Mo_156 ht1 d_Mo_count_6 ?_
    refine lv_icmp_ge (tgt := 87) S.1 S.2.1 d_Mo_count_9 (by decide) (fun c2 => ?_) (fun c2 => ?_)
    · replace hf := xt c2 hf
      refine lv_iload_n S.1 S.2.1 d_Mo_count_87 rfl (lv_at hl 1 rfl) ?_
      refine lv_if_ne (tgt := 98) S.1 S.2.1 d_Mo_count_88 (by decide) (fun c3 => ?_) (fun c3 => ?_)
      · replace hf := xf c3 hf
        refine lv_iload_n S.1 S.2.1 d_Mo_count_98 rfl (lv_at hl 1 rfl) ?_
        refine lv_iconst (v := 1) S.1 S.2.1 d_Mo_count_99 (by decide) ?_
        refine lv_icmp_ne (tgt := 110) S.1 S.2.1 d_Mo_count_100 (by decide) (fun c4 => ?_) (fun c4 => ?_)
        · replace hf := xf c4 hf
          refine lv_iload_n S.1 S.2.1 d_Mo_count_110 rfl (lv_at hl 1 rfl) ?_
          refine lv_iconst (v := 2) S.1 S.2.1 d_Mo_count_111 (by decide) ?_
          refine lv_icmp_eq (tgt := 120) S.1 S.2.1 d_Mo_count_112 (by decide) (fun c5 => ?_) (fun c5 => ?_)
          · replace hf := xt c5 hf
            refine lv_iload_n S.1 S.2.1 d_Mo_count_120 rfl (lv_at hl 2 rfl) ?_
            refine lv_goto (tgt := 137) S.1 S.2.1 d_Mo_count_121 (by decide) ?_
            obtain rfl := xe1 hf
            exact x_iret S hr hlocks hw d_Mo_count_137
          · replace hf := xf c5 hf
            refine lv_iload_n S.1 S.2.1 d_Mo_count_115 rfl (lv_at hl 1 rfl) ?_
            refine lv_iconst (v := 3) S.1 S.2.1 d_Mo_count_116 (by decide) ?_
            refine lv_icmp_ne (tgt := 124) S.1 S.2.1 d_Mo_count_117 (by decide) (fun c6 => ?_) (fun c6 => ?_)
            · replace hf := xf c6 hf
              refine lv_iload_n S.1 S.2.1 d_Mo_count_124 rfl (lv_at hl 1 rfl) ?_
              refine lv_iconst (v := 4) S.1 S.2.1 d_Mo_count_125 (by decide) ?_
              refine lv_icmp_ne (tgt := 136) S.1 S.2.1 d_Mo_count_126 (by decide) (fun c7 => ?_) (fun c7 => ?_)
              · replace hf := xf c7 hf
                refine lv_iconst (v := (-1)) S.1 S.2.1 d_Mo_count_136 (by decide) ?_
                obtain rfl := xe1 hf
                exact x_iret S hr hlocks hw d_Mo_count_137
              · replace hf := xt c7 hf
                refine lv_aload_n S.1 S.2.1 d_Mo_count_129 rfl (lv_at hl 0 rfl) ?_
                obtain ⟨t8, ht8, hf⟩ := xb hf
                refine x_geti S hw lk_Mo_396 ht8 d_Mo_count_130 ?_
                refine lv_goto (tgt := 137) S.1 S.2.1 d_Mo_count_133 (by decide) ?_
                obtain rfl := xe1 hf
                exact x_iret S hr hlocks hw d_Mo_count_137
            · replace hf := xt c6 hf
              refine lv_iload_n S.1 S.2.1 d_Mo_count_120 rfl (lv_at hl 2 rfl) ?_
              refine lv_goto (tgt := 137) S.1 S.2.1 d_Mo_count_121 (by decide) ?_
              obtain rfl := xe1 hf
              exact x_iret S hr hlocks hw d_Mo_count_137
        · replace hf := xt c4 hf
          refine lv_aload_n S.1 S.2.1 d_Mo_count_103 rfl (lv_at hl 0 rfl) ?_
          obtain ⟨t9, ht9, hf⟩ := xb hf
          refine x_geti S hw lk_Mo_169 ht9 d_Mo_count_104 ?_
          refine lv_goto (tgt := 137) S.1 S.2.1 d_Mo_count_107 (by decide) ?_
          obtain rfl := xe1 hf
          exact x_iret S hr hlocks hw d_Mo_count_137
      · replace hf := xt c3 hf
        refine lv_aload_n S.1 S.2.1 d_Mo_count_91 rfl (lv_at hl 0 rfl) ?_
        obtain ⟨t10, ht10, hf⟩ := xb hf
        refine x_geti S hw lk_Mo_219 ht10 d_Mo_count_92 ?_
        refine lv_goto (tgt := 137) S.1 S.2.1 d_Mo_count_95 (by decide) ?_
        obtain rfl := xe1 hf
        exact x_iret S hr hlocks hw d_Mo_count_137
    · replace hf := xf c2 hf
      refine lv_iconst (v := 0) S.1 S.2.1 d_Mo_count_12 (by decide) ?_
      refine lv_istore (lv' := [(4, .int 0), (0, .ref a0), (1, .int x1), (2, .int x2), (3, .int x3)]) S.1 S.2.1 d_Mo_count_13 hl (by decide) rfl (fun ls hl => ?_)
      exact w_Mo_count_15 S hr hlocks ih _ _ _ _ _ _ _ _ _ hw (lv_sub hl [1, 2, 3, 4, 0] rfl) hf
def f_Mo_count (a0 : Nat) (x1 : Int32) (ω : xS) : Option Int32 :=
  f_Mo_count_4  xFU a0 x1 0 0 ω
set_option maxHeartbeats 4000000 in
set_option maxRecDepth 100000 in
theorem c_Mo_count {l : Launch} {E : xV} {z : Nat} {a0 : Nat} {x1 : Int32} {r : Int32} {ω : xS} (hf : f_Mo_count a0 x1 ω = some r) : xM l E y_Mo_count ws_Mo_count { frames := 0, cells := 0, slots := 0, locals := 0 } [.ref a0, .int x1] z ω (some (.int r)) z ω := by
  refine x_start (cc := b_Mo_count) (maxL := 5) (ret := (some .int)) (by decide) rfl (Nat.le_of_ble_eq_true rfl) ?_
  intro p e s m below meth c S hr hlocks hin ls hl hw
  have hl : lv_has ls 5 [(0, .ref a0), (1, .int x1)] := hl
  unfold f_Mo_count at hf
  refine lv_iconst (v := 0) S.1 S.2.1 d_Mo_count_0 (by decide) ?_
  refine lv_istore_n (lv' := [(2, .int 0), (0, .ref a0), (1, .int x1)]) S.1 S.2.1 d_Mo_count_1 rfl hl (by decide) rfl (fun ls hl => ?_)
  refine lv_iconst (v := 0) S.1 S.2.1 d_Mo_count_2 (by decide) ?_
  refine lv_istore_n (lv' := [(3, .int 0), (2, .int 0), (0, .ref a0), (1, .int x1)]) S.1 S.2.1 d_Mo_count_3 rfl hl (by decide) rfl (fun ls hl => ?_)
  exact w_Mo_count_4 S hr hlocks  _ _ _ _ _ _ _ _ hw (lv_sub hl [2, 3, 1, 0] rfl) hf
