def f_Mo_build_204 (k7 : Nat → Int32 → Int32 → xS → Option (Int64 × xS)) (a0 : Nat) (x1 : Int32) (x2 : Int32) (x4 : Int32) (ω : xS) : Option (Int64 × xS) :=
  (xgr ω a0 12 21).bind fun t71 =>
  (xgi ω a0 12 44).bind fun t72 =>
  (xgi ω a0 12 43).bind fun t73 =>
  (xsi ω t71 ((10 * t72) + t73) x4).bind fun w74 =>
  (xgr w74 a0 12 54).bind fun t75 =>
  (xgi w74 a0 12 43).bind fun t76 =>
  (xsi w74 t75 x2 t76).bind fun w77 =>
  (xgr w77 a0 12 51).bind fun t78 =>
  (xgi w77 a0 12 43).bind fun t79 =>
  (xgi w77 a0 12 43).bind fun t80 =>
  (f_Mo_part (1 <<< (t79 &&& 31)) (1 <<< (t80 &&& 31)) 0 w77).bind fun t82 =>
  (xsl w77 t78 x2 t82).bind fun w83 =>
  (xgr w83 a0 12 48).bind fun t84 =>
  (xsz w83 t84 x2 1).bind fun w85 =>
  (xgi w85 a0 12 43).bind fun t86 =>
  (xp w85 a0 12 43 (.int (t86 + 1))).bind fun w87 =>
  k7 a0 x1 x2 w87
set_option maxHeartbeats 4000000 in
set_option maxRecDepth 100000 in
theorem w_Mo_build_204 {p : Program} {l : Launch} {e : Env} {s : State} {m : MethodId} {args : Array Value} {below : List Frame} {meth : Method} {c : Code} {E : xV} {z : Nat} {r : Int64} {ω1 : xS} {k7 : Nat → Int32 → Int32 → xS → Option (Int64 × xS)} (S : CallFix p m c b_Mo_build 5 s args xTbl "RosterRulesModel") (hr : meth.sig.returnType = (some .long)) (hlocks : meth.locks = false) (hk7 : ∀ (a0 : Nat) (x1 : Int32) (x2 : Int32) (ω : xS) (H : Heap) (locs : List Loc) (ls : Array Slot), xW E z ω s s.heap H locs → lv_has ls 5 [(0, .ref a0), (1, .int x1), (2, .int x2)] → k7 a0 x1 x2 ω = some (r, ω1) → W p l e (headSpec ws_Mo_build { frames := 4, cells := 0, slots := 0, locals := 93 }).room s m args below meth c H locs 0 0 (MQ below (xQ E (some (.long r)) z ω1) args s 0 0 (fun q => E.2.2 ≤ q)) (F0 m 7 ls [])) : ∀ (a0 : Nat) (x1 : Int32) (x2 : Int32) (x4 : Int32) (ω : xS) (H : Heap) (locs : List Loc) (ls : Array Slot), xW E z ω s s.heap H locs → lv_has ls 5 [(0, .ref a0), (1, .int x1), (2, .int x2), (4, .int x4)] → f_Mo_build_204 k7 a0 x1 x2 x4 ω = some (r, ω1) → W p l e (headSpec ws_Mo_build { frames := 4, cells := 0, slots := 0, locals := 93 }).room s m args below meth c H locs 0 0 (MQ below (xQ E (some (.long r)) z ω1) args s 0 0 (fun q => E.2.2 ≤ q)) (F0 m 204 ls []) := by
  intro a0 x1 x2 x4 ω H locs ls hw hl hf
  unfold f_Mo_build_204 at hf
  refine lv_aload_n S.1 S.2.1 d_Mo_build_204 rfl (lv_at hl 0 rfl) ?_
  obtain ⟨t71, ht71, hf⟩ := xb hf
  refine x_getr S hw lk_Mo_63 ht71 d_Mo_build_205 ?_
  refine lv_bipush (v := 10) S.1 S.2.1 d_Mo_build_208 (by decide) ?_
  refine lv_aload_n S.1 S.2.1 d_Mo_build_210 rfl (lv_at hl 0 rfl) ?_
  obtain ⟨t72, ht72, hf⟩ := xb hf
  refine x_geti S hw lk_Mo_253 ht72 d_Mo_build_211 ?_
  refine lv_imul S.1 S.2.1 d_Mo_build_214 ?_
  refine lv_aload_n S.1 S.2.1 d_Mo_build_215 rfl (lv_at hl 0 rfl) ?_
  obtain ⟨t73, ht73, hf⟩ := xb hf
  refine x_geti S hw lk_Mo_256 ht73 d_Mo_build_216 ?_
  refine lv_iadd S.1 S.2.1 d_Mo_build_219 ?_
  refine lv_iload S.1 S.2.1 d_Mo_build_220 (lv_at hl 3 rfl) ?_
  obtain ⟨w74, hw74, hf⟩ := xb hf
  refine x_iast S hw hw74 d_Mo_build_222 (fun H locs hw => ?_)
  refine lv_aload_n S.1 S.2.1 d_Mo_build_223 rfl (lv_at hl 0 rfl) ?_
  obtain ⟨t75, ht75, hf⟩ := xb hf
  refine x_getr S hw lk_Mo_123 ht75 d_Mo_build_224 ?_
  refine lv_iload_n S.1 S.2.1 d_Mo_build_227 rfl (lv_at hl 2 rfl) ?_
  refine lv_aload_n S.1 S.2.1 d_Mo_build_228 rfl (lv_at hl 0 rfl) ?_
  obtain ⟨t76, ht76, hf⟩ := xb hf
  refine x_geti S hw lk_Mo_256 ht76 d_Mo_build_229 ?_
  obtain ⟨w77, hw77, hf⟩ := xb hf
  refine x_iast S hw hw77 d_Mo_build_232 (fun H locs hw => ?_)
  refine lv_aload_n S.1 S.2.1 d_Mo_build_233 rfl (lv_at hl 0 rfl) ?_
  obtain ⟨t78, ht78, hf⟩ := xb hf
  refine x_getr S hw lk_Mo_114 ht78 d_Mo_build_234 ?_
  refine lv_iload_n S.1 S.2.1 d_Mo_build_237 rfl (lv_at hl 2 rfl) ?_
  refine lv_iconst (v := 1) S.1 S.2.1 d_Mo_build_238 (by decide) ?_
  refine lv_aload_n S.1 S.2.1 d_Mo_build_239 rfl (lv_at hl 0 rfl) ?_
  obtain ⟨t79, ht79, hf⟩ := xb hf
  refine x_geti S hw lk_Mo_256 ht79 d_Mo_build_240 ?_
  refine lv_ishl S.1 S.2.1 d_Mo_build_243 ?_
  refine lv_iconst (v := 1) S.1 S.2.1 d_Mo_build_244 (by decide) ?_
  refine lv_aload_n S.1 S.2.1 d_Mo_build_245 rfl (lv_at hl 0 rfl) ?_
  obtain ⟨t80, ht80, hf⟩ := xb hf
  refine x_geti S hw lk_Mo_256 ht80 d_Mo_build_246 ?_
  refine lv_ishl S.1 S.2.1 d_Mo_build_249 ?_
  refine lv_iconst (v := 0) S.1 S.2.1 d_Mo_build_250 (by decide) ?_
  obtain ⟨t82, h81, hf⟩ := xb hf
  refine x_callS (As := [.int (1 <<< (t79 &&& 31)), .int (1 <<< (t80 &&& 31)), .int 0]) (rest := [.int x2, .ref t78]) (st1 := [.long t82, .int x2, .ref t78]) S hw (c_Mo_part h81) (cwS 3 S.2.2.2.2 gs_Mo_310 rfl rfl rfl hd_Mo_part ⟨Nat.le_of_ble_eq_true rfl, Nat.le_of_ble_eq_true rfl⟩) rfl hl.1 rfl rfl (Nat.le_of_ble_eq_true rfl) d_Mo_build_251 ⟨Nat.le_of_ble_eq_true rfl, Nat.le_of_ble_eq_true rfl⟩ (fun H locs hw => ?_)
  obtain ⟨w83, hw83, hf⟩ := xb hf
  refine x_last S hw hw83 d_Mo_build_254 (fun H locs hw => ?_)
  refine lv_aload_n S.1 S.2.1 d_Mo_build_255 rfl (lv_at hl 0 rfl) ?_
  obtain ⟨t84, ht84, hf⟩ := xb hf
  refine x_getr S hw lk_Mo_104 ht84 d_Mo_build_256 ?_
  refine lv_iload_n S.1 S.2.1 d_Mo_build_259 rfl (lv_at hl 2 rfl) ?_
  refine lv_iconst (v := 1) S.1 S.2.1 d_Mo_build_260 (by decide) ?_
  obtain ⟨w85, hw85, hf⟩ := xb hf
  refine x_zast S hw hw85 d_Mo_build_261 (fun H locs hw => ?_)
  refine lv_aload_n S.1 S.2.1 d_Mo_build_262 rfl (lv_at hl 0 rfl) ?_
  refine lv_dup S.1 S.2.1 d_Mo_build_263 rfl ?_
  obtain ⟨t86, ht86, hf⟩ := xb hf
  refine x_geti S hw lk_Mo_256 ht86 d_Mo_build_264 ?_
  refine lv_iconst (v := 1) S.1 S.2.1 d_Mo_build_267 (by decide) ?_
  refine lv_iadd S.1 S.2.1 d_Mo_build_268 ?_
  obtain ⟨w87, hw87, hf⟩ := xb hf
  refine x_puti S hw lp_Mo_256 hw87 d_Mo_build_269 (fun H locs hw => ?_)
  refine lv_goto (tgt := 297) S.1 S.2.1 d_Mo_build_272 (by decide) ?_
  refine lv_goto (tgt := 7) S.1 S.2.1 d_Mo_build_297 (by decide) ?_
  exact hk7 _ _ _ _ _ _ _ hw (lv_sub hl [0, 1, 2] rfl) hf
def f_Mo_build_7 : Nat → Nat → Int32 → Int32 → xS → Option (Int64 × xS)
  | 0, _, _, _, _ => none
  | n + 1, a0, x1, x2, ω =>
    (xgi ω a0 12 42).bind fun t4 =>
    if x1 ≤ t4 then (
      (xk ω a0 12 (f_Mo_finish a0 0 ω)).bind fun w8 =>
      (xgr w8 a0 12 49).bind fun t9 =>
      (xal w8 t9 0).bind fun t10 =>
      some (t10, w8))
    else (
      (xgi ω a0 12 42).bind fun t11 =>
      (xk ω a0 12 (f_Mo_look a0 t11 ω)).bind fun t13 =>
      if t13 = 40 then (
        (xgi ω a0 12 42).bind fun t63 =>
        (xp ω a0 12 42 (.int (t63 + 1))).bind fun w64 =>
        (xk w64 a0 12 (f_Mo_settle a0 x2 w64)).bind fun w67 =>
        (xk w67 a0 12 (f_Mo_begin a0 (x2 + 1) w67)).bind fun w70 =>
        f_Mo_build_7  n a0 x1 (x2 + 1) w70)
      else (
        if t13 = 41 then (
          (xgi ω a0 12 42).bind fun t48 =>
          (xp ω a0 12 42 (.int (t48 + 1))).bind fun w49 =>
          (xk w49 a0 12 (f_Mo_finish a0 x2 w49)).bind fun w52 =>
          (xgr w52 a0 12 51).bind fun t53 =>
          (xgr w52 a0 12 49).bind fun t54 =>
          (xal w52 t54 ((x2 + (-1)) + 1)).bind fun t55 =>
          (xsl w52 t53 (x2 + (-1)) t55).bind fun w56 =>
          (xgr w56 a0 12 54).bind fun t57 =>
          (xgr w56 a0 12 55).bind fun t58 =>
          (xai w56 t58 ((x2 + (-1)) + 1)).bind fun t59 =>
          (xsi w56 t57 (x2 + (-1)) t59).bind fun w60 =>
          (xgr w60 a0 12 48).bind fun t61 =>
          (xsz w60 t61 (x2 + (-1)) 1).bind fun w62 =>
          f_Mo_build_7  n a0 x1 (x2 + (-1)) w62)
        else (
          if t13 = 124 then (
            (xgi ω a0 12 42).bind fun t43 =>
            (xp ω a0 12 42 (.int (t43 + 1))).bind fun w44 =>
            (xk w44 a0 12 (f_Mo_finish a0 x2 w44)).bind fun w47 =>
            f_Mo_build_7  n a0 x1 x2 w47)
          else (
            (f_Mo_beginsAtom t13 ω).bind fun t18 =>
            if t18 = 0 then (
              (xgr ω a0 12 51).bind fun t20 =>
              (xgr ω a0 12 51).bind fun t21 =>
              (xal ω t21 x2).bind fun t22 =>
              (xgr ω a0 12 54).bind fun t23 =>
              (xai ω t23 x2).bind fun t24 =>
              xc (xk ω a0 12 (f_Mo_often a0 t22 t24 ω)) fun t26 w27 =>
              (xsl w27 t20 x2 t26).bind fun w28 =>
              f_Mo_build_7  n a0 x1 x2 w28)
            else (
              (xk ω a0 12 (f_Mo_settle a0 x2 ω)).bind fun w31 =>
              if t13 = 91 then (
                xc (xk w31 a0 12 (f_Mo_set0 a0  w31)) fun t41 w42 =>
                f_Mo_build_204 (f_Mo_build_7  n) a0 x1 x2 t41 w42)
              else (
                if t13 = 46 then (
                  (xgi w31 a0 12 42).bind fun t38 =>
                  (xp w31 a0 12 42 (.int (t38 + 1))).bind fun w39 =>
                  f_Mo_build_204 (f_Mo_build_7  n) a0 x1 x2 511 w39)
                else (
                  (f_Mo_letterOf t13 w31).bind fun t35 =>
                  (xgi w31 a0 12 42).bind fun t36 =>
                  (xp w31 a0 12 42 (.int (t36 + 1))).bind fun w37 =>
                  f_Mo_build_204 (f_Mo_build_7  n) a0 x1 x2 (1 <<< (t35 &&& 31)) w37)))))))
set_option maxHeartbeats 4000000 in
set_option maxRecDepth 100000 in
theorem w_Mo_build_7 {p : Program} {l : Launch} {e : Env} {s : State} {m : MethodId} {args : Array Value} {below : List Frame} {meth : Method} {c : Code} {E : xV} {z : Nat} {r : Int64} {ω1 : xS} (S : CallFix p m c b_Mo_build 5 s args xTbl "RosterRulesModel") (hr : meth.sig.returnType = (some .long)) (hlocks : meth.locks = false) : ∀ n : Nat, ∀ (a0 : Nat) (x1 : Int32) (x2 : Int32) (ω : xS) (H : Heap) (locs : List Loc) (ls : Array Slot), xW E z ω s s.heap H locs → lv_has ls 5 [(0, .ref a0), (1, .int x1), (2, .int x2)] → f_Mo_build_7 n a0 x1 x2 ω = some (r, ω1) → W p l e (headSpec ws_Mo_build { frames := 4, cells := 0, slots := 0, locals := 93 }).room s m args below meth c H locs 0 0 (MQ below (xQ E (some (.long r)) z ω1) args s 0 0 (fun q => E.2.2 ≤ q)) (F0 m 7 ls []) := by
  intro n
  induction n with
  | zero =>
    intro a0 x1 x2 ω H locs ls hw hl hf
    have h2 : (none : Option (Int64 × xS)) = some (r, ω1) := hf
    cases h2
  | succ n ih =>
    intro a0 x1 x2 ω H locs ls hw hl hf
    rw [f_Mo_build_7] at hf
    refine lv_aload_n S.1 S.2.1 d_Mo_build_7 rfl (lv_at hl 0 rfl) ?_
    obtain ⟨t4, ht4, hf⟩ := xb hf
    refine x_geti S hw lk_Mo_247 ht4 d_Mo_build_8 ?_
    refine lv_iload_n S.1 S.2.1 d_Mo_build_11 rfl (lv_at hl 1 rfl) ?_
    refine lv_icmp_ge (tgt := 300) S.1 S.2.1 d_Mo_build_12 (by decide) (fun c5 => ?_) (fun c5 => ?_)
    · replace hf := xt c5 hf
      refine lv_aload_n S.1 S.2.1 d_Mo_build_300 rfl (lv_at hl 0 rfl) ?_
      refine lv_iconst (v := 0) S.1 S.2.1 d_Mo_build_301 (by decide) ?_
      obtain ⟨w8, h6, hf⟩ := xb hf
      obtain ⟨h6b, h6⟩ := xkb h6
      refine x_callV (As := [.int 0]) (rest := []) (st1 := []) S hw (c_Mo_finish h6) (cwV 1 S.2.2.2.2 gv_Mo_323 rfl rfl rfl hd_Mo_finish ⟨Nat.le_of_ble_eq_true rfl, Nat.le_of_ble_eq_true rfl⟩) rfl h6b rfl hl.1 rfl rfl (Nat.le_of_ble_eq_true rfl) d_Mo_build_302 ⟨Nat.le_of_ble_eq_true rfl, Nat.le_of_ble_eq_true rfl⟩ (fun H locs hw => ?_)
      refine lv_aload_n S.1 S.2.1 d_Mo_build_305 rfl (lv_at hl 0 rfl) ?_
      obtain ⟨t9, ht9, hf⟩ := xb hf
      refine x_getr S hw lk_Mo_107 ht9 d_Mo_build_306 ?_
      refine lv_iconst (v := 0) S.1 S.2.1 d_Mo_build_309 (by decide) ?_
      obtain ⟨t10, ht10, hf⟩ := xb hf
      refine x_lald S hw ht10 d_Mo_build_310 ?_
      obtain ⟨rfl, rfl⟩ := xe2 hf
      exact x_lret S hr hlocks hw d_Mo_build_311
    · replace hf := xf c5 hf
      refine lv_aload_n S.1 S.2.1 d_Mo_build_15 rfl (lv_at hl 0 rfl) ?_
      refine lv_aload_n S.1 S.2.1 d_Mo_build_16 rfl (lv_at hl 0 rfl) ?_
      obtain ⟨t11, ht11, hf⟩ := xb hf
      refine x_geti S hw lk_Mo_247 ht11 d_Mo_build_17 ?_
      obtain ⟨t13, h12, hf⟩ := xb hf
      obtain ⟨h12b, h12⟩ := xkb h12
      refine x_callV (As := [.int t11]) (rest := []) (st1 := [.int t13]) S hw (c_Mo_look h12) (cwV 1 S.2.2.2.2 gv_Mo_181 rfl rfl rfl hd_Mo_look ⟨Nat.le_of_ble_eq_true rfl, Nat.le_of_ble_eq_true rfl⟩) rfl h12b rfl hl.1 rfl rfl (Nat.le_of_ble_eq_true rfl) d_Mo_build_20 ⟨Nat.le_of_ble_eq_true rfl, Nat.le_of_ble_eq_true rfl⟩ (fun H locs hw => ?_)
      refine lv_istore_n (lv' := [(3, .int t13), (0, .ref a0), (1, .int x1), (2, .int x2)]) S.1 S.2.1 d_Mo_build_23 rfl hl (by decide) rfl (fun ls hl => ?_)
      refine lv_iload_n S.1 S.2.1 d_Mo_build_24 rfl (lv_at hl 0 rfl) ?_
      refine lv_bipush (v := 40) S.1 S.2.1 d_Mo_build_25 (by decide) ?_
      refine lv_icmp_ne (tgt := 56) S.1 S.2.1 d_Mo_build_27 (by decide) (fun c14 => ?_) (fun c14 => ?_)
      · replace hf := xf c14 hf
        refine lv_iload_n S.1 S.2.1 d_Mo_build_56 rfl (lv_at hl 0 rfl) ?_
        refine lv_bipush (v := 41) S.1 S.2.1 d_Mo_build_57 (by decide) ?_
        refine lv_icmp_ne (tgt := 118) S.1 S.2.1 d_Mo_build_59 (by decide) (fun c15 => ?_) (fun c15 => ?_)
        · replace hf := xf c15 hf
          refine lv_iload_n S.1 S.2.1 d_Mo_build_118 rfl (lv_at hl 0 rfl) ?_
          refine lv_bipush (v := 124) S.1 S.2.1 d_Mo_build_119 (by decide) ?_
          refine lv_icmp_ne (tgt := 142) S.1 S.2.1 d_Mo_build_121 (by decide) (fun c16 => ?_) (fun c16 => ?_)
          · replace hf := xf c16 hf
            refine lv_iload_n S.1 S.2.1 d_Mo_build_142 rfl (lv_at hl 0 rfl) ?_
            obtain ⟨t18, h17, hf⟩ := xb hf
            refine x_callS (As := [.int t13]) (rest := []) (st1 := [.int t18]) S hw (c_Mo_beginsAtom h17) (cwS 1 S.2.2.2.2 gs_Mo_283 rfl rfl rfl hd_Mo_beginsAtom ⟨Nat.le_of_ble_eq_true rfl, Nat.le_of_ble_eq_true rfl⟩) rfl hl.1 rfl rfl (Nat.le_of_ble_eq_true rfl) d_Mo_build_143 ⟨Nat.le_of_ble_eq_true rfl, Nat.le_of_ble_eq_true rfl⟩ (fun H locs hw => ?_)
            refine lv_if_eq (tgt := 275) S.1 S.2.1 d_Mo_build_146 (by decide) (fun c19 => ?_) (fun c19 => ?_)
            · replace hf := xt c19 hf
              refine lv_aload_n S.1 S.2.1 d_Mo_build_275 rfl (lv_at hl 1 rfl) ?_
              obtain ⟨t20, ht20, hf⟩ := xb hf
              refine x_getr S hw lk_Mo_114 ht20 d_Mo_build_276 ?_
              refine lv_iload_n S.1 S.2.1 d_Mo_build_279 rfl (lv_at hl 3 rfl) ?_
              refine lv_aload_n S.1 S.2.1 d_Mo_build_280 rfl (lv_at hl 1 rfl) ?_
              refine lv_aload_n S.1 S.2.1 d_Mo_build_281 rfl (lv_at hl 1 rfl) ?_
              obtain ⟨t21, ht21, hf⟩ := xb hf
              refine x_getr S hw lk_Mo_114 ht21 d_Mo_build_282 ?_
              refine lv_iload_n S.1 S.2.1 d_Mo_build_285 rfl (lv_at hl 3 rfl) ?_
              obtain ⟨t22, ht22, hf⟩ := xb hf
              refine x_lald S hw ht22 d_Mo_build_286 ?_
              refine lv_aload_n S.1 S.2.1 d_Mo_build_287 rfl (lv_at hl 1 rfl) ?_
              obtain ⟨t23, ht23, hf⟩ := xb hf
              refine x_getr S hw lk_Mo_123 ht23 d_Mo_build_288 ?_
              refine lv_iload_n S.1 S.2.1 d_Mo_build_291 rfl (lv_at hl 3 rfl) ?_
              obtain ⟨t24, ht24, hf⟩ := xb hf
              refine x_iald S hw ht24 d_Mo_build_292 ?_
              obtain ⟨t26, w27, h25, hf⟩ := xcb hf
              obtain ⟨h25b, h25⟩ := xkb h25
              refine x_callV (As := [.long t22, .int t24]) (rest := [.int x2, .ref t20]) (st1 := [.long t26, .int x2, .ref t20]) S hw (c_Mo_often h25) (cwV 2 S.2.2.2.2 gv_Mo_326 rfl rfl rfl hd_Mo_often ⟨Nat.le_of_ble_eq_true rfl, Nat.le_of_ble_eq_true rfl⟩) rfl h25b rfl hl.1 rfl rfl (Nat.le_of_ble_eq_true rfl) d_Mo_build_293 ⟨Nat.le_of_ble_eq_true rfl, Nat.le_of_ble_eq_true rfl⟩ (fun H locs hw => ?_)
              obtain ⟨w28, hw28, hf⟩ := xb hf
              refine x_last S hw hw28 d_Mo_build_296 (fun H locs hw => ?_)
              refine lv_goto (tgt := 7) S.1 S.2.1 d_Mo_build_297 (by decide) ?_
              exact ih _ _ _ _ _ _ _ hw (lv_sub hl [1, 2, 3] rfl) hf
            · replace hf := xf c19 hf
              refine lv_aload_n S.1 S.2.1 d_Mo_build_149 rfl (lv_at hl 1 rfl) ?_
              refine lv_iload_n S.1 S.2.1 d_Mo_build_150 rfl (lv_at hl 3 rfl) ?_
              obtain ⟨w31, h29, hf⟩ := xb hf
              obtain ⟨h29b, h29⟩ := xkb h29
              refine x_callV (As := [.int x2]) (rest := []) (st1 := []) S hw (c_Mo_settle h29) (cwV 1 S.2.2.2.2 gv_Mo_318 rfl rfl rfl hd_Mo_settle ⟨Nat.le_of_ble_eq_true rfl, Nat.le_of_ble_eq_true rfl⟩) rfl h29b rfl hl.1 rfl rfl (Nat.le_of_ble_eq_true rfl) d_Mo_build_151 ⟨Nat.le_of_ble_eq_true rfl, Nat.le_of_ble_eq_true rfl⟩ (fun H locs hw => ?_)
              refine lv_sipush (v := 511) S.1 S.2.1 d_Mo_build_154 (by decide) ?_
              refine lv_istore (lv' := [(4, .int 511), (3, .int t13), (0, .ref a0), (1, .int x1), (2, .int x2)]) S.1 S.2.1 d_Mo_build_157 hl (by decide) rfl (fun ls hl => ?_)
              refine lv_iload_n S.1 S.2.1 d_Mo_build_159 rfl (lv_at hl 1 rfl) ?_
              refine lv_bipush (v := 91) S.1 S.2.1 d_Mo_build_160 (by decide) ?_
              refine lv_icmp_ne (tgt := 174) S.1 S.2.1 d_Mo_build_162 (by decide) (fun c32 => ?_) (fun c32 => ?_)
              · replace hf := xf c32 hf
                refine lv_iload_n S.1 S.2.1 d_Mo_build_174 rfl (lv_at hl 1 rfl) ?_
                refine lv_bipush (v := 46) S.1 S.2.1 d_Mo_build_175 (by decide) ?_
                refine lv_icmp_ne (tgt := 186) S.1 S.2.1 d_Mo_build_177 (by decide) (fun c33 => ?_) (fun c33 => ?_)
                · replace hf := xf c33 hf
                  refine lv_iconst (v := 1) S.1 S.2.1 d_Mo_build_186 (by decide) ?_
                  refine lv_iload_n S.1 S.2.1 d_Mo_build_187 rfl (lv_at hl 1 rfl) ?_
                  obtain ⟨t35, h34, hf⟩ := xb hf
                  refine x_callS (As := [.int t13]) (rest := [.int 1]) (st1 := [.int t35, .int 1]) S hw (c_Mo_letterOf h34) (cwS 1 S.2.2.2.2 gs_Mo_277 rfl rfl rfl hd_Mo_letterOf ⟨Nat.le_of_ble_eq_true rfl, Nat.le_of_ble_eq_true rfl⟩) rfl hl.1 rfl rfl (Nat.le_of_ble_eq_true rfl) d_Mo_build_188 ⟨Nat.le_of_ble_eq_true rfl, Nat.le_of_ble_eq_true rfl⟩ (fun H locs hw => ?_)
                  refine lv_ishl S.1 S.2.1 d_Mo_build_191 ?_
                  refine lv_istore (lv' := [(4, .int (1 <<< (t35 &&& 31))), (3, .int t13), (0, .ref a0), (1, .int x1), (2, .int x2)]) S.1 S.2.1 d_Mo_build_192 hl (by decide) rfl (fun ls hl => ?_)
                  refine lv_aload_n S.1 S.2.1 d_Mo_build_194 rfl (lv_at hl 2 rfl) ?_
                  refine lv_dup S.1 S.2.1 d_Mo_build_195 rfl ?_
                  obtain ⟨t36, ht36, hf⟩ := xb hf
                  refine x_geti S hw lk_Mo_247 ht36 d_Mo_build_196 ?_
                  refine lv_iconst (v := 1) S.1 S.2.1 d_Mo_build_199 (by decide) ?_
                  refine lv_iadd S.1 S.2.1 d_Mo_build_200 ?_
                  obtain ⟨w37, hw37, hf⟩ := xb hf
                  refine x_puti S hw lp_Mo_247 hw37 d_Mo_build_201 (fun H locs hw => ?_)
                  exact w_Mo_build_204 S hr hlocks ih _ _ _ _ _ _ _ _ hw (lv_sub hl [2, 3, 4, 0] rfl) hf
                · replace hf := xt c33 hf
                  refine lv_sipush (v := 511) S.1 S.2.1 d_Mo_build_180 (by decide) ?_
                  refine lv_goto (tgt := 192) S.1 S.2.1 d_Mo_build_183 (by decide) ?_
                  refine lv_istore (lv' := [(4, .int 511), (3, .int t13), (0, .ref a0), (1, .int x1), (2, .int x2)]) S.1 S.2.1 d_Mo_build_192 hl (by decide) rfl (fun ls hl => ?_)
                  refine lv_aload_n S.1 S.2.1 d_Mo_build_194 rfl (lv_at hl 2 rfl) ?_
                  refine lv_dup S.1 S.2.1 d_Mo_build_195 rfl ?_
                  obtain ⟨t38, ht38, hf⟩ := xb hf
                  refine x_geti S hw lk_Mo_247 ht38 d_Mo_build_196 ?_
                  refine lv_iconst (v := 1) S.1 S.2.1 d_Mo_build_199 (by decide) ?_
                  refine lv_iadd S.1 S.2.1 d_Mo_build_200 ?_
                  obtain ⟨w39, hw39, hf⟩ := xb hf
                  refine x_puti S hw lp_Mo_247 hw39 d_Mo_build_201 (fun H locs hw => ?_)
                  exact w_Mo_build_204 S hr hlocks ih _ _ _ _ _ _ _ _ hw (lv_sub hl [2, 3, 4, 0] rfl) hf
              · replace hf := xt c32 hf
                refine lv_aload_n S.1 S.2.1 d_Mo_build_165 rfl (lv_at hl 2 rfl) ?_
                obtain ⟨t41, w42, h40, hf⟩ := xcb hf
                obtain ⟨h40b, h40⟩ := xkb h40
                refine x_callV (As := []) (rest := []) (st1 := [.int t41]) S hw (c_Mo_set0 h40) (cwV 0 S.2.2.2.2 gv_Mo_286 rfl rfl rfl hd_Mo_set0 ⟨Nat.le_of_ble_eq_true rfl, Nat.le_of_ble_eq_true rfl⟩) rfl h40b rfl hl.1 rfl rfl (Nat.le_of_ble_eq_true rfl) d_Mo_build_166 ⟨Nat.le_of_ble_eq_true rfl, Nat.le_of_ble_eq_true rfl⟩ (fun H locs hw => ?_)
                refine lv_istore (lv' := [(4, .int t41), (3, .int t13), (0, .ref a0), (1, .int x1), (2, .int x2)]) S.1 S.2.1 d_Mo_build_169 hl (by decide) rfl (fun ls hl => ?_)
                refine lv_goto (tgt := 204) S.1 S.2.1 d_Mo_build_171 (by decide) ?_
                exact w_Mo_build_204 S hr hlocks ih _ _ _ _ _ _ _ _ hw (lv_sub hl [2, 3, 4, 0] rfl) hf
          · replace hf := xt c16 hf
            refine lv_aload_n S.1 S.2.1 d_Mo_build_124 rfl (lv_at hl 1 rfl) ?_
            refine lv_dup S.1 S.2.1 d_Mo_build_125 rfl ?_
            obtain ⟨t43, ht43, hf⟩ := xb hf
            refine x_geti S hw lk_Mo_247 ht43 d_Mo_build_126 ?_
            refine lv_iconst (v := 1) S.1 S.2.1 d_Mo_build_129 (by decide) ?_
            refine lv_iadd S.1 S.2.1 d_Mo_build_130 ?_
            obtain ⟨w44, hw44, hf⟩ := xb hf
            refine x_puti S hw lp_Mo_247 hw44 d_Mo_build_131 (fun H locs hw => ?_)
            refine lv_aload_n S.1 S.2.1 d_Mo_build_134 rfl (lv_at hl 1 rfl) ?_
            refine lv_iload_n S.1 S.2.1 d_Mo_build_135 rfl (lv_at hl 3 rfl) ?_
            obtain ⟨w47, h45, hf⟩ := xb hf
            obtain ⟨h45b, h45⟩ := xkb h45
            refine x_callV (As := [.int x2]) (rest := []) (st1 := []) S hw (c_Mo_finish h45) (cwV 1 S.2.2.2.2 gv_Mo_323 rfl rfl rfl hd_Mo_finish ⟨Nat.le_of_ble_eq_true rfl, Nat.le_of_ble_eq_true rfl⟩) rfl h45b rfl hl.1 rfl rfl (Nat.le_of_ble_eq_true rfl) d_Mo_build_136 ⟨Nat.le_of_ble_eq_true rfl, Nat.le_of_ble_eq_true rfl⟩ (fun H locs hw => ?_)
            refine lv_goto (tgt := 297) S.1 S.2.1 d_Mo_build_139 (by decide) ?_
            refine lv_goto (tgt := 7) S.1 S.2.1 d_Mo_build_297 (by decide) ?_
            exact ih _ _ _ _ _ _ _ hw (lv_sub hl [1, 2, 3] rfl) hf
        · replace hf := xt c15 hf
          refine lv_aload_n S.1 S.2.1 d_Mo_build_62 rfl (lv_at hl 1 rfl) ?_
          refine lv_dup S.1 S.2.1 d_Mo_build_63 rfl ?_
          obtain ⟨t48, ht48, hf⟩ := xb hf
          refine x_geti S hw lk_Mo_247 ht48 d_Mo_build_64 ?_
          refine lv_iconst (v := 1) S.1 S.2.1 d_Mo_build_67 (by decide) ?_
          refine lv_iadd S.1 S.2.1 d_Mo_build_68 ?_
          obtain ⟨w49, hw49, hf⟩ := xb hf
          refine x_puti S hw lp_Mo_247 hw49 d_Mo_build_69 (fun H locs hw => ?_)
          refine lv_aload_n S.1 S.2.1 d_Mo_build_72 rfl (lv_at hl 1 rfl) ?_
          refine lv_iload_n S.1 S.2.1 d_Mo_build_73 rfl (lv_at hl 3 rfl) ?_
          obtain ⟨w52, h50, hf⟩ := xb hf
          obtain ⟨h50b, h50⟩ := xkb h50
          refine x_callV (As := [.int x2]) (rest := []) (st1 := []) S hw (c_Mo_finish h50) (cwV 1 S.2.2.2.2 gv_Mo_323 rfl rfl rfl hd_Mo_finish ⟨Nat.le_of_ble_eq_true rfl, Nat.le_of_ble_eq_true rfl⟩) rfl h50b rfl hl.1 rfl rfl (Nat.le_of_ble_eq_true rfl) d_Mo_build_74 ⟨Nat.le_of_ble_eq_true rfl, Nat.le_of_ble_eq_true rfl⟩ (fun H locs hw => ?_)
          refine lv_iinc (v := (x2 + (-1))) (lv' := [(2, .int (x2 + (-1))), (3, .int t13), (0, .ref a0), (1, .int x1)]) S.1 S.2.1 d_Mo_build_77 hl (k := 3) rfl rfl (by decide) rfl (fun ls hl => ?_)
          refine lv_aload_n S.1 S.2.1 d_Mo_build_80 rfl (lv_at hl 2 rfl) ?_
          obtain ⟨t53, ht53, hf⟩ := xb hf
          refine x_getr S hw lk_Mo_114 ht53 d_Mo_build_81 ?_
          refine lv_iload_n S.1 S.2.1 d_Mo_build_84 rfl (lv_at hl 0 rfl) ?_
          refine lv_aload_n S.1 S.2.1 d_Mo_build_85 rfl (lv_at hl 2 rfl) ?_
          obtain ⟨t54, ht54, hf⟩ := xb hf
          refine x_getr S hw lk_Mo_107 ht54 d_Mo_build_86 ?_
          refine lv_iload_n S.1 S.2.1 d_Mo_build_89 rfl (lv_at hl 0 rfl) ?_
          refine lv_iconst (v := 1) S.1 S.2.1 d_Mo_build_90 (by decide) ?_
          refine lv_iadd S.1 S.2.1 d_Mo_build_91 ?_
          obtain ⟨t55, ht55, hf⟩ := xb hf
          refine x_lald S hw ht55 d_Mo_build_92 ?_
          obtain ⟨w56, hw56, hf⟩ := xb hf
          refine x_last S hw hw56 d_Mo_build_93 (fun H locs hw => ?_)
          refine lv_aload_n S.1 S.2.1 d_Mo_build_94 rfl (lv_at hl 2 rfl) ?_
          obtain ⟨t57, ht57, hf⟩ := xb hf
          refine x_getr S hw lk_Mo_123 ht57 d_Mo_build_95 ?_
          refine lv_iload_n S.1 S.2.1 d_Mo_build_98 rfl (lv_at hl 0 rfl) ?_
          refine lv_aload_n S.1 S.2.1 d_Mo_build_99 rfl (lv_at hl 2 rfl) ?_
          obtain ⟨t58, ht58, hf⟩ := xb hf
          refine x_getr S hw lk_Mo_126 ht58 d_Mo_build_100 ?_
          refine lv_iload_n S.1 S.2.1 d_Mo_build_103 rfl (lv_at hl 0 rfl) ?_
          refine lv_iconst (v := 1) S.1 S.2.1 d_Mo_build_104 (by decide) ?_
          refine lv_iadd S.1 S.2.1 d_Mo_build_105 ?_
          obtain ⟨t59, ht59, hf⟩ := xb hf
          refine x_iald S hw ht59 d_Mo_build_106 ?_
          obtain ⟨w60, hw60, hf⟩ := xb hf
          refine x_iast S hw hw60 d_Mo_build_107 (fun H locs hw => ?_)
          refine lv_aload_n S.1 S.2.1 d_Mo_build_108 rfl (lv_at hl 2 rfl) ?_
          obtain ⟨t61, ht61, hf⟩ := xb hf
          refine x_getr S hw lk_Mo_104 ht61 d_Mo_build_109 ?_
          refine lv_iload_n S.1 S.2.1 d_Mo_build_112 rfl (lv_at hl 0 rfl) ?_
          refine lv_iconst (v := 1) S.1 S.2.1 d_Mo_build_113 (by decide) ?_
          obtain ⟨w62, hw62, hf⟩ := xb hf
          refine x_zast S hw hw62 d_Mo_build_114 (fun H locs hw => ?_)
          refine lv_goto (tgt := 297) S.1 S.2.1 d_Mo_build_115 (by decide) ?_
          refine lv_goto (tgt := 7) S.1 S.2.1 d_Mo_build_297 (by decide) ?_
          exact ih _ _ _ _ _ _ _ hw (lv_sub hl [2, 3, 0] rfl) hf
      · replace hf := xt c14 hf
        refine lv_aload_n S.1 S.2.1 d_Mo_build_30 rfl (lv_at hl 1 rfl) ?_
        refine lv_dup S.1 S.2.1 d_Mo_build_31 rfl ?_
        obtain ⟨t63, ht63, hf⟩ := xb hf
        refine x_geti S hw lk_Mo_247 ht63 d_Mo_build_32 ?_
        refine lv_iconst (v := 1) S.1 S.2.1 d_Mo_build_35 (by decide) ?_
        refine lv_iadd S.1 S.2.1 d_Mo_build_36 ?_
        obtain ⟨w64, hw64, hf⟩ := xb hf
        refine x_puti S hw lp_Mo_247 hw64 d_Mo_build_37 (fun H locs hw => ?_)
        refine lv_aload_n S.1 S.2.1 d_Mo_build_40 rfl (lv_at hl 1 rfl) ?_
        refine lv_iload_n S.1 S.2.1 d_Mo_build_41 rfl (lv_at hl 3 rfl) ?_
        obtain ⟨w67, h65, hf⟩ := xb hf
        obtain ⟨h65b, h65⟩ := xkb h65
        refine x_callV (As := [.int x2]) (rest := []) (st1 := []) S hw (c_Mo_settle h65) (cwV 1 S.2.2.2.2 gv_Mo_318 rfl rfl rfl hd_Mo_settle ⟨Nat.le_of_ble_eq_true rfl, Nat.le_of_ble_eq_true rfl⟩) rfl h65b rfl hl.1 rfl rfl (Nat.le_of_ble_eq_true rfl) d_Mo_build_42 ⟨Nat.le_of_ble_eq_true rfl, Nat.le_of_ble_eq_true rfl⟩ (fun H locs hw => ?_)
        refine lv_iinc (v := (x2 + 1)) (lv' := [(2, .int (x2 + 1)), (3, .int t13), (0, .ref a0), (1, .int x1)]) S.1 S.2.1 d_Mo_build_45 hl (k := 3) rfl rfl (by decide) rfl (fun ls hl => ?_)
        refine lv_aload_n S.1 S.2.1 d_Mo_build_48 rfl (lv_at hl 2 rfl) ?_
        refine lv_iload_n S.1 S.2.1 d_Mo_build_49 rfl (lv_at hl 0 rfl) ?_
        obtain ⟨w70, h68, hf⟩ := xb hf
        obtain ⟨h68b, h68⟩ := xkb h68
        refine x_callV (As := [.int (x2 + 1)]) (rest := []) (st1 := []) S hw (c_Mo_begin h68) (cwV 1 S.2.2.2.2 gv_Mo_321 rfl rfl rfl hd_Mo_begin ⟨Nat.le_of_ble_eq_true rfl, Nat.le_of_ble_eq_true rfl⟩) rfl h68b rfl hl.1 rfl rfl (Nat.le_of_ble_eq_true rfl) d_Mo_build_50 ⟨Nat.le_of_ble_eq_true rfl, Nat.le_of_ble_eq_true rfl⟩ (fun H locs hw => ?_)
        refine lv_goto (tgt := 297) S.1 S.2.1 d_Mo_build_53 (by decide) ?_
        refine lv_goto (tgt := 7) S.1 S.2.1 d_Mo_build_297 (by decide) ?_
        exact ih _ _ _ _ _ _ _ hw (lv_sub hl [2, 3, 0] rfl) hf
def f_Mo_build (a0 : Nat) (x1 : Int32) (ω : xS) : Option (Int64 × xS) :=
  (xk ω a0 12 (f_Mo_begin a0 0 ω)).bind fun w3 =>
  f_Mo_build_7  xFU a0 x1 0 w3
set_option maxHeartbeats 4000000 in
set_option maxRecDepth 100000 in
theorem c_Mo_build {l : Launch} {E : xV} {z : Nat} {a0 : Nat} {x1 : Int32} {r : Int64} {ω1 : xS} {ω : xS} (hf : f_Mo_build a0 x1 ω = some (r, ω1)) : xM l E y_Mo_build ws_Mo_build { frames := 4, cells := 0, slots := 0, locals := 93 } [.ref a0, .int x1] z ω (some (.long r)) z ω1 := by
  refine x_start (cc := b_Mo_build) (maxL := 5) (ret := (some .long)) (by decide) rfl (Nat.le_of_ble_eq_true rfl) ?_
  intro p e s m below meth c S hr hlocks hin ls hl hw
  have hl : lv_has ls 5 [(0, .ref a0), (1, .int x1)] := hl
  unfold f_Mo_build at hf
  refine lv_iconst (v := 0) S.1 S.2.1 d_Mo_build_0 (by decide) ?_
  refine lv_istore_n (lv' := [(2, .int 0), (0, .ref a0), (1, .int x1)]) S.1 S.2.1 d_Mo_build_1 rfl hl (by decide) rfl (fun ls hl => ?_)
  refine lv_aload_n S.1 S.2.1 d_Mo_build_2 rfl (lv_at hl 1 rfl) ?_
  refine lv_iconst (v := 0) S.1 S.2.1 d_Mo_build_3 (by decide) ?_
  obtain ⟨w3, h1, hf⟩ := xb hf
  obtain ⟨h1b, h1⟩ := xkb h1
  refine x_callV (As := [.int 0]) (rest := []) (st1 := []) S hw (c_Mo_begin h1) (cwV 1 S.2.2.2.2 gv_Mo_321 rfl rfl rfl hd_Mo_begin ⟨Nat.le_of_ble_eq_true rfl, Nat.le_of_ble_eq_true rfl⟩) rfl h1b rfl hl.1 rfl rfl (Nat.le_of_ble_eq_true rfl) d_Mo_build_4 ⟨Nat.le_of_ble_eq_true rfl, Nat.le_of_ble_eq_true rfl⟩ (fun H locs hw => ?_)
  exact w_Mo_build_7 S hr hlocks  _ _ _ _ _ _ _ _ hw (lv_sub hl [1, 2, 0] rfl) hf
def f_Mo_lead_56 : Nat → Nat → Int32 → Int32 → Int32 → Int32 → Int32 → xS → Option Int32
  | 0, _, _, _, _, _, _, _ => none
  | n + 1, a0, x1, x3, x4, x5, x6, ω =>
    (xgr ω a0 12 25).bind fun t5 =>
    (xai ω t5 x1).bind fun t6 =>
    if t6 ≤ x6 then (
      some x5)
    else (
      if ((x4 >>> (x6 &&& 31)) &&& 1) = 1 then (
        (xgr ω a0 12 21).bind fun t9 =>
        (xai ω t9 ((10 * x1) + x6)).bind fun t10 =>
        if ((t10 >>> (x3 &&& 31)) &&& 1) = 1 then (
          f_Mo_lead_56  n a0 x1 x3 x4 (x5 ||| (1 <<< (x6 &&& 31))) (x6 + 1) ω)
        else (
          f_Mo_lead_56  n a0 x1 x3 x4 (x5 ||| 0) (x6 + 1) ω))
      else (
        f_Mo_lead_56  n a0 x1 x3 x4 (x5 ||| 0) (x6 + 1) ω))
set_option maxHeartbeats 4000000 in
set_option maxRecDepth 100000 in
theorem w_Mo_lead_56 {p : Program} {l : Launch} {e : Env} {s : State} {m : MethodId} {args : Array Value} {below : List Frame} {meth : Method} {c : Code} {E : xV} {z : Nat} {r : Int32} {ω : xS} (S : CallFix p m c b_Mo_lead 7 s args xTbl "RosterRulesModel") (hr : meth.sig.returnType = (some .int)) (hlocks : meth.locks = false) : ∀ n : Nat, ∀ (a0 : Nat) (x1 : Int32) (x3 : Int32) (x4 : Int32) (x5 : Int32) (x6 : Int32) (H : Heap) (locs : List Loc) (ls : Array Slot), xW E z ω s s.heap H locs → lv_has ls 7 [(0, .ref a0), (1, .int x1), (3, .int x3), (4, .int x4), (5, .int x5), (6, .int x6)] → f_Mo_lead_56 n a0 x1 x3 x4 x5 x6 ω = some r → W p l e (headSpec ws_Mo_lead { frames := 0, cells := 0, slots := 0, locals := 0 }).room s m args below meth c H locs 0 0 (MQ below (xQ E (some (.int r)) z ω) args s 0 0 (fun q => E.2.2 ≤ q)) (F0 m 56 ls []) := by
  intro n
  induction n with
  | zero =>
    intro a0 x1 x3 x4 x5 x6 H locs ls hw hl hf
    have h2 : (none : Option Int32) = some r := hf
    cases h2
  | succ n ih =>
    intro a0 x1 x3 x4 x5 x6 H locs ls hw hl hf
    rw [f_Mo_lead_56] at hf
    refine lv_iload S.1 S.2.1 d_Mo_lead_56 (lv_at hl 5 rfl) ?_
    refine lv_aload_n S.1 S.2.1 d_Mo_lead_58 rfl (lv_at hl 0 rfl) ?_
    obtain ⟨t5, ht5, hf⟩ := xb hf
    refine x_getr S hw lk_Mo_76 ht5 d_Mo_lead_59 ?_
    refine lv_iload_n S.1 S.2.1 d_Mo_lead_62 rfl (lv_at hl 1 rfl) ?_
    obtain ⟨t6, ht6, hf⟩ := xb hf
    refine x_iald S hw ht6 d_Mo_lead_63 ?_
    refine lv_icmp_ge (tgt := 117) S.1 S.2.1 d_Mo_lead_64 (by decide) (fun c7 => ?_) (fun c7 => ?_)
    · replace hf := xt c7 hf
      refine lv_iload S.1 S.2.1 d_Mo_lead_117 (lv_at hl 4 rfl) ?_
      obtain rfl := xe1 hf
      exact x_iret S hr hlocks hw d_Mo_lead_119
    · replace hf := xf c7 hf
      refine lv_iload S.1 S.2.1 d_Mo_lead_67 (lv_at hl 4 rfl) ?_
      refine lv_iload S.1 S.2.1 d_Mo_lead_69 (lv_at hl 3 rfl) ?_
      refine lv_iload S.1 S.2.1 d_Mo_lead_71 (lv_at hl 5 rfl) ?_
      refine lv_ishr S.1 S.2.1 d_Mo_lead_73 ?_
      refine lv_iconst (v := 1) S.1 S.2.1 d_Mo_lead_74 (by decide) ?_
      refine lv_iand S.1 S.2.1 d_Mo_lead_75 ?_
      refine lv_iconst (v := 1) S.1 S.2.1 d_Mo_lead_76 (by decide) ?_
      refine lv_icmp_ne (tgt := 107) S.1 S.2.1 d_Mo_lead_77 (by decide) (fun c8 => ?_) (fun c8 => ?_)
      · replace hf := xf c8 hf
        refine lv_iconst (v := 0) S.1 S.2.1 d_Mo_lead_107 (by decide) ?_
        refine lv_ior S.1 S.2.1 d_Mo_lead_108 ?_
        refine lv_istore (lv' := [(5, .int (x5 ||| 0)), (0, .ref a0), (1, .int x1), (3, .int x3), (4, .int x4), (6, .int x6)]) S.1 S.2.1 d_Mo_lead_109 hl (by decide) rfl (fun ls hl => ?_)
        refine lv_iinc (v := (x6 + 1)) (lv' := [(6, .int (x6 + 1)), (5, .int (x5 ||| 0)), (0, .ref a0), (1, .int x1), (3, .int x3), (4, .int x4)]) S.1 S.2.1 d_Mo_lead_111 hl (k := 5) rfl rfl (by decide) rfl (fun ls hl => ?_)
        refine lv_goto (tgt := 56) S.1 S.2.1 d_Mo_lead_114 (by decide) ?_
        exact ih _ _ _ _ _ _ _ _ _ hw (lv_sub hl [2, 3, 4, 5, 1, 0] rfl) hf
      · replace hf := xt c8 hf
        refine lv_aload_n S.1 S.2.1 d_Mo_lead_80 rfl (lv_at hl 0 rfl) ?_
        obtain ⟨t9, ht9, hf⟩ := xb hf
        refine x_getr S hw lk_Mo_63 ht9 d_Mo_lead_81 ?_
        refine lv_bipush (v := 10) S.1 S.2.1 d_Mo_lead_84 (by decide) ?_
        refine lv_iload_n S.1 S.2.1 d_Mo_lead_86 rfl (lv_at hl 1 rfl) ?_
        refine lv_imul S.1 S.2.1 d_Mo_lead_87 ?_
        refine lv_iload S.1 S.2.1 d_Mo_lead_88 (lv_at hl 5 rfl) ?_
        refine lv_iadd S.1 S.2.1 d_Mo_lead_90 ?_
        obtain ⟨t10, ht10, hf⟩ := xb hf
        refine x_iald S hw ht10 d_Mo_lead_91 ?_
        refine lv_iload_n S.1 S.2.1 d_Mo_lead_92 rfl (lv_at hl 2 rfl) ?_
        refine lv_ishr S.1 S.2.1 d_Mo_lead_93 ?_
        refine lv_iconst (v := 1) S.1 S.2.1 d_Mo_lead_94 (by decide) ?_
        refine lv_iand S.1 S.2.1 d_Mo_lead_95 ?_
        refine lv_iconst (v := 1) S.1 S.2.1 d_Mo_lead_96 (by decide) ?_
        refine lv_icmp_ne (tgt := 107) S.1 S.2.1 d_Mo_lead_97 (by decide) (fun c11 => ?_) (fun c11 => ?_)
        · replace hf := xf c11 hf
          refine lv_iconst (v := 0) S.1 S.2.1 d_Mo_lead_107 (by decide) ?_
          refine lv_ior S.1 S.2.1 d_Mo_lead_108 ?_
          refine lv_istore (lv' := [(5, .int (x5 ||| 0)), (0, .ref a0), (1, .int x1), (3, .int x3), (4, .int x4), (6, .int x6)]) S.1 S.2.1 d_Mo_lead_109 hl (by decide) rfl (fun ls hl => ?_)
          refine lv_iinc (v := (x6 + 1)) (lv' := [(6, .int (x6 + 1)), (5, .int (x5 ||| 0)), (0, .ref a0), (1, .int x1), (3, .int x3), (4, .int x4)]) S.1 S.2.1 d_Mo_lead_111 hl (k := 5) rfl rfl (by decide) rfl (fun ls hl => ?_)
          refine lv_goto (tgt := 56) S.1 S.2.1 d_Mo_lead_114 (by decide) ?_
          exact ih _ _ _ _ _ _ _ _ _ hw (lv_sub hl [2, 3, 4, 5, 1, 0] rfl) hf
        · replace hf := xt c11 hf
          refine lv_iconst (v := 1) S.1 S.2.1 d_Mo_lead_100 (by decide) ?_
          refine lv_iload S.1 S.2.1 d_Mo_lead_101 (lv_at hl 5 rfl) ?_
          refine lv_ishl S.1 S.2.1 d_Mo_lead_103 ?_
          refine lv_goto (tgt := 108) S.1 S.2.1 d_Mo_lead_104 (by decide) ?_
          refine lv_ior S.1 S.2.1 d_Mo_lead_108 ?_
          refine lv_istore (lv' := [(5, .int (x5 ||| (1 <<< (x6 &&& 31)))), (0, .ref a0), (1, .int x1), (3, .int x3), (4, .int x4), (6, .int x6)]) S.1 S.2.1 d_Mo_lead_109 hl (by decide) rfl (fun ls hl => ?_)
          refine lv_iinc (v := (x6 + 1)) (lv' := [(6, .int (x6 + 1)), (5, .int (x5 ||| (1 <<< (x6 &&& 31)))), (0, .ref a0), (1, .int x1), (3, .int x3), (4, .int x4)]) S.1 S.2.1 d_Mo_lead_111 hl (k := 5) rfl rfl (by decide) rfl (fun ls hl => ?_)
          refine lv_goto (tgt := 56) S.1 S.2.1 d_Mo_lead_114 (by decide) ?_
          exact ih _ _ _ _ _ _ _ _ _ hw (lv_sub hl [2, 3, 4, 5, 1, 0] rfl) hf
def f_Mo_lead_6 : Nat → Nat → Int32 → Int32 → Int32 → Int32 → Int32 → xS → Option Int32
  | 0, _, _, _, _, _, _, _ => none
  | n + 1, a0, x1, x2, x3, x4, x5, ω =>
    if 11 ≤ x5 then (
      f_Mo_lead_56  xFU a0 x1 x3 x4 0 0 ω)
    else (
      if ((x2 >>> (x5 &&& 31)) &&& 1) = 1 then (
        (xgr ω a0 12 22).bind fun t3 =>
        (xai ω t3 ((11 * x1) + x5)).bind fun t4 =>
        f_Mo_lead_6  n a0 x1 x2 x3 (x4 ||| t4) (x5 + 1) ω)
      else (
        f_Mo_lead_6  n a0 x1 x2 x3 (x4 ||| 0) (x5 + 1) ω))
set_option maxHeartbeats 4000000 in
set_option maxRecDepth 100000 in
theorem w_Mo_lead_6 {p : Program} {l : Launch} {e : Env} {s : State} {m : MethodId} {args : Array Value} {below : List Frame} {meth : Method} {c : Code} {E : xV} {z : Nat} {r : Int32} {ω : xS} (S : CallFix p m c b_Mo_lead 7 s args xTbl "RosterRulesModel") (hr : meth.sig.returnType = (some .int)) (hlocks : meth.locks = false) : ∀ n : Nat, ∀ (a0 : Nat) (x1 : Int32) (x2 : Int32) (x3 : Int32) (x4 : Int32) (x5 : Int32) (H : Heap) (locs : List Loc) (ls : Array Slot), xW E z ω s s.heap H locs → lv_has ls 7 [(0, .ref a0), (1, .int x1), (2, .int x2), (3, .int x3), (4, .int x4), (5, .int x5)] → f_Mo_lead_6 n a0 x1 x2 x3 x4 x5 ω = some r → W p l e (headSpec ws_Mo_lead { frames := 0, cells := 0, slots := 0, locals := 0 }).room s m args below meth c H locs 0 0 (MQ below (xQ E (some (.int r)) z ω) args s 0 0 (fun q => E.2.2 ≤ q)) (F0 m 6 ls []) := by
  intro n
  induction n with
  | zero =>
    intro a0 x1 x2 x3 x4 x5 H locs ls hw hl hf
    have h2 : (none : Option Int32) = some r := hf
    cases h2
  | succ n ih =>
    intro a0 x1 x2 x3 x4 x5 H locs ls hw hl hf
    rw [f_Mo_lead_6] at hf
    refine lv_iload S.1 S.2.1 d_Mo_lead_6 (lv_at hl 5 rfl) ?_
    refine lv_bipush (v := 11) S.1 S.2.1 d_Mo_lead_8 (by decide) ?_
    refine lv_icmp_ge (tgt := 50) S.1 S.2.1 d_Mo_lead_10 (by decide) (fun c1 => ?_) (fun c1 => ?_)
    · replace hf := xt c1 hf
      refine lv_iconst (v := 0) S.1 S.2.1 d_Mo_lead_50 (by decide) ?_
      refine lv_istore (lv' := [(5, .int 0), (0, .ref a0), (1, .int x1), (2, .int x2), (3, .int x3), (4, .int x4)]) S.1 S.2.1 d_Mo_lead_51 hl (by decide) rfl (fun ls hl => ?_)
      refine lv_iconst (v := 0) S.1 S.2.1 d_Mo_lead_53 (by decide) ?_
      refine lv_istore (lv' := [(6, .int 0), (5, .int 0), (0, .ref a0), (1, .int x1), (2, .int x2), (3, .int x3), (4, .int x4)]) S.1 S.2.1 d_Mo_lead_54 hl (by decide) rfl (fun ls hl => ?_)
      exact w_Mo_lead_56 S hr hlocks  _ _ _ _ _ _ _ _ _ _ hw (lv_sub hl [2, 3, 5, 6, 1, 0] rfl) hf
    · replace hf := xf c1 hf
      refine lv_iload S.1 S.2.1 d_Mo_lead_13 (lv_at hl 4 rfl) ?_
      refine lv_iload_n S.1 S.2.1 d_Mo_lead_15 rfl (lv_at hl 2 rfl) ?_
      refine lv_iload S.1 S.2.1 d_Mo_lead_16 (lv_at hl 5 rfl) ?_
      refine lv_ishr S.1 S.2.1 d_Mo_lead_18 ?_
      refine lv_iconst (v := 1) S.1 S.2.1 d_Mo_lead_19 (by decide) ?_
      refine lv_iand S.1 S.2.1 d_Mo_lead_20 ?_
      refine lv_iconst (v := 1) S.1 S.2.1 d_Mo_lead_21 (by decide) ?_
      refine lv_icmp_ne (tgt := 40) S.1 S.2.1 d_Mo_lead_22 (by decide) (fun c2 => ?_) (fun c2 => ?_)
      · replace hf := xf c2 hf
        refine lv_iconst (v := 0) S.1 S.2.1 d_Mo_lead_40 (by decide) ?_
        refine lv_ior S.1 S.2.1 d_Mo_lead_41 ?_
        refine lv_istore (lv' := [(4, .int (x4 ||| 0)), (0, .ref a0), (1, .int x1), (2, .int x2), (3, .int x3), (5, .int x5)]) S.1 S.2.1 d_Mo_lead_42 hl (by decide) rfl (fun ls hl => ?_)
        refine lv_iinc (v := (x5 + 1)) (lv' := [(5, .int (x5 + 1)), (4, .int (x4 ||| 0)), (0, .ref a0), (1, .int x1), (2, .int x2), (3, .int x3)]) S.1 S.2.1 d_Mo_lead_44 hl (k := 5) rfl rfl (by decide) rfl (fun ls hl => ?_)
        refine lv_goto (tgt := 6) S.1 S.2.1 d_Mo_lead_47 (by decide) ?_
        exact ih _ _ _ _ _ _ _ _ _ hw (lv_sub hl [2, 3, 4, 5, 1, 0] rfl) hf
      · replace hf := xt c2 hf
        refine lv_aload_n S.1 S.2.1 d_Mo_lead_25 rfl (lv_at hl 0 rfl) ?_
        obtain ⟨t3, ht3, hf⟩ := xb hf
        refine x_getr S hw lk_Mo_66 ht3 d_Mo_lead_26 ?_
        refine lv_bipush (v := 11) S.1 S.2.1 d_Mo_lead_29 (by decide) ?_
        refine lv_iload_n S.1 S.2.1 d_Mo_lead_31 rfl (lv_at hl 1 rfl) ?_
        refine lv_imul S.1 S.2.1 d_Mo_lead_32 ?_
        refine lv_iload S.1 S.2.1 d_Mo_lead_33 (lv_at hl 5 rfl) ?_
        refine lv_iadd S.1 S.2.1 d_Mo_lead_35 ?_
        obtain ⟨t4, ht4, hf⟩ := xb hf
        refine x_iald S hw ht4 d_Mo_lead_36 ?_
        refine lv_goto (tgt := 41) S.1 S.2.1 d_Mo_lead_37 (by decide) ?_
        refine lv_ior S.1 S.2.1 d_Mo_lead_41 ?_
        refine lv_istore (lv' := [(4, .int (x4 ||| t4)), (0, .ref a0), (1, .int x1), (2, .int x2), (3, .int x3), (5, .int x5)]) S.1 S.2.1 d_Mo_lead_42 hl (by decide) rfl (fun ls hl => ?_)
        refine lv_iinc (v := (x5 + 1)) (lv' := [(5, .int (x5 + 1)), (4, .int (x4 ||| t4)), (0, .ref a0), (1, .int x1), (2, .int x2), (3, .int x3)]) S.1 S.2.1 d_Mo_lead_44 hl (k := 5) rfl rfl (by decide) rfl (fun ls hl => ?_)
        refine lv_goto (tgt := 6) S.1 S.2.1 d_Mo_lead_47 (by decide) ?_
        exact ih _ _ _ _ _ _ _ _ _ hw (lv_sub hl [2, 3, 4, 5, 1, 0] rfl) hf
def f_Mo_lead (a0 : Nat) (x1 : Int32) (x2 : Int32) (x3 : Int32) (ω : xS) : Option Int32 :=
  f_Mo_lead_6  xFU a0 x1 x2 x3 0 0 ω
set_option maxHeartbeats 4000000 in
set_option maxRecDepth 100000 in
theorem c_Mo_lead {l : Launch} {E : xV} {z : Nat} {a0 : Nat} {x1 : Int32} {x2 : Int32} {x3 : Int32} {r : Int32} {ω : xS} (hf : f_Mo_lead a0 x1 x2 x3 ω = some r) : xM l E y_Mo_lead ws_Mo_lead { frames := 0, cells := 0, slots := 0, locals := 0 } [.ref a0, .int x1, .int x2, .int x3] z ω (some (.int r)) z ω := by
  refine x_start (cc := b_Mo_lead) (maxL := 7) (ret := (some .int)) (by decide) rfl (Nat.le_of_ble_eq_true rfl) ?_
  intro p e s m below meth c S hr hlocks hin ls hl hw
  have hl : lv_has ls 7 [(0, .ref a0), (1, .int x1), (2, .int x2), (3, .int x3)] := hl
  unfold f_Mo_lead at hf
  refine lv_iconst (v := 0) S.1 S.2.1 d_Mo_lead_0 (by decide) ?_
  refine lv_istore (lv' := [(4, .int 0), (0, .ref a0), (1, .int x1), (2, .int x2), (3, .int x3)]) S.1 S.2.1 d_Mo_lead_1 hl (by decide) rfl (fun ls hl => ?_)
  refine lv_iconst (v := 0) S.1 S.2.1 d_Mo_lead_3 (by decide) ?_
  refine lv_istore (lv' := [(5, .int 0), (4, .int 0), (0, .ref a0), (1, .int x1), (2, .int x2), (3, .int x3)]) S.1 S.2.1 d_Mo_lead_4 hl (by decide) rfl (fun ls hl => ?_)
  exact w_Mo_lead_6 S hr hlocks  _ _ _ _ _ _ _ _ _ _ hw (lv_sub hl [2, 3, 4, 5, 1, 0] rfl) hf
def f_Mo_idOf (a0 : Nat) (x1 : Int32) (ω : xS) : Option Int32 :=
  (xgr ω a0 12 57).bind fun t1 =>
  if x1 = 1024 then (
    (xai ω t1 1024).bind fun t4 =>
    some t4)
  else (
    (xai ω t1 x1).bind fun t3 =>
    some t3)
set_option maxHeartbeats 4000000 in
set_option maxRecDepth 100000 in
theorem c_Mo_idOf {l : Launch} {E : xV} {z : Nat} {a0 : Nat} {x1 : Int32} {r : Int32} {ω : xS} (hf : f_Mo_idOf a0 x1 ω = some r) : xM l E y_Mo_idOf ws_Mo_idOf { frames := 0, cells := 0, slots := 0, locals := 0 } [.ref a0, .int x1] z ω (some (.int r)) z ω := by
  refine x_start (cc := b_Mo_idOf) (maxL := 2) (ret := (some .int)) (by decide) rfl (Nat.le_of_ble_eq_true rfl) ?_
  intro p e s m below meth c S hr hlocks hin ls hl hw
  have hl : lv_has ls 2 [(0, .ref a0), (1, .int x1)] := hl
  unfold f_Mo_idOf at hf
  refine lv_aload_n S.1 S.2.1 d_Mo_idOf_0 rfl (lv_at hl 0 rfl) ?_
  obtain ⟨t1, ht1, hf⟩ := xb hf
  refine x_getr S hw lk_Mo_132 ht1 d_Mo_idOf_1 ?_
  refine lv_iload_n S.1 S.2.1 d_Mo_idOf_4 rfl (lv_at hl 1 rfl) ?_
  refine lv_sipush (v := 1024) S.1 S.2.1 d_Mo_idOf_5 (by decide) ?_
  refine lv_icmp_ne (tgt := 17) S.1 S.2.1 d_Mo_idOf_8 (by decide) (fun c2 => ?_) (fun c2 => ?_)
  · replace hf := xf c2 hf
    refine lv_iload_n S.1 S.2.1 d_Mo_idOf_17 rfl (lv_at hl 1 rfl) ?_
    obtain ⟨t3, ht3, hf⟩ := xb hf
    refine x_iald S hw ht3 d_Mo_idOf_18 ?_
    obtain rfl := xe1 hf
    exact x_iret S hr hlocks hw d_Mo_idOf_19
  · replace hf := xt c2 hf
    refine lv_sipush (v := 1024) S.1 S.2.1 d_Mo_idOf_11 (by decide) ?_
    refine lv_goto (tgt := 18) S.1 S.2.1 d_Mo_idOf_14 (by decide) ?_
    obtain ⟨t4, ht4, hf⟩ := xb hf
    refine x_iald S hw ht4 d_Mo_idOf_18 ?_
    obtain rfl := xe1 hf
    exact x_iret S hr hlocks hw d_Mo_idOf_19
def f_Mo_isEnd (a0 : Nat) (x1 : Int32) (x2 : Int32) (ω : xS) : Option Int32 :=
  (xgr ω a0 12 23).bind fun t1 =>
  (xai ω t1 x1).bind fun t2 =>
  if (x2 &&& t2) = 0 then (
    if x2 = 1024 then (
      (xgr ω a0 12 24).bind fun t5 =>
      (xaz ω t5 x1).bind fun t6 =>
      if t6 = 0 then (
        some 0)
      else (
        some 1))
    else (
      some 0))
  else (
    some 1)
set_option maxHeartbeats 4000000 in
set_option maxRecDepth 100000 in
theorem c_Mo_isEnd {l : Launch} {E : xV} {z : Nat} {a0 : Nat} {x1 : Int32} {x2 : Int32} {r : Int32} {ω : xS} (hf : f_Mo_isEnd a0 x1 x2 ω = some r) : xM l E y_Mo_isEnd ws_Mo_isEnd { frames := 0, cells := 0, slots := 0, locals := 0 } [.ref a0, .int x1, .int x2] z ω (some (.int r)) z ω := by
  refine x_start (cc := b_Mo_isEnd) (maxL := 3) (ret := (some .boolean)) (by decide) rfl (Nat.le_of_ble_eq_true rfl) ?_
  intro p e s m below meth c S hr hlocks hin ls hl hw
  have hl : lv_has ls 3 [(0, .ref a0), (1, .int x1), (2, .int x2)] := hl
  unfold f_Mo_isEnd at hf
  refine lv_iload_n S.1 S.2.1 d_Mo_isEnd_0 rfl (lv_at hl 2 rfl) ?_
  refine lv_aload_n S.1 S.2.1 d_Mo_isEnd_1 rfl (lv_at hl 0 rfl) ?_
  obtain ⟨t1, ht1, hf⟩ := xb hf
  refine x_getr S hw lk_Mo_69 ht1 d_Mo_isEnd_2 ?_
  refine lv_iload_n S.1 S.2.1 d_Mo_isEnd_5 rfl (lv_at hl 1 rfl) ?_
  obtain ⟨t2, ht2, hf⟩ := xb hf
  refine x_iald S hw ht2 d_Mo_isEnd_6 ?_
  refine lv_iand S.1 S.2.1 d_Mo_isEnd_7 ?_
  refine lv_if_ne (tgt := 27) S.1 S.2.1 d_Mo_isEnd_8 (by decide) (fun c3 => ?_) (fun c3 => ?_)
  · replace hf := xf c3 hf
    refine lv_iconst (v := 1) S.1 S.2.1 d_Mo_isEnd_27 (by decide) ?_
    refine lv_goto (tgt := 32) S.1 S.2.1 d_Mo_isEnd_28 (by decide) ?_
    obtain rfl := xe1 hf
    exact x_zret S hr hlocks hw (by decide) d_Mo_isEnd_32
  · replace hf := xt c3 hf
    refine lv_iload_n S.1 S.2.1 d_Mo_isEnd_11 rfl (lv_at hl 2 rfl) ?_
    refine lv_sipush (v := 1024) S.1 S.2.1 d_Mo_isEnd_12 (by decide) ?_
    refine lv_icmp_ne (tgt := 31) S.1 S.2.1 d_Mo_isEnd_15 (by decide) (fun c4 => ?_) (fun c4 => ?_)
    · replace hf := xf c4 hf
      refine lv_iconst (v := 0) S.1 S.2.1 d_Mo_isEnd_31 (by decide) ?_
      obtain rfl := xe1 hf
      exact x_zret S hr hlocks hw (by decide) d_Mo_isEnd_32
    · replace hf := xt c4 hf
      refine lv_aload_n S.1 S.2.1 d_Mo_isEnd_18 rfl (lv_at hl 0 rfl) ?_
      obtain ⟨t5, ht5, hf⟩ := xb hf
      refine x_getr S hw lk_Mo_72 ht5 d_Mo_isEnd_19 ?_
      refine lv_iload_n S.1 S.2.1 d_Mo_isEnd_22 rfl (lv_at hl 1 rfl) ?_
      obtain ⟨t6, ht6, hf⟩ := xb hf
      refine x_zald S hw ht6 d_Mo_isEnd_23 ?_
      refine lv_if_eq (tgt := 31) S.1 S.2.1 d_Mo_isEnd_24 (by decide) (fun c7 => ?_) (fun c7 => ?_)
      · replace hf := xt c7 hf
        refine lv_iconst (v := 0) S.1 S.2.1 d_Mo_isEnd_31 (by decide) ?_
        obtain rfl := xe1 hf
        exact x_zret S hr hlocks hw (by decide) d_Mo_isEnd_32
      · replace hf := xf c7 hf
        refine lv_iconst (v := 1) S.1 S.2.1 d_Mo_isEnd_27 (by decide) ?_
        refine lv_goto (tgt := 32) S.1 S.2.1 d_Mo_isEnd_28 (by decide) ?_
        obtain rfl := xe1 hf
        exact x_zret S hr hlocks hw (by decide) d_Mo_isEnd_32
def f_Mo_goesAlike_24 : Nat → Nat → Int32 → Int32 → Int32 → Int32 → xS → Option Int32
  | 0, _, _, _, _, _, _ => none
  | n + 1, a0, x1, x2, x3, x4, ω =>
    if 9 ≤ x4 then (
      if x3 = 0 ∨ x3 = 1 then (some x3) else none)
    else (
      if x3 = 0 then (
        if x3 = 0 ∨ x3 = 1 then (some x3) else none)
      else (
        (xgr ω a0 12 59).bind fun t8 =>
        (xgr ω a0 12 58).bind fun t9 =>
        (xai ω t9 ((9 * x1) + x4)).bind fun t10 =>
        (xai ω t8 t10).bind fun t11 =>
        (xgr ω a0 12 59).bind fun t12 =>
        (xgr ω a0 12 58).bind fun t13 =>
        (xai ω t13 ((9 * x2) + x4)).bind fun t14 =>
        (xai ω t12 t14).bind fun t15 =>
        if t11 = t15 then (
          f_Mo_goesAlike_24  n a0 x1 x2 1 (x4 + 1) ω)
        else (
          f_Mo_goesAlike_24  n a0 x1 x2 0 (x4 + 1) ω)))
set_option maxHeartbeats 4000000 in
set_option maxRecDepth 100000 in
theorem w_Mo_goesAlike_24 {p : Program} {l : Launch} {e : Env} {s : State} {m : MethodId} {args : Array Value} {below : List Frame} {meth : Method} {c : Code} {E : xV} {z : Nat} {r : Int32} {ω : xS} (S : CallFix p m c b_Mo_goesAlike 5 s args xTbl "RosterRulesModel") (hr : meth.sig.returnType = (some .boolean)) (hlocks : meth.locks = false) : ∀ n : Nat, ∀ (a0 : Nat) (x1 : Int32) (x2 : Int32) (x3 : Int32) (x4 : Int32) (H : Heap) (locs : List Loc) (ls : Array Slot), xW E z ω s s.heap H locs → lv_has ls 5 [(0, .ref a0), (1, .int x1), (2, .int x2), (3, .int x3), (4, .int x4)] → f_Mo_goesAlike_24 n a0 x1 x2 x3 x4 ω = some r → W p l e (headSpec ws_Mo_goesAlike { frames := 0, cells := 0, slots := 0, locals := 0 }).room s m args below meth c H locs 0 0 (MQ below (xQ E (some (.int r)) z ω) args s 0 0 (fun q => E.2.2 ≤ q)) (F0 m 24 ls []) := by
  intro n
  induction n with
  | zero =>
    intro a0 x1 x2 x3 x4 H locs ls hw hl hf
    have h2 : (none : Option Int32) = some r := hf
    cases h2
  | succ n ih =>
    intro a0 x1 x2 x3 x4 H locs ls hw hl hf
    rw [f_Mo_goesAlike_24] at hf
    refine lv_iload S.1 S.2.1 d_Mo_goesAlike_24 (lv_at hl 4 rfl) ?_
    refine lv_bipush (v := 9) S.1 S.2.1 d_Mo_goesAlike_26 (by decide) ?_
    refine lv_icmp_ge (tgt := 84) S.1 S.2.1 d_Mo_goesAlike_28 (by decide) (fun c6 => ?_) (fun c6 => ?_)
    · replace hf := xt c6 hf
      refine lv_iload_n S.1 S.2.1 d_Mo_goesAlike_84 rfl (lv_at hl 3 rfl) ?_
      by_cases cz : x3 = 0 ∨ x3 = 1
      · replace hf := xt cz hf
        obtain rfl := xe1 hf
        exact x_zret S hr hlocks hw (by rcases cz with c | c <;> rw [c] <;> decide) d_Mo_goesAlike_85
      · replace hf := xf cz hf
        cases hf
    · replace hf := xf c6 hf
      refine lv_iload_n S.1 S.2.1 d_Mo_goesAlike_31 rfl (lv_at hl 3 rfl) ?_
      refine lv_if_eq (tgt := 84) S.1 S.2.1 d_Mo_goesAlike_32 (by decide) (fun c7 => ?_) (fun c7 => ?_)
      · replace hf := xt c7 hf
        refine lv_iload_n S.1 S.2.1 d_Mo_goesAlike_84 rfl (lv_at hl 3 rfl) ?_
        by_cases cz : x3 = 0 ∨ x3 = 1
        · replace hf := xt cz hf
          obtain rfl := xe1 hf
          exact x_zret S hr hlocks hw (by rcases cz with c | c <;> rw [c] <;> decide) d_Mo_goesAlike_85
        · replace hf := xf cz hf
          cases hf
      · replace hf := xf c7 hf
        refine lv_aload_n S.1 S.2.1 d_Mo_goesAlike_35 rfl (lv_at hl 0 rfl) ?_
        obtain ⟨t8, ht8, hf⟩ := xb hf
        refine x_getr S hw lk_Mo_138 ht8 d_Mo_goesAlike_36 ?_
        refine lv_aload_n S.1 S.2.1 d_Mo_goesAlike_39 rfl (lv_at hl 0 rfl) ?_
        obtain ⟨t9, ht9, hf⟩ := xb hf
        refine x_getr S hw lk_Mo_135 ht9 d_Mo_goesAlike_40 ?_
        refine lv_bipush (v := 9) S.1 S.2.1 d_Mo_goesAlike_43 (by decide) ?_
        refine lv_iload_n S.1 S.2.1 d_Mo_goesAlike_45 rfl (lv_at hl 1 rfl) ?_
        refine lv_imul S.1 S.2.1 d_Mo_goesAlike_46 ?_
        refine lv_iload S.1 S.2.1 d_Mo_goesAlike_47 (lv_at hl 4 rfl) ?_
        refine lv_iadd S.1 S.2.1 d_Mo_goesAlike_49 ?_
        obtain ⟨t10, ht10, hf⟩ := xb hf
        refine x_iald S hw ht10 d_Mo_goesAlike_50 ?_
        obtain ⟨t11, ht11, hf⟩ := xb hf
        refine x_iald S hw ht11 d_Mo_goesAlike_51 ?_
        refine lv_aload_n S.1 S.2.1 d_Mo_goesAlike_52 rfl (lv_at hl 0 rfl) ?_
        obtain ⟨t12, ht12, hf⟩ := xb hf
        refine x_getr S hw lk_Mo_138 ht12 d_Mo_goesAlike_53 ?_
        refine lv_aload_n S.1 S.2.1 d_Mo_goesAlike_56 rfl (lv_at hl 0 rfl) ?_
        obtain ⟨t13, ht13, hf⟩ := xb hf
        refine x_getr S hw lk_Mo_135 ht13 d_Mo_goesAlike_57 ?_
        refine lv_bipush (v := 9) S.1 S.2.1 d_Mo_goesAlike_60 (by decide) ?_
        refine lv_iload_n S.1 S.2.1 d_Mo_goesAlike_62 rfl (lv_at hl 2 rfl) ?_
        refine lv_imul S.1 S.2.1 d_Mo_goesAlike_63 ?_
        refine lv_iload S.1 S.2.1 d_Mo_goesAlike_64 (lv_at hl 4 rfl) ?_
        refine lv_iadd S.1 S.2.1 d_Mo_goesAlike_66 ?_
        obtain ⟨t14, ht14, hf⟩ := xb hf
        refine x_iald S hw ht14 d_Mo_goesAlike_67 ?_
        obtain ⟨t15, ht15, hf⟩ := xb hf
        refine x_iald S hw ht15 d_Mo_goesAlike_68 ?_
        refine lv_icmp_ne (tgt := 76) S.1 S.2.1 d_Mo_goesAlike_69 (by decide) (fun c16 => ?_) (fun c16 => ?_)
        · replace hf := xf c16 hf
          refine lv_iconst (v := 0) S.1 S.2.1 d_Mo_goesAlike_76 (by decide) ?_
          refine lv_istore_n (lv' := [(3, .int 0), (0, .ref a0), (1, .int x1), (2, .int x2), (4, .int x4)]) S.1 S.2.1 d_Mo_goesAlike_77 rfl hl (by decide) rfl (fun ls hl => ?_)
          refine lv_iinc (v := (x4 + 1)) (lv' := [(4, .int (x4 + 1)), (3, .int 0), (0, .ref a0), (1, .int x1), (2, .int x2)]) S.1 S.2.1 d_Mo_goesAlike_78 hl (k := 4) rfl rfl (by decide) rfl (fun ls hl => ?_)
          refine lv_goto (tgt := 24) S.1 S.2.1 d_Mo_goesAlike_81 (by decide) ?_
          exact ih _ _ _ _ _ _ _ _ hw (lv_sub hl [2, 3, 4, 1, 0] rfl) hf
        · replace hf := xt c16 hf
          refine lv_iconst (v := 1) S.1 S.2.1 d_Mo_goesAlike_72 (by decide) ?_
          refine lv_goto (tgt := 77) S.1 S.2.1 d_Mo_goesAlike_73 (by decide) ?_
          refine lv_istore_n (lv' := [(3, .int 1), (0, .ref a0), (1, .int x1), (2, .int x2), (4, .int x4)]) S.1 S.2.1 d_Mo_goesAlike_77 rfl hl (by decide) rfl (fun ls hl => ?_)
          refine lv_iinc (v := (x4 + 1)) (lv' := [(4, .int (x4 + 1)), (3, .int 1), (0, .ref a0), (1, .int x1), (2, .int x2)]) S.1 S.2.1 d_Mo_goesAlike_78 hl (k := 4) rfl rfl (by decide) rfl (fun ls hl => ?_)
          refine lv_goto (tgt := 24) S.1 S.2.1 d_Mo_goesAlike_81 (by decide) ?_
          exact ih _ _ _ _ _ _ _ _ hw (lv_sub hl [2, 3, 4, 1, 0] rfl) hf
def f_Mo_goesAlike (a0 : Nat) (x1 : Int32) (x2 : Int32) (ω : xS) : Option Int32 :=
  (xgr ω a0 12 59).bind fun t1 =>
  (xai ω t1 x1).bind fun t2 =>
  (xgr ω a0 12 59).bind fun t3 =>
  (xai ω t3 x2).bind fun t4 =>
  if t2 = t4 then (
    f_Mo_goesAlike_24  xFU a0 x1 x2 1 0 ω)
  else (
    f_Mo_goesAlike_24  xFU a0 x1 x2 0 0 ω)
set_option maxHeartbeats 4000000 in
set_option maxRecDepth 100000 in
theorem c_Mo_goesAlike {l : Launch} {E : xV} {z : Nat} {a0 : Nat} {x1 : Int32} {x2 : Int32} {r : Int32} {ω : xS} (hf : f_Mo_goesAlike a0 x1 x2 ω = some r) : xM l E y_Mo_goesAlike ws_Mo_goesAlike { frames := 0, cells := 0, slots := 0, locals := 0 } [.ref a0, .int x1, .int x2] z ω (some (.int r)) z ω := by
  refine x_start (cc := b_Mo_goesAlike) (maxL := 5) (ret := (some .boolean)) (by decide) rfl (Nat.le_of_ble_eq_true rfl) ?_
  intro p e s m below meth c S hr hlocks hin ls hl hw
  have hl : lv_has ls 5 [(0, .ref a0), (1, .int x1), (2, .int x2)] := hl
  unfold f_Mo_goesAlike at hf
  refine lv_aload_n S.1 S.2.1 d_Mo_goesAlike_0 rfl (lv_at hl 0 rfl) ?_
  obtain ⟨t1, ht1, hf⟩ := xb hf
  refine x_getr S hw lk_Mo_138 ht1 d_Mo_goesAlike_1 ?_
  refine lv_iload_n S.1 S.2.1 d_Mo_goesAlike_4 rfl (lv_at hl 1 rfl) ?_
  obtain ⟨t2, ht2, hf⟩ := xb hf
  refine x_iald S hw ht2 d_Mo_goesAlike_5 ?_
  refine lv_aload_n S.1 S.2.1 d_Mo_goesAlike_6 rfl (lv_at hl 0 rfl) ?_
  obtain ⟨t3, ht3, hf⟩ := xb hf
  refine x_getr S hw lk_Mo_138 ht3 d_Mo_goesAlike_7 ?_
  refine lv_iload_n S.1 S.2.1 d_Mo_goesAlike_10 rfl (lv_at hl 2 rfl) ?_
  obtain ⟨t4, ht4, hf⟩ := xb hf
  refine x_iald S hw ht4 d_Mo_goesAlike_11 ?_
  refine lv_icmp_ne (tgt := 19) S.1 S.2.1 d_Mo_goesAlike_12 (by decide) (fun c5 => ?_) (fun c5 => ?_)
  · replace hf := xf c5 hf
    refine lv_iconst (v := 0) S.1 S.2.1 d_Mo_goesAlike_19 (by decide) ?_
    refine lv_istore_n (lv' := [(3, .int 0), (0, .ref a0), (1, .int x1), (2, .int x2)]) S.1 S.2.1 d_Mo_goesAlike_20 rfl hl (by decide) rfl (fun ls hl => ?_)
    refine lv_iconst (v := 0) S.1 S.2.1 d_Mo_goesAlike_21 (by decide) ?_
    refine lv_istore (lv' := [(4, .int 0), (3, .int 0), (0, .ref a0), (1, .int x1), (2, .int x2)]) S.1 S.2.1 d_Mo_goesAlike_22 hl (by decide) rfl (fun ls hl => ?_)
    exact w_Mo_goesAlike_24 S hr hlocks  _ _ _ _ _ _ _ _ _ hw (lv_sub hl [2, 3, 4, 1, 0] rfl) hf
  · replace hf := xt c5 hf
    refine lv_iconst (v := 1) S.1 S.2.1 d_Mo_goesAlike_15 (by decide) ?_
    refine lv_goto (tgt := 20) S.1 S.2.1 d_Mo_goesAlike_16 (by decide) ?_
    refine lv_istore_n (lv' := [(3, .int 1), (0, .ref a0), (1, .int x1), (2, .int x2)]) S.1 S.2.1 d_Mo_goesAlike_20 rfl hl (by decide) rfl (fun ls hl => ?_)
    refine lv_iconst (v := 0) S.1 S.2.1 d_Mo_goesAlike_21 (by decide) ?_
    refine lv_istore (lv' := [(4, .int 0), (3, .int 1), (0, .ref a0), (1, .int x1), (2, .int x2)]) S.1 S.2.1 d_Mo_goesAlike_22 hl (by decide) rfl (fun ls hl => ?_)
    exact w_Mo_goesAlike_24 S hr hlocks  _ _ _ _ _ _ _ _ _ hw (lv_sub hl [2, 3, 4, 1, 0] rfl) hf
def f_Mo_refine_71 : Nat → Nat → Int32 → Int32 → Int32 → xS → Option (Int32 × xS)
  | 0, _, _, _, _, _ => none
  | n + 1, a0, x1, x2, x3, ω =>
    if x1 ≤ x3 then (
      some (x2, ω))
    else (
      (xgr ω a0 12 59).bind fun t3 =>
      (xgr ω a0 12 60).bind fun t4 =>
      (xai ω t4 x3).bind fun t5 =>
      (xsi ω t3 x3 t5).bind fun w6 =>
      f_Mo_refine_71  n a0 x1 x2 (x3 + 1) w6)
set_option maxHeartbeats 4000000 in
set_option maxRecDepth 100000 in
theorem w_Mo_refine_71 {p : Program} {l : Launch} {e : Env} {s : State} {m : MethodId} {args : Array Value} {below : List Frame} {meth : Method} {c : Code} {E : xV} {z : Nat} {r : Int32} {ω1 : xS} (S : CallFix p m c b_Mo_refine 5 s args xTbl "RosterRulesModel") (hr : meth.sig.returnType = (some .int)) (hlocks : meth.locks = false) : ∀ n : Nat, ∀ (a0 : Nat) (x1 : Int32) (x2 : Int32) (x3 : Int32) (ω : xS) (H : Heap) (locs : List Loc) (ls : Array Slot), xW E z ω s s.heap H locs → lv_has ls 5 [(0, .ref a0), (1, .int x1), (2, .int x2), (3, .int x3)] → f_Mo_refine_71 n a0 x1 x2 x3 ω = some (r, ω1) → W p l e (headSpec ws_Mo_refine { frames := 1, cells := 0, slots := 0, locals := 24 }).room s m args below meth c H locs 0 0 (MQ below (xQ E (some (.int r)) z ω1) args s 0 0 (fun q => E.2.2 ≤ q)) (F0 m 71 ls []) := by
  intro n
  induction n with
  | zero =>
    intro a0 x1 x2 x3 ω H locs ls hw hl hf
    have h2 : (none : Option (Int32 × xS)) = some (r, ω1) := hf
    cases h2
  | succ n ih =>
    intro a0 x1 x2 x3 ω H locs ls hw hl hf
    rw [f_Mo_refine_71] at hf
    refine lv_iload_n S.1 S.2.1 d_Mo_refine_71 rfl (lv_at hl 3 rfl) ?_
    refine lv_iload_n S.1 S.2.1 d_Mo_refine_72 rfl (lv_at hl 1 rfl) ?_
    refine lv_icmp_ge (tgt := 94) S.1 S.2.1 d_Mo_refine_73 (by decide) (fun c2 => ?_) (fun c2 => ?_)
    · replace hf := xt c2 hf
      refine lv_iload_n S.1 S.2.1 d_Mo_refine_94 rfl (lv_at hl 2 rfl) ?_
      obtain ⟨rfl, rfl⟩ := xe2 hf
      exact x_iret S hr hlocks hw d_Mo_refine_95
    · replace hf := xf c2 hf
      refine lv_aload_n S.1 S.2.1 d_Mo_refine_76 rfl (lv_at hl 0 rfl) ?_
      obtain ⟨t3, ht3, hf⟩ := xb hf
      refine x_getr S hw lk_Mo_138 ht3 d_Mo_refine_77 ?_
      refine lv_iload_n S.1 S.2.1 d_Mo_refine_80 rfl (lv_at hl 3 rfl) ?_
      refine lv_aload_n S.1 S.2.1 d_Mo_refine_81 rfl (lv_at hl 0 rfl) ?_
      obtain ⟨t4, ht4, hf⟩ := xb hf
      refine x_getr S hw lk_Mo_141 ht4 d_Mo_refine_82 ?_
      refine lv_iload_n S.1 S.2.1 d_Mo_refine_85 rfl (lv_at hl 3 rfl) ?_
      obtain ⟨t5, ht5, hf⟩ := xb hf
      refine x_iald S hw ht5 d_Mo_refine_86 ?_
      obtain ⟨w6, hw6, hf⟩ := xb hf
      refine x_iast S hw hw6 d_Mo_refine_87 (fun H locs hw => ?_)
      refine lv_iinc (v := (x3 + 1)) (lv' := [(3, .int (x3 + 1)), (0, .ref a0), (1, .int x1), (2, .int x2)]) S.1 S.2.1 d_Mo_refine_88 hl (k := 3) rfl rfl (by decide) rfl (fun ls hl => ?_)
      refine lv_goto (tgt := 71) S.1 S.2.1 d_Mo_refine_91 (by decide) ?_
      exact ih _ _ _ _ _ _ _ _ hw (lv_sub hl [1, 2, 3, 0] rfl) hf
def f_Mo_refine_39 (k4 : Nat → Int32 → Int32 → Int32 → xS → Option (Int32 × xS)) (a0 : Nat) (x1 : Int32) (x2 : Int32) (x3 : Int32) (x4 : Int32) (ω : xS) : Option (Int32 × xS) :=
  if x4 = x2 then (
    (xgr ω a0 12 61).bind fun t16 =>
    (xsi ω t16 x2 x3).bind fun w17 =>
    (xgr w17 a0 12 60).bind fun t18 =>
    (xsi w17 t18 x3 x4).bind fun w19 =>
    k4 a0 x1 (x2 + 1) (x3 + 1) w19)
  else (
    (xgr ω a0 12 60).bind fun t14 =>
    (xsi ω t14 x3 x4).bind fun w15 =>
    k4 a0 x1 x2 (x3 + 1) w15)
set_option maxHeartbeats 4000000 in
set_option maxRecDepth 100000 in
theorem w_Mo_refine_39 {p : Program} {l : Launch} {e : Env} {s : State} {m : MethodId} {args : Array Value} {below : List Frame} {meth : Method} {c : Code} {E : xV} {z : Nat} {r : Int32} {ω1 : xS} {k4 : Nat → Int32 → Int32 → Int32 → xS → Option (Int32 × xS)} (S : CallFix p m c b_Mo_refine 5 s args xTbl "RosterRulesModel") (hr : meth.sig.returnType = (some .int)) (hlocks : meth.locks = false) (hk4 : ∀ (a0 : Nat) (x1 : Int32) (x2 : Int32) (x3 : Int32) (ω : xS) (H : Heap) (locs : List Loc) (ls : Array Slot), xW E z ω s s.heap H locs → lv_has ls 5 [(0, .ref a0), (1, .int x1), (2, .int x2), (3, .int x3)] → k4 a0 x1 x2 x3 ω = some (r, ω1) → W p l e (headSpec ws_Mo_refine { frames := 1, cells := 0, slots := 0, locals := 24 }).room s m args below meth c H locs 0 0 (MQ below (xQ E (some (.int r)) z ω1) args s 0 0 (fun q => E.2.2 ≤ q)) (F0 m 4 ls [])) : ∀ (a0 : Nat) (x1 : Int32) (x2 : Int32) (x3 : Int32) (x4 : Int32) (ω : xS) (H : Heap) (locs : List Loc) (ls : Array Slot), xW E z ω s s.heap H locs → lv_has ls 5 [(0, .ref a0), (1, .int x1), (2, .int x2), (3, .int x3), (4, .int x4)] → f_Mo_refine_39 k4 a0 x1 x2 x3 x4 ω = some (r, ω1) → W p l e (headSpec ws_Mo_refine { frames := 1, cells := 0, slots := 0, locals := 24 }).room s m args below meth c H locs 0 0 (MQ below (xQ E (some (.int r)) z ω1) args s 0 0 (fun q => E.2.2 ≤ q)) (F0 m 39 ls []) := by
  intro a0 x1 x2 x3 x4 ω H locs ls hw hl hf
  unfold f_Mo_refine_39 at hf
  refine lv_iload S.1 S.2.1 d_Mo_refine_39 (lv_at hl 4 rfl) ?_
  refine lv_iload_n S.1 S.2.1 d_Mo_refine_41 rfl (lv_at hl 2 rfl) ?_
  refine lv_icmp_ne (tgt := 55) S.1 S.2.1 d_Mo_refine_42 (by decide) (fun c13 => ?_) (fun c13 => ?_)
  · replace hf := xf c13 hf
    refine lv_aload_n S.1 S.2.1 d_Mo_refine_55 rfl (lv_at hl 0 rfl) ?_
    obtain ⟨t14, ht14, hf⟩ := xb hf
    refine x_getr S hw lk_Mo_141 ht14 d_Mo_refine_56 ?_
    refine lv_iload_n S.1 S.2.1 d_Mo_refine_59 rfl (lv_at hl 3 rfl) ?_
    refine lv_iload S.1 S.2.1 d_Mo_refine_60 (lv_at hl 4 rfl) ?_
    obtain ⟨w15, hw15, hf⟩ := xb hf
    refine x_iast S hw hw15 d_Mo_refine_62 (fun H locs hw => ?_)
    refine lv_iinc (v := (x3 + 1)) (lv' := [(3, .int (x3 + 1)), (0, .ref a0), (1, .int x1), (2, .int x2), (4, .int x4)]) S.1 S.2.1 d_Mo_refine_63 hl (k := 3) rfl rfl (by decide) rfl (fun ls hl => ?_)
    refine lv_goto (tgt := 4) S.1 S.2.1 d_Mo_refine_66 (by decide) ?_
    exact hk4 _ _ _ _ _ _ _ _ hw (lv_sub hl [1, 2, 3, 0] rfl) hf
  · replace hf := xt c13 hf
    refine lv_aload_n S.1 S.2.1 d_Mo_refine_45 rfl (lv_at hl 0 rfl) ?_
    obtain ⟨t16, ht16, hf⟩ := xb hf
    refine x_getr S hw lk_Mo_144 ht16 d_Mo_refine_46 ?_
    refine lv_iload_n S.1 S.2.1 d_Mo_refine_49 rfl (lv_at hl 2 rfl) ?_
    refine lv_iload_n S.1 S.2.1 d_Mo_refine_50 rfl (lv_at hl 3 rfl) ?_
    obtain ⟨w17, hw17, hf⟩ := xb hf
    refine x_iast S hw hw17 d_Mo_refine_51 (fun H locs hw => ?_)
    refine lv_iinc (v := (x2 + 1)) (lv' := [(2, .int (x2 + 1)), (0, .ref a0), (1, .int x1), (3, .int x3), (4, .int x4)]) S.1 S.2.1 d_Mo_refine_52 hl (k := 2) rfl rfl (by decide) rfl (fun ls hl => ?_)
    refine lv_aload_n S.1 S.2.1 d_Mo_refine_55 rfl (lv_at hl 1 rfl) ?_
    obtain ⟨t18, ht18, hf⟩ := xb hf
    refine x_getr S hw lk_Mo_141 ht18 d_Mo_refine_56 ?_
    refine lv_iload_n S.1 S.2.1 d_Mo_refine_59 rfl (lv_at hl 3 rfl) ?_
    refine lv_iload S.1 S.2.1 d_Mo_refine_60 (lv_at hl 4 rfl) ?_
    obtain ⟨w19, hw19, hf⟩ := xb hf
    refine x_iast S hw hw19 d_Mo_refine_62 (fun H locs hw => ?_)
    refine lv_iinc (v := (x3 + 1)) (lv' := [(3, .int (x3 + 1)), (2, .int (x2 + 1)), (0, .ref a0), (1, .int x1), (4, .int x4)]) S.1 S.2.1 d_Mo_refine_63 hl (k := 3) rfl rfl (by decide) rfl (fun ls hl => ?_)
    refine lv_goto (tgt := 4) S.1 S.2.1 d_Mo_refine_66 (by decide) ?_
    exact hk4 _ _ _ _ _ _ _ _ hw (lv_sub hl [2, 3, 1, 0] rfl) hf
def f_Mo_refine_12 (k4 : Nat → Int32 → Int32 → Int32 → xS → Option (Int32 × xS)) : Nat → Nat → Int32 → Int32 → Int32 → Int32 → xS → Option (Int32 × xS)
  | 0, _, _, _, _, _, _ => none
  | n + 1, a0, x1, x2, x3, x4, ω =>
    if x2 ≤ x4 then (
      f_Mo_refine_39 k4 a0 x1 x2 x3 x4 ω)
    else (
      (xgr ω a0 12 61).bind fun t8 =>
      (xai ω t8 x4).bind fun t9 =>
      (xk ω a0 12 (f_Mo_goesAlike a0 x3 t9 ω)).bind fun t11 =>
      if t11 = 0 then (
        f_Mo_refine_12 k4 n a0 x1 x2 x3 (x4 + 1) ω)
      else (
        f_Mo_refine_39 k4 a0 x1 x2 x3 x4 ω))
set_option maxHeartbeats 4000000 in
set_option maxRecDepth 100000 in
theorem w_Mo_refine_12 {p : Program} {l : Launch} {e : Env} {s : State} {m : MethodId} {args : Array Value} {below : List Frame} {meth : Method} {c : Code} {E : xV} {z : Nat} {r : Int32} {ω1 : xS} {k4 : Nat → Int32 → Int32 → Int32 → xS → Option (Int32 × xS)} (S : CallFix p m c b_Mo_refine 5 s args xTbl "RosterRulesModel") (hr : meth.sig.returnType = (some .int)) (hlocks : meth.locks = false) (hk4 : ∀ (a0 : Nat) (x1 : Int32) (x2 : Int32) (x3 : Int32) (ω : xS) (H : Heap) (locs : List Loc) (ls : Array Slot), xW E z ω s s.heap H locs → lv_has ls 5 [(0, .ref a0), (1, .int x1), (2, .int x2), (3, .int x3)] → k4 a0 x1 x2 x3 ω = some (r, ω1) → W p l e (headSpec ws_Mo_refine { frames := 1, cells := 0, slots := 0, locals := 24 }).room s m args below meth c H locs 0 0 (MQ below (xQ E (some (.int r)) z ω1) args s 0 0 (fun q => E.2.2 ≤ q)) (F0 m 4 ls [])) : ∀ n : Nat, ∀ (a0 : Nat) (x1 : Int32) (x2 : Int32) (x3 : Int32) (x4 : Int32) (ω : xS) (H : Heap) (locs : List Loc) (ls : Array Slot), xW E z ω s s.heap H locs → lv_has ls 5 [(0, .ref a0), (1, .int x1), (2, .int x2), (3, .int x3), (4, .int x4)] → f_Mo_refine_12 k4 n a0 x1 x2 x3 x4 ω = some (r, ω1) → W p l e (headSpec ws_Mo_refine { frames := 1, cells := 0, slots := 0, locals := 24 }).room s m args below meth c H locs 0 0 (MQ below (xQ E (some (.int r)) z ω1) args s 0 0 (fun q => E.2.2 ≤ q)) (F0 m 12 ls []) := by
  intro n
  induction n with
  | zero =>
    intro a0 x1 x2 x3 x4 ω H locs ls hw hl hf
    have h2 : (none : Option (Int32 × xS)) = some (r, ω1) := hf
    cases h2
  | succ n ih =>
    intro a0 x1 x2 x3 x4 ω H locs ls hw hl hf
    rw [f_Mo_refine_12] at hf
    refine lv_iload S.1 S.2.1 d_Mo_refine_12 (lv_at hl 4 rfl) ?_
    refine lv_iload_n S.1 S.2.1 d_Mo_refine_14 rfl (lv_at hl 2 rfl) ?_
    refine lv_icmp_ge (tgt := 39) S.1 S.2.1 d_Mo_refine_15 (by decide) (fun c7 => ?_) (fun c7 => ?_)
    · replace hf := xt c7 hf
      exact w_Mo_refine_39 S hr hlocks hk4 _ _ _ _ _ _ _ _ _ hw (lv_sub hl [0, 1, 2, 3, 4] rfl) hf
    · replace hf := xf c7 hf
      refine lv_aload_n S.1 S.2.1 d_Mo_refine_18 rfl (lv_at hl 0 rfl) ?_
      refine lv_iload_n S.1 S.2.1 d_Mo_refine_19 rfl (lv_at hl 3 rfl) ?_
      refine lv_aload_n S.1 S.2.1 d_Mo_refine_20 rfl (lv_at hl 0 rfl) ?_
      obtain ⟨t8, ht8, hf⟩ := xb hf
      refine x_getr S hw lk_Mo_144 ht8 d_Mo_refine_21 ?_
      refine lv_iload S.1 S.2.1 d_Mo_refine_24 (lv_at hl 4 rfl) ?_
      obtain ⟨t9, ht9, hf⟩ := xb hf
      refine x_iald S hw ht9 d_Mo_refine_26 ?_
      obtain ⟨t11, h10, hf⟩ := xb hf
      obtain ⟨h10b, h10⟩ := xkb h10
      refine x_callV (As := [.int x3, .int t9]) (rest := []) (st1 := [.int t11]) S hw (c_Mo_goesAlike h10) (cwV 2 S.2.2.2.2 gv_Mo_344 rfl rfl rfl hd_Mo_goesAlike ⟨Nat.le_of_ble_eq_true rfl, Nat.le_of_ble_eq_true rfl⟩) rfl h10b rfl hl.1 rfl rfl (Nat.le_of_ble_eq_true rfl) d_Mo_refine_27 ⟨Nat.le_of_ble_eq_true rfl, Nat.le_of_ble_eq_true rfl⟩ (fun H locs hw => ?_)
      refine lv_if_ne (tgt := 39) S.1 S.2.1 d_Mo_refine_30 (by decide) (fun c12 => ?_) (fun c12 => ?_)
      · replace hf := xf c12 hf
        exact w_Mo_refine_39 S hr hlocks hk4 _ _ _ _ _ _ _ _ _ hw (lv_sub hl [0, 1, 2, 3, 4] rfl) hf
      · replace hf := xt c12 hf
        refine lv_iinc (v := (x4 + 1)) (lv' := [(4, .int (x4 + 1)), (0, .ref a0), (1, .int x1), (2, .int x2), (3, .int x3)]) S.1 S.2.1 d_Mo_refine_33 hl (k := 4) rfl rfl (by decide) rfl (fun ls hl => ?_)
        refine lv_goto (tgt := 12) S.1 S.2.1 d_Mo_refine_36 (by decide) ?_
        exact ih _ _ _ _ _ _ _ _ _ hw (lv_sub hl [1, 2, 3, 4, 0] rfl) hf
def f_Mo_refine_4 : Nat → Nat → Int32 → Int32 → Int32 → xS → Option (Int32 × xS)
  | 0, _, _, _, _, _ => none
  | n + 1, a0, x1, x2, x3, ω =>
    if x1 ≤ x3 then (
      f_Mo_refine_71  xFU a0 x1 x2 0 ω)
    else (
      f_Mo_refine_12 (f_Mo_refine_4  n) xFU a0 x1 x2 x3 0 ω)
set_option maxHeartbeats 4000000 in
set_option maxRecDepth 100000 in
theorem w_Mo_refine_4 {p : Program} {l : Launch} {e : Env} {s : State} {m : MethodId} {args : Array Value} {below : List Frame} {meth : Method} {c : Code} {E : xV} {z : Nat} {r : Int32} {ω1 : xS} (S : CallFix p m c b_Mo_refine 5 s args xTbl "RosterRulesModel") (hr : meth.sig.returnType = (some .int)) (hlocks : meth.locks = false) : ∀ n : Nat, ∀ (a0 : Nat) (x1 : Int32) (x2 : Int32) (x3 : Int32) (ω : xS) (H : Heap) (locs : List Loc) (ls : Array Slot), xW E z ω s s.heap H locs → lv_has ls 5 [(0, .ref a0), (1, .int x1), (2, .int x2), (3, .int x3)] → f_Mo_refine_4 n a0 x1 x2 x3 ω = some (r, ω1) → W p l e (headSpec ws_Mo_refine { frames := 1, cells := 0, slots := 0, locals := 24 }).room s m args below meth c H locs 0 0 (MQ below (xQ E (some (.int r)) z ω1) args s 0 0 (fun q => E.2.2 ≤ q)) (F0 m 4 ls []) := by
  intro n
  induction n with
  | zero =>
    intro a0 x1 x2 x3 ω H locs ls hw hl hf
    have h2 : (none : Option (Int32 × xS)) = some (r, ω1) := hf
    cases h2
  | succ n ih =>
    intro a0 x1 x2 x3 ω H locs ls hw hl hf
    rw [f_Mo_refine_4] at hf
    refine lv_iload_n S.1 S.2.1 d_Mo_refine_4 rfl (lv_at hl 3 rfl) ?_
    refine lv_iload_n S.1 S.2.1 d_Mo_refine_5 rfl (lv_at hl 1 rfl) ?_
    refine lv_icmp_ge (tgt := 69) S.1 S.2.1 d_Mo_refine_6 (by decide) (fun c1 => ?_) (fun c1 => ?_)
    · replace hf := xt c1 hf
      refine lv_iconst (v := 0) S.1 S.2.1 d_Mo_refine_69 (by decide) ?_
      refine lv_istore_n (lv' := [(3, .int 0), (0, .ref a0), (1, .int x1), (2, .int x2)]) S.1 S.2.1 d_Mo_refine_70 rfl hl (by decide) rfl (fun ls hl => ?_)
      exact w_Mo_refine_71 S hr hlocks  _ _ _ _ _ _ _ _ _ hw (lv_sub hl [1, 2, 3, 0] rfl) hf
    · replace hf := xf c1 hf
      refine lv_iconst (v := 0) S.1 S.2.1 d_Mo_refine_9 (by decide) ?_
      refine lv_istore (lv' := [(4, .int 0), (0, .ref a0), (1, .int x1), (2, .int x2), (3, .int x3)]) S.1 S.2.1 d_Mo_refine_10 hl (by decide) rfl (fun ls hl => ?_)
      exact w_Mo_refine_12 S hr hlocks ih _ _ _ _ _ _ _ _ _ _ hw (lv_sub hl [1, 2, 3, 4, 0] rfl) hf
def f_Mo_refine (a0 : Nat) (x1 : Int32) (ω : xS) : Option (Int32 × xS) :=
  f_Mo_refine_4  xFU a0 x1 0 0 ω
set_option maxHeartbeats 4000000 in
set_option maxRecDepth 100000 in
theorem c_Mo_refine {l : Launch} {E : xV} {z : Nat} {a0 : Nat} {x1 : Int32} {r : Int32} {ω1 : xS} {ω : xS} (hf : f_Mo_refine a0 x1 ω = some (r, ω1)) : xM l E y_Mo_refine ws_Mo_refine { frames := 1, cells := 0, slots := 0, locals := 24 } [.ref a0, .int x1] z ω (some (.int r)) z ω1 := by
  refine x_start (cc := b_Mo_refine) (maxL := 5) (ret := (some .int)) (by decide) rfl (Nat.le_of_ble_eq_true rfl) ?_
  intro p e s m below meth c S hr hlocks hin ls hl hw
  have hl : lv_has ls 5 [(0, .ref a0), (1, .int x1)] := hl
  unfold f_Mo_refine at hf
  refine lv_iconst (v := 0) S.1 S.2.1 d_Mo_refine_0 (by decide) ?_
  refine lv_istore_n (lv' := [(2, .int 0), (0, .ref a0), (1, .int x1)]) S.1 S.2.1 d_Mo_refine_1 rfl hl (by decide) rfl (fun ls hl => ?_)
  refine lv_iconst (v := 0) S.1 S.2.1 d_Mo_refine_2 (by decide) ?_
  refine lv_istore_n (lv' := [(3, .int 0), (2, .int 0), (0, .ref a0), (1, .int x1)]) S.1 S.2.1 d_Mo_refine_3 rfl hl (by decide) rfl (fun ls hl => ?_)
  exact w_Mo_refine_4 S hr hlocks  _ _ _ _ _ _ _ _ _ hw (lv_sub hl [2, 3, 1, 0] rfl) hf
