def f_Mo_look (a0 : Nat) (x1 : Int32) (ω : xS) : Option Int32 :=
  (xgi ω a0 12 11).bind fun t1 =>
  if t1 ≤ x1 then (
    some (-1))
  else (
    (xgr ω a0 12 10).bind fun t3 =>
    (xab ω t3 x1).bind fun t4 =>
    some (t4 &&& 255))
set_option maxHeartbeats 4000000 in
set_option maxRecDepth 100000 in
theorem c_Mo_look {l : Launch} {E : xV} {z : Nat} {a0 : Nat} {x1 : Int32} {r : Int32} {ω : xS} (hf : f_Mo_look a0 x1 ω = some r) : xM l E y_Mo_look ws_Mo_look { frames := 0, cells := 0, slots := 0, locals := 0 } [.ref a0, .int x1] z ω (some (.int r)) z ω := by
  refine x_start (cc := b_Mo_look) (maxL := 2) (ret := (some .int)) (by decide) rfl (Nat.le_of_ble_eq_true rfl) ?_
  intro p e s m below meth c S hr hlocks hin ls hl hw
  have hl : lv_has ls 2 [(0, .ref a0), (1, .int x1)] := hl
  unfold f_Mo_look at hf
  refine lv_iload_n S.1 S.2.1 d_Mo_look_0 rfl (lv_at hl 1 rfl) ?_
  refine lv_aload_n S.1 S.2.1 d_Mo_look_1 rfl (lv_at hl 0 rfl) ?_
  obtain ⟨t1, ht1, hf⟩ := xb hf
  refine x_geti S hw lk_Mo_169 ht1 d_Mo_look_2 ?_
  refine lv_icmp_ge (tgt := 21) S.1 S.2.1 d_Mo_look_5 (by decide) (fun c2 => ?_) (fun c2 => ?_)
  · replace hf := xt c2 hf
    refine lv_iconst (v := (-1)) S.1 S.2.1 d_Mo_look_21 (by decide) ?_
    obtain rfl := xe1 hf
    exact x_iret S hr hlocks hw d_Mo_look_22
  · replace hf := xf c2 hf
    refine lv_aload_n S.1 S.2.1 d_Mo_look_8 rfl (lv_at hl 0 rfl) ?_
    obtain ⟨t3, ht3, hf⟩ := xb hf
    refine x_getr S hw lk_Mo_34 ht3 d_Mo_look_9 ?_
    refine lv_iload_n S.1 S.2.1 d_Mo_look_12 rfl (lv_at hl 1 rfl) ?_
    obtain ⟨t4, ht4, hf⟩ := xb hf
    refine x_bald S hw ht4 d_Mo_look_13 ?_
    refine lv_sipush (v := 255) S.1 S.2.1 d_Mo_look_14 (by decide) ?_
    refine lv_iand S.1 S.2.1 d_Mo_look_17 ?_
    refine lv_goto (tgt := 22) S.1 S.2.1 d_Mo_look_18 (by decide) ?_
    obtain rfl := xe1 hf
    exact x_iret S hr hlocks hw d_Mo_look_22
def f_Mo_isSmall (x0 : Int32) (ω : xS) : Option Int32 :=
  if x0 < 97 then (
    some 0)
  else (
    if 122 < x0 then (
      some 0)
    else (
      some 1))
set_option maxHeartbeats 4000000 in
set_option maxRecDepth 100000 in
theorem c_Mo_isSmall {l : Launch} {E : xV} {z : Nat} {x0 : Int32} {r : Int32} {ω : xS} (hf : f_Mo_isSmall x0 ω = some r) : xM l E y_Mo_isSmall ws_Mo_isSmall { frames := 0, cells := 0, slots := 0, locals := 0 } [.int x0] z ω (some (.int r)) z ω := by
  refine x_start (cc := b_Mo_isSmall) (maxL := 1) (ret := (some .boolean)) (by decide) rfl (Nat.le_of_ble_eq_true rfl) ?_
  intro p e s m below meth c S hr hlocks hin ls hl hw
  have hl : lv_has ls 1 [(0, .int x0)] := hl
  unfold f_Mo_isSmall at hf
  refine lv_iload_n S.1 S.2.1 d_Mo_isSmall_0 rfl (lv_at hl 0 rfl) ?_
  refine lv_bipush (v := 97) S.1 S.2.1 d_Mo_isSmall_1 (by decide) ?_
  refine lv_icmp_lt (tgt := 16) S.1 S.2.1 d_Mo_isSmall_3 (by decide) (fun c1 => ?_) (fun c1 => ?_)
  · replace hf := xt c1 hf
    refine lv_iconst (v := 0) S.1 S.2.1 d_Mo_isSmall_16 (by decide) ?_
    obtain rfl := xe1 hf
    exact x_zret S hr hlocks hw (by decide) d_Mo_isSmall_17
  · replace hf := xf c1 hf
    refine lv_iload_n S.1 S.2.1 d_Mo_isSmall_6 rfl (lv_at hl 0 rfl) ?_
    refine lv_bipush (v := 122) S.1 S.2.1 d_Mo_isSmall_7 (by decide) ?_
    refine lv_icmp_gt (tgt := 16) S.1 S.2.1 d_Mo_isSmall_9 (by decide) (fun c2 => ?_) (fun c2 => ?_)
    · replace hf := xt c2 hf
      refine lv_iconst (v := 0) S.1 S.2.1 d_Mo_isSmall_16 (by decide) ?_
      obtain rfl := xe1 hf
      exact x_zret S hr hlocks hw (by decide) d_Mo_isSmall_17
    · replace hf := xf c2 hf
      refine lv_iconst (v := 1) S.1 S.2.1 d_Mo_isSmall_12 (by decide) ?_
      refine lv_goto (tgt := 17) S.1 S.2.1 d_Mo_isSmall_13 (by decide) ?_
      obtain rfl := xe1 hf
      exact x_zret S hr hlocks hw (by decide) d_Mo_isSmall_17
def f_Mo_isDigit (x0 : Int32) (ω : xS) : Option Int32 :=
  if x0 < 48 then (
    some 0)
  else (
    if 57 < x0 then (
      some 0)
    else (
      some 1))
set_option maxHeartbeats 4000000 in
set_option maxRecDepth 100000 in
theorem c_Mo_isDigit {l : Launch} {E : xV} {z : Nat} {x0 : Int32} {r : Int32} {ω : xS} (hf : f_Mo_isDigit x0 ω = some r) : xM l E y_Mo_isDigit ws_Mo_isDigit { frames := 0, cells := 0, slots := 0, locals := 0 } [.int x0] z ω (some (.int r)) z ω := by
  refine x_start (cc := b_Mo_isDigit) (maxL := 1) (ret := (some .boolean)) (by decide) rfl (Nat.le_of_ble_eq_true rfl) ?_
  intro p e s m below meth c S hr hlocks hin ls hl hw
  have hl : lv_has ls 1 [(0, .int x0)] := hl
  unfold f_Mo_isDigit at hf
  refine lv_iload_n S.1 S.2.1 d_Mo_isDigit_0 rfl (lv_at hl 0 rfl) ?_
  refine lv_bipush (v := 48) S.1 S.2.1 d_Mo_isDigit_1 (by decide) ?_
  refine lv_icmp_lt (tgt := 16) S.1 S.2.1 d_Mo_isDigit_3 (by decide) (fun c1 => ?_) (fun c1 => ?_)
  · replace hf := xt c1 hf
    refine lv_iconst (v := 0) S.1 S.2.1 d_Mo_isDigit_16 (by decide) ?_
    obtain rfl := xe1 hf
    exact x_zret S hr hlocks hw (by decide) d_Mo_isDigit_17
  · replace hf := xf c1 hf
    refine lv_iload_n S.1 S.2.1 d_Mo_isDigit_6 rfl (lv_at hl 0 rfl) ?_
    refine lv_bipush (v := 57) S.1 S.2.1 d_Mo_isDigit_7 (by decide) ?_
    refine lv_icmp_gt (tgt := 16) S.1 S.2.1 d_Mo_isDigit_9 (by decide) (fun c2 => ?_) (fun c2 => ?_)
    · replace hf := xt c2 hf
      refine lv_iconst (v := 0) S.1 S.2.1 d_Mo_isDigit_16 (by decide) ?_
      obtain rfl := xe1 hf
      exact x_zret S hr hlocks hw (by decide) d_Mo_isDigit_17
    · replace hf := xf c2 hf
      refine lv_iconst (v := 1) S.1 S.2.1 d_Mo_isDigit_12 (by decide) ?_
      refine lv_goto (tgt := 17) S.1 S.2.1 d_Mo_isDigit_13 (by decide) ?_
      obtain rfl := xe1 hf
      exact x_zret S hr hlocks hw (by decide) d_Mo_isDigit_17
def f_Mo_fails (a0 : Nat) (x1 : Int32) (x2 : Int32) (ω : xS) : Option (Int32 × xS) :=
  (xgi ω a0 12 39).bind fun t1 =>
  if t1 = 0 then (
    (xp ω a0 12 39 (.int x1)).bind fun w3 =>
    (xp w3 a0 12 40 (.int x2)).bind fun w4 =>
    some (0, w4))
  else (
    some (0, ω))
set_option maxHeartbeats 4000000 in
set_option maxRecDepth 100000 in
theorem c_Mo_fails {l : Launch} {E : xV} {z : Nat} {a0 : Nat} {x1 : Int32} {x2 : Int32} {r : Int32} {ω1 : xS} {ω : xS} (hf : f_Mo_fails a0 x1 x2 ω = some (r, ω1)) : xM l E y_Mo_fails ws_Mo_fails { frames := 0, cells := 0, slots := 0, locals := 0 } [.ref a0, .int x1, .int x2] z ω (some (.int r)) z ω1 := by
  refine x_start (cc := b_Mo_fails) (maxL := 3) (ret := (some .boolean)) (by decide) rfl (Nat.le_of_ble_eq_true rfl) ?_
  intro p e s m below meth c S hr hlocks hin ls hl hw
  have hl : lv_has ls 3 [(0, .ref a0), (1, .int x1), (2, .int x2)] := hl
  unfold f_Mo_fails at hf
  refine lv_aload_n S.1 S.2.1 d_Mo_fails_0 rfl (lv_at hl 0 rfl) ?_
  obtain ⟨t1, ht1, hf⟩ := xb hf
  refine x_geti S hw lk_Mo_172 ht1 d_Mo_fails_1 ?_
  refine lv_if_ne (tgt := 17) S.1 S.2.1 d_Mo_fails_4 (by decide) (fun c2 => ?_) (fun c2 => ?_)
  · replace hf := xf c2 hf
    refine lv_iconst (v := 0) S.1 S.2.1 d_Mo_fails_17 (by decide) ?_
    obtain ⟨rfl, rfl⟩ := xe2 hf
    exact x_zret S hr hlocks hw (by decide) d_Mo_fails_18
  · replace hf := xt c2 hf
    refine lv_aload_n S.1 S.2.1 d_Mo_fails_7 rfl (lv_at hl 0 rfl) ?_
    refine lv_iload_n S.1 S.2.1 d_Mo_fails_8 rfl (lv_at hl 1 rfl) ?_
    obtain ⟨w3, hw3, hf⟩ := xb hf
    refine x_puti S hw lp_Mo_172 hw3 d_Mo_fails_9 (fun H locs hw => ?_)
    refine lv_aload_n S.1 S.2.1 d_Mo_fails_12 rfl (lv_at hl 0 rfl) ?_
    refine lv_iload_n S.1 S.2.1 d_Mo_fails_13 rfl (lv_at hl 2 rfl) ?_
    obtain ⟨w4, hw4, hf⟩ := xb hf
    refine x_puti S hw lp_Mo_175 hw4 d_Mo_fails_14 (fun H locs hw => ?_)
    refine lv_iconst (v := 0) S.1 S.2.1 d_Mo_fails_17 (by decide) ?_
    obtain ⟨rfl, rfl⟩ := xe2 hf
    exact x_zret S hr hlocks hw (by decide) d_Mo_fails_18
def f_Mo_advance_255 (a0 : Nat) (x2 : Int32) (ω : xS) : Option (Int32 × xS) :=
  (xk ω a0 12 (f_Mo_look a0 x2 ω)).bind fun t54 =>
  if t54 = 34 then (
    (xgi ω a0 12 34).bind fun t60 =>
    if (x2 - t60) ≤ 41 then (
      (xp ω a0 12 37 (.int (x2 + 1))).bind fun w62 =>
      (xp w62 a0 12 34 (.int (x2 + 1))).bind fun w63 =>
      some (1, w63))
    else (
      (xgi ω a0 12 34).bind fun t64 =>
      xc (xk ω a0 12 (f_Mo_fails a0 1 t64 ω)) fun t66 w67 =>
      if t66 = 0 ∨ t66 = 1 then (some (t66, w67)) else none))
  else (
    (xgi ω a0 12 34).bind fun t56 =>
    xc (xk ω a0 12 (f_Mo_fails a0 1 t56 ω)) fun t58 w59 =>
    if t58 = 0 ∨ t58 = 1 then (some (t58, w59)) else none)
set_option maxHeartbeats 4000000 in
set_option maxRecDepth 100000 in
theorem w_Mo_advance_255 {p : Program} {l : Launch} {e : Env} {s : State} {m : MethodId} {args : Array Value} {below : List Frame} {meth : Method} {c : Code} {E : xV} {z : Nat} {r : Int32} {ω1 : xS} (S : CallFix p m c b_Mo_advance 3 s args xTbl "RosterRulesModel") (hr : meth.sig.returnType = (some .boolean)) (hlocks : meth.locks = false) : ∀ (a0 : Nat) (x2 : Int32) (ω : xS) (H : Heap) (locs : List Loc) (ls : Array Slot), xW E z ω s s.heap H locs → lv_has ls 3 [(0, .ref a0), (2, .int x2)] → f_Mo_advance_255 a0 x2 ω = some (r, ω1) → W p l e (headSpec ws_Mo_advance { frames := 1, cells := 0, slots := 0, locals := 22 }).room s m args below meth c H locs 0 0 (MQ below (xQ E (some (.int r)) z ω1) args s 0 0 (fun q => E.2.2 ≤ q)) (F0 m 255 ls []) := by
  intro a0 x2 ω H locs ls hw hl hf
  unfold f_Mo_advance_255 at hf
  refine lv_aload_n S.1 S.2.1 d_Mo_advance_255 rfl (lv_at hl 0 rfl) ?_
  refine lv_iload_n S.1 S.2.1 d_Mo_advance_256 rfl (lv_at hl 1 rfl) ?_
  obtain ⟨t54, h53, hf⟩ := xb hf
  obtain ⟨h53b, h53⟩ := xkb h53
  refine x_callV (As := [.int x2]) (rest := []) (st1 := [.int t54]) S hw (c_Mo_look h53) (cwV 1 S.2.2.2.2 gv_Mo_181 rfl rfl rfl hd_Mo_look ⟨Nat.le_of_ble_eq_true rfl, Nat.le_of_ble_eq_true rfl⟩) rfl h53b rfl hl.1 rfl rfl (Nat.le_of_ble_eq_true rfl) d_Mo_advance_257 ⟨Nat.le_of_ble_eq_true rfl, Nat.le_of_ble_eq_true rfl⟩ (fun H locs hw => ?_)
  refine lv_bipush (v := 34) S.1 S.2.1 d_Mo_advance_260 (by decide) ?_
  refine lv_icmp_ne (tgt := 276) S.1 S.2.1 d_Mo_advance_262 (by decide) (fun c55 => ?_) (fun c55 => ?_)
  · replace hf := xf c55 hf
    refine lv_aload_n S.1 S.2.1 d_Mo_advance_276 rfl (lv_at hl 0 rfl) ?_
    refine lv_iconst (v := 1) S.1 S.2.1 d_Mo_advance_277 (by decide) ?_
    refine lv_aload_n S.1 S.2.1 d_Mo_advance_278 rfl (lv_at hl 0 rfl) ?_
    obtain ⟨t56, ht56, hf⟩ := xb hf
    refine x_geti S hw lk_Mo_178 ht56 d_Mo_advance_279 ?_
    obtain ⟨t58, w59, h57, hf⟩ := xcb hf
    obtain ⟨h57b, h57⟩ := xkb h57
    refine x_callV (As := [.int 1, .int t56]) (rest := []) (st1 := [.int t58]) S hw (c_Mo_fails h57) (cwV 2 S.2.2.2.2 gv_Mo_198 rfl rfl rfl hd_Mo_fails ⟨Nat.le_of_ble_eq_true rfl, Nat.le_of_ble_eq_true rfl⟩) rfl h57b rfl hl.1 rfl rfl (Nat.le_of_ble_eq_true rfl) d_Mo_advance_282 ⟨Nat.le_of_ble_eq_true rfl, Nat.le_of_ble_eq_true rfl⟩ (fun H locs hw => ?_)
    by_cases cz : t58 = 0 ∨ t58 = 1
    · replace hf := xt cz hf
      obtain ⟨rfl, rfl⟩ := xe2 hf
      exact x_zret S hr hlocks hw (by rcases cz with c | c <;> rw [c] <;> decide) d_Mo_advance_285
    · replace hf := xf cz hf
      cases hf
  · replace hf := xt c55 hf
    refine lv_iload_n S.1 S.2.1 d_Mo_advance_265 rfl (lv_at hl 1 rfl) ?_
    refine lv_aload_n S.1 S.2.1 d_Mo_advance_266 rfl (lv_at hl 0 rfl) ?_
    obtain ⟨t60, ht60, hf⟩ := xb hf
    refine x_geti S hw lk_Mo_178 ht60 d_Mo_advance_267 ?_
    refine lv_isub S.1 S.2.1 d_Mo_advance_270 ?_
    refine lv_bipush (v := 41) S.1 S.2.1 d_Mo_advance_271 (by decide) ?_
    refine lv_icmp_le (tgt := 286) S.1 S.2.1 d_Mo_advance_273 (by decide) (fun c61 => ?_) (fun c61 => ?_)
    · replace hf := xt c61 hf
      refine lv_iinc (v := (x2 + 1)) (lv' := [(2, .int (x2 + 1)), (0, .ref a0)]) S.1 S.2.1 d_Mo_advance_286 hl (k := 1) rfl rfl (by decide) rfl (fun ls hl => ?_)
      refine lv_goto (tgt := 319) S.1 S.2.1 d_Mo_advance_289 (by decide) ?_
      refine lv_aload_n S.1 S.2.1 d_Mo_advance_319 rfl (lv_at hl 1 rfl) ?_
      refine lv_iload_n S.1 S.2.1 d_Mo_advance_320 rfl (lv_at hl 0 rfl) ?_
      obtain ⟨w62, hw62, hf⟩ := xb hf
      refine x_puti S hw lp_Mo_205 hw62 d_Mo_advance_321 (fun H locs hw => ?_)
      refine lv_aload_n S.1 S.2.1 d_Mo_advance_324 rfl (lv_at hl 1 rfl) ?_
      refine lv_iload_n S.1 S.2.1 d_Mo_advance_325 rfl (lv_at hl 0 rfl) ?_
      obtain ⟨w63, hw63, hf⟩ := xb hf
      refine x_puti S hw lp_Mo_178 hw63 d_Mo_advance_326 (fun H locs hw => ?_)
      refine lv_iconst (v := 1) S.1 S.2.1 d_Mo_advance_329 (by decide) ?_
      obtain ⟨rfl, rfl⟩ := xe2 hf
      exact x_zret S hr hlocks hw (by decide) d_Mo_advance_330
    · replace hf := xf c61 hf
      refine lv_aload_n S.1 S.2.1 d_Mo_advance_276 rfl (lv_at hl 0 rfl) ?_
      refine lv_iconst (v := 1) S.1 S.2.1 d_Mo_advance_277 (by decide) ?_
      refine lv_aload_n S.1 S.2.1 d_Mo_advance_278 rfl (lv_at hl 0 rfl) ?_
      obtain ⟨t64, ht64, hf⟩ := xb hf
      refine x_geti S hw lk_Mo_178 ht64 d_Mo_advance_279 ?_
      obtain ⟨t66, w67, h65, hf⟩ := xcb hf
      obtain ⟨h65b, h65⟩ := xkb h65
      refine x_callV (As := [.int 1, .int t64]) (rest := []) (st1 := [.int t66]) S hw (c_Mo_fails h65) (cwV 2 S.2.2.2.2 gv_Mo_198 rfl rfl rfl hd_Mo_fails ⟨Nat.le_of_ble_eq_true rfl, Nat.le_of_ble_eq_true rfl⟩) rfl h65b rfl hl.1 rfl rfl (Nat.le_of_ble_eq_true rfl) d_Mo_advance_282 ⟨Nat.le_of_ble_eq_true rfl, Nat.le_of_ble_eq_true rfl⟩ (fun H locs hw => ?_)
      by_cases cz : t66 = 0 ∨ t66 = 1
      · replace hf := xt cz hf
        obtain ⟨rfl, rfl⟩ := xe2 hf
        exact x_zret S hr hlocks hw (by rcases cz with c | c <;> rw [c] <;> decide) d_Mo_advance_285
      · replace hf := xf cz hf
        cases hf
def f_Mo_advance_219 : Nat → Nat → Int32 → xS → Option (Int32 × xS)
  | 0, _, _, _ => none
  | n + 1, a0, x2, ω =>
    (xk ω a0 12 (f_Mo_look a0 x2 ω)).bind fun t45 =>
    if t45 < 33 then (
      f_Mo_advance_255  a0 x2 ω)
    else (
      (xk ω a0 12 (f_Mo_look a0 x2 ω)).bind fun t48 =>
      if 126 < t48 then (
        f_Mo_advance_255  a0 x2 ω)
      else (
        (xk ω a0 12 (f_Mo_look a0 x2 ω)).bind fun t51 =>
        if t51 = 34 then (
          f_Mo_advance_255  a0 x2 ω)
        else (
          f_Mo_advance_219  n a0 (x2 + 1) ω)))
set_option maxHeartbeats 4000000 in
set_option maxRecDepth 100000 in
theorem w_Mo_advance_219 {p : Program} {l : Launch} {e : Env} {s : State} {m : MethodId} {args : Array Value} {below : List Frame} {meth : Method} {c : Code} {E : xV} {z : Nat} {r : Int32} {ω1 : xS} (S : CallFix p m c b_Mo_advance 3 s args xTbl "RosterRulesModel") (hr : meth.sig.returnType = (some .boolean)) (hlocks : meth.locks = false) : ∀ n : Nat, ∀ (a0 : Nat) (x2 : Int32) (ω : xS) (H : Heap) (locs : List Loc) (ls : Array Slot), xW E z ω s s.heap H locs → lv_has ls 3 [(0, .ref a0), (2, .int x2)] → f_Mo_advance_219 n a0 x2 ω = some (r, ω1) → W p l e (headSpec ws_Mo_advance { frames := 1, cells := 0, slots := 0, locals := 22 }).room s m args below meth c H locs 0 0 (MQ below (xQ E (some (.int r)) z ω1) args s 0 0 (fun q => E.2.2 ≤ q)) (F0 m 219 ls []) := by
  intro n
  induction n with
  | zero =>
    intro a0 x2 ω H locs ls hw hl hf
    have h2 : (none : Option (Int32 × xS)) = some (r, ω1) := hf
    cases h2
  | succ n ih =>
    intro a0 x2 ω H locs ls hw hl hf
    rw [f_Mo_advance_219] at hf
    refine lv_aload_n S.1 S.2.1 d_Mo_advance_219 rfl (lv_at hl 0 rfl) ?_
    refine lv_iload_n S.1 S.2.1 d_Mo_advance_220 rfl (lv_at hl 1 rfl) ?_
    obtain ⟨t45, h44, hf⟩ := xb hf
    obtain ⟨h44b, h44⟩ := xkb h44
    refine x_callV (As := [.int x2]) (rest := []) (st1 := [.int t45]) S hw (c_Mo_look h44) (cwV 1 S.2.2.2.2 gv_Mo_181 rfl rfl rfl hd_Mo_look ⟨Nat.le_of_ble_eq_true rfl, Nat.le_of_ble_eq_true rfl⟩) rfl h44b rfl hl.1 rfl rfl (Nat.le_of_ble_eq_true rfl) d_Mo_advance_221 ⟨Nat.le_of_ble_eq_true rfl, Nat.le_of_ble_eq_true rfl⟩ (fun H locs hw => ?_)
    refine lv_bipush (v := 33) S.1 S.2.1 d_Mo_advance_224 (by decide) ?_
    refine lv_icmp_lt (tgt := 255) S.1 S.2.1 d_Mo_advance_226 (by decide) (fun c46 => ?_) (fun c46 => ?_)
    · replace hf := xt c46 hf
      exact w_Mo_advance_255 S hr hlocks  _ _ _ _ _ _ hw (lv_sub hl [0, 1] rfl) hf
    · replace hf := xf c46 hf
      refine lv_aload_n S.1 S.2.1 d_Mo_advance_229 rfl (lv_at hl 0 rfl) ?_
      refine lv_iload_n S.1 S.2.1 d_Mo_advance_230 rfl (lv_at hl 1 rfl) ?_
      obtain ⟨t48, h47, hf⟩ := xb hf
      obtain ⟨h47b, h47⟩ := xkb h47
      refine x_callV (As := [.int x2]) (rest := []) (st1 := [.int t48]) S hw (c_Mo_look h47) (cwV 1 S.2.2.2.2 gv_Mo_181 rfl rfl rfl hd_Mo_look ⟨Nat.le_of_ble_eq_true rfl, Nat.le_of_ble_eq_true rfl⟩) rfl h47b rfl hl.1 rfl rfl (Nat.le_of_ble_eq_true rfl) d_Mo_advance_231 ⟨Nat.le_of_ble_eq_true rfl, Nat.le_of_ble_eq_true rfl⟩ (fun H locs hw => ?_)
      refine lv_bipush (v := 126) S.1 S.2.1 d_Mo_advance_234 (by decide) ?_
      refine lv_icmp_gt (tgt := 255) S.1 S.2.1 d_Mo_advance_236 (by decide) (fun c49 => ?_) (fun c49 => ?_)
      · replace hf := xt c49 hf
        exact w_Mo_advance_255 S hr hlocks  _ _ _ _ _ _ hw (lv_sub hl [0, 1] rfl) hf
      · replace hf := xf c49 hf
        refine lv_aload_n S.1 S.2.1 d_Mo_advance_239 rfl (lv_at hl 0 rfl) ?_
        refine lv_iload_n S.1 S.2.1 d_Mo_advance_240 rfl (lv_at hl 1 rfl) ?_
        obtain ⟨t51, h50, hf⟩ := xb hf
        obtain ⟨h50b, h50⟩ := xkb h50
        refine x_callV (As := [.int x2]) (rest := []) (st1 := [.int t51]) S hw (c_Mo_look h50) (cwV 1 S.2.2.2.2 gv_Mo_181 rfl rfl rfl hd_Mo_look ⟨Nat.le_of_ble_eq_true rfl, Nat.le_of_ble_eq_true rfl⟩) rfl h50b rfl hl.1 rfl rfl (Nat.le_of_ble_eq_true rfl) d_Mo_advance_241 ⟨Nat.le_of_ble_eq_true rfl, Nat.le_of_ble_eq_true rfl⟩ (fun H locs hw => ?_)
        refine lv_bipush (v := 34) S.1 S.2.1 d_Mo_advance_244 (by decide) ?_
        refine lv_icmp_eq (tgt := 255) S.1 S.2.1 d_Mo_advance_246 (by decide) (fun c52 => ?_) (fun c52 => ?_)
        · replace hf := xt c52 hf
          exact w_Mo_advance_255 S hr hlocks  _ _ _ _ _ _ hw (lv_sub hl [0, 1] rfl) hf
        · replace hf := xf c52 hf
          refine lv_iinc (v := (x2 + 1)) (lv' := [(2, .int (x2 + 1)), (0, .ref a0)]) S.1 S.2.1 d_Mo_advance_249 hl (k := 1) rfl rfl (by decide) rfl (fun ls hl => ?_)
          refine lv_goto (tgt := 219) S.1 S.2.1 d_Mo_advance_252 (by decide) ?_
          exact ih _ _ _ _ _ _ hw (lv_sub hl [1, 0] rfl) hf
def f_Mo_advance_167 : Nat → Nat → Int32 → xS → Option (Int32 × xS)
  | 0, _, _, _ => none
  | n + 1, a0, x2, ω =>
    (xk ω a0 12 (f_Mo_look a0 x2 ω)).bind fun t69 =>
    (f_Mo_isDigit t69 ω).bind fun t71 =>
    if t71 = 0 then (
      (xgi ω a0 12 34).bind fun t73 =>
      if (x2 - t73) ≤ 6 then (
        (xp ω a0 12 37 (.int x2)).bind fun w75 =>
        (xp w75 a0 12 34 (.int x2)).bind fun w76 =>
        some (1, w76))
      else (
        (xgi ω a0 12 34).bind fun t77 =>
        xc (xk ω a0 12 (f_Mo_fails a0 1 t77 ω)) fun t79 w80 =>
        if t79 = 0 ∨ t79 = 1 then (some (t79, w80)) else none))
    else (
      f_Mo_advance_167  n a0 (x2 + 1) ω)
set_option maxHeartbeats 4000000 in
set_option maxRecDepth 100000 in
theorem w_Mo_advance_167 {p : Program} {l : Launch} {e : Env} {s : State} {m : MethodId} {args : Array Value} {below : List Frame} {meth : Method} {c : Code} {E : xV} {z : Nat} {r : Int32} {ω1 : xS} (S : CallFix p m c b_Mo_advance 3 s args xTbl "RosterRulesModel") (hr : meth.sig.returnType = (some .boolean)) (hlocks : meth.locks = false) : ∀ n : Nat, ∀ (a0 : Nat) (x2 : Int32) (ω : xS) (H : Heap) (locs : List Loc) (ls : Array Slot), xW E z ω s s.heap H locs → lv_has ls 3 [(0, .ref a0), (2, .int x2)] → f_Mo_advance_167 n a0 x2 ω = some (r, ω1) → W p l e (headSpec ws_Mo_advance { frames := 1, cells := 0, slots := 0, locals := 22 }).room s m args below meth c H locs 0 0 (MQ below (xQ E (some (.int r)) z ω1) args s 0 0 (fun q => E.2.2 ≤ q)) (F0 m 167 ls []) := by
  intro n
  induction n with
  | zero =>
    intro a0 x2 ω H locs ls hw hl hf
    have h2 : (none : Option (Int32 × xS)) = some (r, ω1) := hf
    cases h2
  | succ n ih =>
    intro a0 x2 ω H locs ls hw hl hf
    rw [f_Mo_advance_167] at hf
    refine lv_aload_n S.1 S.2.1 d_Mo_advance_167 rfl (lv_at hl 0 rfl) ?_
    refine lv_iload_n S.1 S.2.1 d_Mo_advance_168 rfl (lv_at hl 1 rfl) ?_
    obtain ⟨t69, h68, hf⟩ := xb hf
    obtain ⟨h68b, h68⟩ := xkb h68
    refine x_callV (As := [.int x2]) (rest := []) (st1 := [.int t69]) S hw (c_Mo_look h68) (cwV 1 S.2.2.2.2 gv_Mo_181 rfl rfl rfl hd_Mo_look ⟨Nat.le_of_ble_eq_true rfl, Nat.le_of_ble_eq_true rfl⟩) rfl h68b rfl hl.1 rfl rfl (Nat.le_of_ble_eq_true rfl) d_Mo_advance_169 ⟨Nat.le_of_ble_eq_true rfl, Nat.le_of_ble_eq_true rfl⟩ (fun H locs hw => ?_)
    obtain ⟨t71, h70, hf⟩ := xb hf
    refine x_callS (As := [.int t69]) (rest := []) (st1 := [.int t71]) S hw (c_Mo_isDigit h70) (cwS 1 S.2.2.2.2 gs_Mo_202 rfl rfl rfl hd_Mo_isDigit ⟨Nat.le_of_ble_eq_true rfl, Nat.le_of_ble_eq_true rfl⟩) rfl hl.1 rfl rfl (Nat.le_of_ble_eq_true rfl) d_Mo_advance_172 ⟨Nat.le_of_ble_eq_true rfl, Nat.le_of_ble_eq_true rfl⟩ (fun H locs hw => ?_)
    refine lv_if_eq (tgt := 184) S.1 S.2.1 d_Mo_advance_175 (by decide) (fun c72 => ?_) (fun c72 => ?_)
    · replace hf := xt c72 hf
      refine lv_iload_n S.1 S.2.1 d_Mo_advance_184 rfl (lv_at hl 1 rfl) ?_
      refine lv_aload_n S.1 S.2.1 d_Mo_advance_185 rfl (lv_at hl 0 rfl) ?_
      obtain ⟨t73, ht73, hf⟩ := xb hf
      refine x_geti S hw lk_Mo_178 ht73 d_Mo_advance_186 ?_
      refine lv_isub S.1 S.2.1 d_Mo_advance_189 ?_
      refine lv_bipush (v := 6) S.1 S.2.1 d_Mo_advance_190 (by decide) ?_
      refine lv_icmp_le (tgt := 319) S.1 S.2.1 d_Mo_advance_192 (by decide) (fun c74 => ?_) (fun c74 => ?_)
      · replace hf := xt c74 hf
        refine lv_aload_n S.1 S.2.1 d_Mo_advance_319 rfl (lv_at hl 0 rfl) ?_
        refine lv_iload_n S.1 S.2.1 d_Mo_advance_320 rfl (lv_at hl 1 rfl) ?_
        obtain ⟨w75, hw75, hf⟩ := xb hf
        refine x_puti S hw lp_Mo_205 hw75 d_Mo_advance_321 (fun H locs hw => ?_)
        refine lv_aload_n S.1 S.2.1 d_Mo_advance_324 rfl (lv_at hl 0 rfl) ?_
        refine lv_iload_n S.1 S.2.1 d_Mo_advance_325 rfl (lv_at hl 1 rfl) ?_
        obtain ⟨w76, hw76, hf⟩ := xb hf
        refine x_puti S hw lp_Mo_178 hw76 d_Mo_advance_326 (fun H locs hw => ?_)
        refine lv_iconst (v := 1) S.1 S.2.1 d_Mo_advance_329 (by decide) ?_
        obtain ⟨rfl, rfl⟩ := xe2 hf
        exact x_zret S hr hlocks hw (by decide) d_Mo_advance_330
      · replace hf := xf c74 hf
        refine lv_aload_n S.1 S.2.1 d_Mo_advance_195 rfl (lv_at hl 0 rfl) ?_
        refine lv_iconst (v := 1) S.1 S.2.1 d_Mo_advance_196 (by decide) ?_
        refine lv_aload_n S.1 S.2.1 d_Mo_advance_197 rfl (lv_at hl 0 rfl) ?_
        obtain ⟨t77, ht77, hf⟩ := xb hf
        refine x_geti S hw lk_Mo_178 ht77 d_Mo_advance_198 ?_
        obtain ⟨t79, w80, h78, hf⟩ := xcb hf
        obtain ⟨h78b, h78⟩ := xkb h78
        refine x_callV (As := [.int 1, .int t77]) (rest := []) (st1 := [.int t79]) S hw (c_Mo_fails h78) (cwV 2 S.2.2.2.2 gv_Mo_198 rfl rfl rfl hd_Mo_fails ⟨Nat.le_of_ble_eq_true rfl, Nat.le_of_ble_eq_true rfl⟩) rfl h78b rfl hl.1 rfl rfl (Nat.le_of_ble_eq_true rfl) d_Mo_advance_201 ⟨Nat.le_of_ble_eq_true rfl, Nat.le_of_ble_eq_true rfl⟩ (fun H locs hw => ?_)
        by_cases cz : t79 = 0 ∨ t79 = 1
        · replace hf := xt cz hf
          obtain ⟨rfl, rfl⟩ := xe2 hf
          exact x_zret S hr hlocks hw (by rcases cz with c | c <;> rw [c] <;> decide) d_Mo_advance_204
        · replace hf := xf cz hf
          cases hf
    · replace hf := xf c72 hf
      refine lv_iinc (v := (x2 + 1)) (lv' := [(2, .int (x2 + 1)), (0, .ref a0)]) S.1 S.2.1 d_Mo_advance_178 hl (k := 1) rfl rfl (by decide) rfl (fun ls hl => ?_)
      refine lv_goto (tgt := 167) S.1 S.2.1 d_Mo_advance_181 (by decide) ?_
      exact ih _ _ _ _ _ _ hw (lv_sub hl [1, 0] rfl) hf
def f_Mo_advance_99 : Nat → Nat → Int32 → xS → Option (Int32 × xS)
  | 0, _, _, _ => none
  | n + 1, a0, x2, ω =>
    (xk ω a0 12 (f_Mo_look a0 x2 ω)).bind fun t82 =>
    (f_Mo_isSmall t82 ω).bind fun t84 =>
    if t84 = 0 then (
      (xgi ω a0 12 34).bind fun t86 =>
      if (x2 - t86) ≤ 8 then (
        (xp ω a0 12 37 (.int x2)).bind fun w88 =>
        (xp w88 a0 12 34 (.int x2)).bind fun w89 =>
        some (1, w89))
      else (
        (xgi ω a0 12 34).bind fun t90 =>
        xc (xk ω a0 12 (f_Mo_fails a0 1 t90 ω)) fun t92 w93 =>
        if t92 = 0 ∨ t92 = 1 then (some (t92, w93)) else none))
    else (
      (xgl ω a0 12 38).bind fun t94 =>
      (xk ω a0 12 (f_Mo_look a0 x2 ω)).bind fun t96 =>
      (xp ω a0 12 38 (.long ((xlshl t94 8) ||| (Int32.toInt64 t96)))).bind fun w97 =>
      f_Mo_advance_99  n a0 (x2 + 1) w97)
set_option maxHeartbeats 4000000 in
set_option maxRecDepth 100000 in
theorem w_Mo_advance_99 {p : Program} {l : Launch} {e : Env} {s : State} {m : MethodId} {args : Array Value} {below : List Frame} {meth : Method} {c : Code} {E : xV} {z : Nat} {r : Int32} {ω1 : xS} (S : CallFix p m c b_Mo_advance 3 s args xTbl "RosterRulesModel") (hr : meth.sig.returnType = (some .boolean)) (hlocks : meth.locks = false) : ∀ n : Nat, ∀ (a0 : Nat) (x2 : Int32) (ω : xS) (H : Heap) (locs : List Loc) (ls : Array Slot), xW E z ω s s.heap H locs → lv_has ls 3 [(0, .ref a0), (2, .int x2)] → f_Mo_advance_99 n a0 x2 ω = some (r, ω1) → W p l e (headSpec ws_Mo_advance { frames := 1, cells := 0, slots := 0, locals := 22 }).room s m args below meth c H locs 0 0 (MQ below (xQ E (some (.int r)) z ω1) args s 0 0 (fun q => E.2.2 ≤ q)) (F0 m 99 ls []) := by
  intro n
  induction n with
  | zero =>
    intro a0 x2 ω H locs ls hw hl hf
    have h2 : (none : Option (Int32 × xS)) = some (r, ω1) := hf
    cases h2
  | succ n ih =>
    intro a0 x2 ω H locs ls hw hl hf
    rw [f_Mo_advance_99] at hf
    refine lv_aload_n S.1 S.2.1 d_Mo_advance_99 rfl (lv_at hl 0 rfl) ?_
    refine lv_iload_n S.1 S.2.1 d_Mo_advance_100 rfl (lv_at hl 1 rfl) ?_
    obtain ⟨t82, h81, hf⟩ := xb hf
    obtain ⟨h81b, h81⟩ := xkb h81
    refine x_callV (As := [.int x2]) (rest := []) (st1 := [.int t82]) S hw (c_Mo_look h81) (cwV 1 S.2.2.2.2 gv_Mo_181 rfl rfl rfl hd_Mo_look ⟨Nat.le_of_ble_eq_true rfl, Nat.le_of_ble_eq_true rfl⟩) rfl h81b rfl hl.1 rfl rfl (Nat.le_of_ble_eq_true rfl) d_Mo_advance_101 ⟨Nat.le_of_ble_eq_true rfl, Nat.le_of_ble_eq_true rfl⟩ (fun H locs hw => ?_)
    obtain ⟨t84, h83, hf⟩ := xb hf
    refine x_callS (As := [.int t82]) (rest := []) (st1 := [.int t84]) S hw (c_Mo_isSmall h83) (cwS 1 S.2.2.2.2 gs_Mo_191 rfl rfl rfl hd_Mo_isSmall ⟨Nat.le_of_ble_eq_true rfl, Nat.le_of_ble_eq_true rfl⟩) rfl hl.1 rfl rfl (Nat.le_of_ble_eq_true rfl) d_Mo_advance_104 ⟨Nat.le_of_ble_eq_true rfl, Nat.le_of_ble_eq_true rfl⟩ (fun H locs hw => ?_)
    refine lv_if_eq (tgt := 134) S.1 S.2.1 d_Mo_advance_107 (by decide) (fun c85 => ?_) (fun c85 => ?_)
    · replace hf := xt c85 hf
      refine lv_iload_n S.1 S.2.1 d_Mo_advance_134 rfl (lv_at hl 1 rfl) ?_
      refine lv_aload_n S.1 S.2.1 d_Mo_advance_135 rfl (lv_at hl 0 rfl) ?_
      obtain ⟨t86, ht86, hf⟩ := xb hf
      refine x_geti S hw lk_Mo_178 ht86 d_Mo_advance_136 ?_
      refine lv_isub S.1 S.2.1 d_Mo_advance_139 ?_
      refine lv_bipush (v := 8) S.1 S.2.1 d_Mo_advance_140 (by decide) ?_
      refine lv_icmp_le (tgt := 319) S.1 S.2.1 d_Mo_advance_142 (by decide) (fun c87 => ?_) (fun c87 => ?_)
      · replace hf := xt c87 hf
        refine lv_aload_n S.1 S.2.1 d_Mo_advance_319 rfl (lv_at hl 0 rfl) ?_
        refine lv_iload_n S.1 S.2.1 d_Mo_advance_320 rfl (lv_at hl 1 rfl) ?_
        obtain ⟨w88, hw88, hf⟩ := xb hf
        refine x_puti S hw lp_Mo_205 hw88 d_Mo_advance_321 (fun H locs hw => ?_)
        refine lv_aload_n S.1 S.2.1 d_Mo_advance_324 rfl (lv_at hl 0 rfl) ?_
        refine lv_iload_n S.1 S.2.1 d_Mo_advance_325 rfl (lv_at hl 1 rfl) ?_
        obtain ⟨w89, hw89, hf⟩ := xb hf
        refine x_puti S hw lp_Mo_178 hw89 d_Mo_advance_326 (fun H locs hw => ?_)
        refine lv_iconst (v := 1) S.1 S.2.1 d_Mo_advance_329 (by decide) ?_
        obtain ⟨rfl, rfl⟩ := xe2 hf
        exact x_zret S hr hlocks hw (by decide) d_Mo_advance_330
      · replace hf := xf c87 hf
        refine lv_aload_n S.1 S.2.1 d_Mo_advance_145 rfl (lv_at hl 0 rfl) ?_
        refine lv_iconst (v := 1) S.1 S.2.1 d_Mo_advance_146 (by decide) ?_
        refine lv_aload_n S.1 S.2.1 d_Mo_advance_147 rfl (lv_at hl 0 rfl) ?_
        obtain ⟨t90, ht90, hf⟩ := xb hf
        refine x_geti S hw lk_Mo_178 ht90 d_Mo_advance_148 ?_
        obtain ⟨t92, w93, h91, hf⟩ := xcb hf
        obtain ⟨h91b, h91⟩ := xkb h91
        refine x_callV (As := [.int 1, .int t90]) (rest := []) (st1 := [.int t92]) S hw (c_Mo_fails h91) (cwV 2 S.2.2.2.2 gv_Mo_198 rfl rfl rfl hd_Mo_fails ⟨Nat.le_of_ble_eq_true rfl, Nat.le_of_ble_eq_true rfl⟩) rfl h91b rfl hl.1 rfl rfl (Nat.le_of_ble_eq_true rfl) d_Mo_advance_151 ⟨Nat.le_of_ble_eq_true rfl, Nat.le_of_ble_eq_true rfl⟩ (fun H locs hw => ?_)
        by_cases cz : t92 = 0 ∨ t92 = 1
        · replace hf := xt cz hf
          obtain ⟨rfl, rfl⟩ := xe2 hf
          exact x_zret S hr hlocks hw (by rcases cz with c | c <;> rw [c] <;> decide) d_Mo_advance_154
        · replace hf := xf cz hf
          cases hf
    · replace hf := xf c85 hf
      refine lv_aload_n S.1 S.2.1 d_Mo_advance_110 rfl (lv_at hl 0 rfl) ?_
      refine lv_aload_n S.1 S.2.1 d_Mo_advance_111 rfl (lv_at hl 0 rfl) ?_
      obtain ⟨t94, ht94, hf⟩ := xb hf
      refine x_getl S hw lk_Mo_194 ht94 d_Mo_advance_112 ?_
      refine lv_bipush (v := 8) S.1 S.2.1 d_Mo_advance_115 (by decide) ?_
      refine lv_lshl (v := (xlshl t94 8)) S.1 S.2.1 d_Mo_advance_117 rfl ?_
      refine lv_aload_n S.1 S.2.1 d_Mo_advance_118 rfl (lv_at hl 0 rfl) ?_
      refine lv_iload_n S.1 S.2.1 d_Mo_advance_119 rfl (lv_at hl 1 rfl) ?_
      obtain ⟨t96, h95, hf⟩ := xb hf
      obtain ⟨h95b, h95⟩ := xkb h95
      refine x_callV (As := [.int x2]) (rest := [.long (xlshl t94 8), .ref a0]) (st1 := [.int t96, .long (xlshl t94 8), .ref a0]) S hw (c_Mo_look h95) (cwV 1 S.2.2.2.2 gv_Mo_181 rfl rfl rfl hd_Mo_look ⟨Nat.le_of_ble_eq_true rfl, Nat.le_of_ble_eq_true rfl⟩) rfl h95b rfl hl.1 rfl rfl (Nat.le_of_ble_eq_true rfl) d_Mo_advance_120 ⟨Nat.le_of_ble_eq_true rfl, Nat.le_of_ble_eq_true rfl⟩ (fun H locs hw => ?_)
      refine lv_i2l (v := (Int32.toInt64 t96)) S.1 S.2.1 d_Mo_advance_123 rfl ?_
      refine lv_lor S.1 S.2.1 d_Mo_advance_124 ?_
      obtain ⟨w97, hw97, hf⟩ := xb hf
      refine x_put S hw lp_Mo_194 (rfl) rfl hw97 d_Mo_advance_125 (fun H locs hw => ?_)
      refine lv_iinc (v := (x2 + 1)) (lv' := [(2, .int (x2 + 1)), (0, .ref a0)]) S.1 S.2.1 d_Mo_advance_128 hl (k := 1) rfl rfl (by decide) rfl (fun ls hl => ?_)
      refine lv_goto (tgt := 99) S.1 S.2.1 d_Mo_advance_131 (by decide) ?_
      exact ih _ _ _ _ _ _ hw (lv_sub hl [1, 0] rfl) hf
def f_Mo_advance_9 : Nat → Nat → xS → Option (Int32 × xS)
  | 0, _, _ => none
  | n + 1, a0, ω =>
    (xgi ω a0 12 34).bind fun t3 =>
    (xk ω a0 12 (f_Mo_look a0 t3 ω)).bind fun t5 =>
    if t5 = 10 then (
      (xgi ω a0 12 34).bind fun t7 =>
      (xp ω a0 12 34 (.int (t7 + 1))).bind fun w8 =>
      f_Mo_advance_9  n a0 w8)
    else (
      (xgi ω a0 12 34).bind fun t9 =>
      (xk ω a0 12 (f_Mo_look a0 t9 ω)).bind fun t11 =>
      if t11 = 32 then (
        (xgi ω a0 12 34).bind fun t42 =>
        (xp ω a0 12 34 (.int (t42 + 1))).bind fun w43 =>
        f_Mo_advance_9  n a0 w43)
      else (
        (xgi ω a0 12 34).bind fun t13 =>
        (xp ω a0 12 36 (.int t13)).bind fun w14 =>
        (xgi w14 a0 12 34).bind fun t15 =>
        (xk w14 a0 12 (f_Mo_look a0 t15 w14)).bind fun t17 =>
        (xgi w14 a0 12 34).bind fun t18 =>
        if 0 ≤ t17 then (
          (f_Mo_isSmall t17 w14).bind fun t21 =>
          if t21 = 0 then (
            (f_Mo_isDigit t17 w14).bind fun t24 =>
            if t24 = 0 then (
              if t17 = 34 then (
                (xp w14 a0 12 35 (.int 3)).bind fun w35 =>
                f_Mo_advance_219  xFU a0 (t18 + 1) w35)
              else (
                if t17 = 59 then (
                  (xp w14 a0 12 35 (.int 4)).bind fun w32 =>
                  (xp w32 a0 12 37 (.int (t18 + 1))).bind fun w33 =>
                  (xp w33 a0 12 34 (.int (t18 + 1))).bind fun w34 =>
                  some (1, w34))
                else (
                  (xgi w14 a0 12 34).bind fun t28 =>
                  xc (xk w14 a0 12 (f_Mo_fails a0 1 t28 w14)) fun t30 w31 =>
                  if t30 = 0 ∨ t30 = 1 then (some (t30, w31)) else none)))
            else (
              (xp w14 a0 12 35 (.int 2)).bind fun w36 =>
              f_Mo_advance_167  xFU a0 t18 w36))
          else (
            (xp w14 a0 12 35 (.int 1)).bind fun w37 =>
            (xp w37 a0 12 38 (.long 0)).bind fun w38 =>
            f_Mo_advance_99  xFU a0 t18 w38))
        else (
          (xp w14 a0 12 35 (.int 0)).bind fun w39 =>
          (xp w39 a0 12 37 (.int t18)).bind fun w40 =>
          (xp w40 a0 12 34 (.int t18)).bind fun w41 =>
          some (1, w41))))
set_option maxHeartbeats 4000000 in
set_option maxRecDepth 100000 in
theorem w_Mo_advance_9 {p : Program} {l : Launch} {e : Env} {s : State} {m : MethodId} {args : Array Value} {below : List Frame} {meth : Method} {c : Code} {E : xV} {z : Nat} {r : Int32} {ω1 : xS} (S : CallFix p m c b_Mo_advance 3 s args xTbl "RosterRulesModel") (hr : meth.sig.returnType = (some .boolean)) (hlocks : meth.locks = false) : ∀ n : Nat, ∀ (a0 : Nat) (ω : xS) (H : Heap) (locs : List Loc) (ls : Array Slot), xW E z ω s s.heap H locs → lv_has ls 3 [(0, .ref a0)] → f_Mo_advance_9 n a0 ω = some (r, ω1) → W p l e (headSpec ws_Mo_advance { frames := 1, cells := 0, slots := 0, locals := 22 }).room s m args below meth c H locs 0 0 (MQ below (xQ E (some (.int r)) z ω1) args s 0 0 (fun q => E.2.2 ≤ q)) (F0 m 9 ls []) := by
  intro n
  induction n with
  | zero =>
    intro a0 ω H locs ls hw hl hf
    have h2 : (none : Option (Int32 × xS)) = some (r, ω1) := hf
    cases h2
  | succ n ih =>
    intro a0 ω H locs ls hw hl hf
    rw [f_Mo_advance_9] at hf
    refine lv_aload_n S.1 S.2.1 d_Mo_advance_9 rfl (lv_at hl 0 rfl) ?_
    refine lv_aload_n S.1 S.2.1 d_Mo_advance_10 rfl (lv_at hl 0 rfl) ?_
    obtain ⟨t3, ht3, hf⟩ := xb hf
    refine x_geti S hw lk_Mo_178 ht3 d_Mo_advance_11 ?_
    obtain ⟨t5, h4, hf⟩ := xb hf
    obtain ⟨h4b, h4⟩ := xkb h4
    refine x_callV (As := [.int t3]) (rest := []) (st1 := [.int t5]) S hw (c_Mo_look h4) (cwV 1 S.2.2.2.2 gv_Mo_181 rfl rfl rfl hd_Mo_look ⟨Nat.le_of_ble_eq_true rfl, Nat.le_of_ble_eq_true rfl⟩) rfl h4b rfl hl.1 rfl rfl (Nat.le_of_ble_eq_true rfl) d_Mo_advance_14 ⟨Nat.le_of_ble_eq_true rfl, Nat.le_of_ble_eq_true rfl⟩ (fun H locs hw => ?_)
    refine lv_bipush (v := 10) S.1 S.2.1 d_Mo_advance_17 (by decide) ?_
    refine lv_icmp_eq (tgt := 35) S.1 S.2.1 d_Mo_advance_19 (by decide) (fun c6 => ?_) (fun c6 => ?_)
    · replace hf := xt c6 hf
      refine lv_aload_n S.1 S.2.1 d_Mo_advance_35 rfl (lv_at hl 0 rfl) ?_
      refine lv_dup S.1 S.2.1 d_Mo_advance_36 rfl ?_
      obtain ⟨t7, ht7, hf⟩ := xb hf
      refine x_geti S hw lk_Mo_178 ht7 d_Mo_advance_37 ?_
      refine lv_iconst (v := 1) S.1 S.2.1 d_Mo_advance_40 (by decide) ?_
      refine lv_iadd S.1 S.2.1 d_Mo_advance_41 ?_
      obtain ⟨w8, hw8, hf⟩ := xb hf
      refine x_puti S hw lp_Mo_178 hw8 d_Mo_advance_42 (fun H locs hw => ?_)
      refine lv_goto (tgt := 9) S.1 S.2.1 d_Mo_advance_45 (by decide) ?_
      exact ih _ _ _ _ _ hw (lv_sub hl [0] rfl) hf
    · replace hf := xf c6 hf
      refine lv_aload_n S.1 S.2.1 d_Mo_advance_22 rfl (lv_at hl 0 rfl) ?_
      refine lv_aload_n S.1 S.2.1 d_Mo_advance_23 rfl (lv_at hl 0 rfl) ?_
      obtain ⟨t9, ht9, hf⟩ := xb hf
      refine x_geti S hw lk_Mo_178 ht9 d_Mo_advance_24 ?_
      obtain ⟨t11, h10, hf⟩ := xb hf
      obtain ⟨h10b, h10⟩ := xkb h10
      refine x_callV (As := [.int t9]) (rest := []) (st1 := [.int t11]) S hw (c_Mo_look h10) (cwV 1 S.2.2.2.2 gv_Mo_181 rfl rfl rfl hd_Mo_look ⟨Nat.le_of_ble_eq_true rfl, Nat.le_of_ble_eq_true rfl⟩) rfl h10b rfl hl.1 rfl rfl (Nat.le_of_ble_eq_true rfl) d_Mo_advance_27 ⟨Nat.le_of_ble_eq_true rfl, Nat.le_of_ble_eq_true rfl⟩ (fun H locs hw => ?_)
      refine lv_bipush (v := 32) S.1 S.2.1 d_Mo_advance_30 (by decide) ?_
      refine lv_icmp_ne (tgt := 48) S.1 S.2.1 d_Mo_advance_32 (by decide) (fun c12 => ?_) (fun c12 => ?_)
      · replace hf := xf c12 hf
        refine lv_aload_n S.1 S.2.1 d_Mo_advance_48 rfl (lv_at hl 0 rfl) ?_
        refine lv_aload_n S.1 S.2.1 d_Mo_advance_49 rfl (lv_at hl 0 rfl) ?_
        obtain ⟨t13, ht13, hf⟩ := xb hf
        refine x_geti S hw lk_Mo_178 ht13 d_Mo_advance_50 ?_
        obtain ⟨w14, hw14, hf⟩ := xb hf
        refine x_puti S hw lp_Mo_185 hw14 d_Mo_advance_53 (fun H locs hw => ?_)
        refine lv_aload_n S.1 S.2.1 d_Mo_advance_56 rfl (lv_at hl 0 rfl) ?_
        refine lv_aload_n S.1 S.2.1 d_Mo_advance_57 rfl (lv_at hl 0 rfl) ?_
        obtain ⟨t15, ht15, hf⟩ := xb hf
        refine x_geti S hw lk_Mo_178 ht15 d_Mo_advance_58 ?_
        obtain ⟨t17, h16, hf⟩ := xb hf
        obtain ⟨h16b, h16⟩ := xkb h16
        refine x_callV (As := [.int t15]) (rest := []) (st1 := [.int t17]) S hw (c_Mo_look h16) (cwV 1 S.2.2.2.2 gv_Mo_181 rfl rfl rfl hd_Mo_look ⟨Nat.le_of_ble_eq_true rfl, Nat.le_of_ble_eq_true rfl⟩) rfl h16b rfl hl.1 rfl rfl (Nat.le_of_ble_eq_true rfl) d_Mo_advance_61 ⟨Nat.le_of_ble_eq_true rfl, Nat.le_of_ble_eq_true rfl⟩ (fun H locs hw => ?_)
        refine lv_istore_n (lv' := [(1, .int t17), (0, .ref a0)]) S.1 S.2.1 d_Mo_advance_64 rfl hl (by decide) rfl (fun ls hl => ?_)
        refine lv_aload_n S.1 S.2.1 d_Mo_advance_65 rfl (lv_at hl 1 rfl) ?_
        obtain ⟨t18, ht18, hf⟩ := xb hf
        refine x_geti S hw lk_Mo_178 ht18 d_Mo_advance_66 ?_
        refine lv_istore_n (lv' := [(2, .int t18), (1, .int t17), (0, .ref a0)]) S.1 S.2.1 d_Mo_advance_69 rfl hl (by decide) rfl (fun ls hl => ?_)
        refine lv_iload_n S.1 S.2.1 d_Mo_advance_70 rfl (lv_at hl 1 rfl) ?_
        refine lv_if_ge (tgt := 82) S.1 S.2.1 d_Mo_advance_71 (by decide) (fun c19 => ?_) (fun c19 => ?_)
        · replace hf := xt c19 hf
          refine lv_iload_n S.1 S.2.1 d_Mo_advance_82 rfl (lv_at hl 1 rfl) ?_
          obtain ⟨t21, h20, hf⟩ := xb hf
          refine x_callS (As := [.int t17]) (rest := []) (st1 := [.int t21]) S hw (c_Mo_isSmall h20) (cwS 1 S.2.2.2.2 gs_Mo_191 rfl rfl rfl hd_Mo_isSmall ⟨Nat.le_of_ble_eq_true rfl, Nat.le_of_ble_eq_true rfl⟩) rfl hl.1 rfl rfl (Nat.le_of_ble_eq_true rfl) d_Mo_advance_83 ⟨Nat.le_of_ble_eq_true rfl, Nat.le_of_ble_eq_true rfl⟩ (fun H locs hw => ?_)
          refine lv_if_eq (tgt := 155) S.1 S.2.1 d_Mo_advance_86 (by decide) (fun c22 => ?_) (fun c22 => ?_)
          · replace hf := xt c22 hf
            refine lv_iload_n S.1 S.2.1 d_Mo_advance_155 rfl (lv_at hl 1 rfl) ?_
            obtain ⟨t24, h23, hf⟩ := xb hf
            refine x_callS (As := [.int t17]) (rest := []) (st1 := [.int t24]) S hw (c_Mo_isDigit h23) (cwS 1 S.2.2.2.2 gs_Mo_202 rfl rfl rfl hd_Mo_isDigit ⟨Nat.le_of_ble_eq_true rfl, Nat.le_of_ble_eq_true rfl⟩) rfl hl.1 rfl rfl (Nat.le_of_ble_eq_true rfl) d_Mo_advance_156 ⟨Nat.le_of_ble_eq_true rfl, Nat.le_of_ble_eq_true rfl⟩ (fun H locs hw => ?_)
            refine lv_if_eq (tgt := 205) S.1 S.2.1 d_Mo_advance_159 (by decide) (fun c25 => ?_) (fun c25 => ?_)
            · replace hf := xt c25 hf
              refine lv_iload_n S.1 S.2.1 d_Mo_advance_205 rfl (lv_at hl 1 rfl) ?_
              refine lv_bipush (v := 34) S.1 S.2.1 d_Mo_advance_206 (by decide) ?_
              refine lv_icmp_ne (tgt := 292) S.1 S.2.1 d_Mo_advance_208 (by decide) (fun c26 => ?_) (fun c26 => ?_)
              · replace hf := xf c26 hf
                refine lv_iload_n S.1 S.2.1 d_Mo_advance_292 rfl (lv_at hl 1 rfl) ?_
                refine lv_bipush (v := 59) S.1 S.2.1 d_Mo_advance_293 (by decide) ?_
                refine lv_icmp_ne (tgt := 309) S.1 S.2.1 d_Mo_advance_295 (by decide) (fun c27 => ?_) (fun c27 => ?_)
                · replace hf := xf c27 hf
                  refine lv_aload_n S.1 S.2.1 d_Mo_advance_309 rfl (lv_at hl 2 rfl) ?_
                  refine lv_iconst (v := 1) S.1 S.2.1 d_Mo_advance_310 (by decide) ?_
                  refine lv_aload_n S.1 S.2.1 d_Mo_advance_311 rfl (lv_at hl 2 rfl) ?_
                  obtain ⟨t28, ht28, hf⟩ := xb hf
                  refine x_geti S hw lk_Mo_178 ht28 d_Mo_advance_312 ?_
                  obtain ⟨t30, w31, h29, hf⟩ := xcb hf
                  obtain ⟨h29b, h29⟩ := xkb h29
                  refine x_callV (As := [.int 1, .int t28]) (rest := []) (st1 := [.int t30]) S hw (c_Mo_fails h29) (cwV 2 S.2.2.2.2 gv_Mo_198 rfl rfl rfl hd_Mo_fails ⟨Nat.le_of_ble_eq_true rfl, Nat.le_of_ble_eq_true rfl⟩) rfl h29b rfl hl.1 rfl rfl (Nat.le_of_ble_eq_true rfl) d_Mo_advance_315 ⟨Nat.le_of_ble_eq_true rfl, Nat.le_of_ble_eq_true rfl⟩ (fun H locs hw => ?_)
                  by_cases cz : t30 = 0 ∨ t30 = 1
                  · replace hf := xt cz hf
                    obtain ⟨rfl, rfl⟩ := xe2 hf
                    exact x_zret S hr hlocks hw (by rcases cz with c | c <;> rw [c] <;> decide) d_Mo_advance_318
                  · replace hf := xf cz hf
                    cases hf
                · replace hf := xt c27 hf
                  refine lv_aload_n S.1 S.2.1 d_Mo_advance_298 rfl (lv_at hl 2 rfl) ?_
                  refine lv_iconst (v := 4) S.1 S.2.1 d_Mo_advance_299 (by decide) ?_
                  obtain ⟨w32, hw32, hf⟩ := xb hf
                  refine x_puti S hw lp_Mo_188 hw32 d_Mo_advance_300 (fun H locs hw => ?_)
                  refine lv_iinc (v := (t18 + 1)) (lv' := [(2, .int (t18 + 1)), (1, .int t17), (0, .ref a0)]) S.1 S.2.1 d_Mo_advance_303 hl (k := 0) rfl rfl (by decide) rfl (fun ls hl => ?_)
                  refine lv_goto (tgt := 319) S.1 S.2.1 d_Mo_advance_306 (by decide) ?_
                  refine lv_aload_n S.1 S.2.1 d_Mo_advance_319 rfl (lv_at hl 2 rfl) ?_
                  refine lv_iload_n S.1 S.2.1 d_Mo_advance_320 rfl (lv_at hl 0 rfl) ?_
                  obtain ⟨w33, hw33, hf⟩ := xb hf
                  refine x_puti S hw lp_Mo_205 hw33 d_Mo_advance_321 (fun H locs hw => ?_)
                  refine lv_aload_n S.1 S.2.1 d_Mo_advance_324 rfl (lv_at hl 2 rfl) ?_
                  refine lv_iload_n S.1 S.2.1 d_Mo_advance_325 rfl (lv_at hl 0 rfl) ?_
                  obtain ⟨w34, hw34, hf⟩ := xb hf
                  refine x_puti S hw lp_Mo_178 hw34 d_Mo_advance_326 (fun H locs hw => ?_)
                  refine lv_iconst (v := 1) S.1 S.2.1 d_Mo_advance_329 (by decide) ?_
                  obtain ⟨rfl, rfl⟩ := xe2 hf
                  exact x_zret S hr hlocks hw (by decide) d_Mo_advance_330
              · replace hf := xt c26 hf
                refine lv_aload_n S.1 S.2.1 d_Mo_advance_211 rfl (lv_at hl 2 rfl) ?_
                refine lv_iconst (v := 3) S.1 S.2.1 d_Mo_advance_212 (by decide) ?_
                obtain ⟨w35, hw35, hf⟩ := xb hf
                refine x_puti S hw lp_Mo_188 hw35 d_Mo_advance_213 (fun H locs hw => ?_)
                refine lv_iinc (v := (t18 + 1)) (lv' := [(2, .int (t18 + 1)), (1, .int t17), (0, .ref a0)]) S.1 S.2.1 d_Mo_advance_216 hl (k := 0) rfl rfl (by decide) rfl (fun ls hl => ?_)
                exact w_Mo_advance_219 S hr hlocks  _ _ _ _ _ _ _ hw (lv_sub hl [2, 0] rfl) hf
            · replace hf := xf c25 hf
              refine lv_aload_n S.1 S.2.1 d_Mo_advance_162 rfl (lv_at hl 2 rfl) ?_
              refine lv_iconst (v := 2) S.1 S.2.1 d_Mo_advance_163 (by decide) ?_
              obtain ⟨w36, hw36, hf⟩ := xb hf
              refine x_puti S hw lp_Mo_188 hw36 d_Mo_advance_164 (fun H locs hw => ?_)
              exact w_Mo_advance_167 S hr hlocks  _ _ _ _ _ _ _ hw (lv_sub hl [2, 0] rfl) hf
          · replace hf := xf c22 hf
            refine lv_aload_n S.1 S.2.1 d_Mo_advance_89 rfl (lv_at hl 2 rfl) ?_
            refine lv_iconst (v := 1) S.1 S.2.1 d_Mo_advance_90 (by decide) ?_
            obtain ⟨w37, hw37, hf⟩ := xb hf
            refine x_puti S hw lp_Mo_188 hw37 d_Mo_advance_91 (fun H locs hw => ?_)
            refine lv_aload_n S.1 S.2.1 d_Mo_advance_94 rfl (lv_at hl 2 rfl) ?_
            refine lv_lconst (v := 0) S.1 S.2.1 d_Mo_advance_95 (by decide) ?_
            obtain ⟨w38, hw38, hf⟩ := xb hf
            refine x_put S hw lp_Mo_194 (rfl) rfl hw38 d_Mo_advance_96 (fun H locs hw => ?_)
            exact w_Mo_advance_99 S hr hlocks  _ _ _ _ _ _ _ hw (lv_sub hl [2, 0] rfl) hf
        · replace hf := xf c19 hf
          refine lv_aload_n S.1 S.2.1 d_Mo_advance_74 rfl (lv_at hl 2 rfl) ?_
          refine lv_iconst (v := 0) S.1 S.2.1 d_Mo_advance_75 (by decide) ?_
          obtain ⟨w39, hw39, hf⟩ := xb hf
          refine x_puti S hw lp_Mo_188 hw39 d_Mo_advance_76 (fun H locs hw => ?_)
          refine lv_goto (tgt := 319) S.1 S.2.1 d_Mo_advance_79 (by decide) ?_
          refine lv_aload_n S.1 S.2.1 d_Mo_advance_319 rfl (lv_at hl 2 rfl) ?_
          refine lv_iload_n S.1 S.2.1 d_Mo_advance_320 rfl (lv_at hl 0 rfl) ?_
          obtain ⟨w40, hw40, hf⟩ := xb hf
          refine x_puti S hw lp_Mo_205 hw40 d_Mo_advance_321 (fun H locs hw => ?_)
          refine lv_aload_n S.1 S.2.1 d_Mo_advance_324 rfl (lv_at hl 2 rfl) ?_
          refine lv_iload_n S.1 S.2.1 d_Mo_advance_325 rfl (lv_at hl 0 rfl) ?_
          obtain ⟨w41, hw41, hf⟩ := xb hf
          refine x_puti S hw lp_Mo_178 hw41 d_Mo_advance_326 (fun H locs hw => ?_)
          refine lv_iconst (v := 1) S.1 S.2.1 d_Mo_advance_329 (by decide) ?_
          obtain ⟨rfl, rfl⟩ := xe2 hf
          exact x_zret S hr hlocks hw (by decide) d_Mo_advance_330
      · replace hf := xt c12 hf
        refine lv_aload_n S.1 S.2.1 d_Mo_advance_35 rfl (lv_at hl 0 rfl) ?_
        refine lv_dup S.1 S.2.1 d_Mo_advance_36 rfl ?_
        obtain ⟨t42, ht42, hf⟩ := xb hf
        refine x_geti S hw lk_Mo_178 ht42 d_Mo_advance_37 ?_
        refine lv_iconst (v := 1) S.1 S.2.1 d_Mo_advance_40 (by decide) ?_
        refine lv_iadd S.1 S.2.1 d_Mo_advance_41 ?_
        obtain ⟨w43, hw43, hf⟩ := xb hf
        refine x_puti S hw lp_Mo_178 hw43 d_Mo_advance_42 (fun H locs hw => ?_)
        refine lv_goto (tgt := 9) S.1 S.2.1 d_Mo_advance_45 (by decide) ?_
        exact ih _ _ _ _ _ hw (lv_sub hl [0] rfl) hf
def f_Mo_advance (a0 : Nat) (ω : xS) : Option (Int32 × xS) :=
  (xgi ω a0 12 39).bind fun t1 =>
  if t1 = 0 then (
    f_Mo_advance_9  xFU a0 ω)
  else (
    some (0, ω))
set_option maxHeartbeats 4000000 in
set_option maxRecDepth 100000 in
theorem c_Mo_advance {l : Launch} {E : xV} {z : Nat} {a0 : Nat} {r : Int32} {ω1 : xS} {ω : xS} (hf : f_Mo_advance a0 ω = some (r, ω1)) : xM l E y_Mo_advance ws_Mo_advance { frames := 1, cells := 0, slots := 0, locals := 22 } [.ref a0] z ω (some (.int r)) z ω1 := by
  refine x_start (cc := b_Mo_advance) (maxL := 3) (ret := (some .boolean)) (by decide) rfl (Nat.le_of_ble_eq_true rfl) ?_
  intro p e s m below meth c S hr hlocks hin ls hl hw
  have hl : lv_has ls 3 [(0, .ref a0)] := hl
  unfold f_Mo_advance at hf
  refine lv_aload_n S.1 S.2.1 d_Mo_advance_0 rfl (lv_at hl 0 rfl) ?_
  obtain ⟨t1, ht1, hf⟩ := xb hf
  refine x_geti S hw lk_Mo_172 ht1 d_Mo_advance_1 ?_
  refine lv_if_eq (tgt := 9) S.1 S.2.1 d_Mo_advance_4 (by decide) (fun c2 => ?_) (fun c2 => ?_)
  · replace hf := xt c2 hf
    exact w_Mo_advance_9 S hr hlocks  _ _ _ _ _ _ hw (lv_sub hl [0] rfl) hf
  · replace hf := xf c2 hf
    refine lv_iconst (v := 0) S.1 S.2.1 d_Mo_advance_7 (by decide) ?_
    obtain ⟨rfl, rfl⟩ := xe2 hf
    exact x_zret S hr hlocks hw (by decide) d_Mo_advance_8
def f_Mo_number_37 : Nat → Nat → Int32 → Int32 → Int32 → Int32 → xS → Option (Int32 × xS)
  | 0, _, _, _, _, _, _ => none
  | n + 1, a0, x1, x2, x3, x4, ω =>
    (xgi ω a0 12 37).bind fun t12 =>
    if t12 ≤ x4 then (
      if x3 < x1 then (
        (xgi ω a0 12 36).bind fun t15 =>
        xc (xk ω a0 12 (f_Mo_fails a0 4 t15 ω)) fun t17 w18 =>
        some ((-1), w18))
      else (
        if x3 ≤ x2 then (
          some (x3, ω))
        else (
          (xgi ω a0 12 36).bind fun t20 =>
          xc (xk ω a0 12 (f_Mo_fails a0 4 t20 ω)) fun t22 w23 =>
          some ((-1), w23))))
    else (
      (xk ω a0 12 (f_Mo_look a0 x4 ω)).bind fun t25 =>
      f_Mo_number_37  n a0 x1 x2 (((x3 * 10) + t25) - 48) (x4 + 1) ω)
set_option maxHeartbeats 4000000 in
set_option maxRecDepth 100000 in
theorem w_Mo_number_37 {p : Program} {l : Launch} {e : Env} {s : State} {m : MethodId} {args : Array Value} {below : List Frame} {meth : Method} {c : Code} {E : xV} {z : Nat} {r : Int32} {ω1 : xS} (S : CallFix p m c b_Mo_number 5 s args xTbl "RosterRulesModel") (hr : meth.sig.returnType = (some .int)) (hlocks : meth.locks = false) : ∀ n : Nat, ∀ (a0 : Nat) (x1 : Int32) (x2 : Int32) (x3 : Int32) (x4 : Int32) (ω : xS) (H : Heap) (locs : List Loc) (ls : Array Slot), xW E z ω s s.heap H locs → lv_has ls 5 [(0, .ref a0), (1, .int x1), (2, .int x2), (3, .int x3), (4, .int x4)] → f_Mo_number_37 n a0 x1 x2 x3 x4 ω = some (r, ω1) → W p l e (headSpec ws_Mo_number { frames := 2, cells := 0, slots := 0, locals := 44 }).room s m args below meth c H locs 0 0 (MQ below (xQ E (some (.int r)) z ω1) args s 0 0 (fun q => E.2.2 ≤ q)) (F0 m 37 ls []) := by
  intro n
  induction n with
  | zero =>
    intro a0 x1 x2 x3 x4 ω H locs ls hw hl hf
    have h2 : (none : Option (Int32 × xS)) = some (r, ω1) := hf
    cases h2
  | succ n ih =>
    intro a0 x1 x2 x3 x4 ω H locs ls hw hl hf
    rw [f_Mo_number_37] at hf
    refine lv_iload S.1 S.2.1 d_Mo_number_37 (lv_at hl 4 rfl) ?_
    refine lv_aload_n S.1 S.2.1 d_Mo_number_39 rfl (lv_at hl 0 rfl) ?_
    obtain ⟨t12, ht12, hf⟩ := xb hf
    refine x_geti S hw lk_Mo_205 ht12 d_Mo_number_40 ?_
    refine lv_icmp_ge (tgt := 67) S.1 S.2.1 d_Mo_number_43 (by decide) (fun c13 => ?_) (fun c13 => ?_)
    · replace hf := xt c13 hf
      refine lv_iload_n S.1 S.2.1 d_Mo_number_67 rfl (lv_at hl 3 rfl) ?_
      refine lv_iload_n S.1 S.2.1 d_Mo_number_68 rfl (lv_at hl 1 rfl) ?_
      refine lv_icmp_lt (tgt := 77) S.1 S.2.1 d_Mo_number_69 (by decide) (fun c14 => ?_) (fun c14 => ?_)
      · replace hf := xt c14 hf
        refine lv_aload_n S.1 S.2.1 d_Mo_number_77 rfl (lv_at hl 0 rfl) ?_
        refine lv_iconst (v := 4) S.1 S.2.1 d_Mo_number_78 (by decide) ?_
        refine lv_aload_n S.1 S.2.1 d_Mo_number_79 rfl (lv_at hl 0 rfl) ?_
        obtain ⟨t15, ht15, hf⟩ := xb hf
        refine x_geti S hw lk_Mo_185 ht15 d_Mo_number_80 ?_
        obtain ⟨t17, w18, h16, hf⟩ := xcb hf
        obtain ⟨h16b, h16⟩ := xkb h16
        refine x_callV (As := [.int 4, .int t15]) (rest := []) (st1 := [.int t17]) S hw (c_Mo_fails h16) (cwV 2 S.2.2.2.2 gv_Mo_198 rfl rfl rfl hd_Mo_fails ⟨Nat.le_of_ble_eq_true rfl, Nat.le_of_ble_eq_true rfl⟩) rfl h16b rfl hl.1 rfl rfl (Nat.le_of_ble_eq_true rfl) d_Mo_number_83 ⟨Nat.le_of_ble_eq_true rfl, Nat.le_of_ble_eq_true rfl⟩ (fun H locs hw => ?_)
        refine lv_pop S.1 S.2.1 d_Mo_number_86 rfl ?_
        refine lv_iconst (v := (-1)) S.1 S.2.1 d_Mo_number_87 (by decide) ?_
        obtain ⟨rfl, rfl⟩ := xe2 hf
        exact x_iret S hr hlocks hw d_Mo_number_88
      · replace hf := xf c14 hf
        refine lv_iload_n S.1 S.2.1 d_Mo_number_72 rfl (lv_at hl 3 rfl) ?_
        refine lv_iload_n S.1 S.2.1 d_Mo_number_73 rfl (lv_at hl 2 rfl) ?_
        refine lv_icmp_le (tgt := 89) S.1 S.2.1 d_Mo_number_74 (by decide) (fun c19 => ?_) (fun c19 => ?_)
        · replace hf := xt c19 hf
          refine lv_iload_n S.1 S.2.1 d_Mo_number_89 rfl (lv_at hl 3 rfl) ?_
          obtain ⟨rfl, rfl⟩ := xe2 hf
          exact x_iret S hr hlocks hw d_Mo_number_90
        · replace hf := xf c19 hf
          refine lv_aload_n S.1 S.2.1 d_Mo_number_77 rfl (lv_at hl 0 rfl) ?_
          refine lv_iconst (v := 4) S.1 S.2.1 d_Mo_number_78 (by decide) ?_
          refine lv_aload_n S.1 S.2.1 d_Mo_number_79 rfl (lv_at hl 0 rfl) ?_
          obtain ⟨t20, ht20, hf⟩ := xb hf
          refine x_geti S hw lk_Mo_185 ht20 d_Mo_number_80 ?_
          obtain ⟨t22, w23, h21, hf⟩ := xcb hf
          obtain ⟨h21b, h21⟩ := xkb h21
          refine x_callV (As := [.int 4, .int t20]) (rest := []) (st1 := [.int t22]) S hw (c_Mo_fails h21) (cwV 2 S.2.2.2.2 gv_Mo_198 rfl rfl rfl hd_Mo_fails ⟨Nat.le_of_ble_eq_true rfl, Nat.le_of_ble_eq_true rfl⟩) rfl h21b rfl hl.1 rfl rfl (Nat.le_of_ble_eq_true rfl) d_Mo_number_83 ⟨Nat.le_of_ble_eq_true rfl, Nat.le_of_ble_eq_true rfl⟩ (fun H locs hw => ?_)
          refine lv_pop S.1 S.2.1 d_Mo_number_86 rfl ?_
          refine lv_iconst (v := (-1)) S.1 S.2.1 d_Mo_number_87 (by decide) ?_
          obtain ⟨rfl, rfl⟩ := xe2 hf
          exact x_iret S hr hlocks hw d_Mo_number_88
    · replace hf := xf c13 hf
      refine lv_iload_n S.1 S.2.1 d_Mo_number_46 rfl (lv_at hl 3 rfl) ?_
      refine lv_bipush (v := 10) S.1 S.2.1 d_Mo_number_47 (by decide) ?_
      refine lv_imul S.1 S.2.1 d_Mo_number_49 ?_
      refine lv_aload_n S.1 S.2.1 d_Mo_number_50 rfl (lv_at hl 0 rfl) ?_
      refine lv_iload S.1 S.2.1 d_Mo_number_51 (lv_at hl 4 rfl) ?_
      obtain ⟨t25, h24, hf⟩ := xb hf
      obtain ⟨h24b, h24⟩ := xkb h24
      refine x_callV (As := [.int x4]) (rest := [.int (x3 * 10)]) (st1 := [.int t25, .int (x3 * 10)]) S hw (c_Mo_look h24) (cwV 1 S.2.2.2.2 gv_Mo_181 rfl rfl rfl hd_Mo_look ⟨Nat.le_of_ble_eq_true rfl, Nat.le_of_ble_eq_true rfl⟩) rfl h24b rfl hl.1 rfl rfl (Nat.le_of_ble_eq_true rfl) d_Mo_number_53 ⟨Nat.le_of_ble_eq_true rfl, Nat.le_of_ble_eq_true rfl⟩ (fun H locs hw => ?_)
      refine lv_iadd S.1 S.2.1 d_Mo_number_56 ?_
      refine lv_bipush (v := 48) S.1 S.2.1 d_Mo_number_57 (by decide) ?_
      refine lv_isub S.1 S.2.1 d_Mo_number_59 ?_
      refine lv_istore_n (lv' := [(3, .int (((x3 * 10) + t25) - 48)), (0, .ref a0), (1, .int x1), (2, .int x2), (4, .int x4)]) S.1 S.2.1 d_Mo_number_60 rfl hl (by decide) rfl (fun ls hl => ?_)
      refine lv_iinc (v := (x4 + 1)) (lv' := [(4, .int (x4 + 1)), (3, .int (((x3 * 10) + t25) - 48)), (0, .ref a0), (1, .int x1), (2, .int x2)]) S.1 S.2.1 d_Mo_number_61 hl (k := 4) rfl rfl (by decide) rfl (fun ls hl => ?_)
      refine lv_goto (tgt := 37) S.1 S.2.1 d_Mo_number_64 (by decide) ?_
      exact ih _ _ _ _ _ _ _ _ _ hw (lv_sub hl [2, 3, 4, 1, 0] rfl) hf
def f_Mo_number (a0 : Nat) (x1 : Int32) (x2 : Int32) (ω : xS) : Option (Int32 × xS) :=
  xc (xk ω a0 12 (f_Mo_advance a0  ω)) fun t2 w3 =>
  if t2 = 0 then (
    some ((-1), w3))
  else (
    (xgi w3 a0 12 35).bind fun t5 =>
    if t5 = 2 then (
      (xgi w3 a0 12 36).bind fun t7 =>
      f_Mo_number_37  xFU a0 x1 x2 0 t7 w3)
    else (
      (xgi w3 a0 12 36).bind fun t8 =>
      xc (xk w3 a0 12 (f_Mo_fails a0 2 t8 w3)) fun t10 w11 =>
      some ((-1), w11)))
set_option maxHeartbeats 4000000 in
set_option maxRecDepth 100000 in
theorem c_Mo_number {l : Launch} {E : xV} {z : Nat} {a0 : Nat} {x1 : Int32} {x2 : Int32} {r : Int32} {ω1 : xS} {ω : xS} (hf : f_Mo_number a0 x1 x2 ω = some (r, ω1)) : xM l E y_Mo_number ws_Mo_number { frames := 2, cells := 0, slots := 0, locals := 44 } [.ref a0, .int x1, .int x2] z ω (some (.int r)) z ω1 := by
  refine x_start (cc := b_Mo_number) (maxL := 5) (ret := (some .int)) (by decide) rfl (Nat.le_of_ble_eq_true rfl) ?_
  intro p e s m below meth c S hr hlocks hin ls hl hw
  have hl : lv_has ls 5 [(0, .ref a0), (1, .int x1), (2, .int x2)] := hl
  unfold f_Mo_number at hf
  refine lv_aload_n S.1 S.2.1 d_Mo_number_0 rfl (lv_at hl 0 rfl) ?_
  obtain ⟨t2, w3, h1, hf⟩ := xcb hf
  obtain ⟨h1b, h1⟩ := xkb h1
  refine x_callV (As := []) (rest := []) (st1 := [.int t2]) S hw (c_Mo_advance h1) (cwV 0 S.2.2.2.2 gv_Mo_208 rfl rfl rfl hd_Mo_advance ⟨Nat.le_of_ble_eq_true rfl, Nat.le_of_ble_eq_true rfl⟩) rfl h1b rfl hl.1 rfl rfl (Nat.le_of_ble_eq_true rfl) d_Mo_number_1 ⟨Nat.le_of_ble_eq_true rfl, Nat.le_of_ble_eq_true rfl⟩ (fun H locs hw => ?_)
  refine lv_if_ne (tgt := 9) S.1 S.2.1 d_Mo_number_4 (by decide) (fun c4 => ?_) (fun c4 => ?_)
  · replace hf := xf c4 hf
    refine lv_aload_n S.1 S.2.1 d_Mo_number_9 rfl (lv_at hl 0 rfl) ?_
    obtain ⟨t5, ht5, hf⟩ := xb hf
    refine x_geti S hw lk_Mo_188 ht5 d_Mo_number_10 ?_
    refine lv_iconst (v := 2) S.1 S.2.1 d_Mo_number_13 (by decide) ?_
    refine lv_icmp_eq (tgt := 29) S.1 S.2.1 d_Mo_number_14 (by decide) (fun c6 => ?_) (fun c6 => ?_)
    · replace hf := xt c6 hf
      refine lv_iconst (v := 0) S.1 S.2.1 d_Mo_number_29 (by decide) ?_
      refine lv_istore_n (lv' := [(3, .int 0), (0, .ref a0), (1, .int x1), (2, .int x2)]) S.1 S.2.1 d_Mo_number_30 rfl hl (by decide) rfl (fun ls hl => ?_)
      refine lv_aload_n S.1 S.2.1 d_Mo_number_31 rfl (lv_at hl 1 rfl) ?_
      obtain ⟨t7, ht7, hf⟩ := xb hf
      refine x_geti S hw lk_Mo_185 ht7 d_Mo_number_32 ?_
      refine lv_istore (lv' := [(4, .int t7), (3, .int 0), (0, .ref a0), (1, .int x1), (2, .int x2)]) S.1 S.2.1 d_Mo_number_35 hl (by decide) rfl (fun ls hl => ?_)
      exact w_Mo_number_37 S hr hlocks  _ _ _ _ _ _ _ _ _ _ hw (lv_sub hl [2, 3, 4, 1, 0] rfl) hf
    · replace hf := xf c6 hf
      refine lv_aload_n S.1 S.2.1 d_Mo_number_17 rfl (lv_at hl 0 rfl) ?_
      refine lv_iconst (v := 2) S.1 S.2.1 d_Mo_number_18 (by decide) ?_
      refine lv_aload_n S.1 S.2.1 d_Mo_number_19 rfl (lv_at hl 0 rfl) ?_
      obtain ⟨t8, ht8, hf⟩ := xb hf
      refine x_geti S hw lk_Mo_185 ht8 d_Mo_number_20 ?_
      obtain ⟨t10, w11, h9, hf⟩ := xcb hf
      obtain ⟨h9b, h9⟩ := xkb h9
      refine x_callV (As := [.int 2, .int t8]) (rest := []) (st1 := [.int t10]) S hw (c_Mo_fails h9) (cwV 2 S.2.2.2.2 gv_Mo_198 rfl rfl rfl hd_Mo_fails ⟨Nat.le_of_ble_eq_true rfl, Nat.le_of_ble_eq_true rfl⟩) rfl h9b rfl hl.1 rfl rfl (Nat.le_of_ble_eq_true rfl) d_Mo_number_23 ⟨Nat.le_of_ble_eq_true rfl, Nat.le_of_ble_eq_true rfl⟩ (fun H locs hw => ?_)
      refine lv_pop S.1 S.2.1 d_Mo_number_26 rfl ?_
      refine lv_iconst (v := (-1)) S.1 S.2.1 d_Mo_number_27 (by decide) ?_
      obtain ⟨rfl, rfl⟩ := xe2 hf
      exact x_iret S hr hlocks hw d_Mo_number_28
  · replace hf := xt c4 hf
    refine lv_iconst (v := (-1)) S.1 S.2.1 d_Mo_number_7 (by decide) ?_
    obtain ⟨rfl, rfl⟩ := xe2 hf
    exact x_iret S hr hlocks hw d_Mo_number_8
def f_Mo_open (a0 : Nat) (x1 : Int32) (ω : xS) : Option xS :=
  (xgr ω a0 12 45).bind fun t1 =>
  (xsi ω t1 x1 0).bind fun w2 =>
  (xgr w2 a0 12 46).bind fun t3 =>
  (xsi w2 t3 x1 0).bind fun w4 =>
  (xgr w4 a0 12 47).bind fun t5 =>
  (xsi w4 t5 x1 0).bind fun w6 =>
  (xgr w6 a0 12 48).bind fun t7 =>
  (xsz w6 t7 x1 0).bind fun w8 =>
  some w8
set_option maxHeartbeats 4000000 in
set_option maxRecDepth 100000 in
theorem c_Mo_open {l : Launch} {E : xV} {z : Nat} {a0 : Nat} {x1 : Int32} {ω1 : xS} {ω : xS} (hf : f_Mo_open a0 x1 ω = some ω1) : xM l E y_Mo_open ws_Mo_open { frames := 0, cells := 0, slots := 0, locals := 0 } [.ref a0, .int x1] z ω none z ω1 := by
  refine x_start (cc := b_Mo_open) (maxL := 2) (ret := none) (by decide) rfl (Nat.le_of_ble_eq_true rfl) ?_
  intro p e s m below meth c S hr hlocks hin ls hl hw
  have hl : lv_has ls 2 [(0, .ref a0), (1, .int x1)] := hl
  unfold f_Mo_open at hf
  refine lv_aload_n S.1 S.2.1 d_Mo_open_0 rfl (lv_at hl 0 rfl) ?_
  obtain ⟨t1, ht1, hf⟩ := xb hf
  refine x_getr S hw lk_Mo_95 ht1 d_Mo_open_1 ?_
  refine lv_iload_n S.1 S.2.1 d_Mo_open_4 rfl (lv_at hl 1 rfl) ?_
  refine lv_iconst (v := 0) S.1 S.2.1 d_Mo_open_5 (by decide) ?_
  obtain ⟨w2, hw2, hf⟩ := xb hf
  refine x_iast S hw hw2 d_Mo_open_6 (fun H locs hw => ?_)
  refine lv_aload_n S.1 S.2.1 d_Mo_open_7 rfl (lv_at hl 0 rfl) ?_
  obtain ⟨t3, ht3, hf⟩ := xb hf
  refine x_getr S hw lk_Mo_98 ht3 d_Mo_open_8 ?_
  refine lv_iload_n S.1 S.2.1 d_Mo_open_11 rfl (lv_at hl 1 rfl) ?_
  refine lv_iconst (v := 0) S.1 S.2.1 d_Mo_open_12 (by decide) ?_
  obtain ⟨w4, hw4, hf⟩ := xb hf
  refine x_iast S hw hw4 d_Mo_open_13 (fun H locs hw => ?_)
  refine lv_aload_n S.1 S.2.1 d_Mo_open_14 rfl (lv_at hl 0 rfl) ?_
  obtain ⟨t5, ht5, hf⟩ := xb hf
  refine x_getr S hw lk_Mo_101 ht5 d_Mo_open_15 ?_
  refine lv_iload_n S.1 S.2.1 d_Mo_open_18 rfl (lv_at hl 1 rfl) ?_
  refine lv_iconst (v := 0) S.1 S.2.1 d_Mo_open_19 (by decide) ?_
  obtain ⟨w6, hw6, hf⟩ := xb hf
  refine x_iast S hw hw6 d_Mo_open_20 (fun H locs hw => ?_)
  refine lv_aload_n S.1 S.2.1 d_Mo_open_21 rfl (lv_at hl 0 rfl) ?_
  obtain ⟨t7, ht7, hf⟩ := xb hf
  refine x_getr S hw lk_Mo_104 ht7 d_Mo_open_22 ?_
  refine lv_iload_n S.1 S.2.1 d_Mo_open_25 rfl (lv_at hl 1 rfl) ?_
  refine lv_iconst (v := 0) S.1 S.2.1 d_Mo_open_26 (by decide) ?_
  obtain ⟨w8, hw8, hf⟩ := xb hf
  refine x_zast S hw hw8 d_Mo_open_27 (fun H locs hw => ?_)
  cases hf
  exact x_vret S hr hlocks hw d_Mo_open_28
