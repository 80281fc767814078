def f_AutomatonMaker_make_14 (z : Nat) : Nat → Nat → Nat → Nat → Int32 → Int32 → xS → Option (Nat × Nat × xS)
  | 0, _, _, _, _, _, _ => none
  | n + 1, a0, a1, a2, x3, x4, ω =>
    (xgi ω a0 1 8).bind fun t7 =>
    if t7 ≤ x4 then (
      xc3 (xk ω a0 1 (f_AutomatonMaker_copyParts a0 a1 a2 x3 z ω)) fun c11 u12 w13 =>
      some (c11, u12, w13))
    else (
      xc (xk ω a0 1 (f_AutomatonMaker_refine a0  ω)) fun t15 w16 =>
      if t15 = x3 then (
        xc3 (xk w16 a0 1 (f_AutomatonMaker_copyParts a0 a1 a2 x3 z w16)) fun c20 u21 w22 =>
        some (c20, u21, w22))
      else (
        f_AutomatonMaker_make_14 z  n a0 a1 a2 t15 (x4 + 1) w16))
set_option maxHeartbeats 4000000 in
set_option maxRecDepth 100000 in
theorem w_AutomatonMaker_make_14 {p : Program} {l : Launch} {e : Env} {s : State} {m : MethodId} {args : Array Value} {below : List Frame} {meth : Method} {c : Code} {E : xV} {z : Nat} {ω1 : xS} {kc ku : Nat} (S : CallFix p m c b_AutomatonMaker_make 6 s args xTbl "RosterRules$AutomatonMaker") (hr : meth.sig.returnType = none) (hlocks : meth.locks = false) : ∀ n : Nat, ∀ (a0 : Nat) (a1 : Nat) (a2 : Nat) (x3 : Int32) (x4 : Int32) (ω : xS) (H : Heap) (locs : List Loc) (ls : Array Slot), xW E z ω s s.heap H locs → lv_has ls 6 [(0, .ref a0), (1, .ref a1), (2, .ref a2), (3, .int x3), (4, .int x4)] → f_AutomatonMaker_make_14 z n a0 a1 a2 x3 x4 ω = some (kc, ku, ω1) → W p l e (headSpec ws_AutomatonMaker_make { frames := 3, cells := kc, slots := ku, locals := 72 }).room s m args below meth c H locs 0 0 (MQ below (xQ E none (z + kc) ω1) args s kc ku (fun q => E.2.2 ≤ q)) (F0 m 14 ls []) := by
  intro n
  induction n with
  | zero =>
    intro a0 a1 a2 x3 x4 ω H locs ls hw hl hf
    have h2 : (none : Option (Nat × Nat × xS)) = some (kc, ku, ω1) := hf
    cases h2
  | succ n ih =>
    intro a0 a1 a2 x3 x4 ω H locs ls hw hl hf
    rw [f_AutomatonMaker_make_14] at hf
    refine lv_iload S.1 S.2.1 d_AutomatonMaker_make_14 (lv_at hl 4 rfl) ?_
    refine lv_aload_n S.1 S.2.1 d_AutomatonMaker_make_16 rfl (lv_at hl 0 rfl) ?_
    obtain ⟨t7, ht7, hf⟩ := xb hf
    refine x_geti S hw lk_AutomatonMaker_47 ht7 d_AutomatonMaker_make_17 ?_
    refine lv_icmp_ge (tgt := 47) S.1 S.2.1 d_AutomatonMaker_make_20 (by decide) (fun c8 => ?_) (fun c8 => ?_)
    · replace hf := xt c8 hf
      refine lv_aload_n S.1 S.2.1 d_AutomatonMaker_make_47 rfl (lv_at hl 0 rfl) ?_
      refine lv_aload_n S.1 S.2.1 d_AutomatonMaker_make_48 rfl (lv_at hl 1 rfl) ?_
      refine lv_aload_n S.1 S.2.1 d_AutomatonMaker_make_49 rfl (lv_at hl 2 rfl) ?_
      refine lv_iload_n S.1 S.2.1 d_AutomatonMaker_make_50 rfl (lv_at hl 3 rfl) ?_
      obtain ⟨c11, u12, w13, h9, hf⟩ := xc3b hf
      obtain ⟨h9b, h9⟩ := xkb h9
      have hle : c11 ≤ kc ∧ u12 ≤ ku := by
        obtain ⟨rfl, rfl, rfl⟩ := xe3 hf
        constructor <;> omega
      refine x_callV (As := [.ref a1, .ref a2, .int x3]) (rest := []) (st1 := []) S hw (c_AutomatonMaker_copyParts h9) (cwV 3 S.2.2.2.2 gv_AutomatonMaker_55 rfl rfl rfl hd_AutomatonMaker_copyParts ⟨Nat.le_of_ble_eq_true rfl, Nat.le_of_ble_eq_true rfl⟩) rfl h9b rfl hl.1 rfl rfl (Nat.le_of_ble_eq_true rfl) d_AutomatonMaker_make_51 ⟨(show _ ≤ kc by (try dsimp only); omega), (show _ ≤ ku by (try dsimp only); omega)⟩ (fun H locs hw => ?_)
      obtain ⟨rfl, rfl, rfl⟩ := xe3 hf
      exact W.widen (by (try dsimp only); omega) (by (try dsimp only); omega) (x_vret S hr hlocks hw d_AutomatonMaker_make_54)
    · replace hf := xf c8 hf
      refine lv_aload_n S.1 S.2.1 d_AutomatonMaker_make_23 rfl (lv_at hl 0 rfl) ?_
      obtain ⟨t15, w16, h14, hf⟩ := xcb hf
      obtain ⟨h14b, h14⟩ := xkb h14
      refine x_callV (As := []) (rest := []) (st1 := [.int t15]) S hw (c_AutomatonMaker_refine h14) (cwV 0 S.2.2.2.2 gv_AutomatonMaker_51 rfl rfl rfl hd_AutomatonMaker_refine ⟨Nat.le_of_ble_eq_true rfl, Nat.le_of_ble_eq_true rfl⟩) rfl h14b rfl hl.1 rfl rfl (Nat.le_of_ble_eq_true rfl) d_AutomatonMaker_make_24 ⟨(show _ ≤ kc by (try dsimp only); omega), (show _ ≤ ku by (try dsimp only); omega)⟩ (fun H locs hw => ?_)
      refine lv_istore (lv' := [(5, .int t15), (0, .ref a0), (1, .ref a1), (2, .ref a2), (3, .int x3), (4, .int x4)]) S.1 S.2.1 d_AutomatonMaker_make_27 hl (by decide) rfl (fun ls hl => ?_)
      refine lv_iload S.1 S.2.1 d_AutomatonMaker_make_29 (lv_at hl 0 rfl) ?_
      refine lv_iload_n S.1 S.2.1 d_AutomatonMaker_make_31 rfl (lv_at hl 4 rfl) ?_
      refine lv_icmp_ne (tgt := 38) S.1 S.2.1 d_AutomatonMaker_make_32 (by decide) (fun c17 => ?_) (fun c17 => ?_)
      · replace hf := xf c17 hf
        refine lv_iload S.1 S.2.1 d_AutomatonMaker_make_38 (lv_at hl 0 rfl) ?_
        refine lv_istore_n (lv' := [(3, .int t15), (5, .int t15), (0, .ref a0), (1, .ref a1), (2, .ref a2), (4, .int x4)]) S.1 S.2.1 d_AutomatonMaker_make_40 rfl hl (by decide) rfl (fun ls hl => ?_)
        refine lv_iinc (v := (x4 + 1)) (lv' := [(4, .int (x4 + 1)), (3, .int t15), (5, .int t15), (0, .ref a0), (1, .ref a1), (2, .ref a2)]) S.1 S.2.1 d_AutomatonMaker_make_41 hl (k := 5) rfl rfl (by decide) rfl (fun ls hl => ?_)
        refine lv_goto (tgt := 14) S.1 S.2.1 d_AutomatonMaker_make_44 (by decide) ?_
        exact ih _ _ _ _ _ _ _ _ _ hw (lv_sub hl [3, 4, 5, 1, 0] rfl) hf
      · replace hf := xt c17 hf
        refine lv_goto (tgt := 47) S.1 S.2.1 d_AutomatonMaker_make_35 (by decide) ?_
        refine lv_aload_n S.1 S.2.1 d_AutomatonMaker_make_47 rfl (lv_at hl 1 rfl) ?_
        refine lv_aload_n S.1 S.2.1 d_AutomatonMaker_make_48 rfl (lv_at hl 2 rfl) ?_
        refine lv_aload_n S.1 S.2.1 d_AutomatonMaker_make_49 rfl (lv_at hl 3 rfl) ?_
        refine lv_iload_n S.1 S.2.1 d_AutomatonMaker_make_50 rfl (lv_at hl 4 rfl) ?_
        obtain ⟨c20, u21, w22, h18, hf⟩ := xc3b hf
        obtain ⟨h18b, h18⟩ := xkb h18
        have hle : c20 ≤ kc ∧ u21 ≤ ku := by
          obtain ⟨rfl, rfl, rfl⟩ := xe3 hf
          constructor <;> omega
        refine x_callV (As := [.ref a1, .ref a2, .int x3]) (rest := []) (st1 := []) S hw (c_AutomatonMaker_copyParts h18) (cwV 3 S.2.2.2.2 gv_AutomatonMaker_55 rfl rfl rfl hd_AutomatonMaker_copyParts ⟨Nat.le_of_ble_eq_true rfl, Nat.le_of_ble_eq_true rfl⟩) rfl h18b rfl hl.1 rfl rfl (Nat.le_of_ble_eq_true rfl) d_AutomatonMaker_make_51 ⟨(show _ ≤ kc by (try dsimp only); omega), (show _ ≤ ku by (try dsimp only); omega)⟩ (fun H locs hw => ?_)
        obtain ⟨rfl, rfl, rfl⟩ := xe3 hf
        exact W.widen (by (try dsimp only); omega) (by (try dsimp only); omega) (x_vret S hr hlocks hw d_AutomatonMaker_make_54)
def f_AutomatonMaker_make (a0 : Nat) (a1 : Nat) (a2 : Nat) (z : Nat) (ω : xS) : Option (Nat × Nat × xS) :=
  (xk ω a0 1 (f_AutomatonMaker_explore a0 a1 ω)).bind fun w3 =>
  xc (xk w3 a0 1 (f_AutomatonMaker_partByEnds a0 a1 w3)) fun t5 w6 =>
  f_AutomatonMaker_make_14 z  xFU a0 a1 a2 t5 0 w6
set_option maxHeartbeats 4000000 in
set_option maxRecDepth 100000 in
theorem c_AutomatonMaker_make {l : Launch} {E : xV} {z : Nat} {a0 : Nat} {a1 : Nat} {a2 : Nat} {ω1 : xS} {kc ku : Nat} {ω : xS} (hf : f_AutomatonMaker_make a0 a1 a2 z ω = some (kc, ku, ω1)) : xM l E y_AutomatonMaker_make ws_AutomatonMaker_make { frames := 3, cells := kc, slots := ku, locals := 72 } [.ref a0, .ref a1, .ref a2] z ω none (z + kc) ω1 := by
  refine x_start (cc := b_AutomatonMaker_make) (maxL := 6) (ret := none) (by decide) rfl (Nat.le_of_ble_eq_true rfl) ?_
  intro p e s m below meth c S hr hlocks hin ls hl hw
  have hl : lv_has ls 6 [(0, .ref a0), (1, .ref a1), (2, .ref a2)] := hl
  unfold f_AutomatonMaker_make at hf
  refine lv_aload_n S.1 S.2.1 d_AutomatonMaker_make_0 rfl (lv_at hl 0 rfl) ?_
  refine lv_aload_n S.1 S.2.1 d_AutomatonMaker_make_1 rfl (lv_at hl 1 rfl) ?_
  obtain ⟨w3, h1, hf⟩ := xb hf
  obtain ⟨h1b, h1⟩ := xkb h1
  refine x_callV (As := [.ref a1]) (rest := []) (st1 := []) S hw (c_AutomatonMaker_explore h1) (cwV 1 S.2.2.2.2 gv_AutomatonMaker_39 rfl rfl rfl hd_AutomatonMaker_explore ⟨Nat.le_of_ble_eq_true rfl, Nat.le_of_ble_eq_true rfl⟩) rfl h1b rfl hl.1 rfl rfl (Nat.le_of_ble_eq_true rfl) d_AutomatonMaker_make_2 ⟨(show _ ≤ kc by (try dsimp only); omega), (show _ ≤ ku by (try dsimp only); omega)⟩ (fun H locs hw => ?_)
  refine lv_aload_n S.1 S.2.1 d_AutomatonMaker_make_5 rfl (lv_at hl 0 rfl) ?_
  refine lv_aload_n S.1 S.2.1 d_AutomatonMaker_make_6 rfl (lv_at hl 1 rfl) ?_
  obtain ⟨t5, w6, h4, hf⟩ := xcb hf
  obtain ⟨h4b, h4⟩ := xkb h4
  refine x_callV (As := [.ref a1]) (rest := []) (st1 := [.int t5]) S hw (c_AutomatonMaker_partByEnds h4) (cwV 1 S.2.2.2.2 gv_AutomatonMaker_43 rfl rfl rfl hd_AutomatonMaker_partByEnds ⟨Nat.le_of_ble_eq_true rfl, Nat.le_of_ble_eq_true rfl⟩) rfl h4b rfl hl.1 rfl rfl (Nat.le_of_ble_eq_true rfl) d_AutomatonMaker_make_7 ⟨(show _ ≤ kc by (try dsimp only); omega), (show _ ≤ ku by (try dsimp only); omega)⟩ (fun H locs hw => ?_)
  refine lv_istore_n (lv' := [(3, .int t5), (0, .ref a0), (1, .ref a1), (2, .ref a2)]) S.1 S.2.1 d_AutomatonMaker_make_10 rfl hl (by decide) rfl (fun ls hl => ?_)
  refine lv_iconst (v := 0) S.1 S.2.1 d_AutomatonMaker_make_11 (by decide) ?_
  refine lv_istore (lv' := [(4, .int 0), (3, .int t5), (0, .ref a0), (1, .ref a1), (2, .ref a2)]) S.1 S.2.1 d_AutomatonMaker_make_12 hl (by decide) rfl (fun ls hl => ?_)
  exact w_AutomatonMaker_make_14 S hr hlocks  _ _ _ _ _ _ _ _ _ _ hw (lv_sub hl [2, 3, 4, 1, 0] rfl) hf
def f_AutomatonMaker_wordsOf_66 (k45 : Nat → Nat → Int32 → Int32 → Int32 → xS → Option (Int64 × xS)) (k54 : Nat → Nat → Int32 → Int32 → Int32 → Int32 → xS → Option (Int64 × xS)) : Nat → Nat → Nat → Int32 → Int32 → Int32 → Int32 → Int64 → Int32 → xS → Option (Int64 × xS)
  | 0, _, _, _, _, _, _, _, _, _ => none
  | n + 1, a0, a1, x2, x3, x4, x5, x6, x8, ω =>
    if 9 ≤ x8 then (
      (xgr ω a0 1 7).bind fun t16 =>
      (xsl ω t16 x5 x6).bind fun w17 =>
      k54 a0 a1 x2 x3 x4 (x5 + 1) w17)
    else (
      (xgr ω a0 1 6).bind fun t18 =>
      (xk ω a1 0 (f_Automaton_entry a1 x5 x8 ω)).bind fun t20 =>
      (xal ω t18 t20).bind fun t21 =>
      f_AutomatonMaker_wordsOf_66 k45 k54 n a0 a1 x2 x3 x4 x5 (x6 + t21) (x8 + 1) ω)
set_option maxHeartbeats 4000000 in
set_option maxRecDepth 100000 in
theorem w_AutomatonMaker_wordsOf_66 {p : Program} {l : Launch} {e : Env} {s : State} {m : MethodId} {args : Array Value} {below : List Frame} {meth : Method} {c : Code} {E : xV} {z : Nat} {r : Int64} {ω1 : xS} {k45 : Nat → Nat → Int32 → Int32 → Int32 → xS → Option (Int64 × xS)} {k54 : Nat → Nat → Int32 → Int32 → Int32 → Int32 → xS → Option (Int64 × xS)} (S : CallFix p m c b_AutomatonMaker_wordsOf 9 s args xTbl "RosterRules$AutomatonMaker") (hr : meth.sig.returnType = (some .long)) (hlocks : meth.locks = false) (hk45 : ∀ (a0 : Nat) (a1 : Nat) (x2 : Int32) (x3 : Int32) (x4 : Int32) (ω : xS) (H : Heap) (locs : List Loc) (ls : Array Slot), xW E z ω s s.heap H locs → lv_has ls 9 [(0, .ref a0), (1, .ref a1), (2, .int x2), (3, .int x3), (4, .int x4)] → k45 a0 a1 x2 x3 x4 ω = some (r, ω1) → W p l e (headSpec ws_AutomatonMaker_wordsOf { frames := 1, cells := 0, slots := 0, locals := 24 }).room s m args below meth c H locs 0 0 (MQ below (xQ E (some (.long r)) z ω1) args s 0 0 (fun q => E.2.2 ≤ q)) (F0 m 45 ls [])) (hk54 : ∀ (a0 : Nat) (a1 : Nat) (x2 : Int32) (x3 : Int32) (x4 : Int32) (x5 : Int32) (ω : xS) (H : Heap) (locs : List Loc) (ls : Array Slot), xW E z ω s s.heap H locs → lv_has ls 9 [(0, .ref a0), (1, .ref a1), (2, .int x2), (3, .int x3), (4, .int x4), (5, .int x5)] → k54 a0 a1 x2 x3 x4 x5 ω = some (r, ω1) → W p l e (headSpec ws_AutomatonMaker_wordsOf { frames := 1, cells := 0, slots := 0, locals := 24 }).room s m args below meth c H locs 0 0 (MQ below (xQ E (some (.long r)) z ω1) args s 0 0 (fun q => E.2.2 ≤ q)) (F0 m 54 ls [])) : ∀ n : Nat, ∀ (a0 : Nat) (a1 : Nat) (x2 : Int32) (x3 : Int32) (x4 : Int32) (x5 : Int32) (x6 : Int64) (x8 : Int32) (ω : xS) (H : Heap) (locs : List Loc) (ls : Array Slot), xW E z ω s s.heap H locs → lv_has ls 9 [(0, .ref a0), (1, .ref a1), (2, .int x2), (3, .int x3), (4, .int x4), (5, .int x5), (6, .long x6), (8, .int x8)] → f_AutomatonMaker_wordsOf_66 k45 k54 n a0 a1 x2 x3 x4 x5 x6 x8 ω = some (r, ω1) → W p l e (headSpec ws_AutomatonMaker_wordsOf { frames := 1, cells := 0, slots := 0, locals := 24 }).room s m args below meth c H locs 0 0 (MQ below (xQ E (some (.long r)) z ω1) args s 0 0 (fun q => E.2.2 ≤ q)) (F0 m 66 ls []) := by
  intro n
  induction n with
  | zero =>
    intro a0 a1 x2 x3 x4 x5 x6 x8 ω H locs ls hw hl hf
    have h2 : (none : Option (Int64 × xS)) = some (r, ω1) := hf
    cases h2
  | succ n ih =>
    intro a0 a1 x2 x3 x4 x5 x6 x8 ω H locs ls hw hl hf
    rw [f_AutomatonMaker_wordsOf_66] at hf
    refine lv_iload S.1 S.2.1 d_AutomatonMaker_wordsOf_66 (lv_at hl 7 rfl) ?_
    refine lv_bipush (v := 9) S.1 S.2.1 d_AutomatonMaker_wordsOf_68 (by decide) ?_
    refine lv_icmp_ge (tgt := 97) S.1 S.2.1 d_AutomatonMaker_wordsOf_70 (by decide) (fun c15 => ?_) (fun c15 => ?_)
    · replace hf := xt c15 hf
      refine lv_aload_n S.1 S.2.1 d_AutomatonMaker_wordsOf_97 rfl (lv_at hl 0 rfl) ?_
      obtain ⟨t16, ht16, hf⟩ := xb hf
      refine x_getr S hw lk_AutomatonMaker_36 ht16 d_AutomatonMaker_wordsOf_98 ?_
      refine lv_iload S.1 S.2.1 d_AutomatonMaker_wordsOf_101 (lv_at hl 5 rfl) ?_
      refine lv_lload S.1 S.2.1 d_AutomatonMaker_wordsOf_103 (lv_at hl 6 rfl) ?_
      obtain ⟨w17, hw17, hf⟩ := xb hf
      refine x_last S hw hw17 d_AutomatonMaker_wordsOf_105 (fun H locs hw => ?_)
      refine lv_iinc (v := (x5 + 1)) (lv' := [(5, .int (x5 + 1)), (0, .ref a0), (1, .ref a1), (2, .int x2), (3, .int x3), (4, .int x4), (6, .long x6), (8, .int x8)]) S.1 S.2.1 d_AutomatonMaker_wordsOf_106 hl (k := 5) rfl rfl (by decide) rfl (fun ls hl => ?_)
      refine lv_goto (tgt := 54) S.1 S.2.1 d_AutomatonMaker_wordsOf_109 (by decide) ?_
      exact hk54 _ _ _ _ _ _ _ _ _ _ hw (lv_sub hl [1, 2, 3, 4, 5, 0] rfl) hf
    · replace hf := xf c15 hf
      refine lv_lload S.1 S.2.1 d_AutomatonMaker_wordsOf_73 (lv_at hl 6 rfl) ?_
      refine lv_aload_n S.1 S.2.1 d_AutomatonMaker_wordsOf_75 rfl (lv_at hl 0 rfl) ?_
      obtain ⟨t18, ht18, hf⟩ := xb hf
      refine x_getr S hw lk_AutomatonMaker_32 ht18 d_AutomatonMaker_wordsOf_76 ?_
      refine lv_aload_n S.1 S.2.1 d_AutomatonMaker_wordsOf_79 rfl (lv_at hl 1 rfl) ?_
      refine lv_iload S.1 S.2.1 d_AutomatonMaker_wordsOf_80 (lv_at hl 5 rfl) ?_
      refine lv_iload S.1 S.2.1 d_AutomatonMaker_wordsOf_82 (lv_at hl 7 rfl) ?_
      obtain ⟨t20, h19, hf⟩ := xb hf
      obtain ⟨h19b, h19⟩ := xkb h19
      refine x_callV (As := [.int x5, .int x8]) (rest := [.ref t18, .long x6]) (st1 := [.int t20, .ref t18, .long x6]) S hw (c_Automaton_entry h19) (cwV 2 S.2.2.2.2 gv_AutomatonMaker_109 rfl rfl rfl hd_Automaton_entry ⟨Nat.le_of_ble_eq_true rfl, Nat.le_of_ble_eq_true rfl⟩) rfl h19b rfl hl.1 rfl rfl (Nat.le_of_ble_eq_true rfl) d_AutomatonMaker_wordsOf_84 ⟨Nat.le_of_ble_eq_true rfl, Nat.le_of_ble_eq_true rfl⟩ (fun H locs hw => ?_)
      obtain ⟨t21, ht21, hf⟩ := xb hf
      refine x_lald S hw ht21 d_AutomatonMaker_wordsOf_87 ?_
      refine lv_ladd S.1 S.2.1 d_AutomatonMaker_wordsOf_88 ?_
      refine lv_lstore (lv' := [(6, .long (x6 + t21)), (0, .ref a0), (1, .ref a1), (2, .int x2), (3, .int x3), (4, .int x4), (5, .int x5), (8, .int x8)]) S.1 S.2.1 d_AutomatonMaker_wordsOf_89 hl (by decide) rfl (fun ls hl => ?_)
      refine lv_iinc (v := (x8 + 1)) (lv' := [(8, .int (x8 + 1)), (6, .long (x6 + t21)), (0, .ref a0), (1, .ref a1), (2, .int x2), (3, .int x3), (4, .int x4), (5, .int x5)]) S.1 S.2.1 d_AutomatonMaker_wordsOf_91 hl (k := 7) rfl rfl (by decide) rfl (fun ls hl => ?_)
      refine lv_goto (tgt := 66) S.1 S.2.1 d_AutomatonMaker_wordsOf_94 (by decide) ?_
      exact ih _ _ _ _ _ _ _ _ _ _ _ _ hw (lv_sub hl [2, 3, 4, 5, 6, 7, 1, 0] rfl) hf
def f_AutomatonMaker_wordsOf_54 (k45 : Nat → Nat → Int32 → Int32 → Int32 → xS → Option (Int64 × xS)) : Nat → Nat → Nat → Int32 → Int32 → Int32 → Int32 → xS → Option (Int64 × xS)
  | 0, _, _, _, _, _, _, _ => none
  | n + 1, a0, a1, x2, x3, x4, x5, ω =>
    if x3 ≤ x5 then (
      (xgr ω a0 1 6).bind fun t11 =>
      (xgr ω a0 1 7).bind fun t12 =>
      (xp ω a0 1 6 (.ref t12)).bind fun w13 =>
      (xp w13 a0 1 7 (.ref t11)).bind fun w14 =>
      k45 a0 a1 x2 x3 (x4 + 1) w14)
    else (
      f_AutomatonMaker_wordsOf_66 k45 (f_AutomatonMaker_wordsOf_54 k45 n) xFU a0 a1 x2 x3 x4 x5 0 0 ω)
set_option maxHeartbeats 4000000 in
set_option maxRecDepth 100000 in
theorem w_AutomatonMaker_wordsOf_54 {p : Program} {l : Launch} {e : Env} {s : State} {m : MethodId} {args : Array Value} {below : List Frame} {meth : Method} {c : Code} {E : xV} {z : Nat} {r : Int64} {ω1 : xS} {k45 : Nat → Nat → Int32 → Int32 → Int32 → xS → Option (Int64 × xS)} (S : CallFix p m c b_AutomatonMaker_wordsOf 9 s args xTbl "RosterRules$AutomatonMaker") (hr : meth.sig.returnType = (some .long)) (hlocks : meth.locks = false) (hk45 : ∀ (a0 : Nat) (a1 : Nat) (x2 : Int32) (x3 : Int32) (x4 : Int32) (ω : xS) (H : Heap) (locs : List Loc) (ls : Array Slot), xW E z ω s s.heap H locs → lv_has ls 9 [(0, .ref a0), (1, .ref a1), (2, .int x2), (3, .int x3), (4, .int x4)] → k45 a0 a1 x2 x3 x4 ω = some (r, ω1) → W p l e (headSpec ws_AutomatonMaker_wordsOf { frames := 1, cells := 0, slots := 0, locals := 24 }).room s m args below meth c H locs 0 0 (MQ below (xQ E (some (.long r)) z ω1) args s 0 0 (fun q => E.2.2 ≤ q)) (F0 m 45 ls [])) : ∀ n : Nat, ∀ (a0 : Nat) (a1 : Nat) (x2 : Int32) (x3 : Int32) (x4 : Int32) (x5 : Int32) (ω : xS) (H : Heap) (locs : List Loc) (ls : Array Slot), xW E z ω s s.heap H locs → lv_has ls 9 [(0, .ref a0), (1, .ref a1), (2, .int x2), (3, .int x3), (4, .int x4), (5, .int x5)] → f_AutomatonMaker_wordsOf_54 k45 n a0 a1 x2 x3 x4 x5 ω = some (r, ω1) → W p l e (headSpec ws_AutomatonMaker_wordsOf { frames := 1, cells := 0, slots := 0, locals := 24 }).room s m args below meth c H locs 0 0 (MQ below (xQ E (some (.long r)) z ω1) args s 0 0 (fun q => E.2.2 ≤ q)) (F0 m 54 ls []) := by
  intro n
  induction n with
  | zero =>
    intro a0 a1 x2 x3 x4 x5 ω H locs ls hw hl hf
    have h2 : (none : Option (Int64 × xS)) = some (r, ω1) := hf
    cases h2
  | succ n ih =>
    intro a0 a1 x2 x3 x4 x5 ω H locs ls hw hl hf
    rw [f_AutomatonMaker_wordsOf_54] at hf
    refine lv_iload S.1 S.2.1 d_AutomatonMaker_wordsOf_54 (lv_at hl 5 rfl) ?_
    refine lv_iload_n S.1 S.2.1 d_AutomatonMaker_wordsOf_56 rfl (lv_at hl 3 rfl) ?_
    refine lv_icmp_ge (tgt := 112) S.1 S.2.1 d_AutomatonMaker_wordsOf_57 (by decide) (fun c10 => ?_) (fun c10 => ?_)
    · replace hf := xt c10 hf
      refine lv_aload_n S.1 S.2.1 d_AutomatonMaker_wordsOf_112 rfl (lv_at hl 0 rfl) ?_
      obtain ⟨t11, ht11, hf⟩ := xb hf
      refine x_getr S hw lk_AutomatonMaker_32 ht11 d_AutomatonMaker_wordsOf_113 ?_
      refine lv_astore (lv' := [(5, .ref t11), (0, .ref a0), (1, .ref a1), (2, .int x2), (3, .int x3), (4, .int x4)]) S.1 S.2.1 d_AutomatonMaker_wordsOf_116 hl (by decide) rfl (fun ls hl => ?_)
      refine lv_aload_n S.1 S.2.1 d_AutomatonMaker_wordsOf_118 rfl (lv_at hl 1 rfl) ?_
      refine lv_aload_n S.1 S.2.1 d_AutomatonMaker_wordsOf_119 rfl (lv_at hl 1 rfl) ?_
      obtain ⟨t12, ht12, hf⟩ := xb hf
      refine x_getr S hw lk_AutomatonMaker_36 ht12 d_AutomatonMaker_wordsOf_120 ?_
      obtain ⟨w13, hw13, hf⟩ := xb hf
      refine x_put S hw lp_AutomatonMaker_32 (rfl) rfl hw13 d_AutomatonMaker_wordsOf_123 (fun H locs hw => ?_)
      refine lv_aload_n S.1 S.2.1 d_AutomatonMaker_wordsOf_126 rfl (lv_at hl 1 rfl) ?_
      refine lv_aload S.1 S.2.1 d_AutomatonMaker_wordsOf_127 (lv_at hl 0 rfl) ?_
      obtain ⟨w14, hw14, hf⟩ := xb hf
      refine x_put S hw lp_AutomatonMaker_36 (rfl) rfl hw14 d_AutomatonMaker_wordsOf_129 (fun H locs hw => ?_)
      refine lv_iinc (v := (x4 + 1)) (lv' := [(4, .int (x4 + 1)), (5, .ref t11), (0, .ref a0), (1, .ref a1), (2, .int x2), (3, .int x3)]) S.1 S.2.1 d_AutomatonMaker_wordsOf_132 hl (k := 5) rfl rfl (by decide) rfl (fun ls hl => ?_)
      refine lv_goto (tgt := 45) S.1 S.2.1 d_AutomatonMaker_wordsOf_135 (by decide) ?_
      exact hk45 _ _ _ _ _ _ _ _ _ hw (lv_sub hl [2, 3, 4, 5, 0] rfl) hf
    · replace hf := xf c10 hf
      refine lv_lconst (v := 0) S.1 S.2.1 d_AutomatonMaker_wordsOf_60 (by decide) ?_
      refine lv_lstore (lv' := [(6, .long 0), (0, .ref a0), (1, .ref a1), (2, .int x2), (3, .int x3), (4, .int x4), (5, .int x5)]) S.1 S.2.1 d_AutomatonMaker_wordsOf_61 hl (by decide) rfl (fun ls hl => ?_)
      refine lv_iconst (v := 0) S.1 S.2.1 d_AutomatonMaker_wordsOf_63 (by decide) ?_
      refine lv_istore (lv' := [(8, .int 0), (6, .long 0), (0, .ref a0), (1, .ref a1), (2, .int x2), (3, .int x3), (4, .int x4), (5, .int x5)]) S.1 S.2.1 d_AutomatonMaker_wordsOf_64 hl (by decide) rfl (fun ls hl => ?_)
      exact w_AutomatonMaker_wordsOf_66 S hr hlocks hk45 ih _ _ _ _ _ _ _ _ _ _ _ _ _ hw (lv_sub hl [2, 3, 4, 5, 6, 7, 1, 0] rfl) hf
def f_AutomatonMaker_wordsOf_45 : Nat → Nat → Nat → Int32 → Int32 → Int32 → xS → Option (Int64 × xS)
  | 0, _, _, _, _, _, _ => none
  | n + 1, a0, a1, x2, x3, x4, ω =>
    if x2 ≤ x4 then (
      (xgr ω a0 1 6).bind fun t8 =>
      (xal ω t8 0).bind fun t9 =>
      some (t9, ω))
    else (
      f_AutomatonMaker_wordsOf_54 (f_AutomatonMaker_wordsOf_45  n) xFU a0 a1 x2 x3 x4 0 ω)
set_option maxHeartbeats 4000000 in
set_option maxRecDepth 100000 in
theorem w_AutomatonMaker_wordsOf_45 {p : Program} {l : Launch} {e : Env} {s : State} {m : MethodId} {args : Array Value} {below : List Frame} {meth : Method} {c : Code} {E : xV} {z : Nat} {r : Int64} {ω1 : xS} (S : CallFix p m c b_AutomatonMaker_wordsOf 9 s args xTbl "RosterRules$AutomatonMaker") (hr : meth.sig.returnType = (some .long)) (hlocks : meth.locks = false) : ∀ n : Nat, ∀ (a0 : Nat) (a1 : Nat) (x2 : Int32) (x3 : Int32) (x4 : Int32) (ω : xS) (H : Heap) (locs : List Loc) (ls : Array Slot), xW E z ω s s.heap H locs → lv_has ls 9 [(0, .ref a0), (1, .ref a1), (2, .int x2), (3, .int x3), (4, .int x4)] → f_AutomatonMaker_wordsOf_45 n a0 a1 x2 x3 x4 ω = some (r, ω1) → W p l e (headSpec ws_AutomatonMaker_wordsOf { frames := 1, cells := 0, slots := 0, locals := 24 }).room s m args below meth c H locs 0 0 (MQ below (xQ E (some (.long r)) z ω1) args s 0 0 (fun q => E.2.2 ≤ q)) (F0 m 45 ls []) := by
  intro n
  induction n with
  | zero =>
    intro a0 a1 x2 x3 x4 ω H locs ls hw hl hf
    have h2 : (none : Option (Int64 × xS)) = some (r, ω1) := hf
    cases h2
  | succ n ih =>
    intro a0 a1 x2 x3 x4 ω H locs ls hw hl hf
    rw [f_AutomatonMaker_wordsOf_45] at hf
    refine lv_iload S.1 S.2.1 d_AutomatonMaker_wordsOf_45 (lv_at hl 4 rfl) ?_
    refine lv_iload_n S.1 S.2.1 d_AutomatonMaker_wordsOf_47 rfl (lv_at hl 2 rfl) ?_
    refine lv_icmp_ge (tgt := 138) S.1 S.2.1 d_AutomatonMaker_wordsOf_48 (by decide) (fun c7 => ?_) (fun c7 => ?_)
    · replace hf := xt c7 hf
      refine lv_aload_n S.1 S.2.1 d_AutomatonMaker_wordsOf_138 rfl (lv_at hl 0 rfl) ?_
      obtain ⟨t8, ht8, hf⟩ := xb hf
      refine x_getr S hw lk_AutomatonMaker_32 ht8 d_AutomatonMaker_wordsOf_139 ?_
      refine lv_iconst (v := 0) S.1 S.2.1 d_AutomatonMaker_wordsOf_142 (by decide) ?_
      obtain ⟨t9, ht9, hf⟩ := xb hf
      refine x_lald S hw ht9 d_AutomatonMaker_wordsOf_143 ?_
      obtain ⟨rfl, rfl⟩ := xe2 hf
      exact x_lret S hr hlocks hw d_AutomatonMaker_wordsOf_144
    · replace hf := xf c7 hf
      refine lv_iconst (v := 0) S.1 S.2.1 d_AutomatonMaker_wordsOf_51 (by decide) ?_
      refine lv_istore (lv' := [(5, .int 0), (0, .ref a0), (1, .ref a1), (2, .int x2), (3, .int x3), (4, .int x4)]) S.1 S.2.1 d_AutomatonMaker_wordsOf_52 hl (by decide) rfl (fun ls hl => ?_)
      exact w_AutomatonMaker_wordsOf_54 S hr hlocks ih _ _ _ _ _ _ _ _ _ _ _ hw (lv_sub hl [1, 2, 3, 4, 5, 0] rfl) hf
def f_AutomatonMaker_wordsOf_14 : Nat → Nat → Nat → Int32 → Int32 → Int32 → xS → Option (Int64 × xS)
  | 0, _, _, _, _, _, _ => none
  | n + 1, a0, a1, x2, x3, x4, ω =>
    if x3 ≤ x4 then (
      f_AutomatonMaker_wordsOf_45  xFU a0 a1 x2 x3 0 ω)
    else (
      (xgr ω a0 1 6).bind fun t3 =>
      (xk ω a1 0 (f_Automaton_entry a1 x4 9 ω)).bind fun t5 =>
      (xsl ω t3 x4 (Int32.toInt64 t5)).bind fun w6 =>
      f_AutomatonMaker_wordsOf_14  n a0 a1 x2 x3 (x4 + 1) w6)
set_option maxHeartbeats 4000000 in
set_option maxRecDepth 100000 in
theorem w_AutomatonMaker_wordsOf_14 {p : Program} {l : Launch} {e : Env} {s : State} {m : MethodId} {args : Array Value} {below : List Frame} {meth : Method} {c : Code} {E : xV} {z : Nat} {r : Int64} {ω1 : xS} (S : CallFix p m c b_AutomatonMaker_wordsOf 9 s args xTbl "RosterRules$AutomatonMaker") (hr : meth.sig.returnType = (some .long)) (hlocks : meth.locks = false) : ∀ n : Nat, ∀ (a0 : Nat) (a1 : Nat) (x2 : Int32) (x3 : Int32) (x4 : Int32) (ω : xS) (H : Heap) (locs : List Loc) (ls : Array Slot), xW E z ω s s.heap H locs → lv_has ls 9 [(0, .ref a0), (1, .ref a1), (2, .int x2), (3, .int x3), (4, .int x4)] → f_AutomatonMaker_wordsOf_14 n a0 a1 x2 x3 x4 ω = some (r, ω1) → W p l e (headSpec ws_AutomatonMaker_wordsOf { frames := 1, cells := 0, slots := 0, locals := 24 }).room s m args below meth c H locs 0 0 (MQ below (xQ E (some (.long r)) z ω1) args s 0 0 (fun q => E.2.2 ≤ q)) (F0 m 14 ls []) := by
  intro n
  induction n with
  | zero =>
    intro a0 a1 x2 x3 x4 ω H locs ls hw hl hf
    have h2 : (none : Option (Int64 × xS)) = some (r, ω1) := hf
    cases h2
  | succ n ih =>
    intro a0 a1 x2 x3 x4 ω H locs ls hw hl hf
    rw [f_AutomatonMaker_wordsOf_14] at hf
    refine lv_iload S.1 S.2.1 d_AutomatonMaker_wordsOf_14 (lv_at hl 4 rfl) ?_
    refine lv_iload_n S.1 S.2.1 d_AutomatonMaker_wordsOf_16 rfl (lv_at hl 3 rfl) ?_
    refine lv_icmp_ge (tgt := 42) S.1 S.2.1 d_AutomatonMaker_wordsOf_17 (by decide) (fun c2 => ?_) (fun c2 => ?_)
    · replace hf := xt c2 hf
      refine lv_iconst (v := 0) S.1 S.2.1 d_AutomatonMaker_wordsOf_42 (by decide) ?_
      refine lv_istore (lv' := [(4, .int 0), (0, .ref a0), (1, .ref a1), (2, .int x2), (3, .int x3)]) S.1 S.2.1 d_AutomatonMaker_wordsOf_43 hl (by decide) rfl (fun ls hl => ?_)
      exact w_AutomatonMaker_wordsOf_45 S hr hlocks  _ _ _ _ _ _ _ _ _ _ hw (lv_sub hl [1, 2, 3, 4, 0] rfl) hf
    · replace hf := xf c2 hf
      refine lv_aload_n S.1 S.2.1 d_AutomatonMaker_wordsOf_20 rfl (lv_at hl 0 rfl) ?_
      obtain ⟨t3, ht3, hf⟩ := xb hf
      refine x_getr S hw lk_AutomatonMaker_32 ht3 d_AutomatonMaker_wordsOf_21 ?_
      refine lv_iload S.1 S.2.1 d_AutomatonMaker_wordsOf_24 (lv_at hl 4 rfl) ?_
      refine lv_aload_n S.1 S.2.1 d_AutomatonMaker_wordsOf_26 rfl (lv_at hl 1 rfl) ?_
      refine lv_iload S.1 S.2.1 d_AutomatonMaker_wordsOf_27 (lv_at hl 4 rfl) ?_
      refine lv_bipush (v := 9) S.1 S.2.1 d_AutomatonMaker_wordsOf_29 (by decide) ?_
      obtain ⟨t5, h4, hf⟩ := xb hf
      obtain ⟨h4b, h4⟩ := xkb h4
      refine x_callV (As := [.int x4, .int 9]) (rest := [.int x4, .ref t3]) (st1 := [.int t5, .int x4, .ref t3]) S hw (c_Automaton_entry h4) (cwV 2 S.2.2.2.2 gv_AutomatonMaker_109 rfl rfl rfl hd_Automaton_entry ⟨Nat.le_of_ble_eq_true rfl, Nat.le_of_ble_eq_true rfl⟩) rfl h4b rfl hl.1 rfl rfl (Nat.le_of_ble_eq_true rfl) d_AutomatonMaker_wordsOf_31 ⟨Nat.le_of_ble_eq_true rfl, Nat.le_of_ble_eq_true rfl⟩ (fun H locs hw => ?_)
      refine lv_i2l (v := (Int32.toInt64 t5)) S.1 S.2.1 d_AutomatonMaker_wordsOf_34 rfl ?_
      obtain ⟨w6, hw6, hf⟩ := xb hf
      refine x_last S hw hw6 d_AutomatonMaker_wordsOf_35 (fun H locs hw => ?_)
      refine lv_iinc (v := (x4 + 1)) (lv' := [(4, .int (x4 + 1)), (0, .ref a0), (1, .ref a1), (2, .int x2), (3, .int x3)]) S.1 S.2.1 d_AutomatonMaker_wordsOf_36 hl (k := 4) rfl rfl (by decide) rfl (fun ls hl => ?_)
      refine lv_goto (tgt := 14) S.1 S.2.1 d_AutomatonMaker_wordsOf_39 (by decide) ?_
      exact ih _ _ _ _ _ _ _ _ _ hw (lv_sub hl [1, 2, 3, 4, 0] rfl) hf
def f_AutomatonMaker_wordsOf (a0 : Nat) (a1 : Nat) (x2 : Int32) (ω : xS) : Option (Int64 × xS) :=
  (xgi ω a1 0 1).bind fun t1 =>
  f_AutomatonMaker_wordsOf_14  xFU a0 a1 x2 (xmin 1025 t1) 0 ω
set_option maxHeartbeats 4000000 in
set_option maxRecDepth 100000 in
theorem c_AutomatonMaker_wordsOf {l : Launch} {E : xV} {z : Nat} {a0 : Nat} {a1 : Nat} {x2 : Int32} {r : Int64} {ω1 : xS} {ω : xS} (hf : f_AutomatonMaker_wordsOf a0 a1 x2 ω = some (r, ω1)) : xM l E y_AutomatonMaker_wordsOf ws_AutomatonMaker_wordsOf { frames := 1, cells := 0, slots := 0, locals := 24 } [.ref a0, .ref a1, .int x2] z ω (some (.long r)) z ω1 := by
  refine x_start (cc := b_AutomatonMaker_wordsOf) (maxL := 9) (ret := (some .long)) (by decide) rfl (Nat.le_of_ble_eq_true rfl) ?_
  intro p e s m below meth c S hr hlocks hin ls hl hw
  have hl : lv_has ls 9 [(0, .ref a0), (1, .ref a1), (2, .int x2)] := hl
  unfold f_AutomatonMaker_wordsOf at hf
  refine lv_sipush (v := 1025) S.1 S.2.1 d_AutomatonMaker_wordsOf_0 (by decide) ?_
  refine lv_aload_n S.1 S.2.1 d_AutomatonMaker_wordsOf_3 rfl (lv_at hl 1 rfl) ?_
  obtain ⟨t1, ht1, hf⟩ := xb hf
  refine x_geti S hw lk_AutomatonMaker_105 ht1 d_AutomatonMaker_wordsOf_4 ?_
  refine x_mmin S hl.1 lm_AutomatonMaker_106 d_AutomatonMaker_wordsOf_7 (Nat.le_of_ble_eq_true rfl) (Nat.le_of_ble_eq_true rfl) (Nat.zero_le _) (Nat.zero_le _) ?_
  refine lv_istore_n (lv' := [(3, .int (xmin 1025 t1)), (0, .ref a0), (1, .ref a1), (2, .int x2)]) S.1 S.2.1 d_AutomatonMaker_wordsOf_10 rfl hl (by decide) rfl (fun ls hl => ?_)
  refine lv_iconst (v := 0) S.1 S.2.1 d_AutomatonMaker_wordsOf_11 (by decide) ?_
  refine lv_istore (lv' := [(4, .int 0), (3, .int (xmin 1025 t1)), (0, .ref a0), (1, .ref a1), (2, .int x2)]) S.1 S.2.1 d_AutomatonMaker_wordsOf_12 hl (by decide) rfl (fun ls hl => ?_)
  exact w_AutomatonMaker_wordsOf_14 S hr hlocks  _ _ _ _ _ _ _ _ _ _ hw (lv_sub hl [2, 3, 4, 1, 0] rfl) hf
def f_History_init (a0 : Nat) (z : Nat) (ω : xS) : Option xS :=
  xl (xu ω z (.inl (0, 200, .inl (fun _ => 0)))) fun w1 =>
  (xp w1 a0 2 0 (.ref z)).bind fun w2 =>
  xl (xu w2 (z + 1) (.inl (0, 200, .inl (fun _ => 0)))) fun w3 =>
  (xp w3 a0 2 1 (.ref (z + 1))).bind fun w4 =>
  xl (xu w4 (z + 2) (.inl (0, 200, .inl (fun _ => 0)))) fun w5 =>
  (xp w5 a0 2 2 (.ref (z + 2))).bind fun w6 =>
  some w6
set_option maxHeartbeats 4000000 in
set_option maxRecDepth 100000 in
theorem c_History_init {l : Launch} {E : xV} {z : Nat} {a0 : Nat} {ω1 : xS} {ω : xS} (hf : f_History_init a0 z ω = some ω1) : xM l E y_History_init ws_History_init { frames := 1, cells := 3, slots := 600, locals := 20 } [.ref a0] z ω none (z + 3) ω1 := by
  refine x_start (cc := b_History_init) (maxL := 1) (ret := none) (by decide) rfl (Nat.le_of_ble_eq_true rfl) ?_
  intro p e s m below meth c S hr hlocks hin ls hl hw
  have hl : lv_has ls 1 [(0, .ref a0)] := hl
  have hin := hin rfl
  unfold f_History_init at hf
  refine lv_aload_n S.1 S.2.1 d_History_init_0 rfl (lv_at hl 0 rfl) ?_
  refine x_obj S hl.1 ob_History_1 d_History_init_1 (Nat.le_of_ble_eq_true rfl) (Nat.le_of_ble_eq_true rfl) ?_
  refine lv_aload_n S.1 S.2.1 d_History_init_4 rfl (lv_at hl 0 rfl) ?_
  refine lv_sipush (v := 200) S.1 S.2.1 d_History_init_5 (by decide) ?_
  obtain ⟨w1, hw1, hf⟩ := xlb hf
  refine x_newi (N := 200) S hw xArr_i (by decide) (by decide) (by decide) hw1 (Nat.le_of_ble_eq_true rfl) (Nat.le_of_ble_eq_true rfl) d_History_init_8 (fun H hw => ?_)
  obtain ⟨w2, hw2, hf⟩ := xb hf
  refine x_putF S hin hw lf_History_9 rfl rfl hw2 d_History_init_10 (fun H locs hw => ?_)
  refine lv_aload_n S.1 S.2.1 d_History_init_13 rfl (lv_at hl 0 rfl) ?_
  refine lv_sipush (v := 200) S.1 S.2.1 d_History_init_14 (by decide) ?_
  obtain ⟨w3, hw3, hf⟩ := xlb hf
  refine x_newi (N := 200) S hw xArr_i (by decide) (by decide) (by decide) hw3 (Nat.le_of_ble_eq_true rfl) (Nat.le_of_ble_eq_true rfl) d_History_init_17 (fun H hw => ?_)
  obtain ⟨w4, hw4, hf⟩ := xb hf
  refine x_putF S hin hw lf_History_13 rfl rfl hw4 d_History_init_19 (fun H locs hw => ?_)
  refine lv_aload_n S.1 S.2.1 d_History_init_22 rfl (lv_at hl 0 rfl) ?_
  refine lv_sipush (v := 200) S.1 S.2.1 d_History_init_23 (by decide) ?_
  obtain ⟨w5, hw5, hf⟩ := xlb hf
  refine x_newi (N := 200) S hw xArr_i (by decide) (by decide) (by decide) hw5 (Nat.le_of_ble_eq_true rfl) (Nat.le_of_ble_eq_true rfl) d_History_init_26 (fun H hw => ?_)
  obtain ⟨w6, hw6, hf⟩ := xb hf
  refine x_putF S hin hw lf_History_16 rfl rfl hw6 d_History_init_28 (fun H locs hw => ?_)
  cases hf
  exact x_vret S hr hlocks hw d_History_init_31
def f_History_keep (a0 : Nat) (x1 : Int32) (x2 : Int32) (x3 : Int32) (ω : xS) : Option xS :=
  (xgi ω a0 2 3).bind fun t1 =>
  (xp ω a0 2 3 (.int ((t1 + 1) - (t1 + 1) / 200 * 200))).bind fun w2 =>
  (xgr w2 a0 2 0).bind fun t3 =>
  (xgi w2 a0 2 3).bind fun t4 =>
  (xsi w2 t3 t4 x1).bind fun w5 =>
  (xgr w5 a0 2 1).bind fun t6 =>
  (xgi w5 a0 2 3).bind fun t7 =>
  (xsi w5 t6 t7 x2).bind fun w8 =>
  (xgr w8 a0 2 2).bind fun t9 =>
  (xgi w8 a0 2 3).bind fun t10 =>
  (xsi w8 t9 t10 x3).bind fun w11 =>
  (xgi w11 a0 2 4).bind fun t12 =>
  (xp w11 a0 2 4 (.int (xmin 200 (t12 + 1)))).bind fun w13 =>
  some w13
set_option maxHeartbeats 4000000 in
set_option maxRecDepth 100000 in
theorem c_History_keep {l : Launch} {E : xV} {z : Nat} {a0 : Nat} {x1 : Int32} {x2 : Int32} {x3 : Int32} {ω1 : xS} {ω : xS} (hf : f_History_keep a0 x1 x2 x3 ω = some ω1) : xM l E y_History_keep ws_History_keep { frames := 1, cells := 0, slots := 0, locals := 24 } [.ref a0, .int x1, .int x2, .int x3] z ω none z ω1 := by
  refine x_start (cc := b_History_keep) (maxL := 4) (ret := none) (by decide) rfl (Nat.le_of_ble_eq_true rfl) ?_
  intro p e s m below meth c S hr hlocks hin ls hl hw
  have hl : lv_has ls 4 [(0, .ref a0), (1, .int x1), (2, .int x2), (3, .int x3)] := hl
  unfold f_History_keep at hf
  refine lv_aload_n S.1 S.2.1 d_History_keep_0 rfl (lv_at hl 0 rfl) ?_
  refine lv_aload_n S.1 S.2.1 d_History_keep_1 rfl (lv_at hl 0 rfl) ?_
  obtain ⟨t1, ht1, hf⟩ := xb hf
  refine x_geti S hw lk_History_19 ht1 d_History_keep_2 ?_
  refine lv_iconst (v := 1) S.1 S.2.1 d_History_keep_5 (by decide) ?_
  refine lv_iadd S.1 S.2.1 d_History_keep_6 ?_
  refine lv_sipush (v := 200) S.1 S.2.1 d_History_keep_7 (by decide) ?_
  refine lv_irem S.1 S.2.1 d_History_keep_10 (by decide) ?_
  obtain ⟨w2, hw2, hf⟩ := xb hf
  refine x_puti S hw lp_History_19 hw2 d_History_keep_11 (fun H locs hw => ?_)
  refine lv_aload_n S.1 S.2.1 d_History_keep_14 rfl (lv_at hl 0 rfl) ?_
  obtain ⟨t3, ht3, hf⟩ := xb hf
  refine x_getr S hw lk_History_9 ht3 d_History_keep_15 ?_
  refine lv_aload_n S.1 S.2.1 d_History_keep_18 rfl (lv_at hl 0 rfl) ?_
  obtain ⟨t4, ht4, hf⟩ := xb hf
  refine x_geti S hw lk_History_19 ht4 d_History_keep_19 ?_
  refine lv_iload_n S.1 S.2.1 d_History_keep_22 rfl (lv_at hl 1 rfl) ?_
  obtain ⟨w5, hw5, hf⟩ := xb hf
  refine x_iast S hw hw5 d_History_keep_23 (fun H locs hw => ?_)
  refine lv_aload_n S.1 S.2.1 d_History_keep_24 rfl (lv_at hl 0 rfl) ?_
  obtain ⟨t6, ht6, hf⟩ := xb hf
  refine x_getr S hw lk_History_13 ht6 d_History_keep_25 ?_
  refine lv_aload_n S.1 S.2.1 d_History_keep_28 rfl (lv_at hl 0 rfl) ?_
  obtain ⟨t7, ht7, hf⟩ := xb hf
  refine x_geti S hw lk_History_19 ht7 d_History_keep_29 ?_
  refine lv_iload_n S.1 S.2.1 d_History_keep_32 rfl (lv_at hl 2 rfl) ?_
  obtain ⟨w8, hw8, hf⟩ := xb hf
  refine x_iast S hw hw8 d_History_keep_33 (fun H locs hw => ?_)
  refine lv_aload_n S.1 S.2.1 d_History_keep_34 rfl (lv_at hl 0 rfl) ?_
  obtain ⟨t9, ht9, hf⟩ := xb hf
  refine x_getr S hw lk_History_16 ht9 d_History_keep_35 ?_
  refine lv_aload_n S.1 S.2.1 d_History_keep_38 rfl (lv_at hl 0 rfl) ?_
  obtain ⟨t10, ht10, hf⟩ := xb hf
  refine x_geti S hw lk_History_19 ht10 d_History_keep_39 ?_
  refine lv_iload_n S.1 S.2.1 d_History_keep_42 rfl (lv_at hl 3 rfl) ?_
  obtain ⟨w11, hw11, hf⟩ := xb hf
  refine x_iast S hw hw11 d_History_keep_43 (fun H locs hw => ?_)
  refine lv_aload_n S.1 S.2.1 d_History_keep_44 rfl (lv_at hl 0 rfl) ?_
  refine lv_sipush (v := 200) S.1 S.2.1 d_History_keep_45 (by decide) ?_
  refine lv_aload_n S.1 S.2.1 d_History_keep_48 rfl (lv_at hl 0 rfl) ?_
  obtain ⟨t12, ht12, hf⟩ := xb hf
  refine x_geti S hw lk_History_23 ht12 d_History_keep_49 ?_
  refine lv_iconst (v := 1) S.1 S.2.1 d_History_keep_52 (by decide) ?_
  refine lv_iadd S.1 S.2.1 d_History_keep_53 ?_
  refine x_mmin S hl.1 lm_History_26 d_History_keep_54 (Nat.le_of_ble_eq_true rfl) (Nat.le_of_ble_eq_true rfl) (Nat.zero_le _) (Nat.zero_le _) ?_
  obtain ⟨w13, hw13, hf⟩ := xb hf
  refine x_puti S hw lp_History_23 hw13 d_History_keep_57 (fun H locs hw => ?_)
  cases hf
  exact x_vret S hr hlocks hw d_History_keep_60
def f_History_dropNewest (a0 : Nat) (ω : xS) : Option xS :=
  (xgi ω a0 2 3).bind fun t1 =>
  (xp ω a0 2 3 (.int (((t1 + 200) - 1) - ((t1 + 200) - 1) / 200 * 200))).bind fun w2 =>
  (xgi w2 a0 2 4).bind fun t3 =>
  (xp w2 a0 2 4 (.int (t3 - 1))).bind fun w4 =>
  some w4
set_option maxHeartbeats 4000000 in
set_option maxRecDepth 100000 in
theorem c_History_dropNewest {l : Launch} {E : xV} {z : Nat} {a0 : Nat} {ω1 : xS} {ω : xS} (hf : f_History_dropNewest a0 ω = some ω1) : xM l E y_History_dropNewest ws_History_dropNewest { frames := 0, cells := 0, slots := 0, locals := 0 } [.ref a0] z ω none z ω1 := by
  refine x_start (cc := b_History_dropNewest) (maxL := 1) (ret := none) (by decide) rfl (Nat.le_of_ble_eq_true rfl) ?_
  intro p e s m below meth c S hr hlocks hin ls hl hw
  have hl : lv_has ls 1 [(0, .ref a0)] := hl
  unfold f_History_dropNewest at hf
  refine lv_aload_n S.1 S.2.1 d_History_dropNewest_0 rfl (lv_at hl 0 rfl) ?_
  refine lv_aload_n S.1 S.2.1 d_History_dropNewest_1 rfl (lv_at hl 0 rfl) ?_
  obtain ⟨t1, ht1, hf⟩ := xb hf
  refine x_geti S hw lk_History_19 ht1 d_History_dropNewest_2 ?_
  refine lv_sipush (v := 200) S.1 S.2.1 d_History_dropNewest_5 (by decide) ?_
  refine lv_iadd S.1 S.2.1 d_History_dropNewest_8 ?_
  refine lv_iconst (v := 1) S.1 S.2.1 d_History_dropNewest_9 (by decide) ?_
  refine lv_isub S.1 S.2.1 d_History_dropNewest_10 ?_
  refine lv_sipush (v := 200) S.1 S.2.1 d_History_dropNewest_11 (by decide) ?_
  refine lv_irem S.1 S.2.1 d_History_dropNewest_14 (by decide) ?_
  obtain ⟨w2, hw2, hf⟩ := xb hf
  refine x_puti S hw lp_History_19 hw2 d_History_dropNewest_15 (fun H locs hw => ?_)
  refine lv_aload_n S.1 S.2.1 d_History_dropNewest_18 rfl (lv_at hl 0 rfl) ?_
  refine lv_dup S.1 S.2.1 d_History_dropNewest_19 rfl ?_
  obtain ⟨t3, ht3, hf⟩ := xb hf
  refine x_geti S hw lk_History_23 ht3 d_History_dropNewest_20 ?_
  refine lv_iconst (v := 1) S.1 S.2.1 d_History_dropNewest_23 (by decide) ?_
  refine lv_isub S.1 S.2.1 d_History_dropNewest_24 ?_
  obtain ⟨w4, hw4, hf⟩ := xb hf
  refine x_puti S hw lp_History_23 hw4 d_History_dropNewest_25 (fun H locs hw => ?_)
  cases hf
  exact x_vret S hr hlocks hw d_History_dropNewest_28
def f_Judge_init (a0 : Nat) (a1 : Nat) (ω : xS) : Option xS :=
  (xp ω a0 3 0 (.ref a1)).bind fun w1 =>
  some w1
set_option maxHeartbeats 4000000 in
set_option maxRecDepth 100000 in
theorem c_Judge_init {l : Launch} {E : xV} {z : Nat} {a0 : Nat} {a1 : Nat} {ω1 : xS} {ω : xS} (hf : f_Judge_init a0 a1 ω = some ω1) : xM l E y_Judge_init ws_Judge_init { frames := 1, cells := 0, slots := 0, locals := 20 } [.ref a0, .ref a1] z ω none z ω1 := by
  refine x_start (cc := b_Judge_init) (maxL := 2) (ret := none) (by decide) rfl (Nat.le_of_ble_eq_true rfl) ?_
  intro p e s m below meth c S hr hlocks hin ls hl hw
  have hl : lv_has ls 2 [(0, .ref a0), (1, .ref a1)] := hl
  have hin := hin rfl
  unfold f_Judge_init at hf
  refine lv_aload_n S.1 S.2.1 d_Judge_init_0 rfl (lv_at hl 0 rfl) ?_
  refine x_obj S hl.1 ob_Judge_3 d_Judge_init_1 (Nat.le_of_ble_eq_true rfl) (Nat.le_of_ble_eq_true rfl) ?_
  refine lv_aload_n S.1 S.2.1 d_Judge_init_4 rfl (lv_at hl 0 rfl) ?_
  refine lv_aload_n S.1 S.2.1 d_Judge_init_5 rfl (lv_at hl 1 rfl) ?_
  obtain ⟨w1, hw1, hf⟩ := xb hf
  refine x_putF S hin hw lf_Judge_9 rfl rfl hw1 d_Judge_init_6 (fun H locs hw => ?_)
  cases hf
  exact x_vret S hr hlocks hw d_Judge_init_9
def f_Judge_unfairness_17 : Nat → Nat → Int32 → Int32 → Int32 → Int32 → xS → Option Int64
  | 0, _, _, _, _, _, _ => none
  | n + 1, a0, x1, x2, x3, x4, ω =>
    (xgr ω a0 3 0).bind fun t5 =>
    (xgi ω t5 8 0).bind fun t6 =>
    if t6 ≤ x4 then (
      some (Int32.toInt64 (x2 - x3)))
    else (
      (xgr ω a0 3 0).bind fun t8 =>
      (xgr ω t8 8 9).bind fun t9 =>
      (xar ω 2 t9 x4).bind fun t10 =>
      (xai ω t10 x1).bind fun t11 =>
      (xgr ω a0 3 0).bind fun t12 =>
      (xgr ω t12 8 9).bind fun t13 =>
      (xar ω 2 t13 x4).bind fun t14 =>
      (xai ω t14 x1).bind fun t15 =>
      f_Judge_unfairness_17  n a0 x1 (xmax x2 t11) (xmin x3 t15) (x4 + 1) ω)
set_option maxHeartbeats 4000000 in
set_option maxRecDepth 100000 in
theorem w_Judge_unfairness_17 {p : Program} {l : Launch} {e : Env} {s : State} {m : MethodId} {args : Array Value} {below : List Frame} {meth : Method} {c : Code} {E : xV} {z : Nat} {r : Int64} {ω : xS} (S : CallFix p m c b_Judge_unfairness 5 s args xTbl "RosterRules$Judge") (hr : meth.sig.returnType = (some .long)) (hlocks : meth.locks = false) : ∀ n : Nat, ∀ (a0 : Nat) (x1 : Int32) (x2 : Int32) (x3 : Int32) (x4 : Int32) (H : Heap) (locs : List Loc) (ls : Array Slot), xW E z ω s s.heap H locs → lv_has ls 5 [(0, .ref a0), (1, .int x1), (2, .int x2), (3, .int x3), (4, .int x4)] → f_Judge_unfairness_17 n a0 x1 x2 x3 x4 ω = some r → W p l e (headSpec ws_Judge_unfairness { frames := 1, cells := 0, slots := 0, locals := 24 }).room s m args below meth c H locs 0 0 (MQ below (xQ E (some (.long r)) z ω) args s 0 0 (fun q => E.2.2 ≤ q)) (F0 m 17 ls []) := by
  intro n
  induction n with
  | zero =>
    intro a0 x1 x2 x3 x4 H locs ls hw hl hf
    have h2 : (none : Option Int64) = some r := hf
    cases h2
  | succ n ih =>
    intro a0 x1 x2 x3 x4 H locs ls hw hl hf
    rw [f_Judge_unfairness_17] at hf
    refine lv_iload S.1 S.2.1 d_Judge_unfairness_17 (lv_at hl 4 rfl) ?_
    refine lv_aload_n S.1 S.2.1 d_Judge_unfairness_19 rfl (lv_at hl 0 rfl) ?_
    obtain ⟨t5, ht5, hf⟩ := xb hf
    refine x_getr S hw lk_Judge_9 ht5 d_Judge_unfairness_20 ?_
    obtain ⟨t6, ht6, hf⟩ := xb hf
    refine x_geti S hw lk_Judge_37 ht6 d_Judge_unfairness_23 ?_
    refine lv_icmp_ge (tgt := 69) S.1 S.2.1 d_Judge_unfairness_26 (by decide) (fun c7 => ?_) (fun c7 => ?_)
    · replace hf := xt c7 hf
      refine lv_iload_n S.1 S.2.1 d_Judge_unfairness_69 rfl (lv_at hl 2 rfl) ?_
      refine lv_iload_n S.1 S.2.1 d_Judge_unfairness_70 rfl (lv_at hl 3 rfl) ?_
      refine lv_isub S.1 S.2.1 d_Judge_unfairness_71 ?_
      refine lv_i2l (v := (Int32.toInt64 (x2 - x3))) S.1 S.2.1 d_Judge_unfairness_72 rfl ?_
      obtain rfl := xe1 hf
      exact x_lret S hr hlocks hw d_Judge_unfairness_73
    · replace hf := xf c7 hf
      refine lv_iload_n S.1 S.2.1 d_Judge_unfairness_29 rfl (lv_at hl 2 rfl) ?_
      refine lv_aload_n S.1 S.2.1 d_Judge_unfairness_30 rfl (lv_at hl 0 rfl) ?_
      obtain ⟨t8, ht8, hf⟩ := xb hf
      refine x_getr S hw lk_Judge_9 ht8 d_Judge_unfairness_31 ?_
      obtain ⟨t9, ht9, hf⟩ := xb hf
      refine x_getr S hw lk_Judge_95 ht9 d_Judge_unfairness_34 ?_
      refine lv_iload S.1 S.2.1 d_Judge_unfairness_37 (lv_at hl 4 rfl) ?_
      obtain ⟨t10, ht10, hf⟩ := xb hf
      refine x_aald S hw (t := 2) rfl rfl ht10 d_Judge_unfairness_39 ?_
      refine lv_iload_n S.1 S.2.1 d_Judge_unfairness_40 rfl (lv_at hl 1 rfl) ?_
      obtain ⟨t11, ht11, hf⟩ := xb hf
      refine x_iald S hw ht11 d_Judge_unfairness_41 ?_
      refine x_mmax S hl.1 lm_Judge_72 d_Judge_unfairness_42 (Nat.le_of_ble_eq_true rfl) (Nat.le_of_ble_eq_true rfl) (Nat.zero_le _) (Nat.zero_le _) ?_
      refine lv_istore_n (lv' := [(2, .int (xmax x2 t11)), (0, .ref a0), (1, .int x1), (3, .int x3), (4, .int x4)]) S.1 S.2.1 d_Judge_unfairness_45 rfl hl (by decide) rfl (fun ls hl => ?_)
      refine lv_iload_n S.1 S.2.1 d_Judge_unfairness_46 rfl (lv_at hl 3 rfl) ?_
      refine lv_aload_n S.1 S.2.1 d_Judge_unfairness_47 rfl (lv_at hl 1 rfl) ?_
      obtain ⟨t12, ht12, hf⟩ := xb hf
      refine x_getr S hw lk_Judge_9 ht12 d_Judge_unfairness_48 ?_
      obtain ⟨t13, ht13, hf⟩ := xb hf
      refine x_getr S hw lk_Judge_95 ht13 d_Judge_unfairness_51 ?_
      refine lv_iload S.1 S.2.1 d_Judge_unfairness_54 (lv_at hl 4 rfl) ?_
      obtain ⟨t14, ht14, hf⟩ := xb hf
      refine x_aald S hw (t := 2) rfl rfl ht14 d_Judge_unfairness_56 ?_
      refine lv_iload_n S.1 S.2.1 d_Judge_unfairness_57 rfl (lv_at hl 2 rfl) ?_
      obtain ⟨t15, ht15, hf⟩ := xb hf
      refine x_iald S hw ht15 d_Judge_unfairness_58 ?_
      refine x_mmin S hl.1 lm_Judge_78 d_Judge_unfairness_59 (Nat.le_of_ble_eq_true rfl) (Nat.le_of_ble_eq_true rfl) (Nat.zero_le _) (Nat.zero_le _) ?_
      refine lv_istore_n (lv' := [(3, .int (xmin x3 t15)), (2, .int (xmax x2 t11)), (0, .ref a0), (1, .int x1), (4, .int x4)]) S.1 S.2.1 d_Judge_unfairness_62 rfl hl (by decide) rfl (fun ls hl => ?_)
      refine lv_iinc (v := (x4 + 1)) (lv' := [(4, .int (x4 + 1)), (3, .int (xmin x3 t15)), (2, .int (xmax x2 t11)), (0, .ref a0), (1, .int x1)]) S.1 S.2.1 d_Judge_unfairness_63 hl (k := 4) rfl rfl (by decide) rfl (fun ls hl => ?_)
      refine lv_goto (tgt := 17) S.1 S.2.1 d_Judge_unfairness_66 (by decide) ?_
      exact ih _ _ _ _ _ _ _ _ hw (lv_sub hl [3, 4, 2, 1, 0] rfl) hf
def f_Judge_unfairness (a0 : Nat) (x1 : Int32) (ω : xS) : Option Int64 :=
  (xgr ω a0 3 0).bind fun t1 =>
  (xgr ω t1 8 9).bind fun t2 =>
  (xar ω 2 t2 0).bind fun t3 =>
  (xai ω t3 x1).bind fun t4 =>
  f_Judge_unfairness_17  xFU a0 x1 t4 t4 1 ω
set_option maxHeartbeats 4000000 in
set_option maxRecDepth 100000 in
theorem c_Judge_unfairness {l : Launch} {E : xV} {z : Nat} {a0 : Nat} {x1 : Int32} {r : Int64} {ω : xS} (hf : f_Judge_unfairness a0 x1 ω = some r) : xM l E y_Judge_unfairness ws_Judge_unfairness { frames := 1, cells := 0, slots := 0, locals := 24 } [.ref a0, .int x1] z ω (some (.long r)) z ω := by
  refine x_start (cc := b_Judge_unfairness) (maxL := 5) (ret := (some .long)) (by decide) rfl (Nat.le_of_ble_eq_true rfl) ?_
  intro p e s m below meth c S hr hlocks hin ls hl hw
  have hl : lv_has ls 5 [(0, .ref a0), (1, .int x1)] := hl
  unfold f_Judge_unfairness at hf
  refine lv_aload_n S.1 S.2.1 d_Judge_unfairness_0 rfl (lv_at hl 0 rfl) ?_
  obtain ⟨t1, ht1, hf⟩ := xb hf
  refine x_getr S hw lk_Judge_9 ht1 d_Judge_unfairness_1 ?_
  obtain ⟨t2, ht2, hf⟩ := xb hf
  refine x_getr S hw lk_Judge_95 ht2 d_Judge_unfairness_4 ?_
  refine lv_iconst (v := 0) S.1 S.2.1 d_Judge_unfairness_7 (by decide) ?_
  obtain ⟨t3, ht3, hf⟩ := xb hf
  refine x_aald S hw (t := 2) rfl rfl ht3 d_Judge_unfairness_8 ?_
  refine lv_iload_n S.1 S.2.1 d_Judge_unfairness_9 rfl (lv_at hl 1 rfl) ?_
  obtain ⟨t4, ht4, hf⟩ := xb hf
  refine x_iald S hw ht4 d_Judge_unfairness_10 ?_
  refine lv_istore_n (lv' := [(2, .int t4), (0, .ref a0), (1, .int x1)]) S.1 S.2.1 d_Judge_unfairness_11 rfl hl (by decide) rfl (fun ls hl => ?_)
  refine lv_iload_n S.1 S.2.1 d_Judge_unfairness_12 rfl (lv_at hl 0 rfl) ?_
  refine lv_istore_n (lv' := [(3, .int t4), (2, .int t4), (0, .ref a0), (1, .int x1)]) S.1 S.2.1 d_Judge_unfairness_13 rfl hl (by decide) rfl (fun ls hl => ?_)
  refine lv_iconst (v := 1) S.1 S.2.1 d_Judge_unfairness_14 (by decide) ?_
  refine lv_istore (lv' := [(4, .int 1), (3, .int t4), (2, .int t4), (0, .ref a0), (1, .int x1)]) S.1 S.2.1 d_Judge_unfairness_15 hl (by decide) rfl (fun ls hl => ?_)
  exact w_Judge_unfairness_17 S hr hlocks  _ _ _ _ _ _ _ _ _ hw (lv_sub hl [3, 4, 2, 1, 0] rfl) hf
def f_Judge_outside (a0 : Nat) (x1 : Int64) (a3 : Nat) (ω : xS) : Option Int64 :=
  (xgi ω a3 4 5).bind fun t1 =>
  (xgi ω a3 4 6).bind fun t2 =>
  some ((xmaxl 0 ((Int32.toInt64 t1) - x1)) + (xmaxl 0 (x1 - (Int32.toInt64 t2))))
set_option maxHeartbeats 4000000 in
set_option maxRecDepth 100000 in
theorem c_Judge_outside {l : Launch} {E : xV} {z : Nat} {a0 : Nat} {x1 : Int64} {a3 : Nat} {r : Int64} {ω : xS} (hf : f_Judge_outside a0 x1 a3 ω = some r) : xM l E y_Judge_outside ws_Judge_outside { frames := 1, cells := 0, slots := 0, locals := 24 } [.ref a0, .long x1, .ref a3] z ω (some (.long r)) z ω := by
  refine x_start (cc := b_Judge_outside) (maxL := 4) (ret := (some .long)) (by decide) rfl (Nat.le_of_ble_eq_true rfl) ?_
  intro p e s m below meth c S hr hlocks hin ls hl hw
  have hl : lv_has ls 4 [(0, .ref a0), (1, .long x1), (3, .ref a3)] := hl
  unfold f_Judge_outside at hf
  refine lv_lconst (v := 0) S.1 S.2.1 d_Judge_outside_0 (by decide) ?_
  refine lv_aload_n S.1 S.2.1 d_Judge_outside_1 rfl (lv_at hl 2 rfl) ?_
  obtain ⟨t1, ht1, hf⟩ := xb hf
  refine x_geti S hw lk_Judge_47 ht1 d_Judge_outside_2 ?_
  refine lv_i2l (v := (Int32.toInt64 t1)) S.1 S.2.1 d_Judge_outside_5 rfl ?_
  refine lv_lload_n S.1 S.2.1 d_Judge_outside_6 rfl (lv_at hl 1 rfl) ?_
  refine lv_lsub S.1 S.2.1 d_Judge_outside_7 ?_
  refine x_mmaxl S hl.1 lm_Judge_89 d_Judge_outside_8 (Nat.le_of_ble_eq_true rfl) (Nat.le_of_ble_eq_true rfl) (Nat.zero_le _) (Nat.zero_le _) ?_
  refine lv_lconst (v := 0) S.1 S.2.1 d_Judge_outside_11 (by decide) ?_
  refine lv_lload_n S.1 S.2.1 d_Judge_outside_12 rfl (lv_at hl 1 rfl) ?_
  refine lv_aload_n S.1 S.2.1 d_Judge_outside_13 rfl (lv_at hl 2 rfl) ?_
  obtain ⟨t2, ht2, hf⟩ := xb hf
  refine x_geti S hw lk_Judge_92 ht2 d_Judge_outside_14 ?_
  refine lv_i2l (v := (Int32.toInt64 t2)) S.1 S.2.1 d_Judge_outside_17 rfl ?_
  refine lv_lsub S.1 S.2.1 d_Judge_outside_18 ?_
  refine x_mmaxl S hl.1 lm_Judge_89 d_Judge_outside_19 (Nat.le_of_ble_eq_true rfl) (Nat.le_of_ble_eq_true rfl) (Nat.zero_le _) (Nat.zero_le _) ?_
  refine lv_ladd S.1 S.2.1 d_Judge_outside_22 ?_
  obtain rfl := xe1 hf
  exact x_lret S hr hlocks hw d_Judge_outside_23
def f_Judge_coverAmiss (a0 : Nat) (a1 : Nat) (x2 : Int32) (ω : xS) : Option Int64 :=
  (xgr ω a0 3 0).bind fun t1 =>
  (xgr ω t1 8 10).bind fun t2 =>
  (xar ω 2 t2 x2).bind fun t3 =>
  (xgi ω a1 4 8).bind fun t4 =>
  (xai ω t3 t4).bind fun t5 =>
  (xk ω a0 3 (f_Judge_outside a0 (Int32.toInt64 t5) a1 ω)).bind fun t7 =>
  some t7
set_option maxHeartbeats 4000000 in
set_option maxRecDepth 100000 in
theorem c_Judge_coverAmiss {l : Launch} {E : xV} {z : Nat} {a0 : Nat} {a1 : Nat} {x2 : Int32} {r : Int64} {ω : xS} (hf : f_Judge_coverAmiss a0 a1 x2 ω = some r) : xM l E y_Judge_coverAmiss ws_Judge_coverAmiss { frames := 2, cells := 0, slots := 0, locals := 47 } [.ref a0, .ref a1, .int x2] z ω (some (.long r)) z ω := by
  refine x_start (cc := b_Judge_coverAmiss) (maxL := 3) (ret := (some .long)) (by decide) rfl (Nat.le_of_ble_eq_true rfl) ?_
  intro p e s m below meth c S hr hlocks hin ls hl hw
  have hl : lv_has ls 3 [(0, .ref a0), (1, .ref a1), (2, .int x2)] := hl
  unfold f_Judge_coverAmiss at hf
  refine lv_aload_n S.1 S.2.1 d_Judge_coverAmiss_0 rfl (lv_at hl 0 rfl) ?_
  refine lv_aload_n S.1 S.2.1 d_Judge_coverAmiss_1 rfl (lv_at hl 0 rfl) ?_
  obtain ⟨t1, ht1, hf⟩ := xb hf
  refine x_getr S hw lk_Judge_9 ht1 d_Judge_coverAmiss_2 ?_
  obtain ⟨t2, ht2, hf⟩ := xb hf
  refine x_getr S hw lk_Judge_81 ht2 d_Judge_coverAmiss_5 ?_
  refine lv_iload_n S.1 S.2.1 d_Judge_coverAmiss_8 rfl (lv_at hl 2 rfl) ?_
  obtain ⟨t3, ht3, hf⟩ := xb hf
  refine x_aald S hw (t := 2) rfl rfl ht3 d_Judge_coverAmiss_9 ?_
  refine lv_aload_n S.1 S.2.1 d_Judge_coverAmiss_10 rfl (lv_at hl 1 rfl) ?_
  obtain ⟨t4, ht4, hf⟩ := xb hf
  refine x_geti S hw lk_Judge_21 ht4 d_Judge_coverAmiss_11 ?_
  obtain ⟨t5, ht5, hf⟩ := xb hf
  refine x_iald S hw ht5 d_Judge_coverAmiss_14 ?_
  refine lv_i2l (v := (Int32.toInt64 t5)) S.1 S.2.1 d_Judge_coverAmiss_15 rfl ?_
  refine lv_aload_n S.1 S.2.1 d_Judge_coverAmiss_16 rfl (lv_at hl 1 rfl) ?_
  obtain ⟨t7, h6, hf⟩ := xb hf
  obtain ⟨h6b, h6⟩ := xkb h6
  refine x_callV (As := [.long (Int32.toInt64 t5), .ref a1]) (rest := []) (st1 := [.long t7]) S hw (c_Judge_outside h6) (cwV 2 S.2.2.2.2 gv_Judge_85 rfl rfl rfl hd_Judge_outside ⟨Nat.le_of_ble_eq_true rfl, Nat.le_of_ble_eq_true rfl⟩) rfl h6b rfl hl.1 rfl rfl (Nat.le_of_ble_eq_true rfl) d_Judge_coverAmiss_17 ⟨Nat.le_of_ble_eq_true rfl, Nat.le_of_ble_eq_true rfl⟩ (fun H locs hw => ?_)
  obtain rfl := xe1 hf
  exact x_lret S hr hlocks hw d_Judge_coverAmiss_20
def f_Roster_letterOf (a0 : Nat) (x1 : Int32) (x2 : Int32) (ω : xS) : Option Int32 :=
  (xgr ω a0 8 6).bind fun t1 =>
  (xar ω 2 t1 x1).bind fun t2 =>
  (xai ω t2 (7 + x2)).bind fun t3 =>
  some t3
set_option maxHeartbeats 4000000 in
set_option maxRecDepth 100000 in
theorem c_Roster_letterOf {l : Launch} {E : xV} {z : Nat} {a0 : Nat} {x1 : Int32} {x2 : Int32} {r : Int32} {ω : xS} (hf : f_Roster_letterOf a0 x1 x2 ω = some r) : xM l E y_Roster_letterOf ws_Roster_letterOf { frames := 0, cells := 0, slots := 0, locals := 0 } [.ref a0, .int x1, .int x2] z ω (some (.int r)) z ω := by
  refine x_start (cc := b_Roster_letterOf) (maxL := 3) (ret := (some .int)) (by decide) rfl (Nat.le_of_ble_eq_true rfl) ?_
  intro p e s m below meth c S hr hlocks hin ls hl hw
  have hl : lv_has ls 3 [(0, .ref a0), (1, .int x1), (2, .int x2)] := hl
  unfold f_Roster_letterOf at hf
  refine lv_aload_n S.1 S.2.1 d_Roster_letterOf_0 rfl (lv_at hl 0 rfl) ?_
  obtain ⟨t1, ht1, hf⟩ := xb hf
  refine x_getr S hw lk_Roster_33 ht1 d_Roster_letterOf_1 ?_
  refine lv_iload_n S.1 S.2.1 d_Roster_letterOf_4 rfl (lv_at hl 1 rfl) ?_
  obtain ⟨t2, ht2, hf⟩ := xb hf
  refine x_aald S hw (t := 2) rfl rfl ht2 d_Roster_letterOf_5 ?_
  refine lv_bipush (v := 7) S.1 S.2.1 d_Roster_letterOf_6 (by decide) ?_
  refine lv_iload_n S.1 S.2.1 d_Roster_letterOf_8 rfl (lv_at hl 2 rfl) ?_
  refine lv_iadd S.1 S.2.1 d_Roster_letterOf_9 ?_
  obtain ⟨t3, ht3, hf⟩ := xb hf
  refine x_iald S hw ht3 d_Roster_letterOf_10 ?_
  obtain rfl := xe1 hf
  exact x_iret S hr hlocks hw d_Roster_letterOf_11
def f_Judge_unskilled_6 : Nat → Nat → Int32 → Int32 → Int64 → Int32 → xS → Option Int64
  | 0, _, _, _, _, _, _ => none
  | n + 1, a0, x1, x3, x4, x6, ω =>
    if x3 < x6 then (
      some x4)
    else (
      (xgr ω a0 3 0).bind fun t2 =>
      (xk ω t2 8 (f_Roster_letterOf t2 x1 x6 ω)).bind fun t4 =>
      if t4 = 0 then (
        f_Judge_unskilled_6  n a0 x1 x3 x4 (x6 + 1) ω)
      else (
        (xgr ω a0 3 0).bind fun t6 =>
        (xgr ω t6 8 5).bind fun t7 =>
        (xai ω t7 x1).bind fun t8 =>
        (xgr ω a0 3 0).bind fun t9 =>
        (xgr ω t9 8 4).bind fun t10 =>
        (xai ω t10 t4).bind fun t11 =>
        if ((t8 >>> (t11 &&& 31)) &&& 1) = 0 then (
          f_Judge_unskilled_6  n a0 x1 x3 (x4 + 1) (x6 + 1) ω)
        else (
          f_Judge_unskilled_6  n a0 x1 x3 x4 (x6 + 1) ω)))
set_option maxHeartbeats 4000000 in
set_option maxRecDepth 100000 in
theorem w_Judge_unskilled_6 {p : Program} {l : Launch} {e : Env} {s : State} {m : MethodId} {args : Array Value} {below : List Frame} {meth : Method} {c : Code} {E : xV} {z : Nat} {r : Int64} {ω : xS} (S : CallFix p m c b_Judge_unskilled 8 s args xTbl "RosterRules$Judge") (hr : meth.sig.returnType = (some .long)) (hlocks : meth.locks = false) : ∀ n : Nat, ∀ (a0 : Nat) (x1 : Int32) (x3 : Int32) (x4 : Int64) (x6 : Int32) (H : Heap) (locs : List Loc) (ls : Array Slot), xW E z ω s s.heap H locs → lv_has ls 8 [(0, .ref a0), (1, .int x1), (3, .int x3), (4, .long x4), (6, .int x6)] → f_Judge_unskilled_6 n a0 x1 x3 x4 x6 ω = some r → W p l e (headSpec ws_Judge_unskilled { frames := 1, cells := 0, slots := 0, locals := 22 }).room s m args below meth c H locs 0 0 (MQ below (xQ E (some (.long r)) z ω) args s 0 0 (fun q => E.2.2 ≤ q)) (F0 m 6 ls []) := by
  intro n
  induction n with
  | zero =>
    intro a0 x1 x3 x4 x6 H locs ls hw hl hf
    have h2 : (none : Option Int64) = some r := hf
    cases h2
  | succ n ih =>
    intro a0 x1 x3 x4 x6 H locs ls hw hl hf
    rw [f_Judge_unskilled_6] at hf
    refine lv_iload S.1 S.2.1 d_Judge_unskilled_6 (lv_at hl 4 rfl) ?_
    refine lv_iload_n S.1 S.2.1 d_Judge_unskilled_8 rfl (lv_at hl 2 rfl) ?_
    refine lv_icmp_gt (tgt := 66) S.1 S.2.1 d_Judge_unskilled_9 (by decide) (fun c1 => ?_) (fun c1 => ?_)
    · replace hf := xt c1 hf
      refine lv_lload S.1 S.2.1 d_Judge_unskilled_66 (lv_at hl 3 rfl) ?_
      obtain rfl := xe1 hf
      exact x_lret S hr hlocks hw d_Judge_unskilled_68
    · replace hf := xf c1 hf
      refine lv_aload_n S.1 S.2.1 d_Judge_unskilled_12 rfl (lv_at hl 0 rfl) ?_
      obtain ⟨t2, ht2, hf⟩ := xb hf
      refine x_getr S hw lk_Judge_9 ht2 d_Judge_unskilled_13 ?_
      refine lv_iload_n S.1 S.2.1 d_Judge_unskilled_16 rfl (lv_at hl 1 rfl) ?_
      refine lv_iload S.1 S.2.1 d_Judge_unskilled_17 (lv_at hl 4 rfl) ?_
      obtain ⟨t4, h3, hf⟩ := xb hf
      obtain ⟨h3b, h3⟩ := xkb h3
      refine x_callV (As := [.int x1, .int x6]) (rest := []) (st1 := [.int t4]) S hw (c_Roster_letterOf h3) (cwV 2 S.2.2.2.2 gv_Judge_98 rfl rfl rfl hd_Roster_letterOf ⟨Nat.le_of_ble_eq_true rfl, Nat.le_of_ble_eq_true rfl⟩) rfl h3b rfl hl.1 rfl rfl (Nat.le_of_ble_eq_true rfl) d_Judge_unskilled_19 ⟨Nat.le_of_ble_eq_true rfl, Nat.le_of_ble_eq_true rfl⟩ (fun H locs hw => ?_)
      refine lv_istore (lv' := [(7, .int t4), (0, .ref a0), (1, .int x1), (3, .int x3), (4, .long x4), (6, .int x6)]) S.1 S.2.1 d_Judge_unskilled_22 hl (by decide) rfl (fun ls hl => ?_)
      refine lv_iload S.1 S.2.1 d_Judge_unskilled_24 (lv_at hl 0 rfl) ?_
      refine lv_if_eq (tgt := 60) S.1 S.2.1 d_Judge_unskilled_26 (by decide) (fun c5 => ?_) (fun c5 => ?_)
      · replace hf := xt c5 hf
        refine lv_iinc (v := (x6 + 1)) (lv' := [(6, .int (x6 + 1)), (7, .int t4), (0, .ref a0), (1, .int x1), (3, .int x3), (4, .long x4)]) S.1 S.2.1 d_Judge_unskilled_60 hl (k := 5) rfl rfl (by decide) rfl (fun ls hl => ?_)
        refine lv_goto (tgt := 6) S.1 S.2.1 d_Judge_unskilled_63 (by decide) ?_
        exact ih _ _ _ _ _ _ _ _ hw (lv_sub hl [2, 3, 4, 5, 0] rfl) hf
      · replace hf := xf c5 hf
        refine lv_aload_n S.1 S.2.1 d_Judge_unskilled_29 rfl (lv_at hl 1 rfl) ?_
        obtain ⟨t6, ht6, hf⟩ := xb hf
        refine x_getr S hw lk_Judge_9 ht6 d_Judge_unskilled_30 ?_
        obtain ⟨t7, ht7, hf⟩ := xb hf
        refine x_getr S hw lk_Judge_101 ht7 d_Judge_unskilled_33 ?_
        refine lv_iload_n S.1 S.2.1 d_Judge_unskilled_36 rfl (lv_at hl 2 rfl) ?_
        obtain ⟨t8, ht8, hf⟩ := xb hf
        refine x_iald S hw ht8 d_Judge_unskilled_37 ?_
        refine lv_aload_n S.1 S.2.1 d_Judge_unskilled_38 rfl (lv_at hl 1 rfl) ?_
        obtain ⟨t9, ht9, hf⟩ := xb hf
        refine x_getr S hw lk_Judge_9 ht9 d_Judge_unskilled_39 ?_
        obtain ⟨t10, ht10, hf⟩ := xb hf
        refine x_getr S hw lk_Judge_105 ht10 d_Judge_unskilled_42 ?_
        refine lv_iload S.1 S.2.1 d_Judge_unskilled_45 (lv_at hl 0 rfl) ?_
        obtain ⟨t11, ht11, hf⟩ := xb hf
        refine x_iald S hw ht11 d_Judge_unskilled_47 ?_
        refine lv_ishr S.1 S.2.1 d_Judge_unskilled_48 ?_
        refine lv_iconst (v := 1) S.1 S.2.1 d_Judge_unskilled_49 (by decide) ?_
        refine lv_iand S.1 S.2.1 d_Judge_unskilled_50 ?_
        refine lv_if_ne (tgt := 60) S.1 S.2.1 d_Judge_unskilled_51 (by decide) (fun c12 => ?_) (fun c12 => ?_)
        · replace hf := xf c12 hf
          refine lv_iinc (v := (x6 + 1)) (lv' := [(6, .int (x6 + 1)), (7, .int t4), (0, .ref a0), (1, .int x1), (3, .int x3), (4, .long x4)]) S.1 S.2.1 d_Judge_unskilled_60 hl (k := 5) rfl rfl (by decide) rfl (fun ls hl => ?_)
          refine lv_goto (tgt := 6) S.1 S.2.1 d_Judge_unskilled_63 (by decide) ?_
          exact ih _ _ _ _ _ _ _ _ hw (lv_sub hl [2, 3, 4, 5, 0] rfl) hf
        · replace hf := xt c12 hf
          refine lv_lload S.1 S.2.1 d_Judge_unskilled_54 (lv_at hl 4 rfl) ?_
          refine lv_lconst (v := 1) S.1 S.2.1 d_Judge_unskilled_56 (by decide) ?_
          refine lv_ladd S.1 S.2.1 d_Judge_unskilled_57 ?_
          refine lv_lstore (lv' := [(4, .long (x4 + 1)), (7, .int t4), (0, .ref a0), (1, .int x1), (3, .int x3), (6, .int x6)]) S.1 S.2.1 d_Judge_unskilled_58 hl (by decide) rfl (fun ls hl => ?_)
          refine lv_iinc (v := (x6 + 1)) (lv' := [(6, .int (x6 + 1)), (4, .long (x4 + 1)), (7, .int t4), (0, .ref a0), (1, .int x1), (3, .int x3)]) S.1 S.2.1 d_Judge_unskilled_60 hl (k := 5) rfl rfl (by decide) rfl (fun ls hl => ?_)
          refine lv_goto (tgt := 6) S.1 S.2.1 d_Judge_unskilled_63 (by decide) ?_
          exact ih _ _ _ _ _ _ _ _ hw (lv_sub hl [3, 4, 5, 1, 0] rfl) hf
def f_Judge_unskilled (a0 : Nat) (x1 : Int32) (x2 : Int32) (x3 : Int32) (ω : xS) : Option Int64 :=
  f_Judge_unskilled_6  xFU a0 x1 x3 0 x2 ω
set_option maxHeartbeats 4000000 in
set_option maxRecDepth 100000 in
theorem c_Judge_unskilled {l : Launch} {E : xV} {z : Nat} {a0 : Nat} {x1 : Int32} {x2 : Int32} {x3 : Int32} {r : Int64} {ω : xS} (hf : f_Judge_unskilled a0 x1 x2 x3 ω = some r) : xM l E y_Judge_unskilled ws_Judge_unskilled { frames := 1, cells := 0, slots := 0, locals := 22 } [.ref a0, .int x1, .int x2, .int x3] z ω (some (.long r)) z ω := by
  refine x_start (cc := b_Judge_unskilled) (maxL := 8) (ret := (some .long)) (by decide) rfl (Nat.le_of_ble_eq_true rfl) ?_
  intro p e s m below meth c S hr hlocks hin ls hl hw
  have hl : lv_has ls 8 [(0, .ref a0), (1, .int x1), (2, .int x2), (3, .int x3)] := hl
  unfold f_Judge_unskilled at hf
  refine lv_lconst (v := 0) S.1 S.2.1 d_Judge_unskilled_0 (by decide) ?_
  refine lv_lstore (lv' := [(4, .long 0), (0, .ref a0), (1, .int x1), (2, .int x2), (3, .int x3)]) S.1 S.2.1 d_Judge_unskilled_1 hl (by decide) rfl (fun ls hl => ?_)
  refine lv_iload_n S.1 S.2.1 d_Judge_unskilled_3 rfl (lv_at hl 3 rfl) ?_
  refine lv_istore (lv' := [(6, .int x2), (4, .long 0), (0, .ref a0), (1, .int x1), (2, .int x2), (3, .int x3)]) S.1 S.2.1 d_Judge_unskilled_4 hl (by decide) rfl (fun ls hl => ?_)
  exact w_Judge_unskilled_6 S hr hlocks  _ _ _ _ _ _ _ _ _ hw (lv_sub hl [2, 3, 5, 1, 0] rfl) hf
