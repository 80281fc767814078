/-! THE REFERENCE'S OBJECT IS MADE; the first world -/
def jMoR (z : Nat) : List (xE ⊕ (Nat × Value)) := [.inl (jA0 168), .inr (2, .ref z), .inl (jA0 56), .inr (3, .ref (z + 1)), .inl (jA0 8), .inr (4, .ref (z + 2)), .inl (jA0 8), .inr (5, .ref (z + 3)), .inl (jA0 8), .inr (6, .ref (z + 4)), .inl (jA0 8), .inr (7, .ref (z + 5)), .inl (jA0 168), .inr (8, .ref (z + 6)), .inl (jA0 168), .inr (9, .ref (z + 7)), .inl (jA4 1500), .inr (10, .ref (z + 8)), .inr (12, .int (-2)), .inl (jA0 16), .inr (13, .ref (z + 9)), .inl (jA0 16), .inr (14, .ref (z + 10)), .inl (jA0 16), .inr (15, .ref (z + 11)), .inl (jA0 16), .inr (16, .ref (z + 12)), .inl (jA0 16), .inr (17, .ref (z + 13)), .inl (jA0 16), .inr (18, .ref (z + 14)), .inl (jA0 16), .inr (19, .ref (z + 15)), .inl (jA0 160), .inr (21, .ref (z + 16)), .inl (jA0 176), .inr (22, .ref (z + 17)), .inl (jA0 16), .inr (23, .ref (z + 18)), .inl (jA5 16), .inr (24, .ref (z + 19)), .inl (jA0 16), .inr (25, .ref (z + 20)), .inl (jA0 16), .inr (26, .ref (z + 21)), .inl (jA0 147600), .inr (27, .ref (z + 22)), .inl (jA5 16400), .inr (28, .ref (z + 23)), .inl (jA0 200), .inr (29, .ref (z + 24)), .inl (jA0 200), .inr (30, .ref (z + 25)), .inl (jA0 45), .inr (45, .ref (z + 26)), .inl (jA0 45), .inr (46, .ref (z + 27)), .inl (jA0 45), .inr (47, .ref (z + 28)), .inl (jA5 45), .inr (48, .ref (z + 29)), .inl (jA1 45), .inr (49, .ref (z + 30)), .inl (jA1 45), .inr (50, .ref (z + 31)), .inl (jA1 45), .inr (51, .ref (z + 32)), .inl (jA5 45), .inr (52, .ref (z + 33)), .inl (jA5 45), .inr (53, .ref (z + 34)), .inl (jA0 45), .inr (54, .ref (z + 35)), .inl (jA0 45), .inr (55, .ref (z + 36)), .inl (jA0 1025), .inr (56, .ref (z + 37)), .inl (jA0 1025), .inr (57, .ref (z + 38)), .inl (jA0 9225), .inr (58, .ref (z + 39)), .inl (jA0 1025), .inr (59, .ref (z + 40)), .inl (jA0 1025), .inr (60, .ref (z + 41)), .inl (jA0 1025), .inr (61, .ref (z + 42)), .inl (jA0 1025), .inr (62, .ref (z + 43)), .inl (jA1 1025), .inr (63, .ref (z + 44)), .inl (jA1 1025), .inr (64, .ref (z + 45))]
def jMo0 : List Value := [.int 0, .int 0, .null, .null, .null, .null, .null, .null, .null, .null, .null, .int 0, .int 0, .null, .null, .null, .null, .null, .null, .null, .int 0, .null, .null, .null, .null, .null, .null, .null, .null, .null, .null, .int 0, .int 0, .int 0, .int 0, .int 0, .int 0, .int 0, .long 0, .int 0, .int 0, .int 0, .int 0, .int 0, .int 0, .null, .null, .null, .null, .null, .null, .null, .null, .null, .null, .null, .null, .null, .null, .null, .null, .null, .null, .null, .null]
def jMoF (z : Nat) : List Value := [.int 0, .int 0, .ref z, .ref (z + 1), .ref (z + 2), .ref (z + 3), .ref (z + 4), .ref (z + 5), .ref (z + 6), .ref (z + 7), .ref (z + 8), .int 0, .int (-2), .ref (z + 9), .ref (z + 10), .ref (z + 11), .ref (z + 12), .ref (z + 13), .ref (z + 14), .ref (z + 15), .int 0, .ref (z + 16), .ref (z + 17), .ref (z + 18), .ref (z + 19), .ref (z + 20), .ref (z + 21), .ref (z + 22), .ref (z + 23), .ref (z + 24), .ref (z + 25), .int 0, .int 0, .int 0, .int 0, .int 0, .int 0, .int 0, .long 0, .int 0, .int 0, .int 0, .int 0, .int 0, .int 0, .ref (z + 26), .ref (z + 27), .ref (z + 28), .ref (z + 29), .ref (z + 30), .ref (z + 31), .ref (z + 32), .ref (z + 33), .ref (z + 34), .ref (z + 35), .ref (z + 36), .ref (z + 37), .ref (z + 38), .ref (z + 39), .ref (z + 40), .ref (z + 41), .ref (z + 42), .ref (z + 43), .ref (z + 44), .ref (z + 45)]
theorem jMoP (z : Nat) : jQp (jMoR z) jMo0 = jMoF z := by
  unfold jMoR jMo0 jMoF
  simp only [jQp, List.set_cons_zero, List.set_cons_succ]
theorem jI_Mo {ω : xS} {a0 : Nat} {x1 x2 : Int32} (h : ω a0 = some (.inr (12, jMo0))) : ∃ ω', f_Mo_init a0 x1 x2 (a0 + 1) ω = (if 1 ≤ x1 then (if x1 ≤ 8 then f_Mo_init_418 a0 x2 x1 a0 ω' else f_Mo_init_418 a0 x2 8 a0 ω') else f_Mo_init_418 a0 x2 1 a0 ω') ∧ ω' a0 = some (.inr (12, jMoF (a0 + 1))) ∧ (∀ j e, (jQn (jMoR (a0 + 1)))[j]? = some e → ω' (a0 + 1 + 0 + j) = some e) ∧ ∀ q, q < a0 → ω' q = ω q := by
  obtain ⟨ω', a1, a2, a3, a4⟩ := jQr_ok (K := fun w => if 1 ≤ x1 then (if x1 ≤ 8 then f_Mo_init_418 a0 x2 x1 a0 w else f_Mo_init_418 a0 x2 8 a0 w) else f_Mo_init_418 a0 x2 1 a0 w) (jMoR (a0 + 1)) 0 ω jMo0 h (Nat.lt_succ_self _) rfl
  rw [jMoP] at a2
  exact ⟨ω', a1, a2, a3, fun q hq => a4 q (by omega) (Or.inl (by omega))⟩
/-- the numbers of the first world -/
def jI0 (n d : Nat) : jC → Nat → Int32
  | .inl q, k => match q, k with
    | 18, 0 => nI n
    | 18, 1 => nI d
    | 29, 2 => nI d
    | 29, 4 => -2
    | _, _ => 0
  | .inr (.inr (.inr (.inr q))), k => match q, k with
    | 0, 12 => -2
    | _, _ => 0
  | _, _ => 0
def jA00 (n d : Nat) : jC → Nat → Int32
  | .inl q, i => match q with
    | 19 => if 1 ≤ i ∧ i ≤ 8 then 480 else 0
    | 20 => if 1 ≤ i ∧ i ≤ 8 then 480 else 0
    | 22 => if i < n then 1023 else 0
    | _ => 0
  | .inr (.inl (t, _)), l => match t with
    | 3 => if l = 0 then nI d else 0
    | 4 => if l = 0 then nI n else 0
    | _ => 0
  | _, _ => 0
def jS0 (n d : Nat) : jSt := (jI0 n d, jA00 n d, fun _ _ => 0, jlk 0 0 0, fun _ => 0)
def jL0 (B n d : Nat) : jL := (B, n, d, fun j => B + 35 + 4 * n + d + 8 * j + 7)
theorem jW_self {L : jL} {S : jSt} {ω : xS} (h : ∀ c, jok L c → ω (jad L c) = some (jen L S c)) : jW L ω S = ω := by
  funext q
  by_cases hx : ∃ c, jok L c ∧ jad L c = q
  · rw [jW_yes hx]
    have e := Classical.choose_spec hx
    rw [← h _ e.1, e.2]
  · exact jW_non hx
theorem jceE {L : jL} {S : jSt} {ω : xS} {c : jC} {a : Nat} {e : xE} (h : ω a = some e) (ha : jad L c = a) (he : jen L S c = e) : ω (jad L c) = some (jen L S c) := by rw [ha, he]; exact h
theorem jF_o {ω : xS} {B n d : Nat} (h : jIA ω B (B + 1) n d) : ∀ q, q ≤ 34 → ω (jad (jL0 B n d) (jo q)) = some (jen (jL0 B n d) (jS0 n d) (jo q)) := by
  have A24 : jad (jL0 B n d) (jo 24) = B + 1 + 18 + 5 + n := by show B + 24 + n = _; omega
  have A25 : jad (jL0 B n d) (jo 25) = B + 1 + 18 + 6 + 2 * n := by show B + 25 + 2 * n = _; omega
  have A26 : jad (jL0 B n d) (jo 26) = B + 1 + 18 + 7 + 3 * n := by show B + 26 + 3 * n = _; omega
  have A27 : jad (jL0 B n d) (jo 27) = B + 1 + 18 + 8 + 4 * n := by show B + 27 + 4 * n = _; omega
  have A28 : jad (jL0 B n d) (jo 28) = B + 1 + 27 + 4 * n + d := by show B + 28 + (4 * n + d) = _; omega
  have A29 : jad (jL0 B n d) (jo 29) = B + 1 + 28 + 4 * n + d := by show B + 29 + (4 * n + d) = _; omega
  have A30 : jad (jL0 B n d) (jo 30) = B + 1 + 29 + 4 * n + d := by show B + 30 + (4 * n + d) = _; omega
  have A31 : jad (jL0 B n d) (jo 31) = B + 1 + 30 + 4 * n + d := by show B + 31 + (4 * n + d) = _; omega
  have A32 : jad (jL0 B n d) (jo 32) = B + 1 + 31 + 4 * n + d := by show B + 32 + (4 * n + d) = _; omega
  have A33 : jad (jL0 B n d) (jo 33) = B + 1 + 32 + 4 * n + d := by show B + 33 + (4 * n + d) = _; omega
  have A34 : jad (jL0 B n d) (jo 34) = B + 1 + 33 + 4 * n + d := by show B + 34 + (4 * n + d) = _; omega
  have R := h.r
  have rows : ∀ (b N t : Nat), (∀ i, i < N → b + 1 + i = jad (jL0 B n d) (jr t i)) → (fun i => if i < N then some (b + 1 + i) else none) = (fun i => if i < N then some (jad (jL0 B n d) (jr t i)) else none) := fun b N t e => by
    funext i
    by_cases c : i < N
    · rw [if_pos c, if_pos c, e i c]
    · rw [if_neg c, if_neg c]
  have l16 : (fun i => if i < 16 then some (B + 1 + 34 + 4 * n + d + 16 * i) else none) = (fun i => if i < 16 then some (jad (jL0 B n d) (jl (2 * i) 0)) else none) := by
    funext i
    by_cases c : i < 16
    · rw [if_pos c, if_pos c]
      refine congrArg some ?_
      show _ = B + 35 + 4 * n + d + 8 * (2 * i) + 0
      omega
    · rw [if_neg c, if_neg c]
  have l17 : (fun i => if i < 16 then some (B + 1 + 34 + 4 * n + d + 16 * i + 8) else none) = (fun i => if i < 16 then some (jad (jL0 B n d) (jl (2 * i + 1) 0)) else none) := by
    funext i
    by_cases c : i < 16
    · rw [if_pos c, if_pos c]
      refine congrArg some ?_
      show _ = B + 35 + 4 * n + d + 8 * (2 * i + 1) + 0
      omega
    · rw [if_neg c, if_neg c]
  have o0 := h.o
  rw [← A28, ← A29] at o0
  have o18 := R.o
  rw [← A24, ← A25, ← A26, ← A27] at o18
  have o29 := h.l
  rw [← A30, ← A31] at o29
  have o31 := h.l2
  rw [← A32, ← A33, ← A34] at o31
  have o16 := h.w
  rw [l16] at o16
  have o17 := h.v
  rw [l17] at o17
  have o23 := R.r
  have o24 := R.w
  have o25 := R.v
  have o26 := R.f
  have o27 := R.t
  have o23 : ω (B + 1 + 18 + 4) = some (jAr 2 n (fun i => if i < n then some (jad (jL0 B n d) (jr 0 i)) else none)) := by
    rw [← rows (B + 1 + 18 + 4) n 0 (fun i hi => by show _ = B + 24 + 0 + i + 0; omega)]; exact o23
  have o24 : ω (B + 1 + 18 + 5 + n) = some (jAr 2 n (fun i => if i < n then some (jad (jL0 B n d) (jr 1 i)) else none)) := by
    rw [← rows (B + 1 + 18 + 5 + n) n 1 (fun i hi => by show _ = B + 24 + 1 + i + n; omega)]; exact o24
  have o25 : ω (B + 1 + 18 + 6 + 2 * n) = some (jAr 2 n (fun i => if i < n then some (jad (jL0 B n d) (jr 2 i)) else none)) := by
    rw [← rows (B + 1 + 18 + 6 + 2 * n) n 2 (fun i hi => by show _ = B + 24 + 2 + i + 2 * n; omega)]; exact o25
  have o26 : ω (B + 1 + 18 + 7 + 3 * n) = some (jAr 2 n (fun i => if i < n then some (jad (jL0 B n d) (jr 3 i)) else none)) := by
    rw [← rows (B + 1 + 18 + 7 + 3 * n) n 3 (fun i hi => by show _ = B + 24 + 3 + i + 3 * n; omega)]; exact o26
  have o27 : ω (B + 1 + 18 + 8 + 4 * n) = some (jAr 2 d (fun i => if i < d then some (jad (jL0 B n d) (jr 4 i)) else none)) := by
    rw [← rows (B + 1 + 18 + 8 + 4 * n) d 4 (fun i hi => by show _ = B + 24 + 4 + i + 4 * n; omega)]; exact o27
  intro q hq
  match q, hq with
  | 0, _ => exact jceE o0 rfl rfl
  | 1, _ => exact jceE h.t rfl rfl
  | 2, _ => exact jceE h.t1 rfl rfl
  | 3, _ => exact jceE h.h rfl rfl
  | 4, _ => exact jceE h.h1 rfl rfl
  | 5, _ => exact jceE h.h2 rfl rfl
  | 6, _ => exact jceE h.h3 rfl rfl
  | 7, _ => exact jceE h.m rfl rfl
  | 8, _ => exact jceE h.m1 rfl rfl
  | 9, _ => exact jceE h.m2 rfl rfl
  | 10, _ => exact jceE h.m3 rfl rfl
  | 11, _ => exact jceE h.m4 rfl rfl
  | 12, _ => exact jceE h.m5 rfl rfl
  | 13, _ => exact jceE h.m6 rfl rfl
  | 14, _ => exact jceE h.m7 rfl rfl
  | 15, _ => exact jceE h.m8 rfl rfl
  | 16, _ => exact jceE o16 rfl rfl
  | 17, _ => exact jceE o17 rfl rfl
  | 18, _ => exact jceE o18 rfl rfl
  | 19, _ => exact jceE R.b rfl rfl
  | 20, _ => exact jceE R.l rfl rfl
  | 21, _ => exact jceE R.s rfl rfl
  | 22, _ => exact jceE R.k rfl rfl
  | 23, _ => exact jceE o23 rfl rfl
  | 24, _ => exact jceE o24 A24 rfl
  | 25, _ => exact jceE o25 A25 rfl
  | 26, _ => exact jceE o26 A26 rfl
  | 27, _ => exact jceE o27 A27 rfl
  | 28, _ => exact jceE h.j A28 rfl
  | 29, _ => exact jceE o29 A29 rfl
  | 30, _ => exact jceE h.l1 A30 rfl
  | 31, _ => exact jceE o31 A31 rfl
  | 32, _ => exact jceE h.l3 A32 rfl
  | 33, _ => exact jceE h.l4 A33 rfl
  | 34, _ => exact jceE h.l5 A34 rfl
  | q + 35, hq => omega
theorem jF_r {ω : xS} {B n d : Nat} (h : jIA ω B (B + 1) n d) : ∀ t p, t ≤ 4 → p < (if t = 4 then d else n) → ω (jad (jL0 B n d) (jr t p)) = some (jen (jL0 B n d) (jS0 n d) (jr t p)) := by
  have R := h.r
  intro t p ht hp
  match t, ht with
  | 0, _ => exact jceE (R.r1 p hp) (by show B + 24 + 0 + p + 0 = _; omega) rfl
  | 1, _ => exact jceE (R.w1 p hp) (by show B + 24 + 1 + p + n = _; omega) rfl
  | 2, _ => exact jceE (R.v1 p hp) (by show B + 24 + 2 + p + 2 * n = _; omega) rfl
  | 3, _ => exact jceE (R.f1 p hp) (by show B + 24 + 3 + p + 3 * n = _; omega) rfl
  | 4, _ => exact jceE (R.t1 p hp) (by show B + 24 + 4 + p + 4 * n = _; omega) rfl
  | t + 5, ht => omega
theorem jF_l {ω : xS} {B n d : Nat} (h : jIA ω B (B + 1) n d) : ∀ j, j < 32 → (∀ k, k ≤ 6 → ω (jad (jL0 B n d) (jl j k)) = some (jen (jL0 B n d) (jS0 n d) (jl j k))) ∧ ω (jad (jL0 B n d) (jt j)) = some (jen (jL0 B n d) (jS0 n d) (jt j)) := by
  intro j hj
  have Y := h.y j hj
  rw [show B + 1 + 34 + 4 * n + d + 8 * j = B + 35 + 4 * n + d + 8 * j by omega] at Y
  refine ⟨fun k hk => ?_, jceE Y.t rfl rfl⟩
  match k, hk with
  | 0, _ => exact jceE Y.o rfl rfl
  | 1, _ => exact jceE Y.p rfl rfl
  | 2, _ => exact jceE Y.p1 rfl rfl
  | 3, _ => exact jceE Y.p2 rfl rfl
  | 4, _ => exact jceE Y.p3 rfl rfl
  | 5, _ => exact jceE Y.p4 rfl rfl
  | 6, _ => exact jceE Y.a rfl rfl
  | k + 7, hk => omega
theorem jF_m {ω : xS} {B n d : Nat} (h0 : ω (B + 291 + 4 * n + d) = some (.inr (12, jMoF (B + 291 + 4 * n + d + 1)))) (h : ∀ j e, (jQn (jMoR (B + 291 + 4 * n + d + 1)))[j]? = some e → ω (B + 291 + 4 * n + d + 1 + 0 + j) = some e) : ∀ q, q ≤ 46 → ω (jad (jL0 B n d) (jm q)) = some (jen (jL0 B n d) (jS0 n d) (jm q)) := by
  intro q hq
  match q, hq with
  | 0, _ => exact jceE h0 rfl rfl
  | 1, _ => exact jceE (h 0 _ rfl) rfl rfl
  | 2, _ => exact jceE (h 1 _ rfl) rfl rfl
  | 3, _ => exact jceE (h 2 _ rfl) rfl rfl
  | 4, _ => exact jceE (h 3 _ rfl) rfl rfl
  | 5, _ => exact jceE (h 4 _ rfl) rfl rfl
  | 6, _ => exact jceE (h 5 _ rfl) rfl rfl
  | 7, _ => exact jceE (h 6 _ rfl) rfl rfl
  | 8, _ => exact jceE (h 7 _ rfl) rfl rfl
  | 9, _ => exact jceE (h 8 _ rfl) rfl rfl
  | 10, _ => exact jceE (h 9 _ rfl) rfl rfl
  | 11, _ => exact jceE (h 10 _ rfl) rfl rfl
  | 12, _ => exact jceE (h 11 _ rfl) rfl rfl
  | 13, _ => exact jceE (h 12 _ rfl) rfl rfl
  | 14, _ => exact jceE (h 13 _ rfl) rfl rfl
  | 15, _ => exact jceE (h 14 _ rfl) rfl rfl
  | 16, _ => exact jceE (h 15 _ rfl) rfl rfl
  | 17, _ => exact jceE (h 16 _ rfl) rfl rfl
  | 18, _ => exact jceE (h 17 _ rfl) rfl rfl
  | 19, _ => exact jceE (h 18 _ rfl) rfl rfl
  | 20, _ => exact jceE (h 19 _ rfl) rfl rfl
  | 21, _ => exact jceE (h 20 _ rfl) rfl rfl
  | 22, _ => exact jceE (h 21 _ rfl) rfl rfl
  | 23, _ => exact jceE (h 22 _ rfl) rfl rfl
  | 24, _ => exact jceE (h 23 _ rfl) rfl rfl
  | 25, _ => exact jceE (h 24 _ rfl) rfl rfl
  | 26, _ => exact jceE (h 25 _ rfl) rfl rfl
  | 27, _ => exact jceE (h 26 _ rfl) rfl rfl
  | 28, _ => exact jceE (h 27 _ rfl) rfl rfl
  | 29, _ => exact jceE (h 28 _ rfl) rfl rfl
  | 30, _ => exact jceE (h 29 _ rfl) rfl rfl
  | 31, _ => exact jceE (h 30 _ rfl) rfl rfl
  | 32, _ => exact jceE (h 31 _ rfl) rfl rfl
  | 33, _ => exact jceE (h 32 _ rfl) rfl rfl
  | 34, _ => exact jceE (h 33 _ rfl) rfl rfl
  | 35, _ => exact jceE (h 34 _ rfl) rfl rfl
  | 36, _ => exact jceE (h 35 _ rfl) rfl rfl
  | 37, _ => exact jceE (h 36 _ rfl) rfl rfl
  | 38, _ => exact jceE (h 37 _ rfl) rfl rfl
  | 39, _ => exact jceE (h 38 _ rfl) rfl rfl
  | 40, _ => exact jceE (h 39 _ rfl) rfl rfl
  | 41, _ => exact jceE (h 40 _ rfl) rfl rfl
  | 42, _ => exact jceE (h 41 _ rfl) rfl rfl
  | 43, _ => exact jceE (h 42 _ rfl) rfl rfl
  | 44, _ => exact jceE (h 43 _ rfl) rfl rfl
  | 45, _ => exact jceE (h 44 _ rfl) rfl rfl
  | 46, _ => exact jceE (h 45 _ rfl) rfl rfl
  | q + 47, hq => omega
theorem jIA.fr {ω ω' : xS} {B n d : Nat} (h : jIA ω B (B + 1) n d) (e : ∀ q, q < B + 291 + 4 * n + d → ω' q = ω q) : jIA ω' B (B + 1) n d := ⟨by rw [e _ (by omega)]; exact h.o, by rw [e _ (by omega)]; exact h.t, by rw [e _ (by omega)]; exact h.t1, by rw [e _ (by omega)]; exact h.h, by rw [e _ (by omega)]; exact h.h1, by rw [e _ (by omega)]; exact h.h2, by rw [e _ (by omega)]; exact h.h3, by rw [e _ (by omega)]; exact h.m, by rw [e _ (by omega)]; exact h.m1, by rw [e _ (by omega)]; exact h.m2, by rw [e _ (by omega)]; exact h.m3, by rw [e _ (by omega)]; exact h.m4, by rw [e _ (by omega)]; exact h.m5, by rw [e _ (by omega)]; exact h.m6, by rw [e _ (by omega)]; exact h.m7, by rw [e _ (by omega)]; exact h.m8, by rw [e _ (by omega)]; exact h.w, by rw [e _ (by omega)]; exact h.v, h.r.fr (fun q hq => e q (by omega)), by rw [e _ (by omega)]; exact h.j, by rw [e _ (by omega)]; exact h.l, by rw [e _ (by omega)]; exact h.l1, by rw [e _ (by omega)]; exact h.l2, by rw [e _ (by omega)]; exact h.l3, by rw [e _ (by omega)]; exact h.l4, by rw [e _ (by omega)]; exact h.l5, fun i hi => (h.y i hi).fr (fun q hq => e q (by omega))⟩
theorem jF_all {ω : xS} {B n d : Nat} (h : jIA ω B (B + 1) n d) (h0 : ω (B + 291 + 4 * n + d) = some (.inr (12, jMoF (B + 291 + 4 * n + d + 1)))) (h1 : ∀ j e, (jQn (jMoR (B + 291 + 4 * n + d + 1)))[j]? = some e → ω (B + 291 + 4 * n + d + 1 + 0 + j) = some e) : jW (jL0 B n d) ω (jS0 n d) = ω := by
  refine jW_self (fun c hc => ?_)
  rcases c with q | ⟨t, p⟩ | ⟨j, k⟩ | j | q
  · exact jF_o h q hc
  · exact jF_r h t p hc.1 hc.2
  · exact (jF_l h j hc.1).1 k hc.2
  · exact (jF_l h j hc).2
  · exact jF_m h0 h1 q hc
