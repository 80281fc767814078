/-! THE CLASS'S PARSER FOLLOWS THE MACHINE: exactly, while there are at most 10 places; in its control, beyond -/
def jCA (T : jSt) (j : Nat) (s : jPs) : Prop := (jgI T (jl j 1) 4 = nI (jPs.sz s)) ∧ (jgI T (jl j 1) 5 = nI 0) ∧ (∀ l, l < 9 → jTk T j (jPs.sz s) (jPs.ls s) l) ∧ (∀ p, p < 10 → jgA T (jl j 3) p = nI (jPs.fo s p)) ∧ (∀ e, e ≤ jPs.d s → jgA T (jo 32) e = nI (jenc (jPs.en s e))) ∧ (∀ e, e ≤ jPs.d s → jgA T (jo 33) e = nI (jenc (jPs.ro s e))) ∧ (∀ e, 1 ≤ e → e ≤ jPs.d s → jgA T (jo 34) e = nI (jPs.gf s e)) ∧ (jPs.hs s = 1 → jgI T (jo 31) 5 = nI (jenc (jPs.it s)) ∧ jgI T (jo 31) 6 = nI (jPs.ib s))
theorem jCA.z {T : jSt} {j : Nat} {s : jPs} (h : jCA T j s) : jgI T (jl j 1) 4 = nI (jPs.sz s) := h.1
theorem jCA.o {T : jSt} {j : Nat} {s : jPs} (h : jCA T j s) : jgI T (jl j 1) 5 = nI 0 := h.2.1
theorem jCA.tk {T : jSt} {j : Nat} {s : jPs} (h : jCA T j s) : ∀ l, l < 9 → jTk T j (jPs.sz s) (jPs.ls s) l := h.2.2.1
theorem jCA.fo {T : jSt} {j : Nat} {s : jPs} (h : jCA T j s) : ∀ p, p < 10 → jgA T (jl j 3) p = nI (jPs.fo s p) := h.2.2.2.1
theorem jCA.en {T : jSt} {j : Nat} {s : jPs} (h : jCA T j s) : ∀ e, e ≤ jPs.d s → jgA T (jo 32) e = nI (jenc (jPs.en s e)) := h.2.2.2.2.1
theorem jCA.ro {T : jSt} {j : Nat} {s : jPs} (h : jCA T j s) : ∀ e, e ≤ jPs.d s → jgA T (jo 33) e = nI (jenc (jPs.ro s e)) := h.2.2.2.2.2.1
theorem jCA.gf {T : jSt} {j : Nat} {s : jPs} (h : jCA T j s) : ∀ e, 1 ≤ e → e ≤ jPs.d s → jgA T (jo 34) e = nI (jPs.gf s e) := h.2.2.2.2.2.2.1
theorem jCA.it {T : jSt} {j : Nat} {s : jPs} (h : jCA T j s) : jPs.hs s = 1 → jgI T (jo 31) 5 = nI (jenc (jPs.it s)) ∧ jgI T (jo 31) 6 = nI (jPs.ib s) := h.2.2.2.2.2.2.2
def jCB (T : jSt) (j : Nat) (s : jPs) (z : Nat) : Prop := (z ≤ 10) ∧ (jgI T (jl j 1) 4 = nI z) ∧ (jgI T (jl j 1) 5 = nI 1) ∧ (∀ e, e ≤ jPs.d s → ∃ x, jGg x ∧ jgA T (jo 32) e = nI (jenc x)) ∧ (∀ e, e ≤ jPs.d s → ∃ x, jGg x ∧ jgA T (jo 33) e = nI (jenc x)) ∧ (∀ e, 1 ≤ e → e ≤ jPs.d s → ∃ b, b ≤ z ∧ jgA T (jo 34) e = nI b) ∧ (jPs.hs s = 1 → (∃ x, jGg x ∧ jgI T (jo 31) 5 = nI (jenc x)) ∧ ∃ b, b ≤ z ∧ jgI T (jo 31) 6 = nI b)
theorem jCB.z10 {T : jSt} {j : Nat} {s : jPs} {z : Nat} (h : jCB T j s z) : z ≤ 10 := h.1
theorem jCB.z {T : jSt} {j : Nat} {s : jPs} {z : Nat} (h : jCB T j s z) : jgI T (jl j 1) 4 = nI z := h.2.1
theorem jCB.o {T : jSt} {j : Nat} {s : jPs} {z : Nat} (h : jCB T j s z) : jgI T (jl j 1) 5 = nI 1 := h.2.2.1
theorem jCB.en {T : jSt} {j : Nat} {s : jPs} {z : Nat} (h : jCB T j s z) : ∀ e, e ≤ jPs.d s → ∃ x, jGg x ∧ jgA T (jo 32) e = nI (jenc x) := h.2.2.2.1
theorem jCB.ro {T : jSt} {j : Nat} {s : jPs} {z : Nat} (h : jCB T j s z) : ∀ e, e ≤ jPs.d s → ∃ x, jGg x ∧ jgA T (jo 33) e = nI (jenc x) := h.2.2.2.2.1
theorem jCB.gf {T : jSt} {j : Nat} {s : jPs} {z : Nat} (h : jCB T j s z) : ∀ e, 1 ≤ e → e ≤ jPs.d s → ∃ b, b ≤ z ∧ jgA T (jo 34) e = nI b := h.2.2.2.2.2.1
theorem jCB.it {T : jSt} {j : Nat} {s : jPs} {z : Nat} (h : jCB T j s z) : jPs.hs s = 1 → (∃ x, jGg x ∧ jgI T (jo 31) 5 = nI (jenc x)) ∧ ∃ b, b ≤ z ∧ jgI T (jo 31) 6 = nI b := h.2.2.2.2.2.2
def jCs (T : jSt) (j : Nat) (s : jPs) (x ft : Nat) : Prop := (jgI T (jo 31) 4 = nI (jPs.d s)) ∧ (jgI T (jo 31) 9 = nI x) ∧ (jgI T (jo 31) 10 = nI ft) ∧ (jgI T (jo 31) 8 = nI 0) ∧ (jPs.hs s = 0 → jgI T (jo 31) 5 = -1) ∧ (jPs.hs s = 1 → jgI T (jo 31) 7 = nI (jPs.rp s)) ∧ (jPs.sz s ≤ 10 → jCA T j s) ∧ (10 < jPs.sz s → ∃ z, jCB T j s z)
theorem jCs.d {T : jSt} {j : Nat} {s : jPs} {x ft : Nat} (h : jCs T j s x ft) : jgI T (jo 31) 4 = nI (jPs.d s) := h.1
theorem jCs.x {T : jSt} {j : Nat} {s : jPs} {x ft : Nat} (h : jCs T j s x ft) : jgI T (jo 31) 9 = nI x := h.2.1
theorem jCs.f {T : jSt} {j : Nat} {s : jPs} {x ft : Nat} (h : jCs T j s x ft) : jgI T (jo 31) 10 = nI ft := h.2.2.1
theorem jCs.c {T : jSt} {j : Nat} {s : jPs} {x ft : Nat} (h : jCs T j s x ft) : jgI T (jo 31) 8 = nI 0 := h.2.2.2.1
theorem jCs.n {T : jSt} {j : Nat} {s : jPs} {x ft : Nat} (h : jCs T j s x ft) : jPs.hs s = 0 → jgI T (jo 31) 5 = -1 := h.2.2.2.2.1
theorem jCs.r {T : jSt} {j : Nat} {s : jPs} {x ft : Nat} (h : jCs T j s x ft) : jPs.hs s = 1 → jgI T (jo 31) 7 = nI (jPs.rp s) := h.2.2.2.2.2.1
theorem jCs.A {T : jSt} {j : Nat} {s : jPs} {x ft : Nat} (h : jCs T j s x ft) : jPs.sz s ≤ 10 → jCA T j s := h.2.2.2.2.2.2.1
theorem jCs.B {T : jSt} {j : Nat} {s : jPs} {x ft : Nat} (h : jCs T j s x ft) : 10 < jPs.sz s → ∃ z, jCB T j s z := h.2.2.2.2.2.2.2
/-- what stands there, in either case -/
theorem jCs.ex {T : jSt} {j x ft : Nat} {s : jPs} (h : jCs T j s x ft) (hi : jPi s) : ∃ (z : Nat) (X U : jG) (y : Option jG), z ≤ 10 ∧ jgI T (jl j 1) 4 = nI z ∧ jGg X ∧ jgA T (jo 33) (jPs.d s) = nI (jenc X) ∧ jGg U ∧ jgA T (jo 32) (jPs.d s) = nI (jenc U) ∧ jItm T y ∧ (y = none ↔ jPs.hs s = 0) ∧ (jPs.sz s ≤ 10 → z = jPs.sz s ∧ X = jPs.ro s (jPs.d s) ∧ U = jPs.en s (jPs.d s) ∧ (jPs.hs s = 1 → y = some (jPs.it s))) := by
  have hh := hi.h1
  rcases Nat.lt_or_ge 10 (jPs.sz s) with c | c
  · obtain ⟨z, B⟩ := h.B c
    obtain ⟨X, hX, eX⟩ := B.ro (jPs.d s) (Nat.le_refl _)
    obtain ⟨U, hU, eU⟩ := B.en (jPs.d s) (Nat.le_refl _)
    by_cases h0 : jPs.hs s = 0
    · exact ⟨z, X, U, none, B.z10, B.z, hX, eX, hU, eU, ⟨fun _ => h.n h0, fun g z => by cases z⟩, ⟨fun _ => h0, fun _ => rfl⟩, fun z => by omega⟩
    · obtain ⟨⟨Y, hY, eY⟩, _⟩ := B.it (by omega)
      exact ⟨z, X, U, some Y, B.z10, B.z, hX, eX, hU, eU, ⟨fun z => (by cases z), fun g z => by cases z; exact ⟨hY, eY⟩⟩, ⟨fun z => (by cases z), fun z => absurd z h0⟩, fun z => by omega⟩
  · have A := h.A c
    have hX := (hi.ro (jPs.d s) (Nat.le_refl _)).good c
    have hU := (hi.en (jPs.d s) (Nat.le_refl _)).good c
    by_cases h0 : jPs.hs s = 0
    · exact ⟨_, _, _, none, c, A.z, hX, A.ro _ (Nat.le_refl _), hU, A.en _ (Nat.le_refl _), ⟨fun _ => h.n h0, fun g z => by cases z⟩, ⟨fun _ => h0, fun _ => rfl⟩, fun _ => ⟨rfl, rfl, rfl, fun z => by omega⟩⟩
    · have h1 : jPs.hs s = 1 := by omega
      have hI := (hi.it h1).2.2.good c
      exact ⟨_, _, _, some (jPs.it s), c, A.z, hX, A.ro _ (Nat.le_refl _), hU, A.en _ (Nat.le_refl _), ⟨fun z => (by cases z), fun g z => by cases z; exact ⟨hI, (A.it h1).1⟩⟩, ⟨fun z => (by cases z), fun z => absurd z h0⟩, fun _ => ⟨rfl, rfl, rfl, fun _ => rfl⟩⟩
/-- followers by numbers -/
theorem jfol_A {T : jSt} {j : Nat} {s : jPs} (A : jCA T j s) (hi : jPi s) (hs : jPs.sz s ≤ 10) {y : Option jG} (hy0 : y = none ↔ jPs.hs s = 0) (hy1 : jPs.hs s = 1 → y = some (jPs.it s)) : (∀ p, p < 10 → jfol T j (jPs.sz s) (jPs.ro s (jPs.d s)) y p = nI (jsF s p)) ∧ ∀ e, e ≤ jPs.d s → jrow T (jPs.d s) (jPs.ro s (jPs.d s)) y e = nI (jenc (jsR s e)) := by
  have hh := hi.h1
  by_cases h0 : jPs.hs s = 0
  · have e := hy0.mpr h0
    subst e
    unfold jsF jsR
    rw [if_neg (by omega), if_neg (by omega)]
    exact ⟨fun p hp => A.fo p hp, fun e he => A.ro e he⟩
  · have h1 : jPs.hs s = 1 := by omega
    have e := hy1 h1
    subst e
    unfold jsF jsR
    rw [if_pos h1, if_pos h1]
    refine ⟨fun p hp => ?_, fun e he => ?_⟩
    · show (if p < jPs.sz s ∧ (jPs.ro s (jPs.d s)).2.1.testBit p = true then jgA T (jl j 3) p ||| nI (jPs.it s).1 else jgA T (jl j 3) p) = nI (if (jPs.ro s (jPs.d s)).2.1.testBit p = true then jPs.fo s p ||| (jPs.it s).1 else jPs.fo s p)
      rw [A.fo p hp]
      by_cases c : (jPs.ro s (jPs.d s)).2.1.testBit p = true
      · rw [if_pos ⟨((hi.ro _ (Nat.le_refl _)).l p c).2, c⟩, if_pos c, jorA]
      · rw [if_neg (fun z => c z.2), if_neg c]
    · show (if e = jPs.d s then nI (jenc (jcg (jPs.ro s (jPs.d s)) (jPs.it s))) else jgA T (jo 33) e) = nI (jenc (if e = jPs.d s then jcg (jPs.ro s (jPs.d s)) (jPs.it s) else jPs.ro s e))
      by_cases c : e = jPs.d s
      · rw [if_pos c, if_pos c]
      · rw [if_neg c, if_neg c]; exact A.ro e he
theorem jchn_A {T : jSt} {j : Nat} {s : jPs} (A : jCA T j s) {x y : jG} {a : Nat} (hx : jFr x a (jPs.sz s)) {p : Nat} (hp : p < 10) : jchn T j (jPs.sz s) x y p = nI (jfwx (jPs.fo s) x y p) := by
  show (if p < jPs.sz s ∧ x.2.1.testBit p = true then jgA T (jl j 3) p ||| nI y.1 else jgA T (jl j 3) p) = nI (if x.2.1.testBit p = true then jPs.fo s p ||| y.1 else jPs.fo s p)
  rw [A.fo p hp]
  by_cases c : x.2.1.testBit p = true
  · rw [if_pos ⟨(hx.l p c).2, c⟩, if_pos c, jorA]
  · rw [if_neg (fun z => c z.2), if_neg c]
theorem jrow_B {T : jSt} {j z : Nat} {s : jPs} (B : jCB T j s z) {X : jG} (hX : jGg X) {y : Option jG} (hy : jItm T y) : ∀ e, e ≤ jPs.d s → ∃ x, jGg x ∧ jrow T (jPs.d s) X y e = nI (jenc x) := by
  intro e he
  cases y with
  | none => exact B.ro e he
  | some g =>
    show ∃ x, jGg x ∧ (if e = jPs.d s then nI (jenc (jcg X g)) else jgA T (jo 33) e) = nI (jenc x)
    by_cases c : e = jPs.d s
    · rw [if_pos c]; exact ⟨_, jcg_good hX (hy.s g rfl).1, rfl⟩
    · rw [if_neg c]; exact B.ro e he
/-- next++ -/
theorem jPp_next {L : jL} (hL : jgood L) {ω : xS} {S : jSt} {sw ps wy : Nat} (hK : jLK S sw ps wy) {y : Nat} (h9 : jgI S (jo 31) 9 = nI y) : ((xgi (jW L ω S) (jad L (jo 31)) 6 9).bind fun t17 => (xp (jW L ω S) (jad L (jo 31)) 6 9 (.int (t17 + 1))).bind fun w18 => some w18) = some (jW L ω (jsI S (jo 31) 9 (nI (y + 1)))) := by
  simp (disch := first | omega | rfl | assumption | exact jokr (by decide) (by omega) | exact jokr4 (by omega) | exact jkt_r _ _ | exact jkt_l (by decide) | exact jfk_l (by decide) | exact jkt_t _ | exact jkt_r6 _ _ | exact jkt_t6 _ | (simp only [jok, jlen]; omega) | decide) only [jm_k hL, jm_gi hL, jm_gr hL, jm_gl hL, jm_pi hL, jm_pl hL, jn_ai hL, jn_ab hL, jn_az hL, jn_al hL, jn_ar hL, jn_an hL, jn_si hL, jn_sb hL, jn_sz hL, jn_sl hL, Option.bind_some, xc, xl, jlit, nI_add, h9]
theorem jCs.nx {T : jSt} {j x y ft : Nat} {s : jPs} (h : jCs T j s x ft) : jCs (jsI T (jo 31) 9 (nI y)) j s y ft := by
  have e : ∀ k, k ≠ 9 → jgI (jsI T (jo 31) 9 (nI y)) (jo 31) k = jgI T (jo 31) k := fun k hk => by rw [jsI_c, if_neg hk]
  have e1 : jgI (jsI T (jo 31) 9 (nI y)) (jl j 1) = jgI T (jl j 1) := jsI_fn (fun z => by cases z)
  refine ⟨by rw [e _ (by decide)]; exact h.d, by rw [jsI_c, if_pos rfl], by rw [e _ (by decide)]; exact h.f, by rw [e _ (by decide)]; exact h.c, fun z => by rw [e _ (by decide)]; exact h.n z, fun z => by rw [e _ (by decide)]; exact h.r z, fun z => ?_, fun z => ?_⟩
  · have A := h.A z
    exact ⟨by rw [e1]; exact A.z, by rw [e1]; exact A.o, A.tk, A.fo, A.en, A.ro, A.gf, fun q => by rw [e _ (by decide), e _ (by decide)]; exact A.it q⟩
  · obtain ⟨w, B⟩ := h.B z
    exact ⟨w, B.z10, by rw [e1]; exact B.z, by rw [e1]; exact B.o, B.en, B.ro, B.gf, fun q => by rw [e _ (by decide), e _ (by decide)]; exact B.it q⟩
theorem jCs_open {L : jL} (hL : jgood L) {ω : xS} {S : jSt} {sw ps wy : Nat} (hK : jLK S sw ps wy) {j x ft : Nat} {s : jPs} (hj : j < 32) (hi : jPi s) (hd : jPs.d s < 40) (h : jCs S j s x ft) : ∃ T, f_PatternParser_openGroup (jad L (jo 31)) (jad L (jl j 1)) (jW L ω S) = some (jW L ω T) ∧ jfq (jisP j) S T ∧ jCs T j (jpO s) x ft := by
  obtain ⟨z, X, U, y, q1, q2, q3, q4, q5, q6, q7, q8, q9⟩ := h.ex hi
  obtain ⟨T, a1, a2, a3, a4, a5, a6, a7, a8, a9⟩ := jPp_open hL (ω := ω) hK hj hd q3 q7 h.d q4 q2 q1
  refine ⟨T, a1, a2, ⟨?_, ?_, ?_, ?_, fun _ => ?_, fun z => absurd z (by show ¬ (0 = 1); decide), fun c => ?_, fun c => ?_⟩⟩
  · rw [a9, if_pos rfl]; rfl
  · rw [a9, if_neg (by decide), if_neg (by decide)]; exact h.x
  · rw [a9, if_neg (by decide), if_neg (by decide)]; exact h.f
  · rw [a9, if_neg (by decide), if_neg (by decide)]; exact h.c
  · rw [a9, if_neg (by decide), if_pos rfl]
  · have c : jPs.sz s ≤ 10 := c
    have A := h.A c
    obtain ⟨rfl, rfl, rfl, hy1⟩ := q9 c
    obtain ⟨f1, f2⟩ := jfol_A A hi c q8 hy1
    refine ⟨by rw [a3]; exact A.z, by rw [a3]; exact A.o, fun l hl => ?_, fun p hp => by rw [a5]; exact f1 p hp, fun e he => ?_, fun e he => ?_, fun e h1 he => ?_, fun z => absurd z (by show ¬ (0 = 1); decide)⟩
    · obtain ⟨t, u1, u2, u3⟩ := (A.tk l hl).x
      exact ⟨t, u1, by rw [a4]; exact u2, u3⟩
    · have he : e ≤ jPs.d s + 1 := he
      rw [a6]
      show _ = nI (jenc (if e = jPs.d s + 1 then (0, 0, 0) else jPs.en s e))
      by_cases c2 : e = jPs.d s + 1
      · rw [if_pos c2, if_pos c2]; rfl
      · rw [if_neg c2, if_neg c2]; exact A.en e (by omega)
    · have he : e ≤ jPs.d s + 1 := he
      rw [a7]
      show _ = nI (jenc (if e = jPs.d s + 1 then (0, 0, 1) else jsR s e))
      by_cases c2 : e = jPs.d s + 1
      · rw [if_pos c2, if_pos c2]
      · rw [if_neg c2, if_neg c2]; exact f2 e (by omega)
    · have he : e ≤ jPs.d s + 1 := he
      rw [a8]
      show _ = nI (if e = jPs.d s + 1 then jPs.sz s else jPs.gf s e)
      by_cases c2 : e = jPs.d s + 1
      · rw [if_pos c2, if_pos c2]
      · rw [if_neg c2, if_neg c2]; exact A.gf e h1 (by omega)
  · have c : 10 < jPs.sz s := c
    obtain ⟨w, B⟩ := h.B c
    have ezw : w = z := by
      have := B.z.symm.trans q2
      rw [nI_eq (by have := B.z10; omega) (by omega)] at this
      exact this
    subst ezw
    refine ⟨w, B.z10, by rw [a3]; exact B.z, by rw [a3]; exact B.o, fun e he => ?_, fun e he => ?_, fun e h1 he => ?_, fun z => absurd z (by show ¬ (0 = 1); decide)⟩
    · have he : e ≤ jPs.d s + 1 := he
      rw [a6]
      by_cases c2 : e = jPs.d s + 1
      · rw [if_pos c2]; exact ⟨(0, 0, 0), ⟨by decide, by decide, by decide⟩, rfl⟩
      · rw [if_neg c2]; exact B.en e (by omega)
    · have he : e ≤ jPs.d s + 1 := he
      rw [a7]
      by_cases c2 : e = jPs.d s + 1
      · rw [if_pos c2]; exact ⟨(0, 0, 1), ⟨by decide, by decide, by decide⟩, rfl⟩
      · rw [if_neg c2]; exact jrow_B B q3 q7 e (by omega)
    · have he : e ≤ jPs.d s + 1 := he
      rw [a8]
      by_cases c2 : e = jPs.d s + 1
      · rw [if_pos c2]; exact ⟨w, Nat.le_refl _, rfl⟩
      · rw [if_neg c2]; exact B.gf e h1 (by omega)
theorem jCs_atom {L : jL} (hL : jgood L) {ω : xS} {S : jSt} {sw ps wy : Nat} (hK : jLK S sw ps wy) {j x b ft : Nat} {s : jPs} (hj : j < 32) (hi : jPi s) (hd : jPs.d s ≤ 40) (hb : b < 512) (h : jCs S j s x ft) : ∃ T, f_PatternParser_addAtom (jad L (jo 31)) (nI b) (jad L (jl j 1)) (jW L ω S) = some (jW L ω T) ∧ jfq (jisP j) S T ∧ jCs T j (jpA s b) x ft := by
  obtain ⟨z, X, U, y, q1, q2, q3, q4, q5, q6, q7, q8, q9⟩ := h.ex hi
  obtain ⟨T, a1, a2, a3, a4, a5, a6, a7, a8⟩ := jPp_atom hL (ω := ω) hK hj hd q3 q7 h.d q4 q2 q1 hb
  -- the parser's numbers, in either case
  have kk : ∀ k, k ≠ 5 → k ≠ 6 → k ≠ 7 → jgI T (jo 31) k = jgI S (jo 31) k := fun k h5 h6 h7 => by
    rcases Nat.lt_or_ge z 10 with c | c
    · rw [(a7 c).2.2, if_neg h5, if_neg h6, if_neg h7]
    · rw [(a8 (by omega)).2, if_neg h5, if_neg h6, if_neg h7]
  have k7 : jgI T (jo 31) 7 = nI 1 := by
    rcases Nat.lt_or_ge z 10 with c | c
    · rw [(a7 c).2.2, if_neg (by decide), if_neg (by decide), if_pos rfl]
    · rw [(a8 (by omega)).2, if_neg (by decide), if_neg (by decide), if_pos rfl]
  have k6 : jgI T (jo 31) 6 = nI z := by
    rcases Nat.lt_or_ge z 10 with c | c
    · rw [(a7 c).2.2, if_neg (by decide), if_pos rfl]
    · rw [(a8 (by omega)).2, if_neg (by decide), if_pos rfl]
  have k5 : ∃ g, jGg g ∧ jgI T (jo 31) 5 = nI (jenc g) := by
    rcases Nat.lt_or_ge z 10 with c | c
    · exact ⟨_, (jenc_bit c).2, by rw [(a7 c).2.2, if_pos rfl]⟩
    · exact ⟨(0, 0, 1), ⟨by decide, by decide, by decide⟩, by rw [(a8 (by omega)).2, if_pos rfl]⟩
  refine ⟨T, a1, a2, ⟨?_, ?_, ?_, ?_, fun z => absurd z (by show ¬ (1 = 0); decide), fun _ => k7, fun c => ?_, fun c => ?_⟩⟩
  · rw [kk _ (by decide) (by decide) (by decide)]; exact h.d
  · rw [kk _ (by decide) (by decide) (by decide)]; exact h.x
  · rw [kk _ (by decide) (by decide) (by decide)]; exact h.f
  · rw [kk _ (by decide) (by decide) (by decide)]; exact h.c
  · have c : jPs.sz s + 1 ≤ 10 := c
    have A := h.A (by omega)
    obtain ⟨rfl, rfl, rfl, hy1⟩ := q9 (by omega)
    obtain ⟨f1, f2⟩ := jfol_A A hi (by omega) q8 hy1
    obtain ⟨b1, b2, b3⟩ := a7 (by omega)
    refine ⟨by rw [b1, if_pos rfl]; rfl, by rw [b1, if_neg (by decide)]; exact A.o, fun l hl => ?_, fun p hp => by rw [a6]; exact f1 p hp, fun e he => by rw [a3]; exact A.en e he, fun e he => by rw [a5]; exact f2 e he, fun e h1 he => by rw [a4]; exact A.gf e h1 he, fun _ => ⟨by rw [b3, if_pos rfl]; rfl, k6⟩⟩
    obtain ⟨t, u1, u2, u3⟩ := (A.tk l hl).x
    have hbt := jbit_tb b l
    by_cases c2 : b.testBit l = true
    · refine ⟨t ||| 2 ^ jPs.sz s, jFr.lt (b := 10) (fun q hq => ?_), by rw [b2 l hl, if_pos c2, u2, jorA], fun q => ?_⟩
      · rcases jorb hq with w | w
        · have := ((u3 q).mp w).1; omega
        · rw [Nat.testBit_two_pow, decide_eq_true_iff] at w; omega
      · rw [Nat.testBit_or, Bool.or_eq_true, u3, Nat.testBit_two_pow, decide_eq_true_iff]
        show _ ↔ q < jPs.sz s + 1 ∧ jbit (if q = jPs.sz s then b else jPs.ls s q) l = 1
        by_cases c3 : q = jPs.sz s
        · rw [if_pos c3]
          exact ⟨fun _ => ⟨by omega, hbt.mpr c2⟩, fun _ => Or.inr c3.symm⟩
        · rw [if_neg c3]
          exact ⟨fun w => by rcases w with w | w; exact ⟨by omega, w.2⟩; exact absurd w.symm c3, fun w => Or.inl ⟨by omega, w.2⟩⟩
    · refine ⟨t, u1, by rw [b2 l hl, if_neg c2, u2], fun q => (u3 q).trans ?_⟩
      show _ ↔ q < jPs.sz s + 1 ∧ jbit (if q = jPs.sz s then b else jPs.ls s q) l = 1
      by_cases c3 : q = jPs.sz s
      · rw [if_pos c3]
        exact ⟨fun w => by omega, fun w => absurd (hbt.mp w.2) c2⟩
      · rw [if_neg c3]
        exact ⟨fun w => ⟨by omega, w.2⟩, fun w => ⟨by omega, w.2⟩⟩
  · have c : 10 < jPs.sz s + 1 := c
    have ov : jgI T (jl j 1) 5 = nI 1 ∧ ∃ w, w ≤ 10 ∧ z ≤ w ∧ jgI T (jl j 1) 4 = nI w := by
      rcases Nat.lt_or_ge 10 (jPs.sz s) with c2 | c2
      · obtain ⟨w, B⟩ := h.B c2
        rcases Nat.lt_or_ge z 10 with c3 | c3
        · exact ⟨by rw [(a7 c3).1, if_neg (by decide)]; exact B.o, z + 1, by omega, by omega, by rw [(a7 c3).1, if_pos rfl]⟩
        · exact ⟨by rw [(a8 (by omega)).1, if_pos rfl], z, q1, Nat.le_refl _, by rw [(a8 (by omega)).1, if_neg (by decide)]; exact q2⟩
      · obtain ⟨e1, _⟩ := q9 c2
        exact ⟨by rw [(a8 (by omega)).1, if_pos rfl], z, q1, Nat.le_refl _, by rw [(a8 (by omega)).1, if_neg (by decide)]; exact q2⟩
    obtain ⟨o1, w, w1, w2, w3⟩ := ov
    refine ⟨w, w1, w3, o1, fun e he => ?_, fun e he => ?_, fun e h1 he => ?_, fun _ => ⟨k5, z, w2, k6⟩⟩
    · rw [a3]
      rcases Nat.lt_or_ge 10 (jPs.sz s) with c2 | c2
      · obtain ⟨_, B⟩ := h.B c2; exact B.en e he
      · exact ⟨_, (hi.en e he).good c2, (h.A c2).en e he⟩
    · rw [a5]
      rcases Nat.lt_or_ge 10 (jPs.sz s) with c2 | c2
      · obtain ⟨_, B⟩ := h.B c2; exact jrow_B B q3 q7 e he
      · obtain ⟨rfl, rfl, rfl, hy1⟩ := q9 c2
        obtain ⟨f1, f2⟩ := jfol_A (h.A c2) hi c2 q8 hy1
        exact ⟨_, (hi.kp.ro e he).good c2, f2 e he⟩
    · have he : e ≤ jPs.d s := he
      rw [a4]
      rcases Nat.lt_or_ge 10 (jPs.sz s) with c2 | c2
      · obtain ⟨w', B⟩ := h.B c2
        obtain ⟨b', hb', eb'⟩ := B.gf e h1 he
        have ezw : w' = z := by
          have := B.z.symm.trans q2
          rw [nI_eq (by have := B.z10; omega) (by omega)] at this
          exact this
        exact ⟨b', by omega, eb'⟩
      · obtain ⟨rfl, _⟩ := q9 c2
        have g1 := hi.mm he (Nat.le_refl _)
        have g2 := hi.t
        exact ⟨_, by omega, (h.A c2).gf e h1 he⟩
