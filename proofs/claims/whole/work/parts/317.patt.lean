/-! A PATTERN as a law tells it, on both sides -/
theorem jbrF_le (tp : Nat → Nat) (x : Nat) : (jbrF tp x).1 ≤ 4 := by
  unfold jbrF
  (repeat' split) <;> (try dsimp only) <;> omega
theorem jEnd.f4 {tp : Nat → Nat} {ts t x f p : Nat} {s : jPs} (h : jEnd tp ts t x s f p) : f ≤ 4 := by
  rcases h with ⟨_, _, ⟨_, _, rfl, _⟩ | ⟨_, _, _, _, rfl, _⟩ | ⟨_, _, _, _, _, rfl, _⟩⟩ | ⟨_, ⟨_, _, rfl⟩ | ⟨_, rfl, _⟩⟩
  · omega
  · exact jbrF_le tp x
  · omega
  · omega
  · omega
/-- the pattern that stands behind e: the machine at its end, the reader behind it -/
def jPt (tp : Nat → Nat) (ts e : Nat) (s : jPs) (r : Nat × Nat × Nat) : Prop := ∃ n x f p, jTr tp ts (jtE tp ts e - 1) n (jtB tp ts e + 1) jp00 x s ∧ n ≤ x - (jtB tp ts e + 1) ∧ jtB tp ts e + 1 ≤ x ∧ x ≤ jtE tp ts e - 1 ∧ jPi s ∧ jEnd tp ts (jtE tp ts e - 1) x s f p ∧ r = (if f ≠ 0 then (f, p, jtE tp ts e) else if jPs.sz s ≤ 10 then (0, 0, jtE tp ts e) else (3, jtB tp ts e, jtE tp ts e))
theorem jPt.ex {tp : Nat → Nat} {ts e : Nat} (hs : ts ≤ 1500) (hb : ∀ i, tp i < 256) (he : e ≤ ts) (h : jtK tp ts e = 4) : ∃ s r, jPt tp ts e s r := by
  have hP := jPx.tok hs hb he h
  have hq := hP.q
  obtain ⟨n, x, s, f, p, g1, g2, g3, g4, g5, g6⟩ := jPat hP (jtE tp ts e) (jtB tp ts e + 1) jp00 (by omega) (by omega) (by omega) jp00_ok
  exact ⟨s, _, n, x, f, p, g1, g2, g3, g4, g5, g6, rfl⟩
theorem jPt.f4 {tp : Nat → Nat} {ts e : Nat} {s : jPs} {r : Nat × Nat × Nat} (h : jPt tp ts e s r) : r.1 ≤ 4 := by
  obtain ⟨n, x, f, p, _, _, _, _, _, h6, rfl⟩ := h
  have := h6.f4
  split
  · exact this
  · split
    · exact Nat.zero_le _
    · show 3 ≤ 4; decide
theorem jPt.ok {tp : Nat → Nat} {ts e : Nat} {s : jPs} {r : Nat × Nat × Nat} (h : jPt tp ts e s r) (h0 : r.1 = 0) : jPi s ∧ jPs.sz s ≤ 10 ∧ jPs.hs s = 1 ∧ jPs.d s = 0 ∧ r = (0, 0, jtE tp ts e) := by
  obtain ⟨n, x, f, p, _, _, _, _, h5, h6, rfl⟩ := h
  by_cases c : f ≠ 0
  · rw [if_pos c] at h0
    exact absurd h0 c
  · have c0 : f = 0 := by omega
    rw [if_neg c] at h0 ⊢
    by_cases c2 : jPs.sz s ≤ 10
    · rw [if_pos c2]
      rcases h6 with ⟨_, z, _⟩ | ⟨_, ⟨z1, z2, _⟩ | ⟨_, z, _⟩⟩
      · exact absurd c0 z
      · exact ⟨h5, c2, z1, z2, rfl⟩
      · omega
    · rw [if_neg c2] at h0
      exact absurd h0 (by show ¬ (3 = 0); decide)
/-- followers, the begin's at 10 -/
def jfO (s : jPs) : Nat → Nat := fun q => if q = 10 then (jpU s).1 else jpF s q
/-! frames of the reference while it reads law k -/
def jfN (S T : jSt) : Prop := (jgX T = jgX S) ∧ (jgN T = jgN S) ∧ (∀ c, ¬ jisU c → jgA T c = jgA S c) ∧ (∀ c, c ≠ jm 0 → jgI T c = jgI S c) ∧ (∀ q, q < 34 ∨ q = 41 ∨ 42 < q → jgI T (jm 0) q = jgI S (jm 0) q)
theorem jfN.x {S T : jSt} (h : jfN S T) : jgX T = jgX S := h.1
theorem jfN.n {S T : jSt} (h : jfN S T) : jgN T = jgN S := h.2.1
theorem jfN.a {S T : jSt} (h : jfN S T) : ∀ c, ¬ jisU c → jgA T c = jgA S c := h.2.2.1
theorem jfN.i {S T : jSt} (h : jfN S T) : ∀ c, c ≠ jm 0 → jgI T c = jgI S c := h.2.2.2.1
theorem jfN.k {S T : jSt} (h : jfN S T) : ∀ q, q < 34 ∨ q = 41 ∨ 42 < q → jgI T (jm 0) q = jgI S (jm 0) q := h.2.2.2.2
theorem jfN.refl (S : jSt) : jfN S S := ⟨rfl, rfl, fun _ _ => rfl, fun _ _ => rfl, fun _ _ => rfl⟩
theorem jfN.trans {S T U : jSt} (h : jfN S T) (h' : jfN T U) : jfN S U := ⟨h'.x.trans h.x, h'.n.trans h.n, fun c hc => (h'.a c hc).trans (h.a c hc), fun c hc => (h'.i c hc).trans (h.i c hc), fun k hk => (h'.k k hk).trans (h.k k hk)⟩
theorem jfU.N {S T : jSt} (h : jfU S T) : jfN S T := ⟨h.x, h.n, h.a, h.i, fun q hq => h.k q (by omega)⟩
theorem jf0.N {S T : jSt} (h : jf0 S T) : jfN S T := ⟨h.1, h.2.1, fun c _ => by rw [h.2.2.1], h.2.2.2.1, fun q hq => h.2.2.2.2 q (by omega)⟩
def jfV (k : Nat) (S T : jSt) : Prop := (jgX T = jgX S) ∧ (jgN T = jgN S) ∧ (∀ c, (∀ q, 10 ≤ q → q ≤ 44 → c ≠ jm q) ∨ c = jm 25 ∨ c = jm 26 → jgA T c = jgA S c) ∧ (∀ q, (10 ≤ q ∧ q ≤ 16) ∨ (19 ≤ q ∧ q ≤ 22) → ∀ i, i ≠ k → jgA T (jm q) i = jgA S (jm q) i) ∧ (∀ i, i < 10 * k ∨ 10 * k + 10 ≤ i → jgA T (jm 17) i = jgA S (jm 17) i) ∧ (∀ i, i < 11 * k ∨ 11 * k + 11 ≤ i → jgA T (jm 18) i = jgA S (jm 18) i) ∧ (∀ i, i < 9225 * k ∨ 9225 * k + 9225 ≤ i → jgA T (jm 23) i = jgA S (jm 23) i) ∧ (∀ i, i < 1025 * k ∨ 1025 * k + 1025 ≤ i → jgA T (jm 24) i = jgA S (jm 24) i) ∧ (∀ c, c ≠ jm 0 → jgI T c = jgI S c) ∧ (∀ q, q < 34 ∨ q = 41 ∨ 44 < q → jgI T (jm 0) q = jgI S (jm 0) q)
theorem jfV.x {k : Nat} {S T : jSt} (h : jfV k S T) : jgX T = jgX S := h.1
theorem jfV.n {k : Nat} {S T : jSt} (h : jfV k S T) : jgN T = jgN S := h.2.1
theorem jfV.a {k : Nat} {S T : jSt} (h : jfV k S T) : ∀ c, (∀ q, 10 ≤ q → q ≤ 44 → c ≠ jm q) ∨ c = jm 25 ∨ c = jm 26 → jgA T c = jgA S c := h.2.2.1
theorem jfV.r {k : Nat} {S T : jSt} (h : jfV k S T) : ∀ q, (10 ≤ q ∧ q ≤ 16) ∨ (19 ≤ q ∧ q ≤ 22) → ∀ i, i ≠ k → jgA T (jm q) i = jgA S (jm q) i := h.2.2.2.1
theorem jfV.l {k : Nat} {S T : jSt} (h : jfV k S T) : ∀ i, i < 10 * k ∨ 10 * k + 10 ≤ i → jgA T (jm 17) i = jgA S (jm 17) i := h.2.2.2.2.1
theorem jfV.w {k : Nat} {S T : jSt} (h : jfV k S T) : ∀ i, i < 11 * k ∨ 11 * k + 11 ≤ i → jgA T (jm 18) i = jgA S (jm 18) i := h.2.2.2.2.2.1
theorem jfV.t {k : Nat} {S T : jSt} (h : jfV k S T) : ∀ i, i < 9225 * k ∨ 9225 * k + 9225 ≤ i → jgA T (jm 23) i = jgA S (jm 23) i := h.2.2.2.2.2.2.1
theorem jfV.e {k : Nat} {S T : jSt} (h : jfV k S T) : ∀ i, i < 1025 * k ∨ 1025 * k + 1025 ≤ i → jgA T (jm 24) i = jgA S (jm 24) i := h.2.2.2.2.2.2.2.1
theorem jfV.i {k : Nat} {S T : jSt} (h : jfV k S T) : ∀ c, c ≠ jm 0 → jgI T c = jgI S c := h.2.2.2.2.2.2.2.2.1
theorem jfV.k {k : Nat} {S T : jSt} (h : jfV k S T) : ∀ q, q < 34 ∨ q = 41 ∨ 44 < q → jgI T (jm 0) q = jgI S (jm 0) q := h.2.2.2.2.2.2.2.2.2
theorem jfV.trans {k : Nat} {S T U : jSt} (h : jfV k S T) (h' : jfV k T U) : jfV k S U := ⟨h'.x.trans h.x, h'.n.trans h.n, fun c hc => (h'.a c hc).trans (h.a c hc), fun q hq i hi => (h'.r q hq i hi).trans (h.r q hq i hi), fun i hi => (h'.l i hi).trans (h.l i hi), fun i hi => (h'.w i hi).trans (h.w i hi), fun i hi => (h'.t i hi).trans (h.t i hi), fun i hi => (h'.e i hi).trans (h.e i hi), fun c hc => (h'.i c hc).trans (h.i c hc), fun k hk => (h'.k k hk).trans (h.k k hk)⟩
theorem jnU {c : jC} (h : (∀ q, 10 ≤ q → q ≤ 44 → c ≠ jm q) ∨ c = jm 25 ∨ c = jm 26) : ¬ jisU c ∧ c ≠ jm 17 ∧ c ≠ jm 18 ∧ ¬ jisZ c := by
  rcases h with h | rfl | rfl
  · refine ⟨fun ⟨q, a, b, e⟩ => h q (by omega) (by omega) e, h 17 (by omega) (by omega), h 18 (by omega) (by omega), fun z => ?_⟩
    rcases z with ⟨q, a, b, e⟩ | e | e | e
    · exact h q (by omega) (by omega) e
    · exact h 22 (by omega) (by omega) e
    · exact h 23 (by omega) (by omega) e
    · exact h 24 (by omega) (by omega) e
  · refine ⟨jisU_n (by omega), jmne (by decide), jmne (by decide), fun z => ?_⟩
    rcases z with z | z | z | z
    · exact jisS_n (by omega) z
    · exact jmne (by decide) z
    · exact jmne (by decide) z
    · exact jmne (by decide) z
  · refine ⟨jisU_n (by omega), jmne (by decide), jmne (by decide), fun z => ?_⟩
    rcases z with z | z | z | z
    · exact jisS_n (by omega) z
    · exact jmne (by decide) z
    · exact jmne (by decide) z
    · exact jmne (by decide) z
theorem jfN.V {S T : jSt} (k : Nat) (h : jfN S T) : jfV k S T := ⟨h.x, h.n, fun c hc => h.a c (jnU hc).1, fun q hq i _ => by rw [h.a _ (jisU_n (by omega))], fun i _ => by rw [h.a _ (jisU_n (by omega))], fun i _ => by rw [h.a _ (jisU_n (by omega))], fun i _ => by rw [h.a _ (jisU_n (by omega))], fun i _ => by rw [h.a _ (jisU_n (by omega))], h.i, fun q hq => h.k q (by omega)⟩
theorem jfB.V {k : Nat} {S T : jSt} (h : jfB k S T) : jfV k S T := ⟨h.x, h.n, fun c hc => h.a c (jnU hc).1 (jnU hc).2.1 (jnU hc).2.2.1, fun q hq i _ => by rw [h.a _ (jisU_n (by omega)) (jmne (by omega)) (jmne (by omega))], h.l, h.w, fun i _ => by rw [h.a _ (jisU_n (by omega)) (jmne (by omega)) (jmne (by omega))], fun i _ => by rw [h.a _ (jisU_n (by omega)) (jmne (by omega)) (jmne (by omega))], h.i, fun q hq => h.k q (by omega)⟩
/-- one cell of a row of law k -/
theorem jfV.sA {k : Nat} (S : jSt) {q : Nat} (v : Int32) (hq : (10 ≤ q ∧ q ≤ 16) ∨ (19 ≤ q ∧ q ≤ 22)) : jfV k S (jsA S (jm q) k v) := ⟨rfl, rfl, fun c hc => jsA_fn (fun z => by
    rcases hc with hc | hc | hc
    · exact hc q (by omega) (by omega) z
    · rw [z] at hc; exact jmne (by omega) hc
    · rw [z] at hc; exact jmne (by omega) hc), fun q' _ i hi => by
    by_cases c : q' = q
    · rw [c, jsA_c, if_neg hi]
    · rw [jsA_ne (jmne c)], fun i _ => by rw [jsA_ne (jmne (by omega))], fun i _ => by rw [jsA_ne (jmne (by omega))], fun i _ => by rw [jsA_ne (jmne (by omega))], fun i _ => by rw [jsA_ne (jmne (by omega))], fun _ _ => rfl, fun _ _ => rfl⟩
theorem jfV.sI {k : Nat} (S : jSt) {q : Nat} (v : Int32) (hq : 34 ≤ q ∧ q ≤ 44 ∧ q ≠ 41) : jfV k S (jsI S (jm 0) q v) := ⟨rfl, rfl, fun _ _ => rfl, fun _ _ _ _ => rfl, fun _ _ => rfl, fun _ _ => rfl, fun _ _ => rfl, fun _ _ => rfl, fun c hc => jsI_fn hc, fun q' hq' => by rw [jsI_c, if_neg (by omega)]⟩
theorem jfV.w18 {k : Nat} {S T : jSt} (h : jfr (fun c => c = jm 18) S T) (h' : ∀ i, i < 11 * k ∨ 11 * k + 11 ≤ i → jgA T (jm 18) i = jgA S (jm 18) i) : jfV k S T := ⟨h.2.2.1, h.2.1, fun c hc => h.2.2.2 c (jnU hc).2.2.1, fun q hq i _ => by rw [h.2.2.2 _ (jmne (by omega))], fun i _ => by rw [h.2.2.2 _ (jmne (by omega))], h', fun i _ => by rw [h.2.2.2 _ (jmne (by omega))], fun i _ => by rw [h.2.2.2 _ (jmne (by omega))], fun c _ => by rw [h.1], fun q _ => by rw [h.1]⟩
theorem jfV.z {k : Nat} {S T : jSt} (h : jfr jisZ S T) (h1 : ∀ i, i ≠ k → jgA T (jm 22) i = jgA S (jm 22) i) (h2 : ∀ i, i < 9225 * k ∨ 9225 * k + 9225 ≤ i → jgA T (jm 23) i = jgA S (jm 23) i) (h3 : ∀ i, i < 1025 * k ∨ 1025 * k + 1025 ≤ i → jgA T (jm 24) i = jgA S (jm 24) i) : jfV k S T := by
  have nz : ∀ q, q < 22 → ¬ jisZ (jm q) := fun q hq z => by
    rcases z with z | z | z | z
    · exact jisS_n (by omega) z
    · exact jmne (by omega) z
    · exact jmne (by omega) z
    · exact jmne (by omega) z
  refine ⟨h.2.2.1, h.2.1, fun c hc => h.2.2.2 c (jnU hc).2.2.2, fun q hq i hi => ?_, fun i _ => by rw [h.2.2.2 _ (nz _ (by omega))], fun i _ => by rw [h.2.2.2 _ (nz _ (by omega))], h2, h3, fun c _ => by rw [h.1], fun q _ => by rw [h.1]⟩
  by_cases c : q = 22
  · rw [c]; exact h1 i hi
  · rw [h.2.2.2 _ (nz _ (by omega))]
def jfM (σ k : Nat) (S T : jSt) : Prop := (σ = 0 → jfN S T) ∧ jfV k S T
theorem jfM.trans {σ k : Nat} {S T U : jSt} (h : jfM σ k S T) (h' : jfM σ k T U) : jfM σ k S U := ⟨fun z => (h.1 z).trans (h'.1 z), h.2.trans h'.2⟩
theorem jfN.M {S T : jSt} (h : jfN S T) (σ k : Nat) : jfM σ k S T := ⟨fun _ => h, h.V k⟩
theorem jfM.x {σ k : Nat} {S T : jSt} (h : jfM σ k S T) : jgX T = jgX S := h.2.x
theorem jTm.V {k : Nat} {S T : jSt} {tp : Nat → Nat} {ts : Nat} (h : jTm S tp ts) (e : jfV k S T) : jTm T tp ts := ⟨h.s, h.b, by rw [e.k 11 (by omega)]; exact h.m, fun i hi => by rw [e.a _ (Or.inl (fun q h1 _ => jmne (by omega)))]; exact h.mb i hi⟩
/-- the rows of a pattern of law k, with its least automaton -/
def jDP (T : jSt) (k : Nat) (s : jPs) (ns : Nat) (nx fe : Nat → Nat) : Prop := (jgA T (jm 21) k = nI (jPs.sz s)) ∧ (∀ p, p < jPs.sz s → jgA T (jm 17) (10 * k + p) = nI (jPs.ls s p)) ∧ (∀ q, q < 11 → jgA T (jm 18) (11 * k + q) = nI (jfO s q)) ∧ (jgA T (jm 19) k = nI (jpU s).2.1) ∧ (jgA T (jm 20) k = nI (jpU s).2.2) ∧ (jgA T (jm 22) k = nI ns) ∧ (∀ i, i < 9 * ns → jgA T (jm 23) (9225 * k + i) = nI (nx i)) ∧ (∀ i, i < ns → jgA T (jm 24) (1025 * k + i) = nI (fe i)) ∧ (∀ i, fe i ≤ 1) ∧ (jAS (jdl (jPs.sz s) (jPs.ls s) (jfO s)) (jac2 (jpU s).2.1 (jpU s).2.2) ns nx fe)
theorem jDP.sz {T : jSt} {k : Nat} {s : jPs} {ns : Nat} {nx fe : Nat → Nat} (h : jDP T k s ns nx fe) : jgA T (jm 21) k = nI (jPs.sz s) := h.1
theorem jDP.ls {T : jSt} {k : Nat} {s : jPs} {ns : Nat} {nx fe : Nat → Nat} (h : jDP T k s ns nx fe) : ∀ p, p < jPs.sz s → jgA T (jm 17) (10 * k + p) = nI (jPs.ls s p) := h.2.1
theorem jDP.fo {T : jSt} {k : Nat} {s : jPs} {ns : Nat} {nx fe : Nat → Nat} (h : jDP T k s ns nx fe) : ∀ q, q < 11 → jgA T (jm 18) (11 * k + q) = nI (jfO s q) := h.2.2.1
theorem jDP.la {T : jSt} {k : Nat} {s : jPs} {ns : Nat} {nx fe : Nat → Nat} (h : jDP T k s ns nx fe) : jgA T (jm 19) k = nI (jpU s).2.1 := h.2.2.2.1
theorem jDP.no {T : jSt} {k : Nat} {s : jPs} {ns : Nat} {nx fe : Nat → Nat} (h : jDP T k s ns nx fe) : jgA T (jm 20) k = nI (jpU s).2.2 := h.2.2.2.2.1
theorem jDP.ns {T : jSt} {k : Nat} {s : jPs} {ns : Nat} {nx fe : Nat → Nat} (h : jDP T k s ns nx fe) : jgA T (jm 22) k = nI ns := h.2.2.2.2.2.1
theorem jDP.nx {T : jSt} {k : Nat} {s : jPs} {ns : Nat} {nx fe : Nat → Nat} (h : jDP T k s ns nx fe) : ∀ i, i < 9 * ns → jgA T (jm 23) (9225 * k + i) = nI (nx i) := h.2.2.2.2.2.2.1
theorem jDP.fe {T : jSt} {k : Nat} {s : jPs} {ns : Nat} {nx fe : Nat → Nat} (h : jDP T k s ns nx fe) : ∀ i, i < ns → jgA T (jm 24) (1025 * k + i) = nI (fe i) := h.2.2.2.2.2.2.2.1
theorem jDP.f1 {T : jSt} {k : Nat} {s : jPs} {ns : Nat} {nx fe : Nat → Nat} (h : jDP T k s ns nx fe) : ∀ i, fe i ≤ 1 := h.2.2.2.2.2.2.2.2.1
theorem jDP.as {T : jSt} {k : Nat} {s : jPs} {ns : Nat} {nx fe : Nat → Nat} (h : jDP T k s ns nx fe) : jAS (jdl (jPs.sz s) (jPs.ls s) (jfO s)) (jac2 (jpU s).2.1 (jpU s).2.2) ns nx fe := h.2.2.2.2.2.2.2.2.2
theorem jDP.N {S T : jSt} {k : Nat} {s : jPs} {ns : Nat} {nx fe : Nat → Nat} (h : jDP S k s ns nx fe) (e : jfN S T) : jDP T k s ns nx fe := by
  have a : ∀ q, 17 ≤ q → q ≤ 24 → jgA T (jm q) = jgA S (jm q) := fun q h1 h2 => e.a _ (jisU_n (by omega))
  exact ⟨by rw [a _ (by omega) (by omega)]; exact h.sz, by rw [a _ (by omega) (by omega)]; exact h.ls, by rw [a _ (by omega) (by omega)]; exact h.fo, by rw [a _ (by omega) (by omega)]; exact h.la, by rw [a _ (by omega) (by omega)]; exact h.no, by rw [a _ (by omega) (by omega)]; exact h.ns, by rw [a _ (by omega) (by omega)]; exact h.nx, by rw [a _ (by omega) (by omega)]; exact h.fe, h.f1, h.as⟩
