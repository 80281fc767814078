/-! LETTERS of a pattern, and choices of them: both sides -/
def jltr (c : Nat) : Bool := decide (c = 45 ∨ (97 ≤ c ∧ c ≤ 104))
def jlb (c : Nat) : Nat := if c = 45 then 1 else if 97 ≤ c ∧ c ≤ 104 then 2 ^ (c - 96) else 0
def jbs (tp : Nat → Nat) (s : Nat) : Nat → Nat
  | 0 => 0
  | n + 1 => jbs tp s n ||| jlb (tp (s + n))
theorem jlb_lt (c : Nat) : jlb c < 512 := by
  unfold jlb
  split
  · decide
  · split
    · rename_i h
      have : 2 ^ (c - 96) ≤ 2 ^ 8 := Nat.pow_le_pow_right (by decide) (by omega)
      omega
    · decide
theorem jlb_0 (c : Nat) : jlb c = 0 ↔ jltr c = false := by
  unfold jlb jltr
  by_cases h1 : c = 45
  · rw [if_pos h1, decide_eq_true (Or.inl h1)]; simp
  · rw [if_neg h1]
    by_cases h2 : 97 ≤ c ∧ c ≤ 104
    · rw [if_pos h2, decide_eq_true (Or.inr h2)]
      have := Nat.two_pow_pos (c - 96)
      exact ⟨fun z => by omega, fun z => by cases z⟩
    · rw [if_neg h2, decide_eq_false (fun z => by rcases z with z | z <;> contradiction)]; simp
theorem jbs_lt {tp : Nat → Nat} {s : Nat} : ∀ n, jbs tp s n < 512
  | 0 => by rw [jbs]; decide
  | n + 1 => by rw [jbs]; exact Nat.or_lt_two_pow (n := 9) (jbs_lt n) (jlb_lt _)
theorem jbs_pos {tp : Nat → Nat} {s n : Nat} (hn : 1 ≤ n) (h : jltr (tp s) = true) : jbs tp s n ≠ 0 := by
  have key : ∀ n, 1 ≤ n → ∃ i, (jbs tp s n).testBit i = true := by
    intro n
    induction n with
    | zero => intro h; omega
    | succ n ih =>
      intro _
      rcases Nat.eq_zero_or_pos n with q | q
      · subst q
        have h0 : jlb (tp s) ≠ 0 := fun z => by rw [(jlb_0 _).mp z] at h; cases h
        obtain ⟨i, hi⟩ := Nat.exists_testBit_of_ne_zero h0
        exact ⟨i, by rw [jbs, Nat.testBit_or, show s + 0 = s from rfl, hi, Bool.or_true]⟩
      · obtain ⟨i, hi⟩ := ih q
        exact ⟨i, by rw [jbs, Nat.testBit_or, hi, Bool.true_or]⟩
  intro z
  obtain ⟨i, hi⟩ := key n hn
  rw [z, Nat.zero_testBit] at hi
  cases hi
theorem jMo_letterOf {tp : Nat → Nat} {ts i : Nat} (hb : ∀ i, tp i < 256) {ω : xS} : f_Mo_letterOf (jbv tp ts i) ω = some (if i < ts ∧ jltr (tp i) = true then (if tp i = 45 then nI 0 else nI (tp i - 96)) else -1) := by
  have h0 := jbv_eq (ts := ts) (i := i) (v := 45) hb (by omega)
  have h1 := jbv_lt (ts := ts) (i := i) (lo := 97) hb (by omega)
  have h2 := jbv_gt (ts := ts) (i := i) (hi := 104) hb (by omega)
  have h3 : jltr (tp i) = true ↔ tp i = 45 ∨ (97 ≤ tp i ∧ tp i ≤ 104) := decide_eq_true_iff
  have hbb := hb i
  unfold f_Mo_letterOf
  simp only [jlit, h0, h1, h2, h3]
  by_cases c0 : i < ts ∧ tp i = 45
  · rw [if_pos c0, if_pos ⟨c0.1, Or.inl c0.2⟩, if_pos c0.2]
  · rw [if_neg c0]
    by_cases c1 : i < ts → tp i < 97
    · rw [if_pos c1, if_neg (fun z => by have := c1 z.1; omega)]
    · rw [if_neg c1]
      have c1' : i < ts ∧ 97 ≤ tp i := by
        rcases Nat.lt_or_ge i ts with z | z
        · exact ⟨z, by
            rcases Nat.lt_or_ge (tp i) 97 with y | y
            · exact absurd (fun _ => y) c1
            · exact y⟩
        · exact absurd (fun z' => absurd z' (by omega)) c1
      by_cases c2 : i < ts ∧ 104 < tp i
      · rw [if_pos c2, if_neg (fun z => by omega)]
      · rw [if_neg c2, if_pos ⟨c1'.1, by omega⟩, if_neg (by omega)]
        unfold jbv
        rw [if_pos c1'.1, jsub (by omega), nI_add, show tp i - 97 + 1 = tp i - 96 by omega]
theorem jsh1 {p : Nat} (hp : p < 31) : nI 1 <<< (nI p &&& nI 31) = nI (2 ^ p) := by
  have h2 : 2 ^ p < 2 ^ 31 := Nat.pow_lt_pow_right (by decide) hp
  rw [jshl (by omega) (by omega), Nat.one_mul]
theorem jPp_letterBit {tp : Nat → Nat} {ts i a0 : Nat} (hb : ∀ i, tp i < 256) {ω : xS} : f_PatternParser_letterBit a0 (jbv tp ts i) ω = some (nI (if i < ts then jlb (tp i) else 0)) := by
  have h0 := jbv_eq (ts := ts) (i := i) (v := 45) hb (by omega)
  have h1 := jbv_lt (ts := ts) (i := i) (lo := 97) hb (by omega)
  have h2 := jbv_gt (ts := ts) (i := i) (hi := 104) hb (by omega)
  have hbb := hb i
  unfold f_PatternParser_letterBit jlb
  simp only [jlit, h0, h1, h2]
  by_cases c : i < ts
  · rw [if_pos c]
    by_cases c0 : tp i = 45
    · rw [if_pos ⟨c, c0⟩, if_pos c0]
    · rw [if_neg (fun z => c0 z.2), if_neg c0]
      by_cases c1 : tp i < 97
      · rw [if_pos (fun _ => c1), if_neg (by omega)]
      · rw [if_neg (fun z => c1 (z c))]
        by_cases c2 : 104 < tp i
        · rw [if_pos ⟨c, c2⟩, if_neg (by omega)]
        · rw [if_neg (fun z => c2 z.2), if_pos (by omega)]
          unfold jbv
          rw [if_pos c, jsub (by omega), nI_add, show tp i - 97 + 1 = tp i - 96 by omega, jsh1 (by omega)]
  · rw [if_neg c, if_neg (fun z => c z.1), if_pos (fun z => absurd z c)]
/-- a choice that begins at x: where its letters begin and end, its bits, whether it is one -/
def jcB (tp : Nat → Nat) (x : Nat) : Nat := if tp (x + 1) = 94 then x + 2 else x + 1
def jcE (tp : Nat → Nat) (ts x : Nat) : Nat := jrun tp ts jltr ts (jcB tp x)
def jcR (tp : Nat → Nat) (ts x : Nat) : Nat := jbs tp (jcB tp x) (jcE tp ts x - jcB tp x)
def jcL (tp : Nat → Nat) (ts x : Nat) : Nat := if tp (x + 1) = 94 then 511 ^^^ jcR tp ts x else jcR tp ts x
def jcO (tp : Nat → Nat) (ts x : Nat) : Prop := jcB tp x < jcE tp ts x ∧ tp (jcE tp ts x) = 93 ∧ ¬ (tp (x + 1) = 94 ∧ jcR tp ts x = 511)
/-- the text of a pattern: q its quote, t the closing one -/
def jPx (tp : Nat → Nat) (ts q t : Nat) : Prop := (ts ≤ 1500) ∧ (∀ i, tp i < 256) ∧ (q < t) ∧ (t - q ≤ 41) ∧ (t < ts) ∧ (tp t = 34) ∧ (∀ i, q < i → i < t → 33 ≤ tp i ∧ tp i ≤ 126 ∧ tp i ≠ 34)
theorem jPx.s {tp : Nat → Nat} {ts q t : Nat} (h : jPx tp ts q t) : ts ≤ 1500 := h.1
theorem jPx.b {tp : Nat → Nat} {ts q t : Nat} (h : jPx tp ts q t) : ∀ i, tp i < 256 := h.2.1
theorem jPx.q {tp : Nat → Nat} {ts q t : Nat} (h : jPx tp ts q t) : q < t := h.2.2.1
theorem jPx.l {tp : Nat → Nat} {ts q t : Nat} (h : jPx tp ts q t) : t - q ≤ 41 := h.2.2.2.1
theorem jPx.t {tp : Nat → Nat} {ts q t : Nat} (h : jPx tp ts q t) : t < ts := h.2.2.2.2.1
theorem jPx.c {tp : Nat → Nat} {ts q t : Nat} (h : jPx tp ts q t) : tp t = 34 := h.2.2.2.2.2.1
theorem jPx.i {tp : Nat → Nat} {ts q t : Nat} (h : jPx tp ts q t) : ∀ i, q < i → i < t → 33 ≤ tp i ∧ tp i ≤ 126 ∧ tp i ≠ 34 := h.2.2.2.2.2.2
theorem jPx.tok {tp : Nat → Nat} {ts e : Nat} (hs : ts ≤ 1500) (hb : ∀ i, tp i < 256) (hes : e ≤ ts) (h : jtK tp ts e = 4) : jPx tp ts (jtB tp ts e) (jtE tp ts e - 1) := by
  have hbl := jtB_le (tp := tp) hes
  have r3 := jrun_ok (tp := tp) (ts := ts) (P := jpch) ts (jtB tp ts e + 1) (by omega)
  have a3 := r3.a
  unfold jtK jtC at h
  unfold jtE jtC
  by_cases c1 : ts ≤ jtB tp ts e
  · rw [if_pos c1] at h; dsimp only at h; omega
  · rw [if_neg c1] at h ⊢
    by_cases c2 : tp (jtB tp ts e) = 59
    · rw [if_pos c2] at h; dsimp only at h; omega
    · rw [if_neg c2] at h ⊢
      by_cases c3 : jsml (tp (jtB tp ts e)) = true
      · rw [if_pos c3] at h; dsimp only at h; split at h <;> omega
      · rw [if_neg c3] at h ⊢
        by_cases c4 : jdig (tp (jtB tp ts e)) = true
        · rw [if_pos c4] at h; dsimp only at h; split at h <;> omega
        · rw [if_neg c4] at h ⊢
          by_cases c5 : tp (jtB tp ts e) = 34
          · rw [if_pos c5] at h ⊢
            dsimp only at h ⊢
            by_cases c6 : jrun tp ts jpch ts (jtB tp ts e + 1) < ts ∧ tp (jrun tp ts jpch ts (jtB tp ts e + 1)) = 34 ∧ jrun tp ts jpch ts (jtB tp ts e + 1) - jtB tp ts e ≤ 41
            · rw [Nat.add_sub_cancel]
              exact ⟨hs, hb, by omega, c6.2.2, c6.1, c6.2.1, fun i h1 h2 => of_decide_eq_true (r3.b i (by omega) h2).2⟩
            · rw [if_neg c6] at h; omega
          · rw [if_neg c5] at h; dsimp only at h; omega
theorem jchoice {tp : Nat → Nat} {ts q t x : Nat} (h : jPx tp ts q t) (hq : q < x) (hx : x < t) : jRn tp ts jltr (jcB tp x) (jcE tp ts x) ∧ x < jcB tp x ∧ jcB tp x ≤ t ∧ jcE tp ts x ≤ t ∧ jcB tp x ≤ jcE tp ts x ∧ jcR tp ts x < 512 := by
  have hs := h.s
  have ht := h.t
  have hB : x < jcB tp x ∧ jcB tp x ≤ t := by
    unfold jcB
    by_cases c : tp (x + 1) = 94
    · rw [if_pos c]
      refine ⟨by omega, ?_⟩
      rcases Nat.lt_or_ge (x + 1) t with z | z
      · omega
      · have e : x + 1 = t := by omega
        rw [e, h.c] at c
        omega
    · rw [if_neg c]; omega
  have r := jrun_ok (tp := tp) (ts := ts) (P := jltr) ts (jcB tp x) (by omega)
  have ra := r.a
  refine ⟨r, hB.1, hB.2, ?_, r.a, jbs_lt _⟩
  rcases Nat.lt_or_ge t (jrun tp ts jltr ts (jcB tp x)) with z | z
  · have := (r.b t hB.2 z).2
    rw [h.c] at this
    cases this
  · exact z
theorem jxor511 : ∀ b, b < 512 → nI 511 &&& (nI b ^^^ (-1)) = nI (511 ^^^ b) := by decide +kernel
theorem jxor0 : ∀ b, b < 512 → (511 ^^^ b = 0 ↔ b = 511) := by decide +kernel
theorem jxor_lt {b : Nat} (h : b < 512) : 511 ^^^ b < 512 := Nat.xor_lt_two_pow (n := 9) (by omega) h
/-- the reference's choice -/
def jfP (S T : jSt) : Prop := (jgX T = jgX S) ∧ (jgN T = jgN S) ∧ (jgA T = jgA S) ∧ (∀ c, c ≠ jm 0 → jgI T c = jgI S c) ∧ (∀ k, k ≠ 39 ∧ k ≠ 40 ∧ k ≠ 42 → jgI T (jm 0) k = jgI S (jm 0) k) ∧ (jgG T = jgG S)
theorem jfP.x {S T : jSt} (h : jfP S T) : jgX T = jgX S := h.1
theorem jfP.n {S T : jSt} (h : jfP S T) : jgN T = jgN S := h.2.1
theorem jfP.a {S T : jSt} (h : jfP S T) : jgA T = jgA S := h.2.2.1
theorem jfP.i {S T : jSt} (h : jfP S T) : ∀ c, c ≠ jm 0 → jgI T c = jgI S c := h.2.2.2.1
theorem jfP.k {S T : jSt} (h : jfP S T) : ∀ k, k ≠ 39 ∧ k ≠ 40 ∧ k ≠ 42 → jgI T (jm 0) k = jgI S (jm 0) k := h.2.2.2.2.1
theorem jfP.g {S T : jSt} (h : jfP S T) : jgG T = jgG S := h.2.2.2.2.2
theorem jfP.refl (S : jSt) : jfP S S := ⟨rfl, rfl, rfl, fun _ _ => rfl, fun _ _ => rfl, rfl⟩
theorem jfP.trans {S T U : jSt} (h : jfP S T) (h' : jfP T U) : jfP S U := ⟨h'.x.trans h.x, h'.n.trans h.n, h'.a.trans h.a, fun c hc => (h'.i c hc).trans (h.i c hc), fun k hk => (h'.k k hk).trans (h.k k hk), h'.g.trans h.g⟩
theorem jfP.sI (S : jSt) {k : Nat} (v : Int32) (h : k = 39 ∨ k = 40 ∨ k = 42) : jfP S (jsI S (jm 0) k v) := ⟨rfl, rfl, rfl, fun c hc => jsI_fn hc, fun k' hk => by rw [jsI_c, if_neg (by omega)], rfl⟩
theorem jTm.fP {S T : jSt} {tp : Nat → Nat} {ts : Nat} (h : jTm S tp ts) (e : jfP S T) : jTm T tp ts := ⟨h.s, h.b, by rw [e.k 11 (by omega)]; exact h.m, fun i hi => by rw [e.a]; exact h.mb i hi⟩
theorem jMp_fails {L : jL} (hL : jgood L) {ω : xS} {S : jSt} {sw ps wy : Nat} (hK : jLK S sw ps wy) {x v : Nat} (hf : jgI S (jm 0) 39 = nI 0) : ∃ T, f_Mo_fails (jad L (jm 0)) (nI x) (nI v) (jW L ω S) = some (0, jW L ω T) ∧ jfP S T ∧ jgI T (jm 0) 39 = nI x ∧ jgI T (jm 0) 40 = nI v ∧ jgI T (jm 0) 42 = jgI S (jm 0) 42 := by
  refine ⟨_, jMo_fails hL hK hf, (jfP.sI _ _ (by omega)).trans (jfP.sI _ _ (by omega)), ?_, ?_, ?_⟩
  · rw [jsI_c, if_neg (by decide), jsI_c, if_pos rfl]
  · rw [jsI_c, if_pos rfl]
  · rw [jsI_c, if_neg (by decide), jsI_c, if_neg (by decide)]
theorem jMp_set {L : jL} (hL : jgood L) {ω : xS} {S : jSt} {sw ps wy : Nat} (hK : jLK S sw ps wy) {tp : Nat → Nat} {ts q t x : Nat} (hT : jTm S tp ts) (hP : jPx tp ts q t) (hq : q < x) (hx : x < t) (hp : jgI S (jm 0) 42 = nI x) (hf : jgI S (jm 0) 39 = nI 0) : ∃ T v, f_Mo_set0 (jad L (jm 0)) (jW L ω S) = some (v, jW L ω T) ∧ jfP S T ∧ (jcO tp ts x → v = nI (jcL tp ts x) ∧ jgI T (jm 0) 39 = nI 0 ∧ jgI T (jm 0) 42 = nI (jcE tp ts x + 1)) ∧ (¬ jcO tp ts x → jgI T (jm 0) 39 = nI 2 ∧ jgI T (jm 0) 40 = nI (jcE tp ts x)) := by
  obtain ⟨r, h1, h2, h3, h4, h5⟩ := jchoice hP hq hx
  have hs := hP.s
  have ht := hP.t
  have g42 : ∀ (U : jSt) (y : Nat), jgI U (jm 0) 42 = nI y → xgi (jW L ω U) (jad L (jm 0)) 12 42 = some (nI y) := fun U y h => by simp (disch := first | omega | rfl | assumption | exact jokr (by decide) (by omega) | exact jokr4 (by omega) | exact jkt_r _ _ | exact jkt_l (by decide) | exact jfk_l (by decide) | exact jkt_t _ | exact jkt_r6 _ _ | exact jkt_t6 _ | (simp only [jok, jlen]; omega) | decide) only [jm_gi hL, h]
  have lk : ∀ (U : jSt) (y : Nat), jfP S U → y ≤ ts → xk (jW L ω U) (jad L (jm 0)) 12 (f_Mo_look (jad L (jm 0)) (nI y) (jW L ω U)) = some (jbv tp ts y) := fun U y hU hy => by rw [jkm hL, jMo_look hL (hK.of hU.x) (hT.fP hU) (by omega)]
  have p42 : ∀ (U : jSt) (v : Int32), xp (jW L ω U) (jad L (jm 0)) 12 42 (.int v) = some (jW L ω (jsI U (jm 0) 42 v)) := fun U v => by simp (disch := first | omega | rfl | assumption | exact jokr (by decide) (by omega) | exact jokr4 (by omega) | exact jkt_r _ _ | exact jkt_l (by decide) | exact jfk_l (by decide) | exact jkt_t _ | exact jkt_r6 _ _ | exact jkt_t6 _ | (simp only [jok, jlen]; omega) | decide) only [jm_pi hL]
  -- the end: at e, with bits b
  have fin : ∀ (U : jSt) (b : Nat) (o : Int32), b < 512 → (o = 0 ∨ o = 1) → (o = 1 ↔ tp (x + 1) = 94) → jfP S U → jgI U (jm 0) 39 = nI 0 → jgI U (jm 0) 42 = nI (jcE tp ts x) → b = jcR tp ts x → jcB tp x < jcE tp ts x → ∃ T v, (if o = 0 then f_Mo_set0_133 (jad L (jm 0)) (nI b) (jW L ω U) else f_Mo_set0_133 (jad L (jm 0)) (511 &&& (nI b ^^^ (-1))) (jW L ω U)) = some (v, jW L ω T) ∧ jfP S T ∧ (jcO tp ts x → v = nI (jcL tp ts x) ∧ jgI T (jm 0) 39 = nI 0 ∧ jgI T (jm 0) 42 = nI (jcE tp ts x + 1)) ∧ (¬ jcO tp ts x → jgI T (jm 0) 39 = nI 2 ∧ jgI T (jm 0) 40 = nI (jcE tp ts x)) := by
    intro U b o hb512 ho ho1 hU u39 u42 hbe hlt
    have e133 : ∀ y, y < 512 → y = jcL tp ts x → ∃ T v, f_Mo_set0_133 (jad L (jm 0)) (nI y) (jW L ω U) = some (v, jW L ω T) ∧ jfP S T ∧ (jcO tp ts x → v = nI (jcL tp ts x) ∧ jgI T (jm 0) 39 = nI 0 ∧ jgI T (jm 0) 42 = nI (jcE tp ts x + 1)) ∧ (¬ jcO tp ts x → jgI T (jm 0) 39 = nI 2 ∧ jgI T (jm 0) 40 = nI (jcE tp ts x)) := by
      intro y hy hyl
      obtain ⟨T2, d1, d2, d3, d4, d5⟩ := jMp_fails hL (ω := ω) (hK.of hU.x) (x := 2) (v := jcE tp ts x) u39
      have d1 : f_Mo_fails (jad L (jm 0)) 2 (nI (jcE tp ts x)) (jW L ω U) = some (0, jW L ω T2) := d1
      unfold f_Mo_set0_133
      rw [g42 U _ u42, Option.bind_some, lk U _ hU (by omega), Option.bind_some]
      by_cases c1 : tp (jcE tp ts x) = 93
      · rw [if_pos (show jbv tp ts (jcE tp ts x) = 93 from (jbv_eq (v := 93) hP.b (by omega)).mpr ⟨by omega, c1⟩)]
        by_cases c2 : y = 0
        · have hno : ¬ jcO tp ts x := fun z => by
            rw [hyl] at c2
            unfold jcL at c2
            by_cases c3 : tp (x + 1) = 94
            · rw [if_pos c3, jxor0 _ h5] at c2
              exact z.2.2 ⟨c3, c2⟩
            · rw [if_neg c3] at c2
              have hlt2 := (r.b _ (Nat.le_refl _) hlt).2
              exact jbs_pos (by omega) hlt2 c2
          rw [if_pos (show nI y = (0 : Int32) by rw [c2]; rfl), Option.bind_some, jkm hL, d1]
          exact ⟨T2, 0, rfl, hU.trans d2, fun z => absurd z hno, fun _ => ⟨d3, d4⟩⟩
        · have hyes : jcO tp ts x := ⟨hlt, c1, fun z => by
            apply c2
            rw [hyl]
            unfold jcL
            rw [if_pos z.1, z.2]
            rfl⟩
          rw [if_neg (show ¬ nI y = (0 : Int32) from fun z => by rw [jlit, nI_eq (by omega) (by omega)] at z; exact c2 z), Option.bind_some, p42, Option.bind_some]
          refine ⟨_, _, rfl, hU.trans (jfP.sI _ _ (by omega)), fun _ => ⟨by rw [hyl], by rw [jsI_c, if_neg (by decide)]; exact u39, by rw [jsI_c, if_pos rfl, jlit, nI_add]⟩, fun z => absurd hyes z⟩
      · have hno : ¬ jcO tp ts x := fun z => c1 z.2.1
        rw [if_neg (show ¬ jbv tp ts (jcE tp ts x) = 93 from fun z => c1 ((jbv_eq (v := 93) hP.b (by omega)).mp z).2), Option.bind_some, jkm hL, d1]
        exact ⟨T2, 0, rfl, hU.trans d2, fun z => absurd z hno, fun _ => ⟨d3, d4⟩⟩
    rcases ho with rfl | rfl
    · rw [if_pos rfl]
      refine e133 b hb512 ?_
      unfold jcL
      rw [if_neg (fun z => by have := ho1.mpr z; revert this; decide), hbe]
    · rw [if_neg jz10, show (511 : Int32) = nI 511 from rfl, jxor511 b hb512]
      refine e133 _ (jxor_lt hb512) ?_
      unfold jcL
      rw [if_pos (ho1.mp rfl), hbe]
  -- from the first letter's place
  have e43 : ∀ (U : jSt) (o y0 y1 : Int32), (o = 0 ∨ o = 1) → (o = 1 ↔ tp (x + 1) = 94) → jfP S U → jgI U (jm 0) 39 = nI 0 → y1 + y0 = nI (jcB tp x) → ∃ T v, f_Mo_set0_43 (jad L (jm 0)) o y0 y1 (jad L (jm 0)) (jW L ω U) = some (v, jW L ω T) ∧ jfP S T ∧ (jcO tp ts x → v = nI (jcL tp ts x) ∧ jgI T (jm 0) 39 = nI 0 ∧ jgI T (jm 0) 42 = nI (jcE tp ts x + 1)) ∧ (¬ jcO tp ts x → jgI T (jm 0) 39 = nI 2 ∧ jgI T (jm 0) 40 = nI (jcE tp ts x)) := by
    intro U o y0 y1 ho ho1 hU u39 ey
    have hU1 : jfP S (jsI U (jm 0) 42 (nI (jcB tp x))) := hU.trans (jfP.sI _ _ (by omega))
    have v42 : jgI (jsI U (jm 0) 42 (nI (jcB tp x))) (jm 0) 42 = nI (jcB tp x) := by rw [jsI_c, if_pos rfl]
    have v39 : jgI (jsI U (jm 0) 42 (nI (jcB tp x))) (jm 0) 39 = nI 0 := by rw [jsI_c, if_neg (by decide)]; exact u39
    unfold f_Mo_set0_43
    rw [ey, p42, Option.bind_some, g42 _ _ v42, Option.bind_some, lk _ _ hU1 (by omega), Option.bind_some, jMo_letterOf hP.b, Option.bind_some]
    by_cases c : jcB tp x < jcE tp ts x
    · have hb0 := r.b _ (Nat.le_refl _) c
      have hge : (0 : Int32) ≤ (if jcB tp x < ts ∧ jltr (tp (jcB tp x)) = true then (if tp (jcB tp x) = 45 then nI 0 else nI (tp (jcB tp x) - 96)) else -1) := by
        have hbb := hP.b (jcB tp x)
        rw [if_pos hb0]
        split
        · rw [jlit, nI_leI (by omega) (by omega)]; omega
        · rw [jlit, nI_leI (by omega) (by omega)]; omega
      rw [if_pos hge]
      obtain ⟨n, T1, e1, a1, a2, a3⟩ := jlpI (fun n i (T : jSt) => f_Mo_set0_75 n (jad L (jm 0)) o (nI (jbs tp (jcB tp x) (i - jcB tp x))) (jW L ω T)) (fun i T => jfP S T ∧ jgI T (jm 0) 39 = nI 0 ∧ jgI T (jm 0) 42 = nI i) (lo := jcB tp x) (hi := jcE tp ts x) (by omega) (by omega) (by
        intro n i T hi1 hi2 ⟨b1, b2, b3⟩
        obtain ⟨w1, w2⟩ := r.b i hi1 hi2
        have hbb := hP.b i
        have w3 : tp i = 45 ∨ (97 ≤ tp i ∧ tp i ≤ 104) := of_decide_eq_true w2
        have w12 : i < ts ∧ jltr (tp i) = true := ⟨w1, w2⟩
        refine ⟨jsI T (jm 0) 42 (nI (i + 1)), ?_, b1.trans (jfP.sI _ _ (by omega)), by rw [jsI_c, if_neg (by decide)]; exact b2, by rw [jsI_c, if_pos rfl]⟩
        show f_Mo_set0_75 (n + 1) _ _ _ _ = f_Mo_set0_75 n _ _ _ _
        rw [f_Mo_set0_75, g42 _ _ b3, Option.bind_some, lk _ _ b1 (by omega), Option.bind_some, jMo_letterOf hP.b, Option.bind_some, if_pos w12]
        have hng : ¬ (if tp i = 45 then nI 0 else nI (tp i - 96)) < (0 : Int32) := by
          split
          · decide
          · rw [jlit, jneg (by omega)]; exact fun z => z
        rw [if_neg hng, Option.bind_some, lk _ _ b1 (by omega), Option.bind_some, jMo_letterOf hP.b, Option.bind_some, if_pos w12, Option.bind_some, p42, Option.bind_some]
        have hsh : (1 : Int32) <<< ((if tp i = 45 then nI 0 else nI (tp i - 96)) &&& 31) = nI (jlb (tp i)) := by
          unfold jlb
          by_cases c45 : tp i = 45
          · rw [if_pos c45, if_pos c45]; decide
          · rw [if_neg c45, if_neg c45, if_pos (by omega)]
            exact jsh1 (by omega)
        rw [hsh, jorA, show i + 1 - jcB tp x = (i - jcB tp x) + 1 by omega, jbs, show jcB tp x + (i - jcB tp x) = i by omega, show nI i + 1 = nI (i + 1) by rw [jlit, nI_add]]) _ ⟨hU1, v39, v42⟩
      have e1 : f_Mo_set0_75 xFU (jad L (jm 0)) o 0 (jW L ω (jsI U (jm 0) 42 (nI (jcB tp x)))) = f_Mo_set0_75 (n + 1) (jad L (jm 0)) o (nI (jcR tp ts x)) (jW L ω T1) := by
        have e1 := e1
        rw [Nat.sub_self] at e1
        exact e1
      have hno : ¬ (jcE tp ts x < ts ∧ jltr (tp (jcE tp ts x)) = true) := fun z => by rw [r.c z.1] at z; cases z.2
      rw [e1, f_Mo_set0_75, g42 _ _ a3, Option.bind_some, lk _ _ a1 (by omega), Option.bind_some, jMo_letterOf hP.b, Option.bind_some, if_neg hno, if_pos (show (-1 : Int32) < 0 by decide)]
      exact fin T1 _ o h5 ho ho1 a1 a2 a3 rfl c
    · have heq : jcE tp ts x = jcB tp x := by omega
      have hno : ¬ jcO tp ts x := fun z => c z.1
      have hnl : ¬ (jcB tp x < ts ∧ jltr (tp (jcB tp x)) = true) := fun z => by
        have := r.c (by rw [heq]; exact z.1)
        rw [heq, z.2] at this
        cases this
      obtain ⟨T2, d1, d2, d3, d4, d5⟩ := jMp_fails hL (ω := ω) (hK.of hU1.x) (x := 2) (v := jcB tp x) v39
      have d1 : f_Mo_fails (jad L (jm 0)) 2 (nI (jcB tp x)) (jW L ω (jsI U (jm 0) 42 (nI (jcB tp x)))) = some (0, jW L ω T2) := d1
      rw [if_neg hnl, if_neg (show ¬ (0 : Int32) ≤ -1 by decide), Option.bind_some, jkm hL, d1]
      exact ⟨T2, 0, rfl, hU1.trans d2, fun z => absurd z hno, fun _ => ⟨d3, by rw [d4, heq]⟩⟩
  have hS1 : jfP S (jsI S (jm 0) 42 (nI (x + 1))) := jfP.sI _ _ (by omega)
  have v42 : jgI (jsI S (jm 0) 42 (nI (x + 1))) (jm 0) 42 = nI (x + 1) := by rw [jsI_c, if_pos rfl]
  have v39 : jgI (jsI S (jm 0) 42 (nI (x + 1))) (jm 0) 39 = nI 0 := by rw [jsI_c, if_neg (by decide)]; exact hf
  unfold f_Mo_set0
  rw [g42 _ _ hp, Option.bind_some, show nI x + 1 = nI (x + 1) by rw [jlit, nI_add], p42, Option.bind_some, g42 _ _ v42, Option.bind_some, lk _ _ hS1 (by omega), Option.bind_some]
  by_cases c : tp (x + 1) = 94
  · rw [if_pos (show jbv tp ts (x + 1) = 94 from (jbv_eq (v := 94) hP.b (by omega)).mpr ⟨by omega, c⟩), Option.bind_some, if_neg jz10]
    refine e43 _ 1 1 (nI (x + 1)) (Or.inr rfl) ⟨fun _ => c, fun _ => rfl⟩ hS1 v39 ?_
    unfold jcB
    rw [if_pos c, jlit, nI_add]
  · rw [if_neg (show ¬ jbv tp ts (x + 1) = 94 from fun z => c ((jbv_eq (v := 94) hP.b (by omega)).mp z).2), Option.bind_some, if_pos rfl]
    refine e43 _ 0 0 (nI (x + 1)) (Or.inl rfl) ⟨fun z => absurd z (by decide), fun z => absurd z c⟩ hS1 v39 ?_
    unfold jcB
    rw [if_neg c, jlit, nI_add]
