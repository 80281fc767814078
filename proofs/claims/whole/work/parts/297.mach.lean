/-! THE PATTERN MACHINE: depth, whether an item stands there and may be repeated, by depth the rows that | has ended and the row that goes on, the item and its first place, the groups' first places, the places, their letters, what follows them -/
abbrev jPs : Type := Nat × Nat × Nat × (Nat → jG) × (Nat → jG) × jG × Nat × (Nat → Nat) × Nat × (Nat → Nat) × (Nat → Nat)
def jPs.d (s : jPs) : Nat := s.1
def jPs.hs (s : jPs) : Nat := s.2.1
def jPs.rp (s : jPs) : Nat := s.2.2.1
def jPs.en (s : jPs) : Nat → jG := s.2.2.2.1
def jPs.ro (s : jPs) : Nat → jG := s.2.2.2.2.1
def jPs.it (s : jPs) : jG := s.2.2.2.2.2.1
def jPs.ib (s : jPs) : Nat := s.2.2.2.2.2.2.1
def jPs.gf (s : jPs) : Nat → Nat := s.2.2.2.2.2.2.2.1
def jPs.sz (s : jPs) : Nat := s.2.2.2.2.2.2.2.2.1
def jPs.ls (s : jPs) : Nat → Nat := s.2.2.2.2.2.2.2.2.2.1
def jPs.fo (s : jPs) : Nat → Nat := s.2.2.2.2.2.2.2.2.2.2
def jfwx (fo : Nat → Nat) (x y : jG) : Nat → Nat := fun p => if x.2.1.testBit p = true then fo p ||| y.1 else fo p
/-- bits between a and b -/
def jFr (x : jG) (a b : Nat) : Prop := (∀ i, x.1.testBit i = true → a ≤ i ∧ i < b) ∧ (∀ i, x.2.1.testBit i = true → a ≤ i ∧ i < b) ∧ (x.2.2 ≤ 1)
theorem jFr.f {x : jG} {a b : Nat} (h : jFr x a b) : ∀ i, x.1.testBit i = true → a ≤ i ∧ i < b := h.1
theorem jFr.l {x : jG} {a b : Nat} (h : jFr x a b) : ∀ i, x.2.1.testBit i = true → a ≤ i ∧ i < b := h.2.1
theorem jFr.e {x : jG} {a b : Nat} (h : jFr x a b) : x.2.2 ≤ 1 := h.2.2
theorem jFr.up {x : jG} {a b a' b' : Nat} (h : jFr x a b) (ha : a' ≤ a) (hb : b ≤ b') : jFr x a' b' := ⟨fun i hi => by have := h.f i hi; omega, fun i hi => by have := h.l i hi; omega, h.e⟩
theorem jFr.lt {x : Nat} {b : Nat} (h : ∀ i, x.testBit i = true → i < b) : x < 2 ^ b := by
  apply Nat.lt_pow_two_of_testBit
  intro i hi
  cases z : x.testBit i
  · rfl
  · have := h i z; omega
theorem jFr.good {x : jG} {a b : Nat} (h : jFr x a b) (hb : b ≤ 10) : jGg x := by
  have h1 : x.1 < 2 ^ b := jFr.lt (fun i hi => (h.f i hi).2)
  have h2 : x.2.1 < 2 ^ b := jFr.lt (fun i hi => (h.l i hi).2)
  have h3 : 2 ^ b ≤ 2 ^ 10 := Nat.pow_le_pow_right (by decide) hb
  exact ⟨by omega, by omega, h.e⟩
theorem jorb {a b i : Nat} (h : (a ||| b).testBit i = true) : a.testBit i = true ∨ b.testBit i = true := by
  rw [Nat.testBit_or, Bool.or_eq_true] at h
  exact h
theorem jiteb {P : Prop} [Decidable P] {a i : Nat} (h : (if P then a else 0).testBit i = true) : P ∧ a.testBit i = true := by
  by_cases c : P
  · rw [if_pos c] at h; exact ⟨c, h⟩
  · rw [if_neg c, Nat.zero_testBit] at h; cases h
theorem jFr.cg {x y : jG} {a b : Nat} (h : jFr x a b) (h' : jFr y a b) : jFr (jcg x y) a b := by
  refine ⟨fun i hi => ?_, fun i hi => ?_, ?_⟩
  · rcases jorb hi with z | z
    · exact h.f i z
    · exact h'.f i (jiteb z).2
  · rcases jorb hi with z | z
    · exact h'.l i z
    · exact h.l i (jiteb z).2
  · show (if x.2.2 = 1 ∧ y.2.2 = 1 then 1 else 0) ≤ 1
    split <;> omega
theorem jFr.ug {x y : jG} {a b : Nat} (h : jFr x a b) (h' : jFr y a b) : jFr (jug x y) a b := by
  refine ⟨fun i hi => ?_, fun i hi => ?_, ?_⟩
  · rcases jorb hi with z | z
    · exact h.f i z
    · exact h'.f i z
  · rcases jorb hi with z | z
    · exact h.l i z
    · exact h'.l i z
  · show x.2.2 ||| y.2.2 ≤ 1
    rw [jor1 h.e h'.e]
    split <;> omega
theorem jFr.no (a b : Nat) {e : Nat} (he : e ≤ 1) : jFr (0, 0, e) a b := ⟨fun i hi => (by rw [Nat.zero_testBit] at hi; cases hi), fun i hi => (by rw [Nat.zero_testBit] at hi; cases hi), he⟩
theorem jfw_or {fo : Nat → Nat} {x y : jG} {p i : Nat} (h : (jfwx fo x y p).testBit i = true) : (fo p).testBit i = true ∨ (x.2.1.testBit p = true ∧ y.1.testBit i = true) := by
  unfold jfwx at h
  by_cases c : x.2.1.testBit p = true
  · rw [if_pos c] at h
    rcases jorb h with z | z
    · exact Or.inl z
    · exact Or.inr ⟨c, z⟩
  · rw [if_neg c] at h
    exact Or.inl h
theorem jfw_up {fo : Nat → Nat} {x y : jG} {p i : Nat} (h : (fo p).testBit i = true) : (jfwx fo x y p).testBit i = true := by
  unfold jfwx
  split
  · rw [Nat.testBit_or, h, Bool.true_or]
  · exact h
theorem jfw_ln {fo : Nat → Nat} {x y : jG} {p i : Nat} (h : x.2.1.testBit p = true) (h' : y.1.testBit i = true) : (jfwx fo x y p).testBit i = true := by
  unfold jfwx
  rw [if_pos h, Nat.testBit_or, h', Bool.or_true]
/-- a fragment has a word -/
def jal (fo : Nat → Nat) (x : jG) : Prop := x.2.2 = 1 ∨ ∃ (n : Nat) (p : Nat → Nat), x.1.testBit (p 0) = true ∧ (∀ i, i < n → (fo (p i)).testBit (p (i + 1)) = true) ∧ x.2.1.testBit (p n) = true
theorem jal.mono {fo fo' : Nat → Nat} {x : jG} (h : jal fo x) (hf : ∀ p i, (fo p).testBit i = true → (fo' p).testBit i = true) : jal fo' x := by
  rcases h with h | ⟨n, p, h1, h2, h3⟩
  · exact Or.inl h
  · exact Or.inr ⟨n, p, h1, fun i hi => hf _ _ (h2 i hi), h3⟩
theorem jal.cg {fo : Nat → Nat} {x y : jG} (hx : jal fo x) (hy : jal fo y) : jal (jfwx fo x y) (jcg x y) := by
  have hx := hx.mono (fo' := jfwx fo x y) (fun p i h => jfw_up h)
  have hy := hy.mono (fo' := jfwx fo x y) (fun p i h => jfw_up h)
  have F1 : ∀ i, x.1.testBit i = true → (jcg x y).1.testBit i = true := fun i h => by
    show (x.1 ||| _).testBit i = true
    rw [Nat.testBit_or, h, Bool.true_or]
  have L2 : ∀ i, y.2.1.testBit i = true → (jcg x y).2.1.testBit i = true := fun i h => by
    show (y.2.1 ||| _).testBit i = true
    rw [Nat.testBit_or, h, Bool.true_or]
  rcases hx with hx | ⟨n, p, h1, h2, h3⟩
  · rcases hy with hy | ⟨m, q, g1, g2, g3⟩
    · left
      show (if x.2.2 = 1 ∧ y.2.2 = 1 then 1 else 0) = 1
      rw [if_pos ⟨hx, hy⟩]
    · refine Or.inr ⟨m, q, ?_, g2, L2 _ g3⟩
      show (x.1 ||| (if x.2.2 = 1 then y.1 else 0)).testBit (q 0) = true
      rw [if_pos hx, Nat.testBit_or, g1, Bool.or_true]
  · rcases hy with hy | ⟨m, q, g1, g2, g3⟩
    · refine Or.inr ⟨n, p, F1 _ h1, h2, ?_⟩
      show (y.2.1 ||| (if y.2.2 = 1 then x.2.1 else 0)).testBit (p n) = true
      rw [if_pos hy, Nat.testBit_or, h3, Bool.or_true]
    · refine Or.inr ⟨n + 1 + m, fun i => if i ≤ n then p i else q (i - (n + 1)), ?_, fun i hi => ?_, ?_⟩
      · show (jcg x y).1.testBit (if 0 ≤ n then p 0 else q (0 - (n + 1))) = true
        rw [if_pos (Nat.zero_le _)]; exact F1 _ h1
      · show (jfwx fo x y (if i ≤ n then p i else q (i - (n + 1)))).testBit (if i + 1 ≤ n then p (i + 1) else q (i + 1 - (n + 1))) = true
        rcases Nat.lt_trichotomy i n with c | c | c
        · rw [if_pos (by omega), if_pos (by omega)]; exact h2 i c
        · rw [if_pos (by omega), if_neg (by omega), c, Nat.sub_self]
          exact jfw_ln h3 g1
        · rw [if_neg (by omega), if_neg (by omega), show i + 1 - (n + 1) = (i - (n + 1)) + 1 by omega]
          exact g2 _ (by omega)
      · show (jcg x y).2.1.testBit (if n + 1 + m ≤ n then p (n + 1 + m) else q (n + 1 + m - (n + 1))) = true
        rw [if_neg (by omega), show n + 1 + m - (n + 1) = m by omega]
        exact L2 _ g3
theorem jal.ug2 {fo : Nat → Nat} {x y : jG} (hx : x.2.2 ≤ 1) (hy' : y.2.2 ≤ 1) (hy : jal fo y) : jal fo (jug x y) := by
  rcases hy with hy | ⟨m, q, g1, g2, g3⟩
  · left
    show x.2.2 ||| y.2.2 = 1
    rw [jor1 hx hy', if_pos (Or.inr hy)]
  · refine Or.inr ⟨m, q, ?_, g2, ?_⟩
    · show (x.1 ||| y.1).testBit _ = true
      rw [Nat.testBit_or, g1, Bool.or_true]
    · show (x.2.1 ||| y.2.1).testBit _ = true
      rw [Nat.testBit_or, g3, Bool.or_true]
/-- what holds of the machine -/
def jPi (s : jPs) : Prop := (jPs.hs s ≤ 1) ∧ (jPs.rp s ≤ 1) ∧ (jPs.gf s 0 = 0) ∧ (∀ e, e < jPs.d s → jPs.gf s e ≤ jPs.gf s (e + 1)) ∧ (jPs.gf s (jPs.d s) ≤ jPs.sz s) ∧ (∀ e, e ≤ jPs.d s → jFr (jPs.en s e) (jPs.gf s e) (jPs.sz s)) ∧ (∀ e, e ≤ jPs.d s → jFr (jPs.ro s e) (jPs.gf s e) (jPs.sz s)) ∧ (jPs.hs s = 1 → jPs.gf s (jPs.d s) ≤ jPs.ib s ∧ jPs.ib s < jPs.sz s ∧ jFr (jPs.it s) (jPs.ib s) (jPs.sz s)) ∧ (∀ p, jPs.sz s ≤ p → jPs.fo s p = 0) ∧ (∀ p i, (jPs.fo s p).testBit i = true → i < jPs.sz s) ∧ (∀ e p i, e ≤ jPs.d s → jPs.gf s e ≤ p → (jPs.fo s p).testBit i = true → jPs.gf s e ≤ i) ∧ (jPs.hs s = 1 → ∀ p i, jPs.ib s ≤ p → (jPs.fo s p).testBit i = true → jPs.ib s ≤ i) ∧ (∀ p, jPs.ls s p < 512) ∧ (∀ p, p < jPs.sz s → jPs.ls s p ≠ 0) ∧ (∀ e, e ≤ jPs.d s → jal (jPs.fo s) (jPs.ro s e)) ∧ (jPs.hs s = 1 → jal (jPs.fo s) (jPs.it s))
theorem jPi.h1 {s : jPs} (h : jPi s) : jPs.hs s ≤ 1 := h.1
theorem jPi.r1 {s : jPs} (h : jPi s) : jPs.rp s ≤ 1 := h.2.1
theorem jPi.g0 {s : jPs} (h : jPi s) : jPs.gf s 0 = 0 := h.2.2.1
theorem jPi.m {s : jPs} (h : jPi s) : ∀ e, e < jPs.d s → jPs.gf s e ≤ jPs.gf s (e + 1) := h.2.2.2.1
theorem jPi.t {s : jPs} (h : jPi s) : jPs.gf s (jPs.d s) ≤ jPs.sz s := h.2.2.2.2.1
theorem jPi.en {s : jPs} (h : jPi s) : ∀ e, e ≤ jPs.d s → jFr (jPs.en s e) (jPs.gf s e) (jPs.sz s) := h.2.2.2.2.2.1
theorem jPi.ro {s : jPs} (h : jPi s) : ∀ e, e ≤ jPs.d s → jFr (jPs.ro s e) (jPs.gf s e) (jPs.sz s) := h.2.2.2.2.2.2.1
theorem jPi.it {s : jPs} (h : jPi s) : jPs.hs s = 1 → jPs.gf s (jPs.d s) ≤ jPs.ib s ∧ jPs.ib s < jPs.sz s ∧ jFr (jPs.it s) (jPs.ib s) (jPs.sz s) := h.2.2.2.2.2.2.2.1
theorem jPi.fz {s : jPs} (h : jPi s) : ∀ p, jPs.sz s ≤ p → jPs.fo s p = 0 := h.2.2.2.2.2.2.2.2.1
theorem jPi.fu {s : jPs} (h : jPi s) : ∀ p i, (jPs.fo s p).testBit i = true → i < jPs.sz s := h.2.2.2.2.2.2.2.2.2.1
theorem jPi.fl {s : jPs} (h : jPi s) : ∀ e p i, e ≤ jPs.d s → jPs.gf s e ≤ p → (jPs.fo s p).testBit i = true → jPs.gf s e ≤ i := h.2.2.2.2.2.2.2.2.2.2.1
theorem jPi.fi {s : jPs} (h : jPi s) : jPs.hs s = 1 → ∀ p i, jPs.ib s ≤ p → (jPs.fo s p).testBit i = true → jPs.ib s ≤ i := h.2.2.2.2.2.2.2.2.2.2.2.1
theorem jPi.ls {s : jPs} (h : jPi s) : ∀ p, jPs.ls s p < 512 := h.2.2.2.2.2.2.2.2.2.2.2.2.1
theorem jPi.ln {s : jPs} (h : jPi s) : ∀ p, p < jPs.sz s → jPs.ls s p ≠ 0 := h.2.2.2.2.2.2.2.2.2.2.2.2.2.1
theorem jPi.ar {s : jPs} (h : jPi s) : ∀ e, e ≤ jPs.d s → jal (jPs.fo s) (jPs.ro s e) := h.2.2.2.2.2.2.2.2.2.2.2.2.2.2.1
theorem jPi.ai {s : jPs} (h : jPi s) : jPs.hs s = 1 → jal (jPs.fo s) (jPs.it s) := h.2.2.2.2.2.2.2.2.2.2.2.2.2.2.2
theorem jPi.mm {s : jPs} (h : jPi s) : ∀ {a b}, a ≤ b → b ≤ jPs.d s → jPs.gf s a ≤ jPs.gf s b := by
  intro a b
  induction b with
  | zero => intro h1 _; rw [Nat.le_zero.mp h1]; exact Nat.le_refl _
  | succ b ih =>
    intro h1 h2
    rcases Nat.lt_or_ge a (b + 1) with q | q
    · have := ih (by omega) (by omega)
      have := h.m b (by omega)
      omega
    · rw [show a = b + 1 by omega]; exact Nat.le_refl _
def jp00 : jPs := (0, 0, 0, fun _ => (0, 0, 0), fun _ => (0, 0, 1), (0, 0, 0), 0, fun _ => 0, 0, fun _ => 0, fun _ => 0)
theorem jp00_ok : jPi jp00 := ⟨Nat.zero_le _, Nat.zero_le _, rfl, fun e he => absurd he (Nat.not_lt_zero e), Nat.le_refl _, fun e _ => jFr.no _ _ (Nat.zero_le _), fun e _ => jFr.no _ _ (Nat.le_refl _), fun z => absurd z (by decide), fun p _ => rfl, fun p i h => absurd h (by show ¬ (Nat.testBit 0 i = true); rw [Nat.zero_testBit]; decide), fun e p i _ _ h => absurd h (by show ¬ (Nat.testBit 0 i = true); rw [Nat.zero_testBit]; decide), fun z => absurd z (by decide), fun p => (by show 0 < 512; decide), fun p hp => absurd hp (Nat.not_lt_zero p), fun e _ => Or.inl rfl, fun z => absurd z (by decide)⟩
/-- the item put to its row -/
def jsR (s : jPs) : Nat → jG := if jPs.hs s = 1 then (fun e => if e = jPs.d s then jcg (jPs.ro s (jPs.d s)) (jPs.it s) else jPs.ro s e) else jPs.ro s
def jsF (s : jPs) : Nat → Nat := if jPs.hs s = 1 then jfwx (jPs.fo s) (jPs.ro s (jPs.d s)) (jPs.it s) else jPs.fo s
/-- what chaining at depth d keeps -/
def jKp (s : jPs) (R : Nat → jG) (F : Nat → Nat) : Prop := (∀ e, e ≤ jPs.d s → jFr (R e) (jPs.gf s e) (jPs.sz s)) ∧ (∀ p, jPs.sz s ≤ p → F p = 0) ∧ (∀ p i, (F p).testBit i = true → i < jPs.sz s) ∧ (∀ e p i, e ≤ jPs.d s → jPs.gf s e ≤ p → (F p).testBit i = true → jPs.gf s e ≤ i) ∧ (∀ p i, (jPs.fo s p).testBit i = true → (F p).testBit i = true) ∧ (∀ e, e ≤ jPs.d s → jal F (R e))
theorem jKp.ro {s : jPs} {R : Nat → jG} {F : Nat → Nat} (h : jKp s R F) : ∀ e, e ≤ jPs.d s → jFr (R e) (jPs.gf s e) (jPs.sz s) := h.1
theorem jKp.fz {s : jPs} {R : Nat → jG} {F : Nat → Nat} (h : jKp s R F) : ∀ p, jPs.sz s ≤ p → F p = 0 := h.2.1
theorem jKp.fu {s : jPs} {R : Nat → jG} {F : Nat → Nat} (h : jKp s R F) : ∀ p i, (F p).testBit i = true → i < jPs.sz s := h.2.2.1
theorem jKp.fl {s : jPs} {R : Nat → jG} {F : Nat → Nat} (h : jKp s R F) : ∀ e p i, e ≤ jPs.d s → jPs.gf s e ≤ p → (F p).testBit i = true → jPs.gf s e ≤ i := h.2.2.2.1
theorem jKp.up {s : jPs} {R : Nat → jG} {F : Nat → Nat} (h : jKp s R F) : ∀ p i, (jPs.fo s p).testBit i = true → (F p).testBit i = true := h.2.2.2.2.1
theorem jKp.ar {s : jPs} {R : Nat → jG} {F : Nat → Nat} (h : jKp s R F) : ∀ e, e ≤ jPs.d s → jal F (R e) := h.2.2.2.2.2
theorem jPi.fc {s : jPs} (h : jPi s) {x y : jG} (hx : jFr x (jPs.gf s (jPs.d s)) (jPs.sz s)) (hy : jFr y (jPs.gf s (jPs.d s)) (jPs.sz s)) : (∀ p, jPs.sz s ≤ p → jfwx (jPs.fo s) x y p = 0) ∧ (∀ p i, (jfwx (jPs.fo s) x y p).testBit i = true → i < jPs.sz s) ∧ ∀ e p i, e ≤ jPs.d s → jPs.gf s e ≤ p → (jfwx (jPs.fo s) x y p).testBit i = true → jPs.gf s e ≤ i := by
  refine ⟨fun p hp => ?_, fun p i hi => ?_, fun e p i he hp hi => ?_⟩
  · unfold jfwx
    rw [if_neg (fun z => by have := (hx.l p z).2; omega)]; exact h.fz p hp
  · rcases jfw_or hi with z | z
    · exact h.fu p i z
    · exact (hy.f i z.2).2
  · rcases jfw_or hi with z | z
    · exact h.fl e p i he hp z
    · have := (hy.f i z.2).1
      have := h.mm he (Nat.le_refl _)
      omega
theorem jPi.kp {s : jPs} (h : jPi s) : jKp s (jsR s) (jsF s) := by
  unfold jsR jsF
  by_cases c : jPs.hs s = 1
  · rw [if_pos c, if_pos c]
    obtain ⟨i1, i2, i3⟩ := h.it c
    have hr := h.ro (jPs.d s) (Nat.le_refl _)
    have hi := i3.up i1 (Nat.le_refl _)
    obtain ⟨q1, q2, q3⟩ := h.fc hr hi
    refine ⟨fun e he => ?_, q1, q2, q3, fun p i hp => jfw_up hp, fun e he => ?_⟩
    · show jFr (if e = jPs.d s then jcg (jPs.ro s (jPs.d s)) (jPs.it s) else jPs.ro s e) _ _
      by_cases ce : e = jPs.d s
      · rw [if_pos ce, ce]; exact hr.cg hi
      · rw [if_neg ce]; exact h.ro e he
    · show jal _ (if e = jPs.d s then jcg (jPs.ro s (jPs.d s)) (jPs.it s) else jPs.ro s e)
      by_cases ce : e = jPs.d s
      · rw [if_pos ce]; exact (h.ar _ (Nat.le_refl _)).cg (h.ai c)
      · rw [if_neg ce]; exact (h.ar e he).mono (fun p i hp => jfw_up hp)
  · rw [if_neg c, if_neg c]
    exact ⟨h.ro, h.fz, h.fu, h.fl, fun p i hp => hp, h.ar⟩
def jpO (s : jPs) : jPs := (jPs.d s + 1, 0, 0, fun e => if e = jPs.d s + 1 then (0, 0, 0) else jPs.en s e, fun e => if e = jPs.d s + 1 then (0, 0, 1) else jsR s e, jPs.it s, jPs.ib s, fun e => if e = jPs.d s + 1 then jPs.sz s else jPs.gf s e, jPs.sz s, jPs.ls s, jsF s)
theorem jpO_ok {s : jPs} (h : jPi s) : jPi (jpO s) := by
  have k := h.kp
  have gl : ∀ e, e ≤ jPs.d s → (if e = jPs.d s + 1 then jPs.sz s else jPs.gf s e) = jPs.gf s e := fun e he => if_neg (by omega)
  have gt : (if jPs.d s + 1 = jPs.d s + 1 then jPs.sz s else jPs.gf s (jPs.d s + 1)) = jPs.sz s := if_pos rfl
  refine ⟨Nat.zero_le _, Nat.zero_le _, ?_, fun e he => ?_, ?_, fun e he => ?_, fun e he => ?_, fun z => absurd z (by show ¬ (0 = 1); decide), k.fz, k.fu, fun e p i he hp hi => ?_, fun z => absurd z (by show ¬ (0 = 1); decide), h.ls, h.ln, fun e he => ?_, fun z => absurd z (by show ¬ (0 = 1); decide)⟩
  · show (if 0 = jPs.d s + 1 then jPs.sz s else jPs.gf s 0) = 0
    rw [if_neg (by omega)]; exact h.g0
  · have he : e < jPs.d s + 1 := he
    show (if e = jPs.d s + 1 then jPs.sz s else jPs.gf s e) ≤ (if e + 1 = jPs.d s + 1 then jPs.sz s else jPs.gf s (e + 1))
    rw [gl e (by omega)]
    by_cases c : e = jPs.d s
    · rw [if_pos (by omega), c]; exact h.t
    · rw [if_neg (by omega)]; exact h.m e (by omega)
  · show (if jPs.d s + 1 = jPs.d s + 1 then jPs.sz s else jPs.gf s (jPs.d s + 1)) ≤ jPs.sz s
    rw [gt]; exact Nat.le_refl _
  · have he : e ≤ jPs.d s + 1 := he
    show jFr (if e = jPs.d s + 1 then (0, 0, 0) else jPs.en s e) (if e = jPs.d s + 1 then jPs.sz s else jPs.gf s e) (jPs.sz s)
    by_cases c : e = jPs.d s + 1
    · rw [if_pos c, if_pos c]; exact jFr.no _ _ (Nat.zero_le _)
    · rw [if_neg c, if_neg c]; exact h.en e (by omega)
  · have he : e ≤ jPs.d s + 1 := he
    show jFr (if e = jPs.d s + 1 then (0, 0, 1) else jsR s e) (if e = jPs.d s + 1 then jPs.sz s else jPs.gf s e) (jPs.sz s)
    by_cases c : e = jPs.d s + 1
    · rw [if_pos c, if_pos c]; exact jFr.no _ _ (Nat.le_refl _)
    · rw [if_neg c, if_neg c]; exact k.ro e (by omega)
  · have he : e ≤ jPs.d s + 1 := he
    have hi : (jsF s p).testBit i = true := hi
    have hp : (if e = jPs.d s + 1 then jPs.sz s else jPs.gf s e) ≤ p := hp
    show (if e = jPs.d s + 1 then jPs.sz s else jPs.gf s e) ≤ i
    by_cases c : e = jPs.d s + 1
    · rw [if_pos c] at hp
      rw [k.fz p hp, Nat.zero_testBit] at hi
      cases hi
    · rw [if_neg c] at hp ⊢
      exact k.fl e p i (by omega) hp hi
  · have he : e ≤ jPs.d s + 1 := he
    show jal (jsF s) (if e = jPs.d s + 1 then (0, 0, 1) else jsR s e)
    by_cases c : e = jPs.d s + 1
    · rw [if_pos c]; exact Or.inl rfl
    · rw [if_neg c]; exact k.ar e (by omega)
def jpA (s : jPs) (b : Nat) : jPs := (jPs.d s, 1, 1, jPs.en s, jsR s, (2 ^ jPs.sz s, 2 ^ jPs.sz s, 0), jPs.sz s, jPs.gf s, jPs.sz s + 1, fun p => if p = jPs.sz s then b else jPs.ls s p, jsF s)
theorem jpA_ok {s : jPs} (h : jPi s) {b : Nat} (hb : b < 512) (hb0 : b ≠ 0) : jPi (jpA s b) := by
  have k := h.kp
  have tb : ∀ i, (2 ^ jPs.sz s).testBit i = true → i = jPs.sz s := fun i hi => by rw [Nat.testBit_two_pow, decide_eq_true_iff] at hi; exact hi.symm
  have ts : (2 ^ jPs.sz s).testBit (jPs.sz s) = true := by rw [Nat.testBit_two_pow, decide_eq_true_iff]
  refine ⟨Nat.le_refl _, Nat.le_refl _, h.g0, h.m, Nat.le_succ_of_le h.t, fun e he => (h.en e he).up (Nat.le_refl _) (Nat.le_succ _), fun e he => (k.ro e he).up (Nat.le_refl _) (Nat.le_succ _), fun _ => ⟨h.t, Nat.lt_succ_self _, fun i hi => ?_, fun i hi => ?_, Nat.zero_le _⟩, fun p hp => k.fz p (Nat.le_of_succ_le hp), fun p i hi => Nat.lt_succ_of_lt (k.fu p i hi), k.fl, fun _ p i hp hi => ?_, fun p => ?_, fun p hp => ?_, k.ar, fun _ => Or.inr ⟨0, fun _ => jPs.sz s, ts, fun i hi => absurd hi (Nat.not_lt_zero i), ts⟩⟩
  · have := tb i hi
    show jPs.sz s ≤ i ∧ i < jPs.sz s + 1
    omega
  · have := tb i hi
    show jPs.sz s ≤ i ∧ i < jPs.sz s + 1
    omega
  · have hp : jPs.sz s ≤ p := hp
    have hi : (jsF s p).testBit i = true := hi
    rw [k.fz p hp, Nat.zero_testBit] at hi
    cases hi
  · show (if p = jPs.sz s then b else jPs.ls s p) < 512
    split
    · exact hb
    · exact h.ls p
  · have hp : p < jPs.sz s + 1 := hp
    show (if p = jPs.sz s then b else jPs.ls s p) ≠ 0
    by_cases c : p = jPs.sz s
    · rw [if_pos c]; exact hb0
    · rw [if_neg c]; exact h.ln p (by omega)
/-- the row and those ended before it -/
def jpU (s : jPs) : jG := jug (jPs.en s (jPs.d s)) (jcg (jPs.ro s (jPs.d s)) (jPs.it s))
def jpF (s : jPs) : Nat → Nat := jfwx (jPs.fo s) (jPs.ro s (jPs.d s)) (jPs.it s)
theorem jpU_ok {s : jPs} (h : jPi s) (h1 : jPs.hs s = 1) : jFr (jpU s) (jPs.gf s (jPs.d s)) (jPs.sz s) ∧ jal (jpF s) (jpU s) ∧ (∀ p, jPs.sz s ≤ p → jpF s p = 0) ∧ (∀ p i, (jpF s p).testBit i = true → i < jPs.sz s) ∧ ∀ e p i, e ≤ jPs.d s → jPs.gf s e ≤ p → (jpF s p).testBit i = true → jPs.gf s e ≤ i := by
  obtain ⟨i1, i2, i3⟩ := h.it h1
  have hr := h.ro (jPs.d s) (Nat.le_refl _)
  have hi := i3.up i1 (Nat.le_refl _)
  have he := h.en (jPs.d s) (Nat.le_refl _)
  refine ⟨he.ug (hr.cg hi), jal.ug2 he.e (hr.cg hi).e ((h.ar _ (Nat.le_refl _)).cg (h.ai h1)), h.fc hr hi⟩
def jpB (s : jPs) : jPs := (jPs.d s, 0, 0, fun e => if e = jPs.d s then jpU s else jPs.en s e, fun e => if e = jPs.d s then (0, 0, 1) else jPs.ro s e, jPs.it s, jPs.ib s, jPs.gf s, jPs.sz s, jPs.ls s, jpF s)
theorem jpB_ok {s : jPs} (h : jPi s) (h1 : jPs.hs s = 1) : jPi (jpB s) := by
  obtain ⟨q1, q2, q3, q4, q5⟩ := jpU_ok h h1
  refine ⟨Nat.zero_le _, Nat.zero_le _, h.g0, h.m, h.t, fun e he => ?_, fun e he => ?_, fun z => absurd z (by show ¬ (0 = 1); decide), q3, q4, q5, fun z => absurd z (by show ¬ (0 = 1); decide), h.ls, h.ln, fun e he => ?_, fun z => absurd z (by show ¬ (0 = 1); decide)⟩
  · show jFr (if e = jPs.d s then jpU s else jPs.en s e) (jPs.gf s e) (jPs.sz s)
    by_cases c : e = jPs.d s
    · rw [if_pos c, c]; exact q1
    · rw [if_neg c]; exact h.en e he
  · show jFr (if e = jPs.d s then (0, 0, 1) else jPs.ro s e) (jPs.gf s e) (jPs.sz s)
    by_cases c : e = jPs.d s
    · rw [if_pos c]; exact jFr.no _ _ (Nat.le_refl _)
    · rw [if_neg c]; exact h.ro e he
  · show jal (jpF s) (if e = jPs.d s then (0, 0, 1) else jPs.ro s e)
    by_cases c : e = jPs.d s
    · rw [if_pos c]; exact Or.inl rfl
    · rw [if_neg c]; exact (h.ar e he).mono (fun p i hp => jfw_up hp)
def jpC (s : jPs) : jPs := (jPs.d s - 1, 1, 1, jPs.en s, jPs.ro s, jpU s, jPs.gf s (jPs.d s), jPs.gf s, jPs.sz s, jPs.ls s, jpF s)
theorem jpC_ok {s : jPs} (h : jPi s) (h1 : jPs.hs s = 1) (hd : 0 < jPs.d s) : jPi (jpC s) := by
  obtain ⟨q1, q2, q3, q4, q5⟩ := jpU_ok h h1
  obtain ⟨i1, i2, i3⟩ := h.it h1
  have hm := h.mm (a := jPs.d s - 1) (b := jPs.d s) (by omega) (Nat.le_refl _)
  have ht := h.t
  refine ⟨Nat.le_refl _, Nat.le_refl _, h.g0, fun e he => h.m e (Nat.lt_of_lt_of_le he (Nat.sub_le _ _)), Nat.le_trans hm ht, fun e he => h.en e (Nat.le_trans he (Nat.sub_le _ _)), fun e he => h.ro e (Nat.le_trans he (Nat.sub_le _ _)), fun _ => ⟨hm, Nat.lt_of_le_of_lt i1 i2, q1⟩, q3, q4, fun e p i he => q5 e p i (Nat.le_trans he (Nat.sub_le _ _)), fun _ p i => q5 _ p i (Nat.le_refl _), h.ls, h.ln, fun e he => (h.ar e (Nat.le_trans he (Nat.sub_le _ _))).mono (fun p i hp => jfw_up hp), fun _ => q2⟩
/-- repeated without end, or at most once -/
def jpS (s : jPs) (e : Nat) : jPs := (jPs.d s, 1, 0, jPs.en s, jPs.ro s, ((jPs.it s).1, (jPs.it s).2.1, e), jPs.ib s, jPs.gf s, jPs.sz s, jPs.ls s, jfwx (jPs.fo s) (jPs.it s) (jPs.it s))
def jpQ (s : jPs) : jPs := (jPs.d s, 1, 0, jPs.en s, jPs.ro s, ((jPs.it s).1, (jPs.it s).2.1, 1), jPs.ib s, jPs.gf s, jPs.sz s, jPs.ls s, jPs.fo s)
theorem jpQ_ok {s : jPs} (h : jPi s) (h1 : jPs.hs s = 1) : jPi (jpQ s) := by
  obtain ⟨i1, i2, i3⟩ := h.it h1
  exact ⟨Nat.le_refl _, Nat.zero_le _, h.g0, h.m, h.t, h.en, h.ro, fun _ => ⟨i1, i2, i3.f, i3.l, Nat.le_refl _⟩, h.fz, h.fu, h.fl, fun _ => h.fi h1, h.ls, h.ln, h.ar, fun _ => Or.inl rfl⟩
theorem jpS_ok {s : jPs} (h : jPi s) (h1 : jPs.hs s = 1) {e : Nat} (he : e = 1 ∨ e = (jPs.it s).2.2) : jPi (jpS s e) := by
  obtain ⟨i1, i2, i3⟩ := h.it h1
  have hi := i3.up i1 (Nat.le_refl _)
  obtain ⟨q1, q2, q3⟩ := h.fc hi hi
  have he1 : e ≤ 1 := by
    rcases he with z | z
    · omega
    · have := i3.e; omega
  refine ⟨Nat.le_refl _, Nat.zero_le _, h.g0, h.m, h.t, h.en, h.ro, fun _ => ⟨i1, i2, i3.f, i3.l, he1⟩, q1, q2, q3, fun _ p i hp hi => ?_, h.ls, h.ln, fun e he => (h.ar e he).mono (fun p i hp => jfw_up hp), fun _ => ?_⟩
  · rcases jfw_or hi with z | z
    · exact h.fi h1 p i hp z
    · exact (i3.f i z.2).1
  · rcases h.ai h1 with z | ⟨n, p, g1, g2, g3⟩
    · left
      show e = 1
      rcases he with y | y <;> omega
    · exact Or.inr ⟨n, p, g1, fun i hi => jfw_up (g2 i hi), g3⟩
