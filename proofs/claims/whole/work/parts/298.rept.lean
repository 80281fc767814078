/-! AN ITEM TIMES a TO b: copies behind copies -/
def jwd (s : jPs) : Nat := jPs.sz s - jPs.ib s
def jshx (s : jPs) (a k : Nat) : jG := ((jPs.it s).1 <<< (k * jwd s), (jPs.it s).2.1 <<< (k * jwd s), if (jPs.it s).2.2 = 1 ∨ a ≤ k then 1 else 0)
def jWk (s : jPs) (a : Nat) : Nat → jG
  | 0 => jshx s a 0
  | k + 1 => jcg (jWk s a k) (jshx s a (k + 1))
/-- block k copied -/
def jcb (s : jPs) (k : Nat) (F : Nat → Nat) : Nat → Nat := fun p => if jPs.ib s + k * jwd s ≤ p ∧ p < jPs.ib s + k * jwd s + jwd s then (jPs.fo s (p - k * jwd s)) <<< (k * jwd s) else F p
def jFk (s : jPs) (a : Nat) : Nat → Nat → Nat
  | 0 => jPs.fo s
  | k + 1 => jfwx (jcb s (k + 1) (jFk s a k)) (jWk s a k) (jshx s a (k + 1))
def jLs (s : jPs) (b : Nat) : Nat → Nat := fun p => if jPs.sz s ≤ p ∧ p < jPs.ib s + b * jwd s then jPs.ls s (jPs.ib s + (p - jPs.ib s) % jwd s) else jPs.ls s p
def jpR (s : jPs) (a b : Nat) : jPs := (jPs.d s, 1, 0, jPs.en s, jPs.ro s, jWk s a (b - 1), jPs.ib s, jPs.gf s, jPs.ib s + b * jwd s, jLs s b, jFk s a (b - 1))
theorem jshl_tb {x k i : Nat} : (x <<< k).testBit i = true ↔ k ≤ i ∧ x.testBit (i - k) = true := by
  rw [Nat.testBit_shiftLeft, Bool.and_eq_true, decide_eq_true_iff]
theorem jshx_fr {s : jPs} (h : jPi s) (h1 : jPs.hs s = 1) (a k : Nat) : jFr (jshx s a k) (jPs.ib s + k * jwd s) (jPs.ib s + k * jwd s + jwd s) := by
  obtain ⟨i1, i2, i3⟩ := h.it h1
  refine ⟨fun i hi => ?_, fun i hi => ?_, ?_⟩
  · obtain ⟨z1, z2⟩ := jshl_tb.mp hi
    have := i3.f _ z2
    unfold jwd at *
    omega
  · obtain ⟨z1, z2⟩ := jshl_tb.mp hi
    have := i3.l _ z2
    unfold jwd at *
    omega
  · show (if (jPs.it s).2.2 = 1 ∨ a ≤ k then 1 else 0) ≤ 1
    split <;> omega
def jJk (s : jPs) (W : jG) (F : Nat → Nat) (z : Nat) : Prop := (jFr W (jPs.ib s) z) ∧ (∀ p, z ≤ p → F p = 0) ∧ (∀ p i, (F p).testBit i = true → i < z) ∧ (∀ p i, jPs.ib s ≤ p → (F p).testBit i = true → jPs.ib s ≤ i) ∧ (∀ p, p < jPs.ib s → F p = jPs.fo s p) ∧ (∀ p i, (jPs.fo s p).testBit i = true → (F p).testBit i = true) ∧ (∀ p i, p < jPs.sz s → i < jPs.sz s → (F p).testBit i = true → (jPs.fo s p).testBit i = true) ∧ (jal F W)
theorem jJk.w {s : jPs} {W : jG} {F : Nat → Nat} {z : Nat} (h : jJk s W F z) : jFr W (jPs.ib s) z := h.1
theorem jJk.z {s : jPs} {W : jG} {F : Nat → Nat} {z : Nat} (h : jJk s W F z) : ∀ p, z ≤ p → F p = 0 := h.2.1
theorem jJk.u {s : jPs} {W : jG} {F : Nat → Nat} {z : Nat} (h : jJk s W F z) : ∀ p i, (F p).testBit i = true → i < z := h.2.2.1
theorem jJk.i {s : jPs} {W : jG} {F : Nat → Nat} {z : Nat} (h : jJk s W F z) : ∀ p i, jPs.ib s ≤ p → (F p).testBit i = true → jPs.ib s ≤ i := h.2.2.2.1
theorem jJk.b {s : jPs} {W : jG} {F : Nat → Nat} {z : Nat} (h : jJk s W F z) : ∀ p, p < jPs.ib s → F p = jPs.fo s p := h.2.2.2.2.1
theorem jJk.o {s : jPs} {W : jG} {F : Nat → Nat} {z : Nat} (h : jJk s W F z) : ∀ p i, (jPs.fo s p).testBit i = true → (F p).testBit i = true := h.2.2.2.2.2.1
theorem jJk.n {s : jPs} {W : jG} {F : Nat → Nat} {z : Nat} (h : jJk s W F z) : ∀ p i, p < jPs.sz s → i < jPs.sz s → (F p).testBit i = true → (jPs.fo s p).testBit i = true := h.2.2.2.2.2.2.1
theorem jJk.a {s : jPs} {W : jG} {F : Nat → Nat} {z : Nat} (h : jJk s W F z) : jal F W := h.2.2.2.2.2.2.2
theorem jshx0 (s : jPs) (a : Nat) : jshx s a 0 = ((jPs.it s).1, (jPs.it s).2.1, if (jPs.it s).2.2 = 1 ∨ a ≤ 0 then 1 else 0) := by
  unfold jshx
  rw [Nat.zero_mul]
  rfl
theorem jJk_ok {s : jPs} (h : jPi s) (h1 : jPs.hs s = 1) (a : Nat) : ∀ k, jJk s (jWk s a k) (jFk s a k) (jPs.ib s + k * jwd s + jwd s)
  | 0 => by
    obtain ⟨i1, i2, i3⟩ := h.it h1
    have e0 : jPs.ib s + 0 * jwd s + jwd s = jPs.sz s := by unfold jwd; omega
    rw [e0, jWk, jFk, jshx0]
    refine ⟨⟨i3.f, i3.l, ?_⟩, h.fz, h.fu, h.fi h1, fun p _ => rfl, fun p i hi => hi, fun p i _ _ hi => hi, ?_⟩
    · show (if (jPs.it s).2.2 = 1 ∨ a ≤ 0 then 1 else 0) ≤ 1
      split <;> omega
    · rcases h.ai h1 with z | z
      · left
        show (if (jPs.it s).2.2 = 1 ∨ a ≤ 0 then 1 else 0) = 1
        rw [if_pos (Or.inl z)]
      · exact Or.inr z
  | k + 1 => by
    obtain ⟨i1, i2, i3⟩ := h.it h1
    have ih := jJk_ok h h1 a k
    have hsf := jshx_fr h h1 a (k + 1)
    have em : (k + 1) * jwd s = k * jwd s + jwd s := Nat.succ_mul k (jwd s)
    have ew : jPs.ib s + jwd s = jPs.sz s := by unfold jwd; omega
    -- the block's copy
    have cb : ∀ p, jPs.ib s + (k + 1) * jwd s ≤ p → p < jPs.ib s + (k + 1) * jwd s + jwd s → jcb s (k + 1) (jFk s a k) p = (jPs.fo s (p - (k + 1) * jwd s)) <<< ((k + 1) * jwd s) := fun p c1 c2 => if_pos ⟨c1, c2⟩
    have cn : ∀ p, ¬ (jPs.ib s + (k + 1) * jwd s ≤ p ∧ p < jPs.ib s + (k + 1) * jwd s + jwd s) → jcb s (k + 1) (jFk s a k) p = jFk s a k p := fun p c => if_neg c
    have cup : ∀ p i, (jFk s a k p).testBit i = true → (jcb s (k + 1) (jFk s a k) p).testBit i = true := fun p i hi => by
      by_cases c : jPs.ib s + (k + 1) * jwd s ≤ p ∧ p < jPs.ib s + (k + 1) * jwd s + jwd s
      · rw [ih.z p (by omega), Nat.zero_testBit] at hi
        cases hi
      · rw [cn p c]; exact hi
    rw [jWk, jFk]
    refine ⟨(ih.w.up (Nat.le_refl _) (by omega)).cg (hsf.up (by omega) (by omega)), fun p hp => ?_, fun p i hi => ?_, fun p i hp hi => ?_, fun p hp => ?_, fun p i hi => jfw_up (cup p i (ih.o p i hi)), fun p i hp hi2 hi => ?_, ?_⟩
    · unfold jfwx
      rw [if_neg (fun z => by have := (ih.w.l p z).2; omega), cn p (by omega)]
      exact ih.z p (by omega)
    · rcases jfw_or hi with z | z
      · by_cases c : jPs.ib s + (k + 1) * jwd s ≤ p ∧ p < jPs.ib s + (k + 1) * jwd s + jwd s
        · rw [cb p c.1 c.2] at z
          obtain ⟨z1, z2⟩ := jshl_tb.mp z
          have := h.fu _ _ z2
          omega
        · rw [cn p c] at z
          have := ih.u p i z
          omega
      · have := (hsf.f i z.2).2
        omega
    · rcases jfw_or hi with z | z
      · by_cases c : jPs.ib s + (k + 1) * jwd s ≤ p ∧ p < jPs.ib s + (k + 1) * jwd s + jwd s
        · rw [cb p c.1 c.2] at z
          obtain ⟨z1, z2⟩ := jshl_tb.mp z
          have := h.fi h1 _ _ (show jPs.ib s ≤ p - (k + 1) * jwd s by omega) z2
          omega
        · rw [cn p c] at z
          exact ih.i p i hp z
      · have := (hsf.f i z.2).1
        omega
    · unfold jfwx
      rw [if_neg (fun z => by have := (ih.w.l p z).1; omega), cn p (by omega)]
      exact ih.b p hp
    · rcases jfw_or hi with z | z
      · rw [cn p (by omega)] at z
        exact ih.n p i hp hi2 z
      · have := (hsf.f i z.2).1
        omega
    · have hW : jal (jcb s (k + 1) (jFk s a k)) (jWk s a k) := ih.a.mono cup
      have hS : jal (jcb s (k + 1) (jFk s a k)) (jshx s a (k + 1)) := by
        rcases h.ai h1 with z | ⟨n, p, g1, g2, g3⟩
        · left
          show (if (jPs.it s).2.2 = 1 ∨ a ≤ k + 1 then 1 else 0) = 1
          rw [if_pos (Or.inl z)]
        · have hp : ∀ i, i ≤ n → jPs.ib s ≤ p i ∧ p i < jPs.sz s := by
            intro i
            induction i with
            | zero => intro _; exact i3.f _ g1
            | succ i ihi =>
              intro hi
              have q := ihi (by omega)
              have q2 := g2 i (by omega)
              exact ⟨h.fi h1 _ _ q.1 q2, h.fu _ _ q2⟩
          refine Or.inr ⟨n, fun i => p i + (k + 1) * jwd s, ?_, fun i hi => ?_, ?_⟩
          · show ((jPs.it s).1 <<< ((k + 1) * jwd s)).testBit (p 0 + (k + 1) * jwd s) = true
            exact jshl_tb.mpr ⟨by omega, by rw [Nat.add_sub_cancel]; exact g1⟩
          · have q := hp i (by omega)
            show (jcb s (k + 1) (jFk s a k) (p i + (k + 1) * jwd s)).testBit (p (i + 1) + (k + 1) * jwd s) = true
            rw [cb _ (by omega) (by omega)]
            exact jshl_tb.mpr ⟨by omega, by rw [Nat.add_sub_cancel, Nat.add_sub_cancel]; exact g2 i hi⟩
          · show ((jPs.it s).2.1 <<< ((k + 1) * jwd s)).testBit (p n + (k + 1) * jwd s) = true
            exact jshl_tb.mpr ⟨by omega, by rw [Nat.add_sub_cancel]; exact g3⟩
      exact hW.cg hS
theorem jpR_ok {s : jPs} (h : jPi s) (h1 : jPs.hs s = 1) {a b : Nat} (hb : 1 ≤ b) : jPi (jpR s a b) := by
  obtain ⟨i1, i2, i3⟩ := h.it h1
  have J := jJk_ok h h1 a (b - 1)
  have eb : b * jwd s = (b - 1) * jwd s + jwd s := by
    have : b = (b - 1) + 1 := by omega
    rw [this, Nat.succ_mul, Nat.add_sub_cancel]
  have ez : jPs.ib s + (b - 1) * jwd s + jwd s = jPs.ib s + b * jwd s := by omega
  rw [ez] at J
  have ew : jPs.ib s + jwd s = jPs.sz s := by unfold jwd; omega
  have hsz : jPs.sz s ≤ jPs.ib s + b * jwd s := by omega
  have hwp : 0 < jwd s := by unfold jwd; omega
  refine ⟨Nat.le_refl _, Nat.zero_le _, h.g0, h.m, Nat.le_trans h.t hsz, fun e he => (h.en e he).up (Nat.le_refl _) hsz, fun e he => (h.ro e he).up (Nat.le_refl _) hsz, fun _ => ⟨i1, Nat.lt_of_lt_of_le i2 hsz, J.w⟩, J.z, J.u, fun e p i he hp hi => ?_, fun _ => J.i, fun p => ?_, fun p hp => ?_, fun e he => (h.ar e he).mono J.o, fun _ => J.a⟩
  · have hi : (jFk s a (b - 1) p).testBit i = true := hi
    have hp : jPs.gf s e ≤ p := hp
    have he : e ≤ jPs.d s := he
    show jPs.gf s e ≤ i
    rcases Nat.lt_or_ge p (jPs.ib s) with c | c
    · rw [J.b p c] at hi
      exact h.fl e p i he hp hi
    · have q1 := J.i p i c hi
      have q2 := h.mm he (Nat.le_refl _)
      omega
  · show jLs s b p < 512
    unfold jLs
    split
    · exact h.ls _
    · exact h.ls p
  · have hp : p < jPs.ib s + b * jwd s := hp
    show jLs s b p ≠ 0
    unfold jLs
    by_cases c : jPs.sz s ≤ p ∧ p < jPs.ib s + b * jwd s
    · rw [if_pos c]
      have := Nat.mod_lt (p - jPs.ib s) hwp
      exact h.ln _ (by omega)
    · rw [if_neg c]
      exact h.ln p (by omega)
/-! the units of a pattern, as a byte stands at x: what is behind, and the machine then -/
def jAtm (tp : Nat → Nat) (ts x b y : Nat) : Prop := (tp x = 91 ∧ jcO tp ts x ∧ b = jcL tp ts x ∧ y = jcE tp ts x + 1) ∨ (tp x = 46 ∧ b = 511 ∧ y = x + 1) ∨ (jltr (tp x) = true ∧ b = jlb (tp x) ∧ y = x + 1)
def jSt1 (tp : Nat → Nat) (ts x : Nat) (s : jPs) (y : Nat) (s1 : jPs) : Prop :=
  (∃ b, jAtm tp ts x b y ∧ s1 = jpA s b) ∨
  (tp x = 40 ∧ y = x + 1 ∧ s1 = jpO s) ∨
  (jPs.hs s = 1 ∧ tp x = 124 ∧ y = x + 1 ∧ s1 = jpB s) ∨
  (jPs.hs s = 1 ∧ tp x = 41 ∧ 0 < jPs.d s ∧ y = x + 1 ∧ s1 = jpC s) ∨
  (jPs.hs s = 1 ∧ jPs.rp s = 1 ∧ tp x = 42 ∧ y = x + 1 ∧ s1 = jpS s 1) ∨
  (jPs.hs s = 1 ∧ jPs.rp s = 1 ∧ tp x = 43 ∧ y = x + 1 ∧ s1 = jpS s (jPs.it s).2.2) ∨
  (jPs.hs s = 1 ∧ jPs.rp s = 1 ∧ tp x = 63 ∧ y = x + 1 ∧ s1 = jpQ s) ∨
  (jPs.hs s = 1 ∧ jPs.rp s = 1 ∧ tp x = 123 ∧ (jbrF tp x).1 = 0 ∧ y = x + 5 ∧ s1 = jpR s (tp (x + 1) - 48) (tp (x + 3) - 48))
/-- a fault at x: its number and place -/
def jFt1 (tp : Nat → Nat) (ts x : Nat) (s : jPs) (f p : Nat) : Prop :=
  (tp x = 91 ∧ ¬ jcO tp ts x ∧ f = 2 ∧ p = jcE tp ts x) ∨
  (jPs.hs s = 1 ∧ jPs.rp s = 1 ∧ tp x = 123 ∧ (jbrF tp x).1 ≠ 0 ∧ f = (jbrF tp x).1 ∧ p = (jbrF tp x).2) ∨
  (jltr (tp x) = false ∧ tp x ≠ 91 ∧ tp x ≠ 46 ∧ tp x ≠ 40 ∧ ¬ (jPs.hs s = 1 ∧ (tp x = 124 ∨ (tp x = 41 ∧ 0 < jPs.d s) ∨ (jPs.rp s = 1 ∧ (tp x = 42 ∨ tp x = 43 ∨ tp x = 63 ∨ tp x = 123)))) ∧ f = 2 ∧ p = x)
theorem jUnit {tp : Nat → Nat} {ts x : Nat} (s : jPs) (hr : jPs.rp s ≤ 1) : (∃ y s1, jSt1 tp ts x s y s1) ∨ ∃ f p, jFt1 tp ts x s f p := by
  by_cases c1 : tp x = 91
  · by_cases c2 : jcO tp ts x
    · exact Or.inl ⟨_, _, Or.inl ⟨_, Or.inl ⟨c1, c2, rfl, rfl⟩, rfl⟩⟩
    · exact Or.inr ⟨_, _, Or.inl ⟨c1, c2, rfl, rfl⟩⟩
  by_cases c2 : tp x = 46
  · exact Or.inl ⟨_, _, Or.inl ⟨_, Or.inr (Or.inl ⟨c2, rfl, rfl⟩), rfl⟩⟩
  cases c3 : jltr (tp x)
  · by_cases c4 : tp x = 40
    · exact Or.inl ⟨_, _, Or.inr (Or.inl ⟨c4, rfl, rfl⟩)⟩
    by_cases h1 : jPs.hs s = 1
    · by_cases c5 : tp x = 124
      · exact Or.inl ⟨_, _, Or.inr (Or.inr (Or.inl ⟨h1, c5, rfl, rfl⟩))⟩
      by_cases c6 : tp x = 41 ∧ 0 < jPs.d s
      · exact Or.inl ⟨_, _, Or.inr (Or.inr (Or.inr (Or.inl ⟨h1, c6.1, c6.2, rfl, rfl⟩)))⟩
      by_cases r1 : jPs.rp s = 1
      · by_cases c7 : tp x = 42
        · exact Or.inl ⟨_, _, Or.inr (Or.inr (Or.inr (Or.inr (Or.inl ⟨h1, r1, c7, rfl, rfl⟩))))⟩
        by_cases c8 : tp x = 43
        · exact Or.inl ⟨_, _, Or.inr (Or.inr (Or.inr (Or.inr (Or.inr (Or.inl ⟨h1, r1, c8, rfl, rfl⟩)))))⟩
        by_cases c9 : tp x = 63
        · exact Or.inl ⟨_, _, Or.inr (Or.inr (Or.inr (Or.inr (Or.inr (Or.inr (Or.inl ⟨h1, r1, c9, rfl, rfl⟩))))))⟩
        by_cases c10 : tp x = 123
        · by_cases c11 : (jbrF tp x).1 = 0
          · exact Or.inl ⟨_, _, Or.inr (Or.inr (Or.inr (Or.inr (Or.inr (Or.inr (Or.inr ⟨h1, r1, c10, c11, rfl, rfl⟩))))))⟩
          · exact Or.inr ⟨_, _, Or.inr (Or.inl ⟨h1, r1, c10, c11, rfl, rfl⟩)⟩
        · refine Or.inr ⟨2, x, Or.inr (Or.inr ⟨c3, c1, c2, c4, fun z => ?_, rfl, rfl⟩)⟩
          rcases z.2 with y | y | y
          · exact c5 y
          · exact c6 y
          · rcases y.2 with w | w | w | w
            · exact c7 w
            · exact c8 w
            · exact c9 w
            · exact c10 w
      · refine Or.inr ⟨2, x, Or.inr (Or.inr ⟨c3, c1, c2, c4, fun z => ?_, rfl, rfl⟩)⟩
        rcases z.2 with y | y | y
        · exact c5 y
        · exact c6 y
        · exact r1 y.1
    · exact Or.inr ⟨2, x, Or.inr (Or.inr ⟨c3, c1, c2, c4, fun z => h1 z.1, rfl, rfl⟩)⟩
  · exact Or.inl ⟨_, _, Or.inl ⟨_, Or.inr (Or.inr ⟨c3, rfl, rfl⟩), rfl⟩⟩
theorem jbrF_ok {tp : Nat → Nat} {x : Nat} (h : (jbrF tp x).1 = 0) : (48 ≤ tp (x + 1) ∧ tp (x + 1) ≤ 57) ∧ tp (x + 2) = 44 ∧ (49 ≤ tp (x + 3) ∧ tp (x + 3) ≤ 57) ∧ tp (x + 1) ≤ tp (x + 3) ∧ tp (x + 4) = 125 := by
  unfold jbrF at h
  by_cases k1 : jdig (tp (x + 1)) = false
  · rw [if_pos k1] at h; exact absurd h jn2
  · rw [if_neg k1] at h
    by_cases k2 : tp (x + 2) = 44
    · rw [if_neg (fun z => z k2)] at h
      by_cases k3 : jdig (tp (x + 3)) = false
      · rw [if_pos k3] at h; exact absurd h jn2
      · rw [if_neg k3] at h
        by_cases k4 : tp (x + 3) = 48 ∨ tp (x + 3) < tp (x + 1)
        · rw [if_pos k4] at h; exact absurd h jn4
        · rw [if_neg k4] at h
          by_cases k5 : tp (x + 4) = 125
          · have d1 : 48 ≤ tp (x + 1) ∧ tp (x + 1) ≤ 57 := by
              by_cases z : 48 ≤ tp (x + 1) ∧ tp (x + 1) ≤ 57
              · exact z
              · exact absurd ((jnd _).mpr z) k1
            have d3 : 48 ≤ tp (x + 3) ∧ tp (x + 3) ≤ 57 := by
              by_cases z : 48 ≤ tp (x + 3) ∧ tp (x + 3) ≤ 57
              · exact z
              · exact absurd ((jnd _).mpr z) k3
            exact ⟨d1, k2, by omega, by omega, k5⟩
          · rw [if_pos k5] at h; exact absurd h jn2
    · rw [if_pos k2] at h; exact absurd h jn2
theorem jcL_ok {tp : Nat → Nat} {ts q t x : Nat} (h : jPx tp ts q t) (hq : q < x) (hx : x < t) (ho : jcO tp ts x) : jcL tp ts x < 512 ∧ jcL tp ts x ≠ 0 := by
  obtain ⟨r, h1, h2, h3, h4, h5⟩ := jchoice h hq hx
  unfold jcL
  by_cases c : tp (x + 1) = 94
  · rw [if_pos c]
    exact ⟨jxor_lt h5, fun z => ho.2.2 ⟨c, (jxor0 _ h5).mp z⟩⟩
  · rw [if_neg c]
    exact ⟨h5, jbs_pos (by have := ho.1; omega) (r.b _ (Nat.le_refl _) ho.1).2⟩
theorem jSt1.ok {tp : Nat → Nat} {ts q t x y : Nat} {s s1 : jPs} (h : jPx tp ts q t) (hq : q < x) (hx : x < t) (hi : jPi s) (hs : jSt1 tp ts x s y s1) : x < y ∧ y ≤ t ∧ jPi s1 := by
  rcases hs with ⟨b, ha, rfl⟩ | ⟨c, rfl, rfl⟩ | ⟨h1, c, rfl, rfl⟩ | ⟨h1, c, hd, rfl, rfl⟩ | ⟨h1, r1, c, rfl, rfl⟩ | ⟨h1, r1, c, rfl, rfl⟩ | ⟨h1, r1, c, rfl, rfl⟩ | ⟨h1, r1, c, hb, rfl, rfl⟩
  · rcases ha with ⟨c, ho, rfl, rfl⟩ | ⟨c, rfl, rfl⟩ | ⟨c, rfl, rfl⟩
    · obtain ⟨r, h1, h2, h3, h4, h5⟩ := jchoice h hq hx
      have hlt : jcE tp ts x < t := h.in (by omega) h3 (by rw [ho.2.1]; decide)
      obtain ⟨l1, l2⟩ := jcL_ok h hq hx ho
      exact ⟨by omega, by omega, jpA_ok hi l1 l2⟩
    · exact ⟨by omega, by omega, jpA_ok hi (by decide) (by decide)⟩
    · exact ⟨by omega, by omega, jpA_ok hi (jlb_lt _) (fun z => by rw [(jlb_0 _).mp z] at c; cases c)⟩
  · exact ⟨by omega, by omega, jpO_ok hi⟩
  · exact ⟨by omega, by omega, jpB_ok hi h1⟩
  · exact ⟨by omega, by omega, jpC_ok hi h1 hd⟩
  · exact ⟨by omega, by omega, jpS_ok hi h1 (Or.inl rfl)⟩
  · exact ⟨by omega, by omega, jpS_ok hi h1 (Or.inr rfl)⟩
  · exact ⟨by omega, by omega, jpQ_ok hi h1⟩
  · obtain ⟨d1, d2, d3, d4, d5⟩ := jbrF_ok hb
    have x1 : x + 1 < t := h.in (by omega) (by omega) (by omega)
    have x2 : x + 2 < t := h.in (by omega) (by omega) (by omega)
    have x3 : x + 3 < t := h.in (by omega) (by omega) (by omega)
    have x4 : x + 4 < t := h.in (by omega) (by omega) (by omega)
    exact ⟨by omega, by omega, jpR_ok hi h1 (by omega)⟩
/-- n units on -/
def jTr (tp : Nat → Nat) (ts t : Nat) : Nat → Nat → jPs → Nat → jPs → Prop
  | 0, x, s, x', s' => x' = x ∧ s' = s
  | n + 1, x, s, x', s' => x < t ∧ ∃ y s1, jSt1 tp ts x s y s1 ∧ jTr tp ts t n y s1 x' s'
/-- a pattern's end: a fault, or its quote -/
def jEnd (tp : Nat → Nat) (ts t x : Nat) (s : jPs) (f p : Nat) : Prop := (x < t ∧ f ≠ 0 ∧ jFt1 tp ts x s f p) ∨ (x = t ∧ ((jPs.hs s = 1 ∧ jPs.d s = 0 ∧ f = 0) ∨ (¬ (jPs.hs s = 1 ∧ jPs.d s = 0) ∧ f = 2 ∧ p = t)))
theorem jFt1.ne {tp : Nat → Nat} {ts x f p : Nat} {s : jPs} (h : jFt1 tp ts x s f p) : f ≠ 0 := by
  rcases h with ⟨_, _, rfl, _⟩ | ⟨_, _, _, z, rfl, _⟩ | ⟨_, _, _, _, _, rfl, _⟩
  · decide
  · exact z
  · decide
theorem jPat {tp : Nat → Nat} {ts q t : Nat} (h : jPx tp ts q t) : ∀ m x (s : jPs), t ≤ x + m → q < x → x ≤ t → jPi s → ∃ n x' s' f p, jTr tp ts t n x s x' s' ∧ n ≤ x' - x ∧ x ≤ x' ∧ x' ≤ t ∧ jPi s' ∧ jEnd tp ts t x' s' f p
  | m, x, s, hm, hq, hx, hi => by
    by_cases c : x = t
    · by_cases c2 : jPs.hs s = 1 ∧ jPs.d s = 0
      · exact ⟨0, x, s, 0, 0, ⟨rfl, rfl⟩, Nat.zero_le _, Nat.le_refl _, hx, hi, Or.inr ⟨c, Or.inl ⟨c2.1, c2.2, rfl⟩⟩⟩
      · exact ⟨0, x, s, 2, t, ⟨rfl, rfl⟩, Nat.zero_le _, Nat.le_refl _, hx, hi, Or.inr ⟨c, Or.inr ⟨c2, rfl, rfl⟩⟩⟩
    · rcases jUnit (tp := tp) (ts := ts) (x := x) s hi.r1 with ⟨y, s1, hs⟩ | ⟨f, p, hf⟩
      · obtain ⟨h1, h2, h3⟩ := hs.ok h hq (by omega) hi
        match m, hm with
        | 0, hm => omega
        | m + 1, hm =>
          obtain ⟨n, x', s', f, p, g1, g2, g3, g4, g5, g6⟩ := jPat h m y s1 (by omega) (by omega) h2 h3
          exact ⟨n + 1, x', s', f, p, ⟨by omega, y, s1, hs, g1⟩, by omega, by omega, g4, g5, g6⟩
      · exact ⟨0, x, s, f, p, ⟨rfl, rfl⟩, Nat.zero_le _, Nat.le_refl _, hx, hi, Or.inl ⟨by omega, hf.ne, hf⟩⟩
