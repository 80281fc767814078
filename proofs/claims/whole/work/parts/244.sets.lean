/-! SETS OF PLACES as numbers -/
theorem jbit_tb (a p : Nat) : jbit a p = 1 ↔ a.testBit p = true := by
  unfold jbit
  rw [Nat.testBit_eq_decide_div_mod_eq, decide_eq_true_iff]
theorem jbit_0 (a p : Nat) : jbit a p = 0 ↔ a.testBit p = false := by
  have h := jbit_tb a p
  have h2 := jbit_lt a p
  cases hb : a.testBit p
  · rw [hb] at h
    have : jbit a p ≠ 1 := fun q => by have := h.mp q; cases this
    exact ⟨fun _ => rfl, fun _ => by omega⟩
  · have := h.mpr hb
    exact ⟨fun q => by omega, fun q => by cases q⟩
/-- what any place of s has, of the first n places -/
def jos (f : Nat → Nat) (s : Nat) : Nat → Nat
  | 0 => 0
  | n + 1 => jos f s n ||| (if jbit s n = 1 then f n else 0)
theorem jos_tb (f : Nat → Nat) (s q : Nat) : ∀ n, (jos f s n).testBit q = true ↔ ∃ i, i < n ∧ jbit s i = 1 ∧ (f i).testBit q = true
  | 0 => by
    rw [jos, Nat.zero_testBit]
    exact ⟨fun h => (by cases h), fun ⟨i, h, _⟩ => absurd h (Nat.not_lt_zero i)⟩
  | n + 1 => by
    rw [jos, Nat.testBit_or, Bool.or_eq_true, jos_tb f s q n]
    constructor
    · rintro (⟨i, h1, h2⟩ | h)
      · exact ⟨i, by omega, h2⟩
      · by_cases h2 : jbit s n = 1
        · rw [if_pos h2] at h; exact ⟨n, by omega, h2, h⟩
        · rw [if_neg h2, Nat.zero_testBit] at h; cases h
    · rintro ⟨i, h1, h2, h3⟩
      rcases Nat.lt_or_ge i n with r | r
      · exact Or.inl ⟨i, r, h2, h3⟩
      · rw [show i = n by omega] at h2 h3
        rw [if_pos h2]; exact Or.inr h3
theorem jos_lt {f : Nat → Nat} {s b : Nat} : ∀ n, (∀ i, i < n → f i < 2 ^ b) → jos f s n < 2 ^ b
  | 0, _ => Nat.two_pow_pos b
  | n + 1, h => by
    rw [jos]
    refine Nat.or_lt_two_pow (jos_lt n (fun i hi => h i (by omega))) ?_
    split
    · exact h n (by omega)
    · exact Nat.two_pow_pos b
/-- the places of a set that take a letter -/
def jtk (to : Nat) (lets : Nat → Nat) (l : Nat) : Nat → Nat
  | 0 => 0
  | n + 1 => jtk to lets l n ||| (if jbit to n = 1 ∧ jbit (lets n) l = 1 then 2 ^ n else 0)
theorem jtk_tb (to : Nat) (lets : Nat → Nat) (l q : Nat) : ∀ n, (jtk to lets l n).testBit q = true ↔ q < n ∧ jbit to q = 1 ∧ jbit (lets q) l = 1
  | 0 => by
    rw [jtk, Nat.zero_testBit]
    exact ⟨fun h => (by cases h), fun h => absurd h.1 (Nat.not_lt_zero q)⟩
  | n + 1 => by
    rw [jtk, Nat.testBit_or, Bool.or_eq_true, jtk_tb to lets l q n]
    constructor
    · rintro (h | h)
      · exact ⟨by omega, h.2⟩
      · by_cases h2 : jbit to n = 1 ∧ jbit (lets n) l = 1
        · rw [if_pos h2, Nat.testBit_two_pow, decide_eq_true_iff] at h
          subst h
          exact ⟨by omega, h2⟩
        · rw [if_neg h2, Nat.zero_testBit] at h; cases h
    · rintro ⟨h1, h2⟩
      rcases Nat.lt_or_ge q n with r | r
      · exact Or.inl ⟨r, h2⟩
      · have e : q = n := by omega
        subst e
        rw [if_pos h2, Nat.testBit_two_pow, decide_eq_true_iff]
        exact Or.inr rfl
theorem jtk_lt {to : Nat} {lets : Nat → Nat} {l b : Nat} : ∀ n, n ≤ b → jtk to lets l n < 2 ^ b
  | 0, _ => Nat.two_pow_pos b
  | n + 1, h => by
    rw [jtk]
    refine Nat.or_lt_two_pow (jtk_lt n (by omega)) ?_
    split
    · exact Nat.pow_lt_pow_right (by decide) (by omega)
    · exact Nat.two_pow_pos b
/-- one step of a pattern: fo: what follows a place (10: the begin), lets: what a place takes, sz: how many places -/
def jdl (sz : Nat) (lets fo : Nat → Nat) (s l : Nat) : Nat := jtk (jos fo s 11) lets l sz
theorem jdl_lt {sz : Nat} {lets fo : Nat → Nat} {s l : Nat} (h : sz ≤ 10) : jdl sz lets fo s l < 1024 := jtk_lt (b := 10) sz h
theorem jdl_tb (sz : Nat) (lets fo : Nat → Nat) (s l q : Nat) : (jdl sz lets fo s l).testBit q = true ↔ q < sz ∧ (∃ i, i < 11 ∧ jbit s i = 1 ∧ (fo i).testBit q = true) ∧ jbit (lets q) l = 1 := by
  unfold jdl
  rw [jtk_tb, jbit_tb, jos_tb]
theorem jeqb {a b : Nat} (h : ∀ q, a.testBit q = true ↔ b.testBit q = true) : a = b := Nat.eq_of_testBit_eq fun q => by
  rw [Bool.eq_iff_iff]; exact h q
theorem jbit_mod {s i : Nat} (hi : i < 5) : jbit (s % 32) i = 1 ↔ jbit s i = 1 := by
  rw [jbit_tb, jbit_tb, show 32 = 2 ^ 5 from rfl, Nat.testBit_mod_two_pow]
  simp [hi]
theorem jbit_hi {s i : Nat} (hi : i < 5) : jbit (s / 32 % 32) i = 1 ↔ jbit s (5 + i) = 1 := by
  rw [jbit_mod hi]
  unfold jbit
  rw [Nat.div_div_eq_div_mul, show 32 * 2 ^ i = 2 ^ (5 + i) by rw [Nat.pow_add]]
/-- the class's step by two looks, against the reference's -/
theorem jaft {sz : Nat} {lets fo tk al au : Nat → Nat} {s l : Nat} (hs : s < 1024) (htk : ∀ q, (tk l).testBit q = true ↔ q < sz ∧ jbit (lets q) l = 1) (hal : al (s % 32) = jos fo (s % 32) 5) (hau : au (s / 32 % 32) = jos (fun i => fo (5 + i)) (s / 32 % 32) 5) : (al (s % 32) ||| au (s / 32 % 32)) &&& tk l = jdl sz lets fo s l := by
  apply jeqb
  intro q
  have h10 : jbit s 10 ≠ 1 := by
    unfold jbit
    rw [Nat.div_eq_of_lt (by omega)]
    decide
  rw [Nat.testBit_and, Bool.and_eq_true, Nat.testBit_or, Bool.or_eq_true, hal, hau, jos_tb, jos_tb, htk, jdl_tb]
  constructor
  · rintro ⟨h1, h2, h3⟩
    refine ⟨h2, ?_, h3⟩
    rcases h1 with ⟨i, a, b, d⟩ | ⟨i, a, b, d⟩
    · exact ⟨i, by omega, (jbit_mod a).mp b, d⟩
    · exact ⟨5 + i, by omega, (jbit_hi a).mp b, d⟩
  · rintro ⟨h2, ⟨i, a, b, d⟩, h3⟩
    refine ⟨?_, h2, h3⟩
    rcases Nat.lt_or_ge i 5 with r | r
    · exact Or.inl ⟨i, r, (jbit_mod r).mpr b, d⟩
    · rcases Nat.lt_or_ge i 10 with r2 | r2
      · refine Or.inr ⟨i - 5, by omega, (jbit_hi (by omega)).mpr ?_, ?_⟩
        · rw [show 5 + (i - 5) = i by omega]; exact b
        · rw [show 5 + (i - 5) = i by omega]; exact d
      · rw [show i = 10 by omega] at b
        exact absurd b h10
/-- from the begin, and from a set and the begin -/
theorem jaft0 {sz : Nat} {lets fo tk : Nat → Nat} {l : Nat} (htk : ∀ q, (tk l).testBit q = true ↔ q < sz ∧ jbit (lets q) l = 1) : fo 10 &&& tk l = jdl sz lets fo 1024 l := by
  apply jeqb
  intro q
  rw [Nat.testBit_and, Bool.and_eq_true, htk, jdl_tb]
  constructor
  · rintro ⟨h1, h2, h3⟩
    exact ⟨h2, ⟨10, by decide, by decide, h1⟩, h3⟩
  · rintro ⟨h2, ⟨i, a, b, d⟩, h3⟩
    refine ⟨?_, h2, h3⟩
    have : i = 10 := by
      have hk : ∀ i, i < 10 → jbit 1024 i ≠ 1 := by decide
      rcases Nat.lt_or_ge i 10 with r | r
      · exact absurd b (hk i r)
      · omega
    rw [this] at d; exact d
theorem jaft1 {sz : Nat} {lets fo : Nat → Nat} {s l : Nat} (hs : s < 1024) : jdl sz lets fo (s ||| 1024) l = jdl sz lets fo s l ||| jdl sz lets fo 1024 l := by
  apply jeqb
  intro q
  have hb : ∀ i, jbit (s ||| 1024) i = 1 ↔ jbit s i = 1 ∨ jbit 1024 i = 1 := fun i => by
    rw [jbit_tb, jbit_tb, jbit_tb, Nat.testBit_or, Bool.or_eq_true]
  rw [Nat.testBit_or, Bool.or_eq_true, jdl_tb, jdl_tb, jdl_tb]
  constructor
  · rintro ⟨h1, ⟨i, a, b, d⟩, h3⟩
    rcases (hb i).mp b with r | r
    · exact Or.inl ⟨h1, ⟨i, a, r, d⟩, h3⟩
    · exact Or.inr ⟨h1, ⟨i, a, r, d⟩, h3⟩
  · rintro (⟨h1, ⟨i, a, b, d⟩, h3⟩ | ⟨h1, ⟨i, a, b, d⟩, h3⟩)
    · exact ⟨h1, ⟨i, a, (hb i).mpr (Or.inl b), d⟩, h3⟩
    · exact ⟨h1, ⟨i, a, (hb i).mpr (Or.inr b), d⟩, h3⟩
