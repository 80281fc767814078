/-! AUTOMATA BY NUMBERS. n states; pair m = 9 * k + l leads to tg m; c m states are known before pair m is looked at: the states are numbered as they are come to. -/
def jBO (n : Nat) (tg c : Nat → Nat) : Prop := (c 0 = 1) ∧ (c (9 * n) = n) ∧ (∀ m, m < 9 * n → (tg m < c m ∧ c (m + 1) = c m) ∨ (tg m = c m ∧ c (m + 1) = c m + 1)) ∧ (∀ m, m < 9 * n → m / 9 < c m)
theorem jBO.c0 {n : Nat} {tg c : Nat → Nat} (h : jBO n tg c) : c 0 = 1 := h.1
theorem jBO.cN {n : Nat} {tg c : Nat → Nat} (h : jBO n tg c) : c (9 * n) = n := h.2.1
theorem jBO.st {n : Nat} {tg c : Nat → Nat} (h : jBO n tg c) : ∀ m, m < 9 * n → (tg m < c m ∧ c (m + 1) = c m) ∨ (tg m = c m ∧ c (m + 1) = c m + 1) := h.2.2.1
theorem jBO.kn {n : Nat} {tg c : Nat → Nat} (h : jBO n tg c) : ∀ m, m < 9 * n → m / 9 < c m := h.2.2.2
theorem jBO.mono {n : Nat} {tg c : Nat → Nat} (h : jBO n tg c) : ∀ {a b : Nat}, a ≤ b → b ≤ 9 * n → c a ≤ c b := by
  intro a b
  induction b with
  | zero => intro h1 _; rw [Nat.le_zero.mp h1]; exact Nat.le_refl _
  | succ b ih =>
    intro h1 h2
    rcases Nat.lt_or_ge a (b + 1) with q | q
    · have := ih (by omega) (by omega)
      rcases h.st b (by omega) with r | r <;> omega
    · rw [show a = b + 1 by omega]; exact Nat.le_refl _
theorem jBO.pos {n : Nat} {tg c : Nat → Nat} (h : jBO n tg c) {m : Nat} (hm : m ≤ 9 * n) : 1 ≤ c m := by
  have := h.mono (Nat.zero_le m) hm
  rw [h.c0] at this
  exact this
theorem jBO.le {n : Nat} {tg c : Nat → Nat} (h : jBO n tg c) {m : Nat} (hm : m ≤ 9 * n) : c m ≤ n := by
  have := h.mono hm (Nat.le_refl _)
  rw [h.cN] at this
  exact this
theorem jBO.lt {n : Nat} {tg c : Nat → Nat} (h : jBO n tg c) {m : Nat} (hm : m < 9 * n) : tg m < n := by
  have h1 := h.le (m := m + 1) (by omega)
  rcases h.st m hm with r | r <;> omega
/-- the pair by which a state is come to first -/
theorem jBO.fp {n : Nat} {tg c : Nat → Nat} (h : jBO n tg c) {j : Nat} (h1 : 1 ≤ j) (hj : j < n) : ∃ m, m < 9 * n ∧ c m = j ∧ tg m = j ∧ c (m + 1) = j + 1 ∧ m / 9 < j := by
  have key : ∀ b, b ≤ 9 * n → j < c b → ∃ m, m < b ∧ c m = j ∧ c (m + 1) = j + 1 := by
    intro b
    induction b with
    | zero => intro _ hb; rw [h.c0] at hb; omega
    | succ b ih =>
      intro hb hc
      rcases Nat.lt_or_ge j (c b) with q | q
      · obtain ⟨m, a, e⟩ := ih (by omega) q
        exact ⟨m, by omega, e⟩
      · rcases h.st b (by omega) with r | r
        · omega
        · exact ⟨b, by omega, by omega, by omega⟩
  obtain ⟨m, a, e1, e2⟩ := key (9 * n) (Nat.le_refl _) (by rw [h.cN]; exact hj)
  refine ⟨m, a, e1, ?_, e2, ?_⟩
  · rcases h.st m a with r | r <;> omega
  · have := h.kn m a; omega
/-- a pair that leads beyond j stands behind the first that leads to j -/
theorem jBO.ord {n : Nat} {tg c : Nat → Nat} (h : jBO n tg c) {m m1 j : Nat} (hm : m < 9 * n) (hm1 : m1 < 9 * n) (h1 : c m1 = j) (ht : j < tg m) : m1 < m := by
  rcases Nat.lt_or_ge m1 m with q | q
  · exact q
  · exfalso
    have h2 := h.mono q (by omega)
    rcases h.st m hm with r | r <;> omega
/-- parts, numbered as their first states come; alike states lead to alike states -/
def jFO (n q : Nat) (tg P : Nat → Nat) : Prop := (∀ k, k < n → P k < q) ∧ (∀ g, g < q → ∃ k, k < n ∧ P k = g) ∧ (∀ k g, k < n → g < P k → ∃ k', k' < k ∧ P k' = g) ∧ (∀ a b l, a < n → b < n → l < 9 → P a = P b → P (tg (9 * a + l)) = P (tg (9 * b + l)))
theorem jFO.lt {n q : Nat} {tg P : Nat → Nat} (h : jFO n q tg P) : ∀ k, k < n → P k < q := h.1
theorem jFO.on {n q : Nat} {tg P : Nat → Nat} (h : jFO n q tg P) : ∀ g, g < q → ∃ k, k < n ∧ P k = g := h.2.1
theorem jFO.fo {n q : Nat} {tg P : Nat → Nat} (h : jFO n q tg P) : ∀ k g, k < n → g < P k → ∃ k', k' < k ∧ P k' = g := h.2.2.1
theorem jFO.st {n q : Nat} {tg P : Nat → Nat} (h : jFO n q tg P) : ∀ a b l, a < n → b < n → l < 9 → P a = P b → P (tg (9 * a + l)) = P (tg (9 * b + l)) := h.2.2.2
/-- the first state of a part -/
theorem jFO.fst {n q : Nat} {tg P : Nat → Nat} (h : jFO n q tg P) {g : Nat} (hg : g < q) : ∃ k, k < n ∧ P k = g ∧ ∀ k', k' < k → P k' < g := by
  obtain ⟨k, hk, e⟩ := h.on g hg
  induction k using Nat.strongRecOn with
  | _ k ih =>
    by_cases hx : ∀ k', k' < k → P k' < g
    · exact ⟨k, hk, e, hx⟩
    · simp only [Classical.not_forall, Nat.not_lt] at hx
      obtain ⟨k', h1, h2⟩ := hx
      rcases Nat.lt_or_ge g (P k') with r | r
      · obtain ⟨k2, h3, h4⟩ := h.fo k' g (by omega) r
        exact ih k2 (by omega) (by omega) h4
      · exact ih k' h1 (by omega) (by omega)
/-- what is known of the parts before pair m of theirs -/
def jqc (T : Nat → Nat) : Nat → Nat
  | 0 => 1
  | m + 1 => if T m < jqc T m then jqc T m else jqc T m + 1
theorem jqc_mono (T : Nat → Nat) : ∀ {a b : Nat}, a ≤ b → jqc T a ≤ jqc T b := by
  intro a b
  induction b with
  | zero => intro h1; rw [Nat.le_zero.mp h1]; exact Nat.le_refl _
  | succ b ih =>
    intro h1
    rcases Nat.lt_or_ge a (b + 1) with q | q
    · have := ih (by omega)
      rw [jqc]
      split <;> omega
    · rw [show a = b + 1 by omega]; exact Nat.le_refl _
/-- THE QUOTIENT'S OWN NUMBERING IS THAT OF THE FIRST STATES: T is what the parts lead to, by any member of each -/
theorem jquo {n q : Nat} {tg c P T : Nat → Nat} (hn : 1 ≤ n) (hB : jBO n tg c) (hF : jFO n q tg P) (hT : ∀ s l k, s < q → l < 9 → k < n → P k = s → T (9 * s + l) = P (tg (9 * k + l))) : jBO q T (jqc T) := by
  have hq : 1 ≤ q := by have := hF.lt 0 (by omega); omega
  -- the pair by which part g is come to
  have key : ∀ g, 1 ≤ g → g < q → ∃ s l j m1, s < g ∧ l < 9 ∧ T (9 * s + l) = g ∧ j < n ∧ P j = g ∧ (∀ k', k' < j → P k' < g) ∧ m1 < 9 * n ∧ c m1 = j ∧ s = P (m1 / 9) ∧ l = m1 % 9 ∧ m1 / 9 < j := by
    intro g h1 hg
    obtain ⟨j, hj, e, hfirst⟩ := hF.fst hg
    have hj1 : 1 ≤ j := by
      rcases Nat.eq_zero_or_pos j with r | r
      · exfalso
        subst r
        have : g = 0 := by
          rcases Nat.eq_zero_or_pos g with r | r
          · exact r
          · obtain ⟨k', h2, _⟩ := hF.fo 0 0 (by omega) (by omega)
            omega
        omega
      · exact r
    obtain ⟨m1, h2, h3, h4, h5, h6⟩ := hB.fp hj1 hj
    have h7 : m1 / 9 < n := by omega
    refine ⟨P (m1 / 9), m1 % 9, j, m1, hfirst _ h6, by omega, ?_, hj, e, hfirst, h2, h3, rfl, rfl, h6⟩
    rw [hT (P (m1 / 9)) (m1 % 9) (m1 / 9) (hF.lt _ h7) (by omega) h7 rfl, show 9 * (m1 / 9) + m1 % 9 = m1 by omega, h4, e]
  have hTq : ∀ m, m < 9 * q → T m < q := by
    intro m hm
    obtain ⟨k, hk, e, _⟩ := hF.fst (g := m / 9) (by omega)
    have h1 := hT (m / 9) (m % 9) k (by omega) (by omega) hk e
    rw [show 9 * (m / 9) + m % 9 = m by omega] at h1
    rw [h1]
    exact hF.lt _ (hB.lt (by omega))
  -- no part is passed over
  have hle : ∀ m, m < 9 * q → T m ≤ jqc T m := by
    intro m
    induction m using Nat.strongRecOn with
    | _ m ih =>
      intro hm
      rcases Nat.lt_or_ge (jqc T m) (T m) with hx | hx
      · exfalso
        have hpos : 1 ≤ jqc T m := by have := jqc_mono T (Nat.zero_le m); rw [jqc] at this; exact this
        obtain ⟨s, l, j, m1, h1, h2, h3, h4, h5, h6, h7, h8, h9, h10, h11⟩ := key (jqc T m) hpos (by have := hTq m hm; omega)
        obtain ⟨k, hk, e, hfk⟩ := hF.fst (g := m / 9) (by omega)
        have e2 := hT (m / 9) (m % 9) k (by omega) (by omega) hk e
        rw [show 9 * (m / 9) + m % 9 = m by omega] at e2
        -- the state that m leads to lies behind j
        have hj : j < tg (9 * k + m % 9) := by
          rcases Nat.lt_or_ge j (tg (9 * k + m % 9)) with r | r
          · exact r
          · exfalso
            rcases Nat.lt_or_ge (tg (9 * k + m % 9)) j with r2 | r2
            · have := h6 _ r2; omega
            · rw [show tg (9 * k + m % 9) = j by omega, h5] at e2; omega
        have h12 := hB.ord (m := 9 * k + m % 9) (m1 := m1) (j := j) (by omega) h7 h8 hj
        have h13 : 9 * s + l < m := by
          rcases Nat.lt_or_ge (m1 / 9) k with r | r
          · have := hfk _ r
            rw [← h9] at this
            omega
          · have r2 : m1 / 9 = k := by omega
            rw [r2, e] at h9
            omega
        have h14 := ih (9 * s + l) h13 (by omega)
        have h15 : jqc T m ≥ jqc T (9 * s + l + 1) := jqc_mono T (by omega)
        rw [jqc, h3] at h15
        rw [h3] at h14
        split at h15 <;> omega
      · exact hx
  have hup : ∀ m, m ≤ 9 * q → jqc T m ≤ q := by
    intro m
    induction m with
    | zero => intro _; rw [jqc]; exact hq
    | succ m ih =>
      intro hm
      have h1 := ih (by omega)
      have h2 := hTq m (by omega)
      rw [jqc]
      split
      · exact h1
      · omega
  have hsee : ∀ m g, m ≤ 9 * q → 1 ≤ g → g < q → (∀ s l, s < g → l < 9 → 9 * s + l < m) → g < jqc T m := by
    intro m g hm h1 hg hall
    obtain ⟨s, l, j, m1, a1, a2, a3, _⟩ := key g h1 hg
    have h2 := hall s l a1 a2
    have h3 := hle (9 * s + l) (by omega)
    have h4 : jqc T m ≥ jqc T (9 * s + l + 1) := jqc_mono T (by omega)
    rw [jqc, a3] at h4
    rw [a3] at h3
    split at h4 <;> omega
  refine ⟨rfl, ?_, ?_, ?_⟩
  · have h1 := hup (9 * q) (Nat.le_refl _)
    rcases Nat.lt_or_ge (jqc T (9 * q)) q with r | r
    · exfalso
      have hpos : 1 ≤ jqc T (9 * q) := by have := jqc_mono T (Nat.zero_le (9 * q)); rw [jqc] at this; exact this
      have := hsee (9 * q) (jqc T (9 * q)) (Nat.le_refl _) hpos r (fun s l a b => by omega)
      omega
    · omega
  · intro m hm
    have h1 := hle m hm
    rw [jqc]
    split
    · left; omega
    · right; omega
  · intro m hm
    rcases Nat.lt_or_ge (m / 9) (jqc T m) with r | r
    · exact r
    · exfalso
      have hpos : 1 ≤ jqc T m := by have := jqc_mono T (Nat.zero_le m); rw [jqc] at this; exact this
      have := hsee m (jqc T m) (by omega) hpos (by omega) (fun s l a b => by omega)
      omega
/-! THE SHORTEST WORD, read back from the lowest end, is the one that the distances choose -/
/-- a way back: p i is the state after i letters, a i the letter by which p (i + 1) is come to first -/
def jway (n : Nat) (tg c : Nat → Nat) (len : Nat) (p a : Nat → Nat) : Prop := (p 0 = 0) ∧ (∀ i, i < len → p (i + 1) < n ∧ 1 ≤ p (i + 1)) ∧ (∀ i, i < len → a i < 9) ∧ (∀ i, i < len → c (9 * p i + a i) = p (i + 1) ∧ tg (9 * p i + a i) = p (i + 1) ∧ p i < p (i + 1))
theorem jway.p0 {n : Nat} {tg c : Nat → Nat} {len : Nat} {p a : Nat → Nat} (h : jway n tg c len p a) : p 0 = 0 := h.1
theorem jway.lt {n : Nat} {tg c : Nat → Nat} {len : Nat} {p a : Nat → Nat} (h : jway n tg c len p a) : ∀ i, i < len → p (i + 1) < n ∧ 1 ≤ p (i + 1) := h.2.1
theorem jway.la {n : Nat} {tg c : Nat → Nat} {len : Nat} {p a : Nat → Nat} (h : jway n tg c len p a) : ∀ i, i < len → a i < 9 := h.2.2.1
theorem jway.fp {n : Nat} {tg c : Nat → Nat} {len : Nat} {p a : Nat → Nat} (h : jway n tg c len p a) : ∀ i, i < len → c (9 * p i + a i) = p (i + 1) ∧ tg (9 * p i + a i) = p (i + 1) ∧ p i < p (i + 1) := h.2.2.2
/-- every way of m letters from a state below p i ends below p (i + m) -/
theorem jway.below {n : Nat} {tg c : Nat → Nat} (hB : jBO n tg c) {len : Nat} {p a : Nat → Nat} (h : jway n tg c len p a) {i q b : Nat} (hi : i < len) (hq : q < p i) (hb : b < 9) (hpn : p i < n) : tg (9 * q + b) < p (i + 1) := by
  have h1 := h.fp i hi
  have h2 := h.lt i hi
  rcases Nat.lt_or_ge (tg (9 * q + b)) (p (i + 1)) with r | r
  · exact r
  · exfalso
    have h3 := h.la i hi
    rcases hB.st (9 * q + b) (by omega) with s | s
    · have := hB.mono (a := 9 * q + b) (b := 9 * p i + a i) (by omega) (by omega); omega
    · have := hB.mono (a := 9 * q + b + 1) (b := 9 * p i + a i) (by omega) (by omega); omega
/-- a pair ahead of the first that leads to p (i + 1) leads below it -/
theorem jway.before {n : Nat} {tg c : Nat → Nat} (hB : jBO n tg c) {len : Nat} {p a : Nat → Nat} (h : jway n tg c len p a) {i l : Nat} (hi : i < len) (hl : l < a i) (hpn : p i < n) : tg (9 * p i + l) < p (i + 1) := by
  have h1 := h.fp i hi
  have h3 := h.la i hi
  rcases hB.st (9 * p i + l) (by omega) with s | s
  · have := hB.mono (a := 9 * p i + l) (b := 9 * p i + a i) (by omega) (by omega); omega
  · have := hB.mono (a := 9 * p i + l + 1) (b := 9 * p i + a i) (by omega) (by omega); omega
theorem jway.lts {n : Nat} {tg c : Nat → Nat} {len : Nat} {p a : Nat → Nat} (hn : 1 ≤ n) (h : jway n tg c len p a) {i : Nat} (hi : i ≤ len) : p i < n := by
  rcases i with _ | i
  · rw [h.p0]; omega
  · exact (h.lt i (by omega)).1
theorem jway.mono {n : Nat} {tg c : Nat → Nat} {len : Nat} {p a : Nat → Nat} (h : jway n tg c len p a) {i j : Nat} (hij : i ≤ j) (hj : j ≤ len) : p i ≤ p j := by
  induction j with
  | zero => rw [Nat.le_zero.mp hij]; exact Nat.le_refl _
  | succ j ih =>
    rcases Nat.lt_or_ge i (j + 1) with q | q
    · have h1 := ih (by omega) (by omega)
      have h2 := (h.fp j (by omega)).2.2
      omega
    · rw [show i = j + 1 by omega]; exact Nat.le_refl _
/-- distances to an end: as the reference relaxes them, big where there is none -/
def jdist (n big : Nat) (tg : Nat → Nat) (fin : Nat → Bool) (D : Nat → Nat) : Prop := (∀ s, s < n → fin s = true → D s = 0) ∧ (∀ s l, s < n → l < 9 → D s ≤ D (tg (9 * s + l)) + 1) ∧ (∀ s, s < n → D s < big → fin s = true ∨ ∃ l, l < 9 ∧ D s = D (tg (9 * s + l)) + 1)
theorem jdist.f0 {n big : Nat} {tg : Nat → Nat} {fin : Nat → Bool} {D : Nat → Nat} (h : jdist n big tg fin D) : ∀ s, s < n → fin s = true → D s = 0 := h.1
theorem jdist.le {n big : Nat} {tg : Nat → Nat} {fin : Nat → Bool} {D : Nat → Nat} (h : jdist n big tg fin D) : ∀ s l, s < n → l < 9 → D s ≤ D (tg (9 * s + l)) + 1 := h.2.1
theorem jdist.wt {n big : Nat} {tg : Nat → Nat} {fin : Nat → Bool} {D : Nat → Nat} (h : jdist n big tg fin D) : ∀ s, s < n → D s < big → fin s = true ∨ ∃ l, l < 9 ∧ D s = D (tg (9 * s + l)) + 1 := h.2.2
theorem jword {n big : Nat} {tg c : Nat → Nat} {fin : Nat → Bool} {D : Nat → Nat} (hn : 1 ≤ n) (hB : jBO n tg c) (hD : jdist n big tg fin D) {len : Nat} {p a : Nat → Nat} (h : jway n tg c len p a) (hf : fin (p len) = true) (hlow : ∀ k, k < p len → fin k = false) (hbig : len < big) : D 0 = len ∧ ∀ i, i < len → D (p i) = len - i ∧ D (tg (9 * p i + a i)) + 1 = D (p i) ∧ ∀ l, l < a i → D (tg (9 * p i + l)) + 1 ≠ D (p i) := by
  have hlts := fun i => h.lts (i := i) hn
  -- below the way there is no shorter one
  have low : ∀ m i q, i + m = len → q < p i → m + 1 ≤ D q := by
    intro m
    induction m with
    | zero =>
      intro i q hi hq
      rw [show i = len by omega] at hq
      have hqn : q < n := Nat.lt_trans hq (hlts len (Nat.le_refl _))
      rcases Nat.eq_zero_or_pos (D q) with r | r
      · exfalso
        rcases hD.wt q hqn (by omega) with s | ⟨l, _, s⟩
        · rw [hlow q hq] at s; cases s
        · omega
      · exact r
    | succ m ih =>
      intro i q hi hq
      have hpi := hlts i (by omega)
      have hqn : q < n := Nat.lt_trans hq hpi
      rcases Nat.lt_or_ge (D q) big with r | r
      · rcases hD.wt q hqn r with s | ⟨l, hl, s⟩
        · have := h.mono (i := i) (j := len) (by omega) (Nat.le_refl _)
          rw [hlow q (by omega)] at s; cases s
        · have h1 := jway.below hB h (i := i) (q := q) (b := l) (by omega) hq hl hpi
          have h2 := ih (i + 1) _ (by omega) h1
          omega
      · omega
  have up : ∀ m i, i + m = len → D (p i) ≤ m := by
    intro m
    induction m with
    | zero =>
      intro i hi
      rw [show i = len by omega, hD.f0 _ (hlts len (Nat.le_refl _)) hf]
      exact Nat.le_refl _
    | succ m ih =>
      intro i hi
      have h1 := ih (i + 1) (by omega)
      have h2 := hD.le (p i) (a i) (hlts i (by omega)) (h.la i (by omega))
      rw [(h.fp i (by omega)).2.1] at h2
      omega
  have fwd : ∀ i, i ≤ len → D 0 ≤ D (p i) + i := by
    intro i
    induction i with
    | zero => intro _; rw [h.p0]; omega
    | succ i ih =>
      intro hi
      have h1 := ih (by omega)
      have h2 := hD.le (p i) (a i) (hlts i (by omega)) (h.la i (by omega))
      rw [(h.fp i (by omega)).2.1] at h2
      omega
  have h0 : D 0 = len := by
    have h1 := up len 0 (by omega)
    rw [h.p0] at h1
    rcases Nat.eq_zero_or_pos len with r | r
    · omega
    · have h2 := low (len - 1) 1 0 (by omega) (h.lt 0 r).2
      omega
  refine ⟨h0, fun i hi => ?_⟩
  have h1 : D (p i) = len - i := by
    have h2 := up (len - i) i (by omega)
    have h3 := fwd i (by omega)
    omega
  refine ⟨h1, ?_, fun l hl => ?_⟩
  · have h2 := up (len - i - 1) (i + 1) (by omega)
    have h3 := hD.le (p i) (a i) (hlts i (by omega)) (h.la i hi)
    rw [(h.fp i hi).2.1] at h3 ⊢
    omega
  · have h2 := jway.before hB h hi hl (hlts i (by omega))
    have h3 := low (len - (i + 1)) (i + 1) _ (by omega) h2
    omega
