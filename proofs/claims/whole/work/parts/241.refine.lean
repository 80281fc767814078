/-! PARTS: a numbering of the classes of a relation as they come, and what a round of refining makes -/
def jalike (tg g : Nat → Nat) (a b : Nat) : Prop := g a = g b ∧ ∀ l, l < 9 → g (tg (9 * a + l)) = g (tg (9 * b + l))
def jNum (n q : Nat) (R : Nat → Nat → Prop) (P : Nat → Nat) : Prop := (∀ k, k < n → P k < q) ∧ (∀ g, g < q → ∃ k, k < n ∧ P k = g) ∧ (∀ k g, k < n → g < P k → ∃ k', k' < k ∧ P k' = g) ∧ (∀ a b, a < n → b < n → (P a = P b ↔ R a b))
theorem jNum.lt {n q : Nat} {R : Nat → Nat → Prop} {P : Nat → Nat} (h : jNum n q R P) : ∀ k, k < n → P k < q := h.1
theorem jNum.on {n q : Nat} {R : Nat → Nat → Prop} {P : Nat → Nat} (h : jNum n q R P) : ∀ g, g < q → ∃ k, k < n ∧ P k = g := h.2.1
theorem jNum.fo {n q : Nat} {R : Nat → Nat → Prop} {P : Nat → Nat} (h : jNum n q R P) : ∀ k g, k < n → g < P k → ∃ k', k' < k ∧ P k' = g := h.2.2.1
theorem jNum.eq {n q : Nat} {R : Nat → Nat → Prop} {P : Nat → Nat} (h : jNum n q R P) : ∀ a b, a < n → b < n → (P a = P b ↔ R a b) := h.2.2.2
theorem jNum.uniq {n q q' : Nat} {R R' : Nat → Nat → Prop} {P P' : Nat → Nat} (hR : ∀ a b, a < n → b < n → (R a b ↔ R' a b)) (h : jNum n q R P) (h' : jNum n q' R' P') : q = q' ∧ ∀ k, k < n → P k = P' k := by
  have hP : ∀ k, k < n → P k = P' k := by
    intro k
    induction k using Nat.strongRecOn with
    | _ k ih =>
      intro hk
      rcases Nat.lt_trichotomy (P k) (P' k) with r | r | r
      · exfalso
        obtain ⟨k', h1, h2⟩ := h'.fo k (P k) hk r
        have h3 := ih k' h1 (by omega)
        have h4 := (h.eq k' k (by omega) hk).mp (by omega)
        have h5 := (h'.eq k' k (by omega) hk).mpr ((hR k' k (by omega) hk).mp h4)
        omega
      · exact r
      · exfalso
        obtain ⟨k', h1, h2⟩ := h.fo k (P' k) hk r
        have h3 := ih k' h1 (by omega)
        have h4 := (h'.eq k' k (by omega) hk).mp (by omega)
        have h5 := (h.eq k' k (by omega) hk).mpr ((hR k' k (by omega) hk).mpr h4)
        omega
  refine ⟨?_, hP⟩
  rcases Nat.lt_trichotomy q q' with r | r | r
  · exfalso
    obtain ⟨k, h1, h2⟩ := h'.on q r
    have h3 := h.lt k h1
    have h4 := hP k h1
    omega
  · exact r
  · exfalso
    obtain ⟨k, h1, h2⟩ := h.on q' r
    have h3 := h'.lt k h1
    have h4 := hP k h1
    omega
/-- what maps 0 .. n-1 into itself one to one reaches all of it -/
theorem jpigeon : ∀ (n : Nat) (f : Nat → Nat), (∀ i, i < n → f i < n) → (∀ i j, i < n → j < n → f i = f j → i = j) → ∀ v, v < n → ∃ i, i < n ∧ f i = v := by
  intro n
  induction n with
  | zero => intro f _ _ v hv; omega
  | succ n ih =>
    intro f hlt hinj v hv
    -- the value n is put where f n was
    have h1 : ∀ i, i < n → (if f i = n then f n else f i) < n := by
      intro i hi
      split
      · rename_i e
        have h2 := hlt n (by omega)
        have h3 : f n ≠ n := fun q => by have := hinj i n (by omega) (by omega) (by omega); omega
        omega
      · rename_i e
        have h2 := hlt i (by omega)
        omega
    have h2 : ∀ i j, i < n → j < n → (if f i = n then f n else f i) = (if f j = n then f n else f j) → i = j := by
      intro i j hi hj e
      split at e <;> split at e
      · rename_i a b; exact hinj i j (by omega) (by omega) (by omega)
      · rename_i a b; have := hinj n j (by omega) (by omega) e; omega
      · rename_i a b; have := hinj i n (by omega) (by omega) e; omega
      · exact hinj i j (by omega) (by omega) e
    have h3 := ih (fun i => if f i = n then f n else f i) h1 h2
    by_cases hv2 : v = f n
    · exact ⟨n, by omega, hv2.symm⟩
    · by_cases hv3 : v = n
      · -- n itself: it is f n's, or some i has it
        rcases Nat.lt_or_ge (f n) n with r | r
        · obtain ⟨i, h4, h5⟩ := h3 (f n) r
          have h5 : (if f i = n then f n else f i) = f n := h5
          split at h5
          · rename_i e; exact ⟨i, by omega, by omega⟩
          · have := hinj i n (by omega) (by omega) h5; omega
        · have := hlt n (by omega); omega
      · obtain ⟨i, h4, h5⟩ := h3 v (by omega)
        have h5 : (if f i = n then f n else f i) = v := h5
        split at h5
        · exact absurd h5.symm hv2
        · exact ⟨i, by omega, h5⟩
/-- a finer numbering with no more numbers is no finer -/
theorem jstable {n q : Nat} {g P : Nat → Nat} (hP : ∀ k, k < n → P k < q) (hon : ∀ v, v < q → ∃ k, k < n ∧ g k = v) (hg : ∀ k, k < n → g k < q) (hfin : ∀ a b, a < n → b < n → P a = P b → g a = g b) : ∀ a b, a < n → b < n → g a = g b → P a = P b := by
  -- for each value of g a state of it
  have hx : ∀ v, ∃ k, v < q → k < n ∧ g k = v := fun v => by
    by_cases hv : v < q
    · obtain ⟨k, h⟩ := hon v hv; exact ⟨k, fun _ => h⟩
    · exact ⟨0, fun h => absurd h hv⟩
  have hc : ∃ f : Nat → Nat, ∀ v, v < q → f v < n ∧ g (f v) = v := ⟨fun v => Classical.choose (hx v), fun v hv => Classical.choose_spec (hx v) hv⟩
  obtain ⟨f, hf⟩ := hc
  have h1 := jpigeon q (fun v => P (f v)) (fun v hv => hP _ (hf v hv).1) (fun v w hv hw e => by
    have := hfin _ _ (hf v hv).1 (hf w hw).1 e
    rw [(hf v hv).2, (hf w hw).2] at this
    exact this)
  have h2 : ∀ a, a < n → P a = P (f (g a)) := by
    intro a ha
    obtain ⟨v, hv, e⟩ := h1 (P a) (hP a ha)
    have h3 := hfin _ _ (hf v hv).1 ha e
    rw [(hf v hv).2] at h3
    rw [← h3]
    exact e.symm
  intro a b ha hb e
  rw [h2 a ha, h2 b hb, e]
/-- a round that finds no more parts than there were: the parts stay, and lead to parts -/
theorem jround {n q : Nat} {tg g P : Nat → Nat} (ht : ∀ m, m < 9 * n → tg m < n) (hg : ∀ k, k < n → g k < q) (hon : ∀ v, v < q → ∃ k, k < n ∧ g k = v) (h : jNum n q (jalike tg g) P) : jFO n q tg P ∧ jNum n q (jalike tg P) P := by
  have h1 : ∀ a b, a < n → b < n → (P a = P b ↔ g a = g b) := fun a b ha hb => ⟨fun e => ((h.eq a b ha hb).mp e).1, jstable h.lt hon hg (fun a b ha hb e => ((h.eq a b ha hb).mp e).1) a b ha hb⟩
  have h2 : ∀ a b l, a < n → b < n → l < 9 → P a = P b → P (tg (9 * a + l)) = P (tg (9 * b + l)) := fun a b l ha hb hl e => (h1 _ _ (ht _ (by omega)) (ht _ (by omega))).mpr (((h.eq a b ha hb).mp e).2 l hl)
  exact ⟨⟨h.lt, h.on, h.fo, h2⟩, ⟨h.lt, h.on, h.fo, fun a b ha hb => ⟨fun e => ⟨e, fun l hl => h2 a b l ha hb hl e⟩, fun e => e.1⟩⟩⟩
