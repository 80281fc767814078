/-! A HASH TABLE of 2048 places with one state of each part, looked through from the place of the hash -/
def jpl (h d : Nat) : Nat := (h + d) % 2048
/-- what is in the table when k states have been looked at: R a b: alike; hs: the place of the hash -/
def jHT (k : Nat) (R : Nat → Nat → Prop) (hs sl : Nat → Nat) : Prop := (∀ i, i < 2048 → sl i ≠ 0 → sl i ≤ k) ∧ (∀ i j, i < 2048 → j < 2048 → sl i ≠ 0 → sl i = sl j → i = j) ∧ (∀ i j, i < 2048 → j < 2048 → sl i ≠ 0 → sl j ≠ 0 → R (sl i - 1) (sl j - 1) → i = j) ∧ (∀ r, r < k → ∃ d, d < 2048 ∧ sl (jpl (hs r) d) ≠ 0 ∧ R (sl (jpl (hs r) d) - 1) r ∧ ∀ e, e < d → sl (jpl (hs r) e) ≠ 0)
theorem jHT.en {k : Nat} {R : Nat → Nat → Prop} {hs sl : Nat → Nat} (h : jHT k R hs sl) : ∀ i, i < 2048 → sl i ≠ 0 → sl i ≤ k := h.1
theorem jHT.un {k : Nat} {R : Nat → Nat → Prop} {hs sl : Nat → Nat} (h : jHT k R hs sl) : ∀ i j, i < 2048 → j < 2048 → sl i ≠ 0 → sl i = sl j → i = j := h.2.1
theorem jHT.re {k : Nat} {R : Nat → Nat → Prop} {hs sl : Nat → Nat} (h : jHT k R hs sl) : ∀ i j, i < 2048 → j < 2048 → sl i ≠ 0 → sl j ≠ 0 → R (sl i - 1) (sl j - 1) → i = j := h.2.2.1
theorem jHT.al {k : Nat} {R : Nat → Nat → Prop} {hs sl : Nat → Nat} (h : jHT k R hs sl) : ∀ r, r < k → ∃ d, d < 2048 ∧ sl (jpl (hs r) d) ≠ 0 ∧ R (sl (jpl (hs r) d) - 1) r ∧ ∀ e, e < d → sl (jpl (hs r) e) ≠ 0 := h.2.2.2
/-- somewhere ahead there is an empty place -/
theorem jHT.free {k : Nat} {R : Nat → Nat → Prop} {hs sl : Nat → Nat} (h : jHT k R hs sl) (hk : k < 2048) (h0 : Nat) : ∃ d, d < 2048 ∧ sl (jpl h0 d) = 0 := by
  by_cases hx : ∃ d, d < 2048 ∧ sl (jpl h0 d) = 0
  · exact hx
  · exfalso
    have hall : ∀ d, d < 2048 → sl (jpl h0 d) ≠ 0 := fun d hd q => hx ⟨d, hd, q⟩
    have hj : ∀ d, jpl h0 d < 2048 := fun d => Nat.mod_lt _ (by decide)
    obtain ⟨d, hd, e⟩ := jpigeon 2048 (fun d => sl (jpl h0 d) - 1) (fun d hd => by have := h.en _ (hj d) (hall d hd); show sl (jpl h0 d) - 1 < 2048; omega) (fun d d' hd hd' e => by
      have e : sl (jpl h0 d) - 1 = sl (jpl h0 d') - 1 := e
      have h1 := hall d hd
      have h2 := hall d' hd'
      have h3 := h.un _ _ (hj d) (hj d') h1 (by omega)
      unfold jpl at h3
      omega) 2047 (by decide)
    have e : sl (jpl h0 d) - 1 = 2047 := e
    have h1 := hall d hd
    have h2 := h.en _ (hj d) h1
    omega
/-- the place where the looking ends: all ahead of it are taken by others -/
def jstop (R : Nat → Nat → Prop) (sl : Nat → Nat) (h0 s d : Nat) : Prop := (d < 2048) ∧ (∀ e, e < d → sl (jpl h0 e) ≠ 0 ∧ ¬ R (sl (jpl h0 e) - 1) s) ∧ (sl (jpl h0 d) = 0 ∨ R (sl (jpl h0 d) - 1) s)
theorem jstop.lt {R : Nat → Nat → Prop} {sl : Nat → Nat} {h0 s d : Nat} (h : jstop R sl h0 s d) : d < 2048 := h.1
theorem jstop.on {R : Nat → Nat → Prop} {sl : Nat → Nat} {h0 s d : Nat} (h : jstop R sl h0 s d) : ∀ e, e < d → sl (jpl h0 e) ≠ 0 ∧ ¬ R (sl (jpl h0 e) - 1) s := h.2.1
theorem jstop.ed {R : Nat → Nat → Prop} {sl : Nat → Nat} {h0 s d : Nat} (h : jstop R sl h0 s d) : sl (jpl h0 d) = 0 ∨ R (sl (jpl h0 d) - 1) s := h.2.2
theorem jHT.stop {k : Nat} {R : Nat → Nat → Prop} {hs sl : Nat → Nat} (h : jHT k R hs sl) (hk : k < 2048) (h0 s : Nat) : ∃ d, jstop R sl h0 s d := by
  obtain ⟨d, hd, e⟩ := h.free hk h0
  induction d using Nat.strongRecOn with
  | _ d ih =>
    by_cases hx : ∀ e, e < d → sl (jpl h0 e) ≠ 0 ∧ ¬ R (sl (jpl h0 e) - 1) s
    · exact ⟨d, hd, hx, Or.inl e⟩
    · -- the first that stops the looking
      have key : ∀ b, b ≤ d → (∀ e, e < b → sl (jpl h0 e) ≠ 0 ∧ ¬ R (sl (jpl h0 e) - 1) s) ∨ ∃ d', jstop R sl h0 s d' := by
        intro b
        induction b with
        | zero => intro _; exact Or.inl (fun e he => absurd he (Nat.not_lt_zero e))
        | succ b ihb =>
          intro hb
          rcases ihb (by omega) with q | q
          · by_cases h1 : sl (jpl h0 b) = 0 ∨ R (sl (jpl h0 b) - 1) s
            · exact Or.inr ⟨b, by omega, q, h1⟩
            · refine Or.inl fun e he => ?_
              rcases Nat.lt_or_ge e b with r | r
              · exact q e r
              · rw [show e = b by omega]
                exact ⟨fun z => h1 (Or.inl z), fun z => h1 (Or.inr z)⟩
          · exact Or.inr q
      rcases key d (Nat.le_refl _) with q | q
      · exact absurd q hx
      · exact q
/-- found: the state is alike to the one that is there; not found: it is alike to none before it -/
theorem jHT.hit {k : Nat} {R : Nat → Nat → Prop} {hs sl : Nat → Nat} (h : jHT k R hs sl) (hsy : ∀ a b, R a b → R b a) (htr : ∀ a b c, R a b → R b c → R a c) {s d : Nat} (hh : ∀ r, r < k → R r s → hs r = hs s) (hst : jstop R sl (hs s) s d) (hz : sl (jpl (hs s) d) = 0) : ∀ r, r < k → ¬ R r s := by
  intro r hr hx
  obtain ⟨d2, h1, h2, h3, h4⟩ := h.al r hr
  rw [hh r hr hx] at h2 h3 h4
  rcases Nat.lt_trichotomy d2 d with q | q | q
  · exact (hst.on d2 q).2 (htr _ _ _ h3 hx)
  · subst q; exact h2 hz
  · exact h4 d q hz
/-- the table with a new state -/
theorem jHT.new {k : Nat} {R : Nat → Nat → Prop} {hs sl sl' : Nat → Nat} (h : jHT k R hs sl) (hrf : ∀ a, R a a) (hsy : ∀ a b, R a b → R b a) (htr : ∀ a b c, R a b → R b c → R a c) {d : Nat} (hh : ∀ r, r < k → R r k → hs r = hs k) (hst : jstop R sl (hs k) k d) (hz : sl (jpl (hs k) d) = 0) (hn : ∀ i, i < 2048 → sl' i = if i = jpl (hs k) d then k + 1 else sl i) : jHT (k + 1) R hs sl' := by
  have hno := h.hit hsy htr hh hst hz
  have hj : ∀ h0 d, jpl h0 d < 2048 := fun h0 d => Nat.mod_lt _ (by decide)
  refine ⟨?_, ?_, ?_, ?_⟩
  · intro i hi h1
    rw [hn i hi] at h1 ⊢
    split at h1
    · rename_i e; rw [if_pos e]; exact Nat.le_refl _
    · rename_i e; rw [if_neg e]; have := h.en i hi h1; omega
  · intro i j hi hj2 h1 h2
    rw [hn i hi] at h1 h2
    rw [hn j hj2] at h2
    split at h2
    · rename_i e
      split at h2
      · rename_i e2; rw [e, e2]
      · rename_i e2
        have := h.en j hj2 (by omega)
        omega
    · rename_i e
      rw [if_neg e] at h1
      split at h2
      · have := h.en i hi h1; omega
      · exact h.un i j hi hj2 h1 h2
  · intro i j hi hj2 h1 h2 h3
    rw [hn i hi] at h1 h3
    rw [hn j hj2] at h2 h3
    by_cases e : i = jpl (hs k) d
    · by_cases e2 : j = jpl (hs k) d
      · rw [e, e2]
      · exfalso
        rw [if_neg e2] at h2 h3
        rw [if_pos e, Nat.add_sub_cancel] at h3
        have := h.en j hj2 h2
        exact hno (sl j - 1) (by omega) (hsy _ _ h3)
    · rw [if_neg e] at h1 h3
      by_cases e2 : j = jpl (hs k) d
      · exfalso
        rw [if_pos e2, Nat.add_sub_cancel] at h3
        have := h.en i hi h1
        exact hno (sl i - 1) (by omega) h3
      · rw [if_neg e2] at h2 h3
        exact h.re i j hi hj2 h1 h2 h3
  · intro r hr
    rcases Nat.lt_or_ge r k with q | q
    · obtain ⟨d2, h1, h2, h3, h4⟩ := h.al r q
      have hne : ∀ e, sl (jpl (hs r) e) ≠ 0 → sl' (jpl (hs r) e) = sl (jpl (hs r) e) := fun e he => by
        rw [hn _ (hj _ _), if_neg]
        intro z
        rw [z] at he
        exact he hz
      refine ⟨d2, h1, ?_, ?_, ?_⟩
      · rw [hne d2 h2]; exact h2
      · rw [hne d2 h2]; exact h3
      · intro e he; rw [hne e (h4 e he)]; exact h4 e he
    · have e : r = k := by omega
      subst e
      refine ⟨d, hst.lt, ?_, ?_, ?_⟩
      · rw [hn _ (hj _ _), if_pos rfl]; omega
      · rw [hn _ (hj _ _), if_pos rfl, Nat.add_sub_cancel]; exact hrf _
      · intro e he
        have := (hst.on e he).1
        rw [hn _ (hj _ _)]
        split
        · omega
        · exact this
/-- the table where the state was found: nothing is written -/
theorem jHT.old {k : Nat} {R : Nat → Nat → Prop} {hs sl : Nat → Nat} (h : jHT k R hs sl) {d : Nat} (hst : jstop R sl (hs k) k d) (hz : sl (jpl (hs k) d) ≠ 0) : jHT (k + 1) R hs sl := by
  refine ⟨fun i hi h1 => by have := h.en i hi h1; omega, h.un, h.re, fun r hr => ?_⟩
  rcases Nat.lt_or_ge r k with q | q
  · exact h.al r q
  · have e : r = k := by omega
    subst e
    rcases hst.ed with z | z
    · exact absurd z hz
    · exact ⟨d, hst.lt, hz, z, fun e he => (hst.on e he).1⟩
