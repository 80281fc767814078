/-! MAKING OBJECTS: an object's fields and new cells, one by one -/
def jQr {α : Type} (a0 c z : Nat) (K : xS → Option α) : List (xE ⊕ (Nat × Value)) → Nat → xS → Option α
  | [], _, ω => K ω
  | .inl e :: r, i, ω => jQr a0 c z K r (i + 1) (xu ω (z + i) e)
  | .inr (k, v) :: r, i, ω => (xp ω a0 c k v).bind fun w => jQr a0 c z K r i w
def jQn : List (xE ⊕ (Nat × Value)) → List xE
  | [] => []
  | .inl e :: r => e :: jQn r
  | .inr _ :: r => jQn r
def jQp : List (xE ⊕ (Nat × Value)) → List Value → List Value
  | [], fs => fs
  | .inl _ :: r, fs => jQp r fs
  | .inr (k, v) :: r, fs => jQp r (fs.set k v)
def jQl (n : Nat) : List (xE ⊕ (Nat × Value)) → Bool
  | [] => true
  | .inl _ :: r => jQl n r
  | .inr (k, _) :: r => decide (k < n) && jQl n r
theorem jQr_ok {α : Type} {a0 c z : Nat} {K : xS → Option α} : ∀ (r : List (xE ⊕ (Nat × Value))) (i : Nat) (ω : xS) (fs : List Value), ω a0 = some (.inr (c, fs)) → a0 < z → jQl fs.length r = true → ∃ ω', jQr a0 c z K r i ω = K ω' ∧ ω' a0 = some (.inr (c, jQp r fs)) ∧ (∀ j e, (jQn r)[j]? = some e → ω' (z + i + j) = some e) ∧ ∀ q, q ≠ a0 → (q < z + i ∨ z + i + (jQn r).length ≤ q) → ω' q = ω q
  | [], i, ω, fs, h, hz, hl => ⟨ω, rfl, h, fun j e he => by simp [jQn] at he, fun q _ _ => rfl⟩
  | .inl e :: r, i, ω, fs, h, hz, hl => by
    obtain ⟨ω', a1, a2, a3, a4⟩ := jQr_ok (K := K) r (i + 1) (xu ω (z + i) e) fs (by rw [xu_ne _ _ (show a0 ≠ z + i by omega)]; exact h) hz hl
    refine ⟨ω', a1, a2, fun j e' he => ?_, fun q h1 h2 => ?_⟩
    · rcases j with _ | j
      · have he : some e = some e' := he
        cases he
        rw [a4 (z + i + 0) (by omega) (by omega)]
        exact xu_self _ _ _
      · rw [show z + i + (j + 1) = z + (i + 1) + j by omega]
        exact a3 j e' he
    · have h2 : q < z + i ∨ z + i + ((jQn r).length + 1) ≤ q := h2
      rw [a4 q h1 (by omega), xu_ne _ _ (show q ≠ z + i by omega)]
  | .inr (k, v) :: r, i, ω, fs, h, hz, hl => by
    have hl : (decide (k < fs.length) && jQl fs.length r) = true := hl
    rw [Bool.and_eq_true, decide_eq_true_iff] at hl
    have e : xp ω a0 c k v = some (xu ω a0 (.inr (c, fs.set k v))) := by
      unfold xp; rw [h]; exact if_pos ⟨rfl, hl.1⟩
    obtain ⟨ω', a1, a2, a3, a4⟩ := jQr_ok (K := K) r i (xu ω a0 (.inr (c, fs.set k v))) (fs.set k v) (xu_self _ _ _) hz (by rw [List.length_set]; exact hl.2)
    refine ⟨ω', ?_, a2, a3, fun q h1 h2 => ?_⟩
    · show (xp ω a0 c k v).bind _ = _
      rw [e, Option.bind_some]; exact a1
    · rw [a4 q h1 h2, xu_ne _ _ h1]
abbrev jA0 (n : Nat) : xE := .inl (0, n, .inl (fun _ => 0))
abbrev jA5 (n : Nat) : xE := .inl (5, n, .inl (fun _ => 0))
abbrev jA4 (n : Nat) : xE := .inl (4, n, .inl (fun _ => 0))
abbrev jA1 (n : Nat) : xE := .inl (1, n, .inr (.inl (fun _ => 0)))
theorem jxpE {ω : xS} {a c k : Nat} {fs : List Value} {v : Value} (h : ω a = some (.inr (c, fs))) (hk : k < fs.length) : ∃ w, xp ω a c k v = some w ∧ w a = some (.inr (c, fs.set k v)) ∧ ∀ q, q ≠ a → w q = ω q := ⟨xu ω a (.inr (c, fs.set k v)), by unfold xp; rw [h]; exact if_pos ⟨rfl, hk⟩, xu_self _ _ _, fun q hq => xu_ne _ _ hq⟩
theorem jxuE (ω : xS) (a : Nat) (e : xE) : ∃ w, xu ω a e = w ∧ w a = some e ∧ ∀ q, q ≠ a → w q = ω q := ⟨_, rfl, xu_self _ _ _, fun q hq => xu_ne _ _ hq⟩
theorem jI_Tape {ω : xS} {a0 z : Nat} (h : ω a0 = some (.inr (9, [.null, .int 0]))) (hz : a0 < z) : ∃ ω', f_Tape_init a0 z ω = some ω' ∧ ω' a0 = some (.inr (9, [.ref z, .int 0])) ∧ ω' z = some (jA0 1500) ∧ ∀ q, q ≠ a0 → (q < z ∨ z + 1 ≤ q) → ω' q = ω q := by
  obtain ⟨ω', a1, a2, a3, a4⟩ := jQr_ok (K := some) [.inl (jA0 1500), .inr (0, .ref z)] 0 ω _ h hz rfl
  exact ⟨ω', a1, a2, a3 0 _ rfl, a4⟩
theorem jI_History {ω : xS} {a0 z : Nat} (h : ω a0 = some (.inr (2, [.null, .null, .null, .int 0, .int 0]))) (hz : a0 < z) : ∃ ω', f_History_init a0 z ω = some ω' ∧ ω' a0 = some (.inr (2, [.ref z, .ref (z + 1), .ref (z + 2), .int 0, .int 0])) ∧ ω' z = some (jA0 200) ∧ ω' (z + 1) = some (jA0 200) ∧ ω' (z + 2) = some (jA0 200) ∧ ∀ q, q ≠ a0 → (q < z ∨ z + 3 ≤ q) → ω' q = ω q := by
  obtain ⟨ω', a1, a2, a3, a4⟩ := jQr_ok (K := some) [.inl (jA0 200), .inr (0, .ref z), .inl (jA0 200), .inr (1, .ref (z + 1)), .inl (jA0 200), .inr (2, .ref (z + 2))] 0 ω _ h hz rfl
  exact ⟨ω', a1, a2, a3 0 _ rfl, a3 1 _ rfl, a3 2 _ rfl, a4⟩
theorem jI_Maker {ω : xS} {a0 z : Nat} (h : ω a0 = some (.inr (1, [.null, .null, .null, .null, .null, .null, .null, .null, .int 0]))) (hz : a0 < z) : ∃ ω', f_AutomatonMaker_init a0 z ω = some ω' ∧ ω' a0 = some (.inr (1, [.ref z, .ref (z + 1), .ref (z + 2), .ref (z + 3), .ref (z + 4), .ref (z + 5), .ref (z + 6), .ref (z + 7), .int 0])) ∧ ω' z = some (jA0 1025) ∧ ω' (z + 1) = some (jA0 1025) ∧ ω' (z + 2) = some (jA0 9225) ∧ ω' (z + 3) = some (jA0 2048) ∧ ω' (z + 4) = some (jA0 1025) ∧ ω' (z + 5) = some (jA0 1025) ∧ ω' (z + 6) = some (jA1 1025) ∧ ω' (z + 7) = some (jA1 1025) ∧ ∀ q, q ≠ a0 → (q < z ∨ z + 8 ≤ q) → ω' q = ω q := by
  obtain ⟨ω', a1, a2, a3, a4⟩ := jQr_ok (K := some) [.inl (jA0 1025), .inr (0, .ref z), .inl (jA0 1025), .inr (1, .ref (z + 1)), .inl (jA0 9225), .inr (2, .ref (z + 2)), .inl (jA0 2048), .inr (3, .ref (z + 3)), .inl (jA0 1025), .inr (4, .ref (z + 4)), .inl (jA0 1025), .inr (5, .ref (z + 5)), .inl (jA1 1025), .inr (6, .ref (z + 6)), .inl (jA1 1025), .inr (7, .ref (z + 7))] 0 ω _ h hz rfl
  exact ⟨ω', a1, a2, a3 0 _ rfl, a3 1 _ rfl, a3 2 _ rfl, a3 3 _ rfl, a3 4 _ rfl, a3 5 _ rfl, a3 6 _ rfl, a3 7 _ rfl, a4⟩
theorem jI_Positions {ω : xS} {a0 z : Nat} (h : ω a0 = some (.inr (7, [.null, .null, .null, .null, .int 0, .int 0, .int 0, .int 0, .int 0]))) (hz : a0 < z) : ∃ ω', f_Positions_init a0 z ω = some ω' ∧ ω' a0 = some (.inr (7, [.ref z, .ref (z + 1), .ref (z + 2), .ref (z + 3), .int 0, .int 0, .int 0, .int 0, .int 0])) ∧ ω' z = some (jA0 9) ∧ ω' (z + 1) = some (jA0 10) ∧ ω' (z + 2) = some (jA0 32) ∧ ω' (z + 3) = some (jA0 32) ∧ ∀ q, q ≠ a0 → (q < z ∨ z + 4 ≤ q) → ω' q = ω q := by
  obtain ⟨ω', a1, a2, a3, a4⟩ := jQr_ok (K := some) [.inl (jA0 9), .inr (0, .ref z), .inl (jA0 10), .inr (1, .ref (z + 1)), .inl (jA0 32), .inr (2, .ref (z + 2)), .inl (jA0 32), .inr (3, .ref (z + 3))] 0 ω _ h hz rfl
  exact ⟨ω', a1, a2, a3 0 _ rfl, a3 1 _ rfl, a3 2 _ rfl, a3 3 _ rfl, a4⟩
theorem jI_Automaton {ω : xS} {a0 z : Nat} (h : ω a0 = some (.inr (0, [.null, .int 0]))) (hz : a0 < z) : ∃ ω', f_Automaton_init a0 z ω = some ω' ∧ ω' a0 = some (.inr (0, [.ref z, .int 0])) ∧ ω' z = some (jA0 0) ∧ ∀ q, q ≠ a0 → (q < z ∨ z + 1 ≤ q) → ω' q = ω q := by
  obtain ⟨ω', a1, a2, a3, a4⟩ := jQr_ok (K := some) [.inl (jA0 0), .inr (0, .ref z)] 0 ω _ h hz rfl
  exact ⟨ω', a1, a2, a3 0 _ rfl, a4⟩
theorem jI_Parser {ω : xS} {a0 t z : Nat} (h : ω a0 = some (.inr (6, [.null, .null, .null, .null, .int 0, .int 0, .int 0, .int 0, .int 0, .int 0, .int 0, .int 0]))) (hz : a0 < z) : ∃ ω', f_PatternParser_init a0 t z ω = some ω' ∧ ω' a0 = some (.inr (6, [.ref t, .ref z, .ref (z + 1), .ref (z + 2), .int 0, .int 0, .int 0, .int 0, .int 0, .int 0, .int 0, .int 0])) ∧ ω' z = some (jA0 41) ∧ ω' (z + 1) = some (jA0 41) ∧ ω' (z + 2) = some (jA0 41) ∧ ∀ q, q ≠ a0 → (q < z ∨ z + 3 ≤ q) → ω' q = ω q := by
  obtain ⟨ω', a1, a2, a3, a4⟩ := jQr_ok (K := some) [.inl (jA0 41), .inr (1, .ref z), .inl (jA0 41), .inr (2, .ref (z + 1)), .inl (jA0 41), .inr (3, .ref (z + 2)), .inr (0, .ref t)] 0 ω _ h hz rfl
  exact ⟨ω', a1, a2, a3 0 _ rfl, a3 1 _ rfl, a3 2 _ rfl, a4⟩
/-- a law's object with all its rows: a0, and z .. z + 6 behind -/
def jIL (ω : xS) (a0 z : Nat) : Prop := (ω a0 = some (.inr (4, [.ref z, .ref (z + 5), .int 0, .int 0, .int 0, .int 0, .int 0, .int 0, .int 0]))) ∧ (ω z = some (.inr (7, [.ref (z + 1), .ref (z + 2), .ref (z + 3), .ref (z + 4), .int 0, .int 0, .int 0, .int 0, .int 0]))) ∧ (ω (z + 1) = some (jA0 9)) ∧ (ω (z + 2) = some (jA0 10)) ∧ (ω (z + 3) = some (jA0 32)) ∧ (ω (z + 4) = some (jA0 32)) ∧ (ω (z + 5) = some (.inr (0, [.ref (z + 6), .int 0]))) ∧ (ω (z + 6) = some (jA0 0))
theorem jIL.o {ω : xS} {a0 z : Nat} (h : jIL ω a0 z) : ω a0 = some (.inr (4, [.ref z, .ref (z + 5), .int 0, .int 0, .int 0, .int 0, .int 0, .int 0, .int 0])) := h.1
theorem jIL.p {ω : xS} {a0 z : Nat} (h : jIL ω a0 z) : ω z = some (.inr (7, [.ref (z + 1), .ref (z + 2), .ref (z + 3), .ref (z + 4), .int 0, .int 0, .int 0, .int 0, .int 0])) := h.2.1
theorem jIL.p1 {ω : xS} {a0 z : Nat} (h : jIL ω a0 z) : ω (z + 1) = some (jA0 9) := h.2.2.1
theorem jIL.p2 {ω : xS} {a0 z : Nat} (h : jIL ω a0 z) : ω (z + 2) = some (jA0 10) := h.2.2.2.1
theorem jIL.p3 {ω : xS} {a0 z : Nat} (h : jIL ω a0 z) : ω (z + 3) = some (jA0 32) := h.2.2.2.2.1
theorem jIL.p4 {ω : xS} {a0 z : Nat} (h : jIL ω a0 z) : ω (z + 4) = some (jA0 32) := h.2.2.2.2.2.1
theorem jIL.a {ω : xS} {a0 z : Nat} (h : jIL ω a0 z) : ω (z + 5) = some (.inr (0, [.ref (z + 6), .int 0])) := h.2.2.2.2.2.2.1
theorem jIL.t {ω : xS} {a0 z : Nat} (h : jIL ω a0 z) : ω (z + 6) = some (jA0 0) := h.2.2.2.2.2.2.2
theorem jIL.fr {ω ω' : xS} {a0 z : Nat} (h : jIL ω a0 z) (e : ∀ q, q = a0 ∨ (z ≤ q ∧ q < z + 7) → ω' q = ω q) : jIL ω' a0 z := ⟨by rw [e _ (by omega)]; exact h.o, by rw [e _ (by omega)]; exact h.p, by rw [e _ (by omega)]; exact h.p1, by rw [e _ (by omega)]; exact h.p2, by rw [e _ (by omega)]; exact h.p3, by rw [e _ (by omega)]; exact h.p4, by rw [e _ (by omega)]; exact h.a, by rw [e _ (by omega)]; exact h.t⟩
theorem jI_Law {ω : xS} {a0 z : Nat} (h : ω a0 = some (.inr (4, [.null, .null, .int 0, .int 0, .int 0, .int 0, .int 0, .int 0, .int 0]))) (hz : a0 < z) : ∃ ω', f_Law_init a0 z ω = some ω' ∧ jIL ω' a0 z ∧ ∀ q, q ≠ a0 → (q < z ∨ z + 7 ≤ q) → ω' q = ω q := by
  obtain ⟨w1, e1, b1, f1⟩ := jxuE ω z (.inr (7, [.null, .null, .null, .null, .int 0, .int 0, .int 0, .int 0, .int 0]))
  obtain ⟨w2, e2, b2, c1, c2, c3, c4, f2⟩ := jI_Positions (z := z + 1) b1 (by omega)
  obtain ⟨w4, e4, b4, f4⟩ := jxpE (ω := w2) (k := 0) (v := .ref z) ((f2 a0 (by omega) (by omega)).trans ((f1 a0 (by omega)).trans h)) (Nat.le_of_ble_eq_true rfl)
  obtain ⟨w5, e5, b5, f5⟩ := jxuE w4 (z + 5) (.inr (0, [.null, .int 0]))
  obtain ⟨w6, e6, b6, d1, f6⟩ := jI_Automaton (z := z + 6) b5 (by omega)
  obtain ⟨w8, e8, b8, f8⟩ := jxpE (ω := w6) (k := 1) (v := .ref (z + 5)) ((f6 a0 (by omega) (by omega)).trans ((f5 a0 (by omega)).trans b4)) (Nat.le_of_ble_eq_true rfl)
  refine ⟨w8, ?_, ⟨b8, ?_, ?_, ?_, ?_, ?_, ?_, ?_⟩, fun q h1 h2 => ?_⟩
  · unfold f_Law_init
    simp only [xl]
    rw [e1, e2, Option.bind_some, e4, Option.bind_some, e5, e6, Option.bind_some, e8, Option.bind_some]
  · rw [f8 _ (by omega), f6 _ (by omega) (by omega), f5 _ (by omega), f4 _ (by omega)]; exact b2
  · rw [f8 _ (by omega), f6 _ (by omega) (by omega), f5 _ (by omega), f4 _ (by omega)]; exact c1
  · rw [f8 _ (by omega), f6 _ (by omega) (by omega), f5 _ (by omega), f4 _ (by omega)]; exact c2
  · rw [f8 _ (by omega), f6 _ (by omega) (by omega), f5 _ (by omega), f4 _ (by omega)]; exact c3
  · rw [f8 _ (by omega), f6 _ (by omega) (by omega), f5 _ (by omega), f4 _ (by omega)]; exact c4
  · rw [f8 _ (by omega)]; exact b6
  · rw [f8 _ (by omega)]; exact d1
  · rw [f8 _ (by omega), f6 _ (by omega) (by omega), f5 _ (by omega), f4 _ (by omega), f2 _ (by omega) (by omega), f1 _ (by omega)]
theorem jI_Reader {ω : xS} {a0 t z : Nat} {x : Int32} (h : ω a0 = some (.inr (5, [.null, .null, .int 0, .int 0, .int 0]))) (hz : a0 < z) : ∃ ω', f_LawReader_init a0 t x z ω = some ω' ∧ ω' a0 = some (.inr (5, [.ref z, .ref (z + 1), .int x, .int 0, .int (-2)])) ∧ ω' z = some (.inr (10, [.ref t, .int 0, .int 0, .int 0])) ∧ ω' (z + 1) = some (.inr (6, [.ref t, .ref (z + 2), .ref (z + 3), .ref (z + 4), .int 0, .int 0, .int 0, .int 0, .int 0, .int 0, .int 0, .int 0])) ∧ ω' (z + 2) = some (jA0 41) ∧ ω' (z + 3) = some (jA0 41) ∧ ω' (z + 4) = some (jA0 41) ∧ ∀ q, q ≠ a0 → (q < z ∨ z + 5 ≤ q) → ω' q = ω q := by
  obtain ⟨w1, e1, b1, f1⟩ := jxpE (ω := ω) (k := 4) (v := .int (-2)) h (Nat.le_of_ble_eq_true rfl)
  obtain ⟨w2, e2, b2, f2⟩ := jxuE w1 z (.inr (10, [.null, .int 0, .int 0, .int 0]))
  obtain ⟨w3, e3, b3, f3⟩ := jxpE (ω := w2) (k := 0) (v := .ref t) b2 (Nat.le_of_ble_eq_true rfl)
  obtain ⟨w5, e5, b5, f5⟩ := jxpE (ω := w3) (k := 0) (v := .ref z) ((f3 a0 (by omega)).trans ((f2 a0 (by omega)).trans b1)) (Nat.le_of_ble_eq_true rfl)
  obtain ⟨w6, e6, b6, f6⟩ := jxuE w5 (z + 1) (.inr (6, [.null, .null, .null, .null, .int 0, .int 0, .int 0, .int 0, .int 0, .int 0, .int 0, .int 0]))
  obtain ⟨w7, e7, b7, c1, c2, c3, f7⟩ := jI_Parser (t := t) (z := z + 2) b6 (by omega)
  obtain ⟨w9, e9, b9, f9⟩ := jxpE (ω := w7) (k := 1) (v := .ref (z + 1)) ((f7 a0 (by omega) (by omega)).trans ((f6 a0 (by omega)).trans b5)) (Nat.le_of_ble_eq_true rfl)
  obtain ⟨w10, e10, b10, f10⟩ := jxpE (ω := w9) (k := 2) (v := .int x) b9 (Nat.le_of_ble_eq_true rfl)
  refine ⟨w10, ?_, b10, ?_, ?_, ?_, ?_, ?_, fun q h1 h2 => ?_⟩
  · unfold f_LawReader_init f_Tokens_init
    simp only [xl]
    rw [e1, Option.bind_some, e2, e3, Option.bind_some, Option.bind_some, e5, Option.bind_some, e6, e7, Option.bind_some, e9, Option.bind_some, e10, Option.bind_some]
  · rw [f10 _ (by omega), f9 _ (by omega), f7 _ (by omega) (by omega), f6 _ (by omega), f5 _ (by omega)]; exact b3
  · rw [f10 _ (by omega), f9 _ (by omega)]; exact b7
  · rw [f10 _ (by omega), f9 _ (by omega)]; exact c1
  · rw [f10 _ (by omega), f9 _ (by omega)]; exact c2
  · rw [f10 _ (by omega), f9 _ (by omega)]; exact c3
  · rw [f10 _ (by omega), f9 _ (by omega), f7 _ (by omega) (by omega), f6 _ (by omega), f5 _ (by omega), f3 _ (by omega), f2 _ (by omega), f1 _ (by omega)]
