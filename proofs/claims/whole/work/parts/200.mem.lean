/-! THE MEMORY: the world as typed cells. A cell has a name (jC), an address (jad), a shape (jkt, jfk, jlen) and a payload; the state is five maps from names to payloads. -/
abbrev jC : Type := Nat ⊕ (Nat × Nat) ⊕ (Nat × Nat) ⊕ Nat ⊕ Nat
abbrev jo (k : Nat) : jC := .inl k
abbrev jr (t p : Nat) : jC := .inr (.inl (t, p))
abbrev jl (j k : Nat) : jC := .inr (.inr (.inl (j, k)))
abbrev jt (j : Nat) : jC := .inr (.inr (.inr (.inl j)))
abbrev jm (k : Nat) : jC := .inr (.inr (.inr (.inr k)))
abbrev jSt : Type := (jC → Nat → Int32) × (jC → Nat → Int32) × (jC → Nat → Int64) × (jC → Nat → jC) × (jC → Nat)
def jgI (S : jSt) : jC → Nat → Int32 := S.1
def jgA (S : jSt) : jC → Nat → Int32 := S.2.1
def jgG (S : jSt) : jC → Nat → Int64 := S.2.2.1
def jgX (S : jSt) : jC → Nat → jC := S.2.2.2.1
def jgN (S : jSt) : jC → Nat := S.2.2.2.2
/-- a layout: base, people, days, the tables' addresses -/
abbrev jL : Type := Nat × Nat × Nat × (Nat → Nat)
def jB (L : jL) : Nat := L.1
def jn (L : jL) : Nat := L.2.1
def jd (L : jL) : Nat := L.2.2.1
def jtb (L : jL) : Nat → Nat := L.2.2.2
def jad (L : jL) : jC → Nat
  | .inl k => jB L + k + (if k ≤ 23 then 0 else if k = 24 then jn L else if k = 25 then 2 * jn L else if k = 26 then 3 * jn L else if k = 27 then 4 * jn L else 4 * jn L + jd L)
  | .inr (.inl (t, p)) => jB L + 24 + t + p + (if t = 0 then 0 else if t = 1 then jn L else if t = 2 then 2 * jn L else if t = 3 then 3 * jn L else 4 * jn L)
  | .inr (.inr (.inl (j, k))) => jB L + 35 + 4 * jn L + jd L + 8 * j + k
  | .inr (.inr (.inr (.inl j))) => jtb L j
  | .inr (.inr (.inr (.inr k))) => jB L + 291 + 4 * jn L + jd L + k
def jok (L : jL) : jC → Prop
  | .inl k => k ≤ 34
  | .inr (.inl (t, p)) => t ≤ 4 ∧ p < (if t = 4 then jd L else jn L)
  | .inr (.inr (.inl (j, k))) => j < 32 ∧ k ≤ 6
  | .inr (.inr (.inr (.inl j))) => j < 32
  | .inr (.inr (.inr (.inr k))) => k ≤ 46
def jgood (L : jL) : Prop := (∀ j, j < 32 → jtb L j = jB L + 35 + 4 * jn L + jd L + 8 * j + 7 ∨ jB L + 338 + 4 * jn L + jd L ≤ jtb L j) ∧ (∀ i j, i < 32 → j < 32 → jtb L i = jtb L j → i = j)
theorem jad_inj {L : jL} (hL : jgood L) {c c' : jC} (h : jok L c) (h' : jok L c') (e : jad L c = jad L c') : c = c' := by
  rcases c with k | ⟨t, p⟩ | ⟨j, k⟩ | j | k <;> rcases c' with k' | ⟨t', p'⟩ | ⟨j', k'⟩ | j' | k' <;> simp only [jad, jok] at h h' e
  · have : k = k' := by (repeat' split at e) <;> omega
    rw [this]
  · exfalso; (repeat' split at e) <;> (repeat' split at h') <;> omega
  · exfalso; (repeat' split at e) <;> omega
  · exfalso; have := hL.1 j' h'; (repeat' split at e) <;> omega
  · exfalso; (repeat' split at e) <;> omega
  · exfalso; (repeat' split at e) <;> (repeat' split at h) <;> omega
  · have : t = t' ∧ p = p' := by (repeat' split at e) <;> (repeat' split at h) <;> (repeat' split at h') <;> omega
    rw [this.1, this.2]
  · exfalso; (repeat' split at e) <;> (repeat' split at h) <;> omega
  · exfalso; have := hL.1 j' h'; (repeat' split at e) <;> (repeat' split at h) <;> omega
  · exfalso; (repeat' split at e) <;> (repeat' split at h) <;> omega
  · exfalso; (repeat' split at e) <;> omega
  · exfalso; (repeat' split at e) <;> (repeat' split at h') <;> omega
  · have : j = j' ∧ k = k' := by omega
    rw [this.1, this.2]
  · exfalso; have := hL.1 j' h'; omega
  · exfalso; omega
  · exfalso; have := hL.1 j h; (repeat' split at e) <;> omega
  · exfalso; have := hL.1 j h; (repeat' split at e) <;> (repeat' split at h') <;> omega
  · exfalso; have := hL.1 j h; omega
  · rw [hL.2 j j' h h' e]
  · exfalso; have := hL.1 j h; omega
  · exfalso; (repeat' split at e) <;> omega
  · exfalso; (repeat' split at e) <;> (repeat' split at h') <;> omega
  · exfalso; omega
  · exfalso; have := hL.1 j' h'; omega
  · have : k = k' := by omega
    rw [this]
/-- array kind of a cell, or 100 and the class number of an object -/
def jkt : jC → Nat
  | .inl k => match k with
    | 0 => 111 | 1 => 109 | 3 => 102 | 7 => 101 | 14 => 1 | 15 => 1 | 16 => 3 | 17 => 3 | 18 => 108
    | 23 => 2 | 24 => 2 | 25 => 2 | 26 => 2 | 27 => 2 | 28 => 103 | 29 => 105 | 30 => 110 | 31 => 106
    | _ => 0
  | .inr (.inl _) => 0
  | .inr (.inr (.inl (_, k))) => match k with
    | 0 => 104 | 1 => 107 | 6 => 100 | _ => 0
  | .inr (.inr (.inr (.inl _))) => 0
  | .inr (.inr (.inr (.inr k))) => match k with
    | 0 => 112 | 9 => 4 | 20 => 5 | 24 => 5 | 30 => 5 | 31 => 1 | 32 => 1 | 33 => 1 | 34 => 5 | 35 => 5 | 45 => 1 | 46 => 1
    | _ => 0
/-- the kinds of an object's fields: 0 int, 1 long, 2 reference -/
def jfk : jC → List Nat
  | .inl k => match k with
    | 0 => [2, 2, 2, 2, 2, 2, 2, 2, 0]
    | 1 => [2, 0]
    | 3 => [2, 2, 2, 0, 0]
    | 7 => [2, 2, 2, 2, 2, 2, 2, 2, 0]
    | 18 => [0, 0, 2, 2, 2, 2, 2, 2, 2, 2, 2, 0, 0]
    | 28 => [2]
    | 29 => [2, 2, 0, 0, 0]
    | 30 => [2, 0, 0, 0]
    | 31 => [2, 2, 2, 2, 0, 0, 0, 0, 0, 0, 0, 0]
    | _ => []
  | .inr (.inr (.inl (_, k))) => match k with
    | 0 => [2, 2, 0, 0, 0, 0, 0, 0, 0]
    | 1 => [2, 2, 2, 2, 0, 0, 0, 0, 0]
    | 6 => [2, 0]
    | _ => []
  | .inr (.inr (.inr (.inr _))) => [0, 0, 2, 2, 2, 2, 2, 2, 2, 2, 2, 0, 0, 2, 2, 2, 2, 2, 2, 2, 0, 2, 2, 2, 2, 2, 2, 2, 2, 2, 2, 0, 0, 0, 0, 0, 0, 0, 1, 0, 0, 0, 0, 0, 0, 2, 2, 2, 2, 2, 2, 2, 2, 2, 2, 2, 2, 2, 2, 2, 2, 2, 2, 2, 2]
  | _ => []
/-- the length of an array -/
def jlen (L : jL) : jC → Nat → Nat
  | .inl k, _ => match k with
    | 2 => 1500 | 4 => 200 | 5 => 200 | 6 => 200 | 10 => 9225 | 11 => 2048 | 16 => 16 | 17 => 16
    | 19 => 9 | 20 => 9 | 21 => 9 | 22 => jn L | 23 => jn L | 24 => jn L | 25 => jn L | 26 => jn L | 27 => jd L
    | 32 => 41 | 33 => 41 | 34 => 41
    | _ => 1025
  | .inr (.inl (t, _)), _ => match t with
    | 0 => 7 + jd L | 1 => jd L | 2 => jd L | _ => 9
  | .inr (.inr (.inl (_, k))), _ => match k with
    | 2 => 9 | 3 => 10 | _ => 32
  | .inr (.inr (.inr (.inl _))), n => n
  | .inr (.inr (.inr (.inr k))), _ => match k with
    | 1 => 168 | 2 => 56 | 3 => 8 | 4 => 8 | 5 => 8 | 6 => 8 | 7 => 168 | 8 => 168 | 9 => 1500
    | 10 => 16 | 11 => 16 | 12 => 16 | 13 => 16 | 14 => 16 | 15 => 16 | 16 => 16 | 17 => 160 | 18 => 176 | 19 => 16 | 20 => 16 | 21 => 16 | 22 => 16
    | 23 => 147600 | 24 => 16400 | 25 => 200 | 26 => 200
    | 27 => 45 | 28 => 45 | 29 => 45 | 30 => 45 | 31 => 45 | 32 => 45 | 33 => 45 | 34 => 45 | 35 => 45 | 36 => 45 | 37 => 45
    | 40 => 9225
    | _ => 1025
def jfv (L : jL) (S : jSt) (c : jC) (k y : Nat) : Value := match y with
  | 0 => .int (jgI S c k)
  | 1 => .long (jgG S c k)
  | _ => .ref (jad L (jgX S c k))
def jfl (L : jL) (S : jSt) (c : jC) : Nat → List Nat → List Value
  | _, [] => []
  | k, y :: fs => jfv L S c k y :: jfl L S c (k + 1) fs
def jen (L : jL) (S : jSt) (c : jC) : xE :=
  if 100 ≤ jkt c then .inr (jkt c - 100, jfl L S c 0 (jfk c))
  else if jkt c = 1 then .inl (1, jlen L c (jgN S c), .inr (.inl (jgG S c)))
  else if jkt c = 2 ∨ jkt c = 3 then .inl (jkt c, jlen L c (jgN S c), .inr (.inr (.inr (.inr (fun k => if k < jlen L c (jgN S c) then some (jad L (jgX S c k)) else none)))))
  else .inl (jkt c, jlen L c (jgN S c), .inl (jgA S c))
noncomputable def jW (L : jL) (ω : xS) (S : jSt) : xS := fun q => @dite (Option xE) (∃ c, jok L c ∧ jad L c = q) (Classical.propDecidable _) (fun h => some (jen L S (Classical.choose h))) (fun _ => ω q)
theorem jW_yes {L : jL} {ω : xS} {S : jSt} {q : Nat} (h : ∃ c, jok L c ∧ jad L c = q) : jW L ω S q = some (jen L S (Classical.choose h)) := dif_pos h
theorem jW_non {L : jL} {ω : xS} {S : jSt} {q : Nat} (h : ¬ ∃ c, jok L c ∧ jad L c = q) : jW L ω S q = ω q := dif_neg h
theorem jW_at {L : jL} (hL : jgood L) {ω : xS} {S : jSt} {c : jC} (hc : jok L c) : jW L ω S (jad L c) = some (jen L S c) := by
  have h : ∃ c', jok L c' ∧ jad L c' = jad L c := ⟨c, hc, rfl⟩
  rw [jW_yes h]
  have e := Classical.choose_spec h
  rw [jad_inj hL e.1 hc e.2]
theorem jW_up {L : jL} (hL : jgood L) {ω : xS} {S S' : jSt} {c : jC} {e : xE} (hc : jok L c) (he : jen L S' c = e) (h : ∀ c', c' ≠ c → jen L S' c' = jen L S c') : xu (jW L ω S) (jad L c) e = jW L ω S' := by
  funext q
  by_cases hq : q = jad L c
  · subst hq
    rw [xu_self, jW_at hL hc, he]
  · rw [xu_ne _ _ hq]
    by_cases hx : ∃ c, jok L c ∧ jad L c = q
    · rw [jW_yes hx, jW_yes hx]
      have e := Classical.choose_spec hx
      rw [h _ (fun q0 => hq (by rw [← e.2, q0]))]
    · rw [jW_non hx, jW_non hx]
def jsI (S : jSt) (c : jC) (k : Nat) (v : Int32) : jSt := (fun c' k' => if c' = c ∧ k' = k then v else S.1 c' k', S.2)
def jsA (S : jSt) (c : jC) (k : Nat) (v : Int32) : jSt := (S.1, fun c' k' => if c' = c ∧ k' = k then v else S.2.1 c' k', S.2.2)
def jsG (S : jSt) (c : jC) (k : Nat) (v : Int64) : jSt := (S.1, S.2.1, fun c' k' => if c' = c ∧ k' = k then v else S.2.2.1 c' k', S.2.2.2)
def jsX (S : jSt) (c : jC) (k : Nat) (v : jC) : jSt := (S.1, S.2.1, S.2.2.1, fun c' k' => if c' = c ∧ k' = k then v else S.2.2.2.1 c' k', S.2.2.2.2)
theorem jsI_I (S : jSt) (c c' : jC) (k k' : Nat) (v : Int32) : jgI (jsI S c k v) c' k' = if c' = c ∧ k' = k then v else jgI S c' k' := rfl
theorem jsI_A (S : jSt) (c : jC) (k : Nat) (v : Int32) : jgA (jsI S c k v) = jgA S := rfl
theorem jsI_G (S : jSt) (c : jC) (k : Nat) (v : Int32) : jgG (jsI S c k v) = jgG S := rfl
theorem jsI_X (S : jSt) (c : jC) (k : Nat) (v : Int32) : jgX (jsI S c k v) = jgX S := rfl
theorem jsI_N (S : jSt) (c : jC) (k : Nat) (v : Int32) : jgN (jsI S c k v) = jgN S := rfl
theorem jsA_A (S : jSt) (c c' : jC) (k k' : Nat) (v : Int32) : jgA (jsA S c k v) c' k' = if c' = c ∧ k' = k then v else jgA S c' k' := rfl
theorem jsA_I (S : jSt) (c : jC) (k : Nat) (v : Int32) : jgI (jsA S c k v) = jgI S := rfl
theorem jsA_G (S : jSt) (c : jC) (k : Nat) (v : Int32) : jgG (jsA S c k v) = jgG S := rfl
theorem jsA_X (S : jSt) (c : jC) (k : Nat) (v : Int32) : jgX (jsA S c k v) = jgX S := rfl
theorem jsA_N (S : jSt) (c : jC) (k : Nat) (v : Int32) : jgN (jsA S c k v) = jgN S := rfl
theorem jsG_G (S : jSt) (c c' : jC) (k k' : Nat) (v : Int64) : jgG (jsG S c k v) c' k' = if c' = c ∧ k' = k then v else jgG S c' k' := rfl
theorem jsG_I (S : jSt) (c : jC) (k : Nat) (v : Int64) : jgI (jsG S c k v) = jgI S := rfl
theorem jsG_A (S : jSt) (c : jC) (k : Nat) (v : Int64) : jgA (jsG S c k v) = jgA S := rfl
theorem jsG_X (S : jSt) (c : jC) (k : Nat) (v : Int64) : jgX (jsG S c k v) = jgX S := rfl
theorem jsG_N (S : jSt) (c : jC) (k : Nat) (v : Int64) : jgN (jsG S c k v) = jgN S := rfl
theorem jsX_X (S : jSt) (c c' : jC) (k k' : Nat) (v : jC) : jgX (jsX S c k v) c' k' = if c' = c ∧ k' = k then v else jgX S c' k' := rfl
theorem jsX_I (S : jSt) (c : jC) (k : Nat) (v : jC) : jgI (jsX S c k v) = jgI S := rfl
theorem jsX_A (S : jSt) (c : jC) (k : Nat) (v : jC) : jgA (jsX S c k v) = jgA S := rfl
theorem jsX_G (S : jSt) (c : jC) (k : Nat) (v : jC) : jgG (jsX S c k v) = jgG S := rfl
theorem jsX_N (S : jSt) (c : jC) (k : Nat) (v : jC) : jgN (jsX S c k v) = jgN S := rfl
theorem jfl_get {L : jL} {S : jSt} {c : jC} : ∀ (fs : List Nat) (b k y : Nat), fs[k]? = some y → (jfl L S c b fs)[k]? = some (jfv L S c (b + k) y)
  | [], b, k, y, h => by simp at h
  | q :: fs, b, 0, y, h => by
    simp at h
    subst h
    rfl
  | q :: fs, b, k + 1, y, h => by
    have h2 : fs[k]? = some y := by simpa using h
    have := jfl_get (L := L) (S := S) (c := c) fs (b + 1) k y h2
    rw [Nat.add_right_comm, Nat.add_assoc] at this
    simpa [jfl] using this
theorem jfl_len {L : jL} {S : jSt} {c : jC} : ∀ (fs : List Nat) (b : Nat), (jfl L S c b fs).length = fs.length
  | [], b => rfl
  | q :: fs, b => by simp [jfl, jfl_len fs (b + 1)]
theorem jfl_ext {L : jL} {S S' : jSt} {c : jC} : ∀ (fs : List Nat) (b : Nat), (∀ k y, b ≤ k → jfv L S c k y = jfv L S' c k y) → jfl L S c b fs = jfl L S' c b fs
  | [], b, h => rfl
  | q :: fs, b, h => by
    simp only [jfl]
    rw [jfl_ext fs (b + 1) (fun k y hk => h k y (by omega)), h b q (Nat.le_refl _)]
theorem jfl_set {L : jL} {S S' : jSt} {c : jC} {v : Value} : ∀ (fs : List Nat) (b k y : Nat), fs[k]? = some y → v = jfv L S' c (b + k) y → (∀ q y, q ≠ b + k → jfv L S c q y = jfv L S' c q y) → (jfl L S c b fs).set k v = jfl L S' c b fs
  | [], b, k, y, h, _, _ => by simp at h
  | q :: fs, b, 0, y, h, hv, ho => by
    simp at h
    subst h
    simp only [jfl, List.set_cons_zero]
    rw [jfl_ext fs (b + 1) (fun k y hk => ho k y (by omega)), hv]
    rfl
  | q :: fs, b, k + 1, y, h, hv, ho => by
    have h2 : fs[k]? = some y := by simpa using h
    have h0 := ho b q (by omega)
    simp only [jfl, List.set_cons_succ]
    have e1 : b + (k + 1) = b + 1 + k := by omega
    rw [e1] at hv ho
    rw [jfl_set (S' := S') fs (b + 1) k y h2 hv ho, h0]
theorem jen_ext {L : jL} {S S' : jSt} {c : jC} (h1 : jgI S' c = jgI S c) (h2 : jgA S' c = jgA S c) (h3 : jgG S' c = jgG S c) (h4 : jgX S' c = jgX S c) (h5 : jgN S' c = jgN S c) : jen L S' c = jen L S c := by
  unfold jen
  rw [h2, h3, h4, h5, jfl_ext (S := S') (S' := S) _ _ (fun k y _ => by unfold jfv; rw [h1, h3, h4])]
theorem jen_sI {L : jL} {S : jSt} {c c' : jC} {k : Nat} {v : Int32} (h : c' ≠ c) : jen L (jsI S c k v) c' = jen L S c' := by
  refine jen_ext ?_ rfl rfl rfl rfl
  funext k'
  rw [jsI_I, if_neg (fun q => h q.1)]
theorem jen_sA {L : jL} {S : jSt} {c c' : jC} {k : Nat} {v : Int32} (h : c' ≠ c) : jen L (jsA S c k v) c' = jen L S c' := by
  refine jen_ext rfl ?_ rfl rfl rfl
  funext k'
  rw [jsA_A, if_neg (fun q => h q.1)]
theorem jen_sG {L : jL} {S : jSt} {c c' : jC} {k : Nat} {v : Int64} (h : c' ≠ c) : jen L (jsG S c k v) c' = jen L S c' := by
  refine jen_ext rfl rfl ?_ rfl rfl
  funext k'
  rw [jsG_G, if_neg (fun q => h q.1)]
theorem jen_sX {L : jL} {S : jSt} {c c' : jC} {k : Nat} {v : jC} (h : c' ≠ c) : jen L (jsX S c k v) c' = jen L S c' := by
  refine jen_ext rfl rfl rfl ?_ rfl
  funext k'
  rw [jsX_X, if_neg (fun q => h q.1)]
/-! the operations -/
def jgi (n : Nat) (f : Nat → Int32) (i : Int32) : Option Int32 := if ¬ (i < 0 ∨ n ≤ i.toNatClampNeg) then some (f i.toNatClampNeg) else none
def jgl (n : Nat) (f : Nat → Int64) (i : Int32) : Option Int64 := if ¬ (i < 0 ∨ n ≤ i.toNatClampNeg) then some (f i.toNatClampNeg) else none
theorem jW_ob {L : jL} (hL : jgood L) {ω : xS} {S : jSt} {c : jC} {ci : Nat} (hc : jok L c) (hk : jkt c = 100 + ci) : jW L ω S (jad L c) = some (.inr (ci, jfl L S c 0 (jfk c))) := by
  rw [jW_at hL hc, jen, if_pos (by omega), hk, Nat.add_sub_cancel_left]
theorem jm_k {L : jL} (hL : jgood L) {ω : xS} {S : jSt} {c : jC} {ci : Nat} {α : Type} {q : Option α} (hc : jok L c) (hk : jkt c = 100 + ci) : xk (jW L ω S) (jad L c) ci q = q := by
  rw [xk, jW_ob hL hc hk]
  simp
theorem jm_gi {L : jL} (hL : jgood L) {ω : xS} {S : jSt} {c : jC} {k : Nat} {ci : Nat} (hc : jok L c) (hk : jkt c = 100 + ci) (hf : (jfk c)[k]? = some 0) : xgi (jW L ω S) (jad L c) ci k = some (jgI S c k) := by
  rw [xgi, xg, jW_ob hL hc hk]
  simp [jfl_get (L := L) (S := S) (c := c) _ 0 k 0 hf, jfv]
theorem jm_gl {L : jL} (hL : jgood L) {ω : xS} {S : jSt} {c : jC} {k : Nat} {ci : Nat} (hc : jok L c) (hk : jkt c = 100 + ci) (hf : (jfk c)[k]? = some 1) : xgl (jW L ω S) (jad L c) ci k = some (jgG S c k) := by
  rw [xgl, xg, jW_ob hL hc hk]
  simp [jfl_get (L := L) (S := S) (c := c) _ 0 k 1 hf, jfv]
theorem jm_gr {L : jL} (hL : jgood L) {ω : xS} {S : jSt} {c : jC} {k : Nat} {ci : Nat} (hc : jok L c) (hk : jkt c = 100 + ci) (hf : (jfk c)[k]? = some 2) : xgr (jW L ω S) (jad L c) ci k = some (jad L (jgX S c k)) := by
  rw [xgr, xg, jW_ob hL hc hk]
  simp [jfl_get (L := L) (S := S) (c := c) _ 0 k 2 hf, jfv]
theorem jm_pi {L : jL} (hL : jgood L) {ω : xS} {S : jSt} {c : jC} {k : Nat} {ci : Nat} {v : Int32} (hc : jok L c) (hk : jkt c = 100 + ci) (hf : (jfk c)[k]? = some 0) : xp (jW L ω S) (jad L c) ci k (.int v) = some (jW L ω (jsI S c k v)) := by
  have hlt : k < (jfk c).length := (List.getElem?_eq_some_iff.mp hf).1
  rw [xp, jW_ob hL hc hk]
  simp only [true_and, jfl_len, if_pos hlt]
  refine congrArg some (jW_up hL hc ?_ fun c' hq => jen_sI hq)
  rw [jen, if_pos (by omega), hk, Nat.add_sub_cancel_left, jfl_set (S' := jsI S c k v) _ 0 k 0 hf]
  · show Value.int v = .int (jgI (jsI S c k v) c (0 + k))
    rw [jsI_I, if_pos ⟨rfl, Nat.zero_add k⟩]
  · intro q y hq
    unfold jfv
    rw [jsI_I, jsI_G, jsI_X, if_neg (fun h => hq (by rw [h.2, Nat.zero_add]))]
theorem jm_pl {L : jL} (hL : jgood L) {ω : xS} {S : jSt} {c : jC} {k : Nat} {ci : Nat} {v : Int64} (hc : jok L c) (hk : jkt c = 100 + ci) (hf : (jfk c)[k]? = some 1) : xp (jW L ω S) (jad L c) ci k (.long v) = some (jW L ω (jsG S c k v)) := by
  have hlt : k < (jfk c).length := (List.getElem?_eq_some_iff.mp hf).1
  rw [xp, jW_ob hL hc hk]
  simp only [true_and, jfl_len, if_pos hlt]
  refine congrArg some (jW_up hL hc ?_ fun c' hq => jen_sG hq)
  rw [jen, if_pos (by omega), hk, Nat.add_sub_cancel_left, jfl_set (S' := jsG S c k v) _ 0 k 1 hf]
  · show Value.long v = .long (jgG (jsG S c k v) c (0 + k))
    rw [jsG_G, if_pos ⟨rfl, Nat.zero_add k⟩]
  · intro q y hq
    unfold jfv
    rw [jsG_G, jsG_I, jsG_X, if_neg (fun h => hq (by rw [h.2, Nat.zero_add]))]
theorem jm_pr {L : jL} (hL : jgood L) {ω : xS} {S : jSt} {c : jC} {k : Nat} {ci : Nat} {c1 : jC} (hc : jok L c) (hk : jkt c = 100 + ci) (hf : (jfk c)[k]? = some 2) : xp (jW L ω S) (jad L c) ci k (.ref (jad L c1)) = some (jW L ω (jsX S c k c1)) := by
  have hlt : k < (jfk c).length := (List.getElem?_eq_some_iff.mp hf).1
  rw [xp, jW_ob hL hc hk]
  simp only [true_and, jfl_len, if_pos hlt]
  refine congrArg some (jW_up hL hc ?_ fun c' hq => jen_sX hq)
  rw [jen, if_pos (by omega), hk, Nat.add_sub_cancel_left, jfl_set (S' := jsX S c k c1) _ 0 k 2 hf]
  · show Value.ref _ = .ref (jad L (jgX (jsX S c k c1) c (0 + k)))
    rw [jsX_X, if_pos ⟨rfl, Nat.zero_add k⟩]
  · intro q y hq
    unfold jfv
    rw [jsX_X, jsX_I, jsX_G, if_neg (fun h => hq (by rw [h.2, Nat.zero_add]))]
theorem jW_ia {L : jL} (hL : jgood L) {ω : xS} {S : jSt} {c : jC} (hc : jok L c) {t : Nat} (hk : jkt c = t) (ht : t = 0 ∨ t = 4 ∨ t = 5) : jW L ω S (jad L c) = some (.inl (t, jlen L c (jgN S c), .inl (jgA S c))) := by
  rw [jW_at hL hc, jen, if_neg (by omega), if_neg (by omega), if_neg (by omega), hk]
theorem jm_ai {L : jL} (hL : jgood L) {ω : xS} {S : jSt} {c : jC} {i : Int32} (hc : jok L c) (hk : jkt c = 0) : xai (jW L ω S) (jad L c) i = jgi (jlen L c (jgN S c)) (jgA S c) i := by
  rw [xai, jW_ia hL hc hk (by omega)]
  simp [jgi]
theorem jm_ab {L : jL} (hL : jgood L) {ω : xS} {S : jSt} {c : jC} {i : Int32} (hc : jok L c) (hk : jkt c = 4) : xab (jW L ω S) (jad L c) i = jgi (jlen L c (jgN S c)) (jgA S c) i := by
  rw [xab, jW_ia hL hc hk (by omega)]
  simp [jgi]
theorem jm_az {L : jL} (hL : jgood L) {ω : xS} {S : jSt} {c : jC} {i : Int32} (hc : jok L c) (hk : jkt c = 5) : xaz (jW L ω S) (jad L c) i = jgi (jlen L c (jgN S c)) (jgA S c) i := by
  rw [xaz, jW_ia hL hc hk (by omega)]
  simp [jgi]
theorem jm_al {L : jL} (hL : jgood L) {ω : xS} {S : jSt} {c : jC} {i : Int32} (hc : jok L c) (hk : jkt c = 1) : xal (jW L ω S) (jad L c) i = jgl (jlen L c (jgN S c)) (jgG S c) i := by
  rw [xal, jW_at hL hc, jen, if_neg (by omega), if_pos hk]
  simp [jgl]
theorem jm_ar {L : jL} (hL : jgood L) {ω : xS} {S : jSt} {c : jC} {i : Int32} {t : Nat} (hc : jok L c) (hk : jkt c = t) (ht : t = 2 ∨ t = 3) (hi : ¬ (i < 0 ∨ jlen L c (jgN S c) ≤ i.toNatClampNeg)) : xar (jW L ω S) t (jad L c) i = some (jad L (jgX S c i.toNatClampNeg)) := by
  rw [xar, jW_at hL hc, jen, if_neg (by omega), if_neg (by omega), if_pos (by omega), hk]
  simp only
  rw [if_pos ⟨trivial, hi⟩, if_pos (by
    rcases Nat.lt_or_ge i.toNatClampNeg (jlen L c (jgN S c)) with h | h
    · exact h
    · exact absurd (Or.inr h) hi)]
theorem jm_an {L : jL} (hL : jgood L) {ω : xS} {S : jSt} {c : jC} (hc : jok L c) (hk : jkt c < 6) : xan (jW L ω S) (jad L c) = some (Int32.ofNat (jlen L c (jgN S c))) := by
  have h6 : xTy.length = 6 := rfl
  rw [xan, jW_at hL hc, jen, if_neg (by omega)]
  by_cases h1 : jkt c = 1
  · rw [if_pos h1]; simp only [h6]; rfl
  · rw [if_neg h1]
    by_cases h2 : jkt c = 2 ∨ jkt c = 3
    · rw [if_pos h2]; simp only [h6]; rw [if_pos hk]
    · rw [if_neg h2]; simp only [h6]; rw [if_pos hk]
theorem jm_st {L : jL} (hL : jgood L) {ω : xS} {S : jSt} {c : jC} {k : Nat} {v : Int32} (hc : jok L c) {t : Nat} (hk : jkt c = t) (ht : t = 0 ∨ t = 4 ∨ t = 5) : xu (jW L ω S) (jad L c) (.inl (t, jlen L c (jgN S c), .inl (upd (jgA S c) k v))) = jW L ω (jsA S c k v) := by
  refine jW_up hL hc ?_ fun c' hq => jen_sA hq
  rw [jen, if_neg (by omega), if_neg (by omega), if_neg (by omega), hk, jsA_N]
  congr 4
  funext j
  rw [jsA_A, upd]
  simp
theorem jm_si {L : jL} (hL : jgood L) {ω : xS} {S : jSt} {c : jC} {v : Int32} {i : Int32} (hc : jok L c) (hk : jkt c = 0) (hi : ¬ (i < 0 ∨ jlen L c (jgN S c) ≤ i.toNatClampNeg)) : xsi (jW L ω S) (jad L c) i v = some (jW L ω (jsA S c i.toNatClampNeg v)) := by
  rw [xsi, jW_ia hL hc hk (by omega)]
  simp only
  rw [if_pos ⟨trivial, hi⟩, jm_st hL hc hk (by omega)]
theorem jm_sb {L : jL} (hL : jgood L) {ω : xS} {S : jSt} {c : jC} {v : Int32} {i : Int32} (hc : jok L c) (hk : jkt c = 4) (hi : ¬ (i < 0 ∨ jlen L c (jgN S c) ≤ i.toNatClampNeg)) : xsb (jW L ω S) (jad L c) i v = some (jW L ω (jsA S c i.toNatClampNeg (vp_nar .byte v))) := by
  rw [xsb, jW_ia hL hc hk (by omega)]
  simp only
  rw [if_pos ⟨trivial, hi⟩, jm_st hL hc hk (by omega)]
theorem jm_sz {L : jL} (hL : jgood L) {ω : xS} {S : jSt} {c : jC} {v : Int32} {i : Int32} (hc : jok L c) (hk : jkt c = 5) (hi : ¬ (i < 0 ∨ jlen L c (jgN S c) ≤ i.toNatClampNeg)) : xsz (jW L ω S) (jad L c) i v = some (jW L ω (jsA S c i.toNatClampNeg (vp_nar .boolean v))) := by
  rw [xsz, jW_ia hL hc hk (by omega)]
  simp only
  rw [if_pos ⟨trivial, hi⟩, jm_st hL hc hk (by omega)]
theorem jm_sl {L : jL} (hL : jgood L) {ω : xS} {S : jSt} {c : jC} {i : Int32} {v : Int64} (hc : jok L c) (hk : jkt c = 1) (hi : ¬ (i < 0 ∨ jlen L c (jgN S c) ≤ i.toNatClampNeg)) : xsl (jW L ω S) (jad L c) i v = some (jW L ω (jsG S c i.toNatClampNeg v)) := by
  rw [xsl, jW_at hL hc, jen, if_neg (by omega), if_pos hk]
  simp only
  rw [if_pos ⟨trivial, hi⟩]
  refine congrArg some (jW_up hL hc ?_ fun c' hq => jen_sG hq)
  rw [jen, if_neg (by omega), if_pos hk, jsG_N]
  congr 5
  funext j
  rw [jsG_G, vp_updL]
  simp
