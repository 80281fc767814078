/-! a cell is set -/
theorem jsA_ne {S : jSt} {c c' : jC} {k k' : Nat} {v : Int32} (h : c' ≠ c) : jgA (jsA S c k v) c' k' = jgA S c' k' := by rw [jsA_A, if_neg (fun q => h q.1)]
theorem jsI_ne {S : jSt} {c c' : jC} {k k' : Nat} {v : Int32} (h : c' ≠ c ∨ k' ≠ k) : jgI (jsI S c k v) c' k' = jgI S c' k' := by rw [jsI_I, if_neg (fun q => h.elim (fun z => z q.1) (fun z => z q.2))]
def jR.put (A : jR) (p t l : Nat) : jR := ((fun q j => if q = p ∧ j = 7 + t then l else jR.row A q j), A.2)
theorem jR.put_row (A : jR) (p t l q j : Nat) : jR.row (jR.put A p t l) q j = if q = p ∧ j = 7 + t then l else jR.row A q j := rfl
theorem jR.put_good {A : jR} (hA : jRg A) {p t l : Nat} (hl : l ≤ 8) : jRg (jR.put A p t l) := by
  refine ⟨fun q j => ?_, hA.bg, hA.ln, hA.ln0, hA.nd, hA.sk, hA.wl, hA.ww⟩
  rw [jR.put_row]
  split
  · exact hl
  · exact hA.row q j
theorem jR.put_back (A : jR) (p t l : Nat) : jR.put (jR.put A p t l) p t (jR.row A p (7 + t)) = A := by
  refine Prod.ext (funext fun q => funext fun j => ?_) rfl
  show (if q = p ∧ j = 7 + t then jR.row A p (7 + t) else jR.row (jR.put A p t l) q j) = jR.row A q j
  rw [jR.put_row]
  by_cases h : q = p ∧ j = 7 + t
  · rw [if_pos h, h.1, h.2]
  · rw [if_neg h, if_neg h]
/-- the reference's cell -/
theorem jRM.put {L : jL} {S : jSt} {A : jR} (h : jRM L S A) (hD : jdim L) {p t l : Nat} (hp : p < jn L) (ht : t < jd L) : jRM L (jsA S (jm 1) (21 * p + t) (nI l - nI 1)) (jR.put A p t l) := by
  have h2 := hD.d21
  refine ⟨h.n, h.d, fun q u hq hu => ?_, fun q j hq hj => ?_, fun l hl => ?_, fun l hl => ?_, fun l hl => ?_, fun q hq => ?_, fun q u hq hu hx => ?_, fun q u hq hu => ?_⟩
  · rw [jsA_A, jR.put_row]
    by_cases c : q = p ∧ u = t
    · rw [if_pos ⟨rfl, by rw [c.1, c.2]⟩, if_pos ⟨c.1, by rw [c.2]⟩]
    · rw [if_neg (fun z => c (by omega)), if_neg (fun z => c ⟨z.1, by omega⟩)]
      exact h.cell q u hq hu
  · rw [jsA_ne (by decide), jR.put_row, if_neg (fun z => by omega)]
    exact h.past q j hq hj
  · rw [jsA_ne (by decide)]; exact h.bg l hl
  · rw [jsA_ne (by decide)]; exact h.ln l hl
  · rw [jsA_ne (by decide)]; exact h.nd l hl
  · rw [jsA_ne (by decide)]; exact h.sk q hq
  · rw [jsA_ne (by decide)]; exact h.wl q u hq hu hx
  · rw [jsA_ne (by decide)]; exact h.ww q u hq hu
theorem jsA_back (S : jSt) (c : jC) (k : Nat) (v : Int32) : jsA (jsA S c k v) c k (jgA S c k) = S := by
  refine Prod.ext rfl (Prod.ext (funext fun c' => funext fun k' => ?_) rfl)
  show (if c' = c ∧ k' = k then jgA S c k else if c' = c ∧ k' = k then v else S.2.1 c' k') = S.2.1 c' k'
  by_cases h : c' = c ∧ k' = k
  · rw [if_pos h, h.1, h.2]; rfl
  · rw [if_neg h, if_neg h]
/-- the class's cell: the row, the letters' counters, the filled cells -/
def jcell (S : jSt) (p t f l : Nat) : jSt := (fun c k => if c = jo 18 ∧ k = 11 then S.1 c k + ((if l = 0 then nI 0 else nI 1) - (if f = 0 then nI 0 else nI 1)) else S.1 c k, fun c k => if c = jr 0 p ∧ k = 7 + t then nI l else if c = jr 3 p ∨ c = jr 4 t then S.2.1 c k - (if k = f then nI 1 else nI 0) + (if k = l then nI 1 else nI 0) else S.2.1 c k, S.2.2)
theorem jcell_A (S : jSt) (p t f l : Nat) (c : jC) (k : Nat) : jgA (jcell S p t f l) c k = if c = jr 0 p ∧ k = 7 + t then nI l else if c = jr 3 p ∨ c = jr 4 t then jgA S c k - (if k = f then nI 1 else nI 0) + (if k = l then nI 1 else nI 0) else jgA S c k := rfl
theorem jcell_I (S : jSt) (p t f l : Nat) (c : jC) (k : Nat) : jgI (jcell S p t f l) c k = if c = jo 18 ∧ k = 11 then jgI S c k + ((if l = 0 then nI 0 else nI 1) - (if f = 0 then nI 0 else nI 1)) else jgI S c k := rfl
theorem jcell_back (S : jSt) {p t f l : Nat} (h : jgA S (jr 0 p) (7 + t) = nI f) : jcell (jcell S p t f l) p t l f = S := by
  have h : S.2.1 (jr 0 p) (7 + t) = nI f := h
  refine Prod.ext (funext fun c => funext fun k => ?_) (Prod.ext (funext fun c => funext fun k => ?_) rfl)
  · show (if c = jo 18 ∧ k = 11 then (if c = jo 18 ∧ k = 11 then S.1 c k + ((if l = 0 then nI 0 else nI 1) - (if f = 0 then nI 0 else nI 1)) else S.1 c k) + ((if f = 0 then nI 0 else nI 1) - (if l = 0 then nI 0 else nI 1)) else (if c = jo 18 ∧ k = 11 then S.1 c k + ((if l = 0 then nI 0 else nI 1) - (if f = 0 then nI 0 else nI 1)) else S.1 c k)) = S.1 c k
    by_cases q : c = jo 18 ∧ k = 11
    · rw [if_pos q, if_pos q]
      generalize (if l = 0 then nI 0 else nI 1) = a
      generalize (if f = 0 then nI 0 else nI 1) = b
      generalize S.1 c k = d
      grind
    · rw [if_neg q, if_neg q]
  · show (if c = jr 0 p ∧ k = 7 + t then nI f else if c = jr 3 p ∨ c = jr 4 t then (if c = jr 0 p ∧ k = 7 + t then nI l else if c = jr 3 p ∨ c = jr 4 t then S.2.1 c k - (if k = f then nI 1 else nI 0) + (if k = l then nI 1 else nI 0) else S.2.1 c k) - (if k = l then nI 1 else nI 0) + (if k = f then nI 1 else nI 0) else (if c = jr 0 p ∧ k = 7 + t then nI l else if c = jr 3 p ∨ c = jr 4 t then S.2.1 c k - (if k = f then nI 1 else nI 0) + (if k = l then nI 1 else nI 0) else S.2.1 c k)) = S.2.1 c k
    by_cases q : c = jr 0 p ∧ k = 7 + t
    · rw [if_pos q, q.1, q.2, h]
    · rw [if_neg q, if_neg q]
      by_cases q2 : c = jr 3 p ∨ c = jr 4 t
      · rw [if_pos q2, if_pos q2]
        generalize (if k = l then nI 1 else nI 0) = a
        generalize (if k = f then nI 1 else nI 0) = b
        generalize S.2.1 c k = d
        grind
      · rw [if_neg q2, if_neg q2]
theorem jcell_seq (S : jSt) (p t f l : Nat) (v : Int32) (hv : v = (if l = 0 then nI 0 else nI 1) - (if f = 0 then nI 0 else nI 1)) {S1 S2 S3 S4 S5 : jSt} (h1 : S1 = jsA S (jr 0 p) (7 + t) (nI l)) (h2 : S2 = jsA S1 (jr 3 p) f (jgA S1 (jr 3 p) f - nI 1)) (h3 : S3 = jsA S2 (jr 4 t) f (jgA S2 (jr 4 t) f - nI 1)) (h4 : S4 = jsA S3 (jr 3 p) l (jgA S3 (jr 3 p) l + nI 1)) (h5 : S5 = jsA S4 (jr 4 t) l (jgA S4 (jr 4 t) l + nI 1)) : jsI S5 (jo 18) 11 (jgI S5 (jo 18) 11 + v) = jcell S p t f l := by
  have n30 : jr 3 p ≠ jr 0 p := fun q => by cases q
  have n40 : jr 4 t ≠ jr 0 p := fun q => by cases q
  have n43 : jr 4 t ≠ jr 3 p := fun q => by cases q
  have n34 : jr 3 p ≠ jr 4 t := fun q => by cases q
  have n03 : jr 0 p ≠ jr 3 p := fun q => by cases q
  have n04 : jr 0 p ≠ jr 4 t := fun q => by cases q
  have hI : jgI S5 = jgI S := by rw [h5, h4, h3, h2, h1]; rfl
  have hA : ∀ c k, jgA S5 c k = jgA (jcell S p t f l) c k := by
    intro c k
    rw [jcell_A]
    subst h1
    subst h2
    subst h3
    subst h4
    subst h5
    have z0 : nI 0 = 0 := rfl
    by_cases c0 : c = jr 0 p
    · subst c0
      simp only [jsA_A, n03, n04, n30, n40, n34, n43, false_and, if_false, true_and, or_self]
    · by_cases c3 : c = jr 3 p
      · subst c3
        simp only [jsA_A, n03, n04, n30, n40, n34, n43, false_and, if_false, true_and, or_false, if_true]
        by_cases k1 : k = l
        · subst k1
          by_cases k2 : k = f
          · subst k2; simp
          · simp [k2, z0]
        · by_cases k2 : k = f
          · subst k2; simp [k1, z0]
          · simp [k1, k2, z0]
      · by_cases c4 : c = jr 4 t
        · subst c4
          simp only [jsA_A, n03, n04, n30, n40, n34, n43, false_and, if_false, true_and, false_or, if_true]
          by_cases k1 : k = l
          · subst k1
            by_cases k2 : k = f
            · subst k2; simp
            · simp [k2, z0]
          · by_cases k2 : k = f
            · subst k2; simp [k1, z0]
            · simp [k1, k2, z0]
        · simp only [jsA_A, c0, c3, c4, false_and, if_false, or_self]
  refine Prod.ext (funext fun c => funext fun k => ?_) (Prod.ext (funext fun c => funext fun k => ?_) ?_)
  · show jgI (jsI S5 (jo 18) 11 (jgI S5 (jo 18) 11 + v)) c k = jgI (jcell S p t f l) c k
    rw [jsI_I, jcell_I, hI, hv]
    by_cases q : c = jo 18 ∧ k = 11
    · rw [if_pos q, if_pos q, q.1, q.2]
    · rw [if_neg q, if_neg q]
  · exact hA c k
  · show S5.2.2 = S.2.2
    rw [h5, h4, h3, h2, h1]
    rfl
