/-! links, sums, the roster as numbers -/
def jmx (k : Nat) : jC := match k with
  | 2 => jm 1
  | 3 => jm 2
  | 4 => jm 3
  | 5 => jm 4
  | 6 => jm 5
  | 7 => jm 6
  | 8 => jm 7
  | 9 => jm 8
  | 10 => jm 9
  | 13 => jm 10
  | 14 => jm 11
  | 15 => jm 12
  | 16 => jm 13
  | 17 => jm 14
  | 18 => jm 15
  | 19 => jm 16
  | 21 => jm 17
  | 22 => jm 18
  | 23 => jm 19
  | 24 => jm 20
  | 25 => jm 21
  | 26 => jm 22
  | 27 => jm 23
  | 28 => jm 24
  | 29 => jm 25
  | 30 => jm 26
  | 45 => jm 27
  | 46 => jm 28
  | 47 => jm 29
  | 48 => jm 30
  | 49 => jm 31
  | 50 => jm 32
  | 51 => jm 33
  | 52 => jm 34
  | 53 => jm 35
  | 54 => jm 36
  | 55 => jm 37
  | 56 => jm 38
  | 57 => jm 39
  | 58 => jm 40
  | 59 => jm 41
  | 60 => jm 42
  | 61 => jm 43
  | 62 => jm 44
  | 63 => jm 45
  | 64 => jm 46
  | _ => jm 0
def jlk (sw ps wy : Nat) : jC → Nat → jC
  | .inl q, k => match q with
    | 0 => (match k with | 0 => jo 1 | 1 => jo 18 | 2 => jo 28 | 3 => jo 3 | 4 => jo 29 | 5 => jo 7 | 6 => jo (16 + sw) | 7 => jo (17 - sw) | _ => jo 0)
    | 1 => jo 2
    | 3 => (match k with | 0 => jo 4 | 1 => jo 5 | _ => jo 6)
    | 7 => (match k with | 0 => jo 8 | 1 => jo 9 | 2 => jo 10 | 3 => jo 11 | 4 => jo (12 + ps) | 5 => jo (13 - ps) | 6 => jo (14 + wy) | 7 => jo (15 - wy) | _ => jo 0)
    | 16 => jl (2 * k) 0
    | 17 => jl (2 * k + 1) 0
    | 18 => (match k with | 2 => jo 19 | 3 => jo 20 | 4 => jo 21 | 5 => jo 22 | 6 => jo 23 | 7 => jo 24 | 8 => jo 25 | 9 => jo 26 | _ => jo 27)
    | 23 => jr 0 k | 24 => jr 1 k | 25 => jr 2 k | 26 => jr 3 k | 27 => jr 4 k
    | 28 => jo 18
    | 29 => (match k with | 0 => jo 30 | _ => jo 31)
    | 30 => jo 1
    | 31 => (match k with | 0 => jo 1 | 1 => jo 32 | 2 => jo 33 | _ => jo 34)
    | _ => jo 0
  | .inr (.inr (.inl (j, q))), k => match q with
    | 0 => (match k with | 0 => jl j 1 | _ => jl j 6)
    | 1 => (match k with | 0 => jl j 2 | 1 => jl j 3 | 2 => jl j 4 | _ => jl j 5)
    | 6 => jt j
    | _ => jo 0
  | .inr (.inr (.inr (.inr _))), k => jmx k
  | _, _ => jo 0
/-- every reference of the fixed objects is where it was laid, but for the three pairs that are swapped -/
def jLK (S : jSt) (sw ps wy : Nat) : Prop := ∀ c k, jgX S c k = jlk sw ps wy c k
theorem jLK.sI {S : jSt} {sw ps wy : Nat} (h : jLK S sw ps wy) (c : jC) (k : Nat) (v : Int32) : jLK (jsI S c k v) sw ps wy := h
theorem jLK.sA {S : jSt} {sw ps wy : Nat} (h : jLK S sw ps wy) (c : jC) (k : Nat) (v : Int32) : jLK (jsA S c k v) sw ps wy := h
theorem jLK.sG {S : jSt} {sw ps wy : Nat} (h : jLK S sw ps wy) (c : jC) (k : Nat) (v : Int64) : jLK (jsG S c k v) sw ps wy := h
theorem jokr {L : jL} {t p : Nat} (ht : t ≤ 3) (hp : p < jn L) : jok L (jr t p) := ⟨by omega, by rw [if_neg (by omega)]; exact hp⟩
theorem jokr4 {L : jL} {p : Nat} (hp : p < jd L) : jok L (jr 4 p) := ⟨Nat.le_refl _, by rw [if_pos rfl]; exact hp⟩
theorem jkt_r (t p : Nat) : jkt (jr t p) = 0 := rfl
theorem jkt_t (j : Nat) : jkt (jt j) = 0 := rfl
theorem jkt_l {j k y : Nat} (h : jkt (jl 0 k) = y) : jkt (jl j k) = y := h
theorem jkt_l6 {j k y : Nat} (h : jkt (jl 0 k) < y) : jkt (jl j k) < y := h
theorem jkt_r6 (t p : Nat) : jkt (jr t p) < 6 := (show 0 < 6 by decide)
theorem jkt_t6 (j : Nat) : jkt (jt j) < 6 := (show 0 < 6 by decide)
theorem jfk_l {j k i y : Nat} (h : (jfk (jl 0 k))[i]? = some y) : (jfk (jl j k))[i]? = some y := h
/-- sums -/
def jsm (f : Nat → Nat) : Nat → Nat
  | 0 => 0
  | k + 1 => jsm f k + f k
theorem jsm_ext {f g : Nat → Nat} : ∀ {k : Nat}, (∀ i, i < k → f i = g i) → jsm f k = jsm g k
  | 0, _ => rfl
  | k + 1, h => by rw [jsm, jsm, jsm_ext (fun i hi => h i (by omega)), h k (by omega)]
theorem jsm_upd {f g : Nat → Nat} {t : Nat} : ∀ {k : Nat}, t < k → (∀ i, i < k → i ≠ t → g i = f i) → jsm g k + f t = jsm f k + g t
  | 0, h, _ => by omega
  | k + 1, h, hg => by
    rw [jsm, jsm]
    by_cases e : t = k
    · subst e
      rw [jsm_ext (f := g) (g := f) (fun i hi => hg i (by omega) (by omega))]
      omega
    · have := jsm_upd (f := f) (g := g) (t := t) (k := k) (by omega) (fun i hi ht => hg i (by omega) ht)
      rw [hg k (by omega) (by omega)]
      omega
theorem jsm_le {f : Nat → Nat} {m : Nat} (h : ∀ i, f i ≤ m) : ∀ k, jsm f k ≤ k * m
  | 0 => Nat.zero_le _
  | k + 1 => by
    rw [jsm, Nat.succ_mul]
    have := jsm_le h k
    have := h k
    omega
theorem jsm_mono {f : Nat → Nat} {a b : Nat} (h : a ≤ b) : jsm f a ≤ jsm f b := by
  induction b with
  | zero => rw [Nat.le_zero.mp h]; exact Nat.le_refl _
  | succ b ih =>
    rcases Nat.lt_or_ge a (b + 1) with q | q
    · rw [jsm]; have := ih (by omega); omega
    · rw [show a = b + 1 by omega]; exact Nat.le_refl _
/-- the roster: letters by person and place (0 .. 6 the past, 7 on the days); the shifts by letter: begin, length, skill; skills by person; wishes: letter and weight -/
abbrev jR : Type := (Nat → Nat → Nat) × (Nat → Nat) × (Nat → Nat) × (Nat → Nat) × (Nat → Nat) × (Nat → Nat → Nat) × (Nat → Nat → Nat)
def jR.row (A : jR) : Nat → Nat → Nat := A.1
def jR.bg (A : jR) : Nat → Nat := A.2.1
def jR.ln (A : jR) : Nat → Nat := A.2.2.1
def jR.nd (A : jR) : Nat → Nat := A.2.2.2.1
def jR.sk (A : jR) : Nat → Nat := A.2.2.2.2.1
def jR.wl (A : jR) : Nat → Nat → Nat := A.2.2.2.2.2.1
def jR.ww (A : jR) : Nat → Nat → Nat := A.2.2.2.2.2.2
def jRg (A : jR) : Prop := (∀ p j, jR.row A p j ≤ 8) ∧ (∀ l, jR.bg A l < 1440) ∧ (∀ l, jR.ln A l ≤ 1440) ∧ (jR.ln A 0 = 0) ∧ (∀ l, jR.nd A l ≤ 9) ∧ (∀ p, jR.sk A p ≤ 1023) ∧ (∀ p t, jR.wl A p t ≤ 8) ∧ (∀ p t, jR.ww A p t ≤ 1000)
theorem jRg.row {A : jR} (h : jRg A) : ∀ p j, jR.row A p j ≤ 8 := h.1
theorem jRg.bg {A : jR} (h : jRg A) : ∀ l, jR.bg A l < 1440 := h.2.1
theorem jRg.ln {A : jR} (h : jRg A) : ∀ l, jR.ln A l ≤ 1440 := h.2.2.1
theorem jRg.ln0 {A : jR} (h : jRg A) : jR.ln A 0 = 0 := h.2.2.2.1
theorem jRg.nd {A : jR} (h : jRg A) : ∀ l, jR.nd A l ≤ 9 := h.2.2.2.2.1
theorem jRg.sk {A : jR} (h : jRg A) : ∀ p, jR.sk A p ≤ 1023 := h.2.2.2.2.2.1
theorem jRg.wl {A : jR} (h : jRg A) : ∀ p t, jR.wl A p t ≤ 8 := h.2.2.2.2.2.2.1
theorem jRg.ww {A : jR} (h : jRg A) : ∀ p t, jR.ww A p t ≤ 1000 := h.2.2.2.2.2.2.2
def jdim (L : jL) : Prop := (1 ≤ jn L) ∧ (jn L ≤ 8) ∧ (1 ≤ jd L) ∧ (jd L ≤ 21)
theorem jdim.n1 {L : jL} (h : jdim L) : 1 ≤ jn L := h.1
theorem jdim.n8 {L : jL} (h : jdim L) : jn L ≤ 8 := h.2.1
theorem jdim.d1 {L : jL} (h : jdim L) : 1 ≤ jd L := h.2.2.1
theorem jdim.d21 {L : jL} (h : jdim L) : jd L ≤ 21 := h.2.2.2
def jis (a b : Nat) : Nat := if a = b then 1 else 0
def jno (a : Nat) : Nat := if a = 0 then 0 else 1
/-- the reference's roster -/
def jRM (L : jL) (S : jSt) (A : jR) : Prop := (jgI S (jm 0) 0 = nI (jn L)) ∧ (jgI S (jm 0) 1 = nI (jd L)) ∧ (∀ p t, p < jn L → t < jd L → jgA S (jm 1) (21 * p + t) = nI (jR.row A p (7 + t)) - nI 1) ∧ (∀ p j, p < jn L → j < 7 → jgA S (jm 2) (7 * p + (6 - j)) = nI (jR.row A p j) - nI 1) ∧ (∀ l, l < 8 → jgA S (jm 3) l = nI (jR.bg A (l + 1))) ∧ (∀ l, l < 8 → jgA S (jm 4) l = nI (jR.ln A (l + 1))) ∧ (∀ l, l < 8 → jgA S (jm 5) l = nI (jR.nd A (l + 1))) ∧ (∀ p, p < jn L → jgA S (jm 6) p = nI (jR.sk A p)) ∧ (∀ p t, p < jn L → t < jd L → jR.ww A p t ≠ 0 → jgA S (jm 7) (21 * p + t) = nI (jR.wl A p t) - nI 1) ∧ (∀ p t, p < jn L → t < jd L → jgA S (jm 8) (21 * p + t) = nI (jR.ww A p t))
theorem jRM.n {L : jL} {S : jSt} {A : jR} (h : jRM L S A) : jgI S (jm 0) 0 = nI (jn L) := h.1
theorem jRM.d {L : jL} {S : jSt} {A : jR} (h : jRM L S A) : jgI S (jm 0) 1 = nI (jd L) := h.2.1
theorem jRM.cell {L : jL} {S : jSt} {A : jR} (h : jRM L S A) : ∀ p t, p < jn L → t < jd L → jgA S (jm 1) (21 * p + t) = nI (jR.row A p (7 + t)) - nI 1 := h.2.2.1
theorem jRM.past {L : jL} {S : jSt} {A : jR} (h : jRM L S A) : ∀ p j, p < jn L → j < 7 → jgA S (jm 2) (7 * p + (6 - j)) = nI (jR.row A p j) - nI 1 := h.2.2.2.1
theorem jRM.bg {L : jL} {S : jSt} {A : jR} (h : jRM L S A) : ∀ l, l < 8 → jgA S (jm 3) l = nI (jR.bg A (l + 1)) := h.2.2.2.2.1
theorem jRM.ln {L : jL} {S : jSt} {A : jR} (h : jRM L S A) : ∀ l, l < 8 → jgA S (jm 4) l = nI (jR.ln A (l + 1)) := h.2.2.2.2.2.1
theorem jRM.nd {L : jL} {S : jSt} {A : jR} (h : jRM L S A) : ∀ l, l < 8 → jgA S (jm 5) l = nI (jR.nd A (l + 1)) := h.2.2.2.2.2.2.1
theorem jRM.sk {L : jL} {S : jSt} {A : jR} (h : jRM L S A) : ∀ p, p < jn L → jgA S (jm 6) p = nI (jR.sk A p) := h.2.2.2.2.2.2.2.1
theorem jRM.wl {L : jL} {S : jSt} {A : jR} (h : jRM L S A) : ∀ p t, p < jn L → t < jd L → jR.ww A p t ≠ 0 → jgA S (jm 7) (21 * p + t) = nI (jR.wl A p t) - nI 1 := h.2.2.2.2.2.2.2.2.1
theorem jRM.ww {L : jL} {S : jSt} {A : jR} (h : jRM L S A) : ∀ p t, p < jn L → t < jd L → jgA S (jm 8) (21 * p + t) = nI (jR.ww A p t) := h.2.2.2.2.2.2.2.2.2
/-- the class's roster -/
def jRC (L : jL) (S : jSt) (A : jR) : Prop := (jgI S (jo 18) 0 = nI (jn L)) ∧ (jgI S (jo 18) 1 = nI (jd L)) ∧ (∀ l, l ≤ 8 → 1 ≤ l → jgA S (jo 19) l = nI (jR.bg A l)) ∧ (∀ l, l ≤ 8 → jgA S (jo 20) l = nI (jR.ln A l)) ∧ (∀ l, l ≤ 8 → 1 ≤ l → jgA S (jo 21) l = nI (jR.nd A l)) ∧ (∀ p, p < jn L → jgA S (jo 22) p = nI (jR.sk A p)) ∧ (∀ p j, p < jn L → j < 7 + jd L → jgA S (jr 0 p) j = nI (jR.row A p j)) ∧ (∀ p t, p < jn L → t < jd L → jR.ww A p t ≠ 0 → jgA S (jr 1 p) t = nI (jR.wl A p t)) ∧ (∀ p t, p < jn L → t < jd L → jgA S (jr 2 p) t = nI (jR.ww A p t)) ∧ (∀ p l, p < jn L → l ≤ 8 → jgA S (jr 3 p) l = nI (jsm (fun t => jis (jR.row A p (7 + t)) l) (jd L))) ∧ (∀ t l, t < jd L → l ≤ 8 → jgA S (jr 4 t) l = nI (jsm (fun p => jis (jR.row A p (7 + t)) l) (jn L))) ∧ (jgI S (jo 18) 11 = nI (jsm (fun p => jsm (fun t => jno (jR.row A p (7 + t))) (jd L)) (jn L))) ∧ (jgI S (jo 18) 12 = nI (jsm (fun p => jsm (fun t => jno (jR.ww A p t)) (jd L)) (jn L)))
theorem jRC.n {L : jL} {S : jSt} {A : jR} (h : jRC L S A) : jgI S (jo 18) 0 = nI (jn L) := h.1
theorem jRC.d {L : jL} {S : jSt} {A : jR} (h : jRC L S A) : jgI S (jo 18) 1 = nI (jd L) := h.2.1
theorem jRC.bg {L : jL} {S : jSt} {A : jR} (h : jRC L S A) : ∀ l, l ≤ 8 → 1 ≤ l → jgA S (jo 19) l = nI (jR.bg A l) := h.2.2.1
theorem jRC.ln {L : jL} {S : jSt} {A : jR} (h : jRC L S A) : ∀ l, l ≤ 8 → jgA S (jo 20) l = nI (jR.ln A l) := h.2.2.2.1
theorem jRC.nd {L : jL} {S : jSt} {A : jR} (h : jRC L S A) : ∀ l, l ≤ 8 → 1 ≤ l → jgA S (jo 21) l = nI (jR.nd A l) := h.2.2.2.2.1
theorem jRC.sk {L : jL} {S : jSt} {A : jR} (h : jRC L S A) : ∀ p, p < jn L → jgA S (jo 22) p = nI (jR.sk A p) := h.2.2.2.2.2.1
theorem jRC.row {L : jL} {S : jSt} {A : jR} (h : jRC L S A) : ∀ p j, p < jn L → j < 7 + jd L → jgA S (jr 0 p) j = nI (jR.row A p j) := h.2.2.2.2.2.2.1
theorem jRC.wl {L : jL} {S : jSt} {A : jR} (h : jRC L S A) : ∀ p t, p < jn L → t < jd L → jR.ww A p t ≠ 0 → jgA S (jr 1 p) t = nI (jR.wl A p t) := h.2.2.2.2.2.2.2.1
theorem jRC.ww {L : jL} {S : jSt} {A : jR} (h : jRC L S A) : ∀ p t, p < jn L → t < jd L → jgA S (jr 2 p) t = nI (jR.ww A p t) := h.2.2.2.2.2.2.2.2.1
theorem jRC.tf {L : jL} {S : jSt} {A : jR} (h : jRC L S A) : ∀ p l, p < jn L → l ≤ 8 → jgA S (jr 3 p) l = nI (jsm (fun t => jis (jR.row A p (7 + t)) l) (jd L)) := h.2.2.2.2.2.2.2.2.2.1
theorem jRC.tn {L : jL} {S : jSt} {A : jR} (h : jRC L S A) : ∀ t l, t < jd L → l ≤ 8 → jgA S (jr 4 t) l = nI (jsm (fun p => jis (jR.row A p (7 + t)) l) (jn L)) := h.2.2.2.2.2.2.2.2.2.2.1
theorem jRC.fi {L : jL} {S : jSt} {A : jR} (h : jRC L S A) : jgI S (jo 18) 11 = nI (jsm (fun p => jsm (fun t => jno (jR.row A p (7 + t))) (jd L)) (jn L)) := h.2.2.2.2.2.2.2.2.2.2.2.1
theorem jRC.wi {L : jL} {S : jSt} {A : jR} (h : jRC L S A) : jgI S (jo 18) 12 = nI (jsm (fun p => jsm (fun t => jno (jR.ww A p t)) (jd L)) (jn L)) := h.2.2.2.2.2.2.2.2.2.2.2.2
