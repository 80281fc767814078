/-! THE LAWS as numbers: count; by law: sort, weight, place, low, high, span, letter; of patterns: places, letters of a place, followers of a place (10: the begin), last places, whether the empty row is a word; of their least automata: states, the pairs' targets, ends -/
abbrev jLw : Type := Nat × (Nat → Nat) × (Nat → Nat) × (Nat → Nat) × (Nat → Nat) × (Nat → Nat) × (Nat → Nat) × (Nat → Nat) × (Nat → Nat) × (Nat → Nat → Nat) × (Nat → Nat → Nat) × (Nat → Nat) × (Nat → Nat) × (Nat → Nat) × (Nat → Nat → Nat) × (Nat → Nat → Nat) × (Nat → Nat)
def jLw.n (w : jLw) : Nat := w.1
def jLw.so (w : jLw) : Nat → Nat := w.2.1
def jLw.wt (w : jLw) : Nat → Nat := w.2.2.1
def jLw.pl (w : jLw) : Nat → Nat := w.2.2.2.1
def jLw.lo (w : jLw) : Nat → Nat := w.2.2.2.2.1
def jLw.hi (w : jLw) : Nat → Nat := w.2.2.2.2.2.1
def jLw.sp (w : jLw) : Nat → Nat := w.2.2.2.2.2.2.1
def jLw.lt (w : jLw) : Nat → Nat := w.2.2.2.2.2.2.2.1
def jLw.sz (w : jLw) : Nat → Nat := w.2.2.2.2.2.2.2.2.1
def jLw.ls (w : jLw) : Nat → Nat → Nat := w.2.2.2.2.2.2.2.2.2.1
def jLw.fo (w : jLw) : Nat → Nat → Nat := w.2.2.2.2.2.2.2.2.2.2.1
def jLw.la (w : jLw) : Nat → Nat := w.2.2.2.2.2.2.2.2.2.2.2.1
def jLw.no (w : jLw) : Nat → Nat := w.2.2.2.2.2.2.2.2.2.2.2.2.1
def jLw.ns (w : jLw) : Nat → Nat := w.2.2.2.2.2.2.2.2.2.2.2.2.2.1
def jLw.nx (w : jLw) : Nat → Nat → Nat := w.2.2.2.2.2.2.2.2.2.2.2.2.2.2.1
def jLw.fe (w : jLw) : Nat → Nat → Nat := w.2.2.2.2.2.2.2.2.2.2.2.2.2.2.2.1
/-- the tables' lengths, in states, by law object -/
def jLw.tl (w : jLw) : Nat → Nat := w.2.2.2.2.2.2.2.2.2.2.2.2.2.2.2.2
def jLw.pt (w : jLw) (k : Nat) : Prop := jLw.so w k = 3 ∨ jLw.so w k = 4
/-- a pattern's step -/
def jLw.dl (w : jLw) (k s l : Nat) : Nat := jdl (jLw.sz w k) (jLw.ls w k) (jLw.fo w k) s l
/-- a set that ends a word -/
def jLw.ac (w : jLw) (k s : Nat) : Nat := if s &&& jLw.la w k ≠ 0 ∨ (s = 1024 ∧ jLw.no w k = 1) then 1 else 0
/-- runs: of sets, of states -/
def jrs (dl : Nat → Nat → Nat) (x : Nat → Nat) : Nat → Nat
  | 0 => 1024
  | n + 1 => dl (jrs dl x n) (x n)
def jrn (nx : Nat → Nat) (x : Nat → Nat) : Nat → Nat
  | 0 => 0
  | n + 1 => nx (9 * jrn nx x n + x n)
/-- what holds of the laws by themselves -/
def jLg (L : jL) (w : jLw) : Prop := (jLw.n w ≤ 16) ∧ (∀ k, k < jLw.n w → jLw.so w k ≤ 6) ∧ (∀ k, k < jLw.n w → jLw.wt w k ≤ 1000) ∧ (∀ k, k < jLw.n w → jLw.pl w k < 1500) ∧ (∀ k, k < jLw.n w → jLw.lo w k ≤ 99999) ∧ (∀ k, k < jLw.n w → jLw.hi w k ≤ 99999) ∧ (∀ k, k < jLw.n w → jLw.so w k = 2 ∨ jLw.so w k = 6 → jLw.lo w k ≤ jLw.hi w k) ∧ (∀ k, k < jLw.n w → jLw.so w k = 2 → 1 ≤ jLw.sp w k ∧ jLw.sp w k ≤ jd L) ∧ (∀ k, k < jLw.n w → jLw.so w k = 5 ∨ jLw.so w k = 6 → 1 ≤ jLw.lt w k ∧ jLw.lt w k ≤ 8) ∧ (∀ k, k < jLw.n w → jLw.pt w k → jLw.sz w k ≤ 10) ∧ (∀ k p, k < jLw.n w → jLw.pt w k → jLw.ls w k p < 512) ∧ (∀ k q, k < jLw.n w → jLw.pt w k → jLw.fo w k q < 1024) ∧ (∀ k, k < jLw.n w → jLw.pt w k → jLw.la w k < 1024) ∧ (∀ k, k < jLw.n w → jLw.pt w k → jLw.no w k ≤ 1) ∧ (∀ k, k < jLw.n w → jLw.pt w k → 1 ≤ jLw.ns w k ∧ jLw.ns w k ≤ 1025) ∧ (∀ k m, k < jLw.n w → jLw.pt w k → m < 9 * jLw.ns w k → jLw.nx w k m < jLw.ns w k) ∧ (∀ k s, k < jLw.n w → jLw.pt w k → jLw.fe w k s ≤ 1) ∧ (∀ k (x : Nat → Nat) n, k < jLw.n w → jLw.pt w k → (∀ i, i < n → x i < 9) → jLw.fe w k (jrn (jLw.nx w k) x n) = jLw.ac w k (jrs (jLw.dl w k) x n)) ∧ (∀ k, k < jLw.n w → jLw.pt w k → ∃ c, jBO (jLw.ns w k) (jLw.nx w k) c) ∧ (∀ k, k < jLw.n w → jLw.pt w k → ∃ s, s < jLw.ns w k ∧ jLw.fe w k s = 1) ∧ (∀ k, k < jLw.n w → jLw.pt w k → jAS (jLw.dl w k) (jLw.ac w k) (jLw.ns w k) (jLw.nx w k) (jLw.fe w k))
theorem jLg.n16 {L : jL} {w : jLw} (h : jLg L w) : jLw.n w ≤ 16 := h.1
theorem jLg.so {L : jL} {w : jLw} (h : jLg L w) : ∀ k, k < jLw.n w → jLw.so w k ≤ 6 := h.2.1
theorem jLg.wt {L : jL} {w : jLw} (h : jLg L w) : ∀ k, k < jLw.n w → jLw.wt w k ≤ 1000 := h.2.2.1
theorem jLg.pl {L : jL} {w : jLw} (h : jLg L w) : ∀ k, k < jLw.n w → jLw.pl w k < 1500 := h.2.2.2.1
theorem jLg.lo {L : jL} {w : jLw} (h : jLg L w) : ∀ k, k < jLw.n w → jLw.lo w k ≤ 99999 := h.2.2.2.2.1
theorem jLg.hi {L : jL} {w : jLw} (h : jLg L w) : ∀ k, k < jLw.n w → jLw.hi w k ≤ 99999 := h.2.2.2.2.2.1
theorem jLg.lh {L : jL} {w : jLw} (h : jLg L w) : ∀ k, k < jLw.n w → jLw.so w k = 2 ∨ jLw.so w k = 6 → jLw.lo w k ≤ jLw.hi w k := h.2.2.2.2.2.2.1
theorem jLg.sp {L : jL} {w : jLw} (h : jLg L w) : ∀ k, k < jLw.n w → jLw.so w k = 2 → 1 ≤ jLw.sp w k ∧ jLw.sp w k ≤ jd L := h.2.2.2.2.2.2.2.1
theorem jLg.lt {L : jL} {w : jLw} (h : jLg L w) : ∀ k, k < jLw.n w → jLw.so w k = 5 ∨ jLw.so w k = 6 → 1 ≤ jLw.lt w k ∧ jLw.lt w k ≤ 8 := h.2.2.2.2.2.2.2.2.1
theorem jLg.sz {L : jL} {w : jLw} (h : jLg L w) : ∀ k, k < jLw.n w → jLw.pt w k → jLw.sz w k ≤ 10 := h.2.2.2.2.2.2.2.2.2.1
theorem jLg.ls {L : jL} {w : jLw} (h : jLg L w) : ∀ k p, k < jLw.n w → jLw.pt w k → jLw.ls w k p < 512 := h.2.2.2.2.2.2.2.2.2.2.1
theorem jLg.fo {L : jL} {w : jLw} (h : jLg L w) : ∀ k q, k < jLw.n w → jLw.pt w k → jLw.fo w k q < 1024 := h.2.2.2.2.2.2.2.2.2.2.2.1
theorem jLg.la {L : jL} {w : jLw} (h : jLg L w) : ∀ k, k < jLw.n w → jLw.pt w k → jLw.la w k < 1024 := h.2.2.2.2.2.2.2.2.2.2.2.2.1
theorem jLg.no {L : jL} {w : jLw} (h : jLg L w) : ∀ k, k < jLw.n w → jLw.pt w k → jLw.no w k ≤ 1 := h.2.2.2.2.2.2.2.2.2.2.2.2.2.1
theorem jLg.ns {L : jL} {w : jLw} (h : jLg L w) : ∀ k, k < jLw.n w → jLw.pt w k → 1 ≤ jLw.ns w k ∧ jLw.ns w k ≤ 1025 := h.2.2.2.2.2.2.2.2.2.2.2.2.2.2.1
theorem jLg.nx {L : jL} {w : jLw} (h : jLg L w) : ∀ k m, k < jLw.n w → jLw.pt w k → m < 9 * jLw.ns w k → jLw.nx w k m < jLw.ns w k := h.2.2.2.2.2.2.2.2.2.2.2.2.2.2.2.1
theorem jLg.fe {L : jL} {w : jLw} (h : jLg L w) : ∀ k s, k < jLw.n w → jLw.pt w k → jLw.fe w k s ≤ 1 := h.2.2.2.2.2.2.2.2.2.2.2.2.2.2.2.2.1
theorem jLg.run {L : jL} {w : jLw} (h : jLg L w) : ∀ k (x : Nat → Nat) n, k < jLw.n w → jLw.pt w k → (∀ i, i < n → x i < 9) → jLw.fe w k (jrn (jLw.nx w k) x n) = jLw.ac w k (jrs (jLw.dl w k) x n) := h.2.2.2.2.2.2.2.2.2.2.2.2.2.2.2.2.2.1
theorem jLg.bo {L : jL} {w : jLw} (h : jLg L w) : ∀ k, k < jLw.n w → jLw.pt w k → ∃ c, jBO (jLw.ns w k) (jLw.nx w k) c := h.2.2.2.2.2.2.2.2.2.2.2.2.2.2.2.2.2.2.1
theorem jLg.al {L : jL} {w : jLw} (h : jLg L w) : ∀ k, k < jLw.n w → jLw.pt w k → ∃ s, s < jLw.ns w k ∧ jLw.fe w k s = 1 := h.2.2.2.2.2.2.2.2.2.2.2.2.2.2.2.2.2.2.2.1
theorem jLg.as {L : jL} {w : jLw} (h : jLg L w) : ∀ k, k < jLw.n w → jLw.pt w k → jAS (jLw.dl w k) (jLw.ac w k) (jLw.ns w k) (jLw.nx w k) (jLw.fe w k) := h.2.2.2.2.2.2.2.2.2.2.2.2.2.2.2.2.2.2.2.2
/-- the reference's laws -/
def jLM (S : jSt) (w : jLw) : Prop := (jgI S (jm 0) 20 = nI (jLw.n w)) ∧ (∀ k, k < jLw.n w → jgA S (jm 10) k = nI (jLw.so w k)) ∧ (∀ k, k < jLw.n w → jgA S (jm 11) k = nI (jLw.wt w k)) ∧ (∀ k, k < jLw.n w → jgA S (jm 12) k = nI (jLw.pl w k)) ∧ (∀ k, k < jLw.n w → jgA S (jm 13) k = nI (jLw.lo w k)) ∧ (∀ k, k < jLw.n w → jgA S (jm 14) k = nI (jLw.hi w k)) ∧ (∀ k, k < jLw.n w → jgA S (jm 15) k = nI (jLw.sp w k)) ∧ (∀ k, k < jLw.n w → jLw.so w k = 5 ∨ jLw.so w k = 6 → jgA S (jm 16) k = nI (jLw.lt w k) - nI 1) ∧ (∀ k, k < jLw.n w → jLw.pt w k → jgA S (jm 21) k = nI (jLw.sz w k)) ∧ (∀ k p, k < jLw.n w → jLw.pt w k → p < jLw.sz w k → jgA S (jm 17) (10 * k + p) = nI (jLw.ls w k p)) ∧ (∀ k q, k < jLw.n w → jLw.pt w k → q < 11 → jgA S (jm 18) (11 * k + q) = nI (jLw.fo w k q)) ∧ (∀ k, k < jLw.n w → jLw.pt w k → jgA S (jm 19) k = nI (jLw.la w k)) ∧ (∀ k, k < jLw.n w → jLw.pt w k → jgA S (jm 20) k = nI (jLw.no w k)) ∧ (∀ k, k < jLw.n w → jLw.pt w k → jgA S (jm 22) k = nI (jLw.ns w k)) ∧ (∀ k m, k < jLw.n w → jLw.pt w k → m < 9 * jLw.ns w k → jgA S (jm 23) (9225 * k + m) = nI (jLw.nx w k m)) ∧ (∀ k s, k < jLw.n w → jLw.pt w k → s < jLw.ns w k → jgA S (jm 24) (1025 * k + s) = nI (jLw.fe w k s))
theorem jLM.n {S : jSt} {w : jLw} (h : jLM S w) : jgI S (jm 0) 20 = nI (jLw.n w) := h.1
theorem jLM.so {S : jSt} {w : jLw} (h : jLM S w) : ∀ k, k < jLw.n w → jgA S (jm 10) k = nI (jLw.so w k) := h.2.1
theorem jLM.wt {S : jSt} {w : jLw} (h : jLM S w) : ∀ k, k < jLw.n w → jgA S (jm 11) k = nI (jLw.wt w k) := h.2.2.1
theorem jLM.pl {S : jSt} {w : jLw} (h : jLM S w) : ∀ k, k < jLw.n w → jgA S (jm 12) k = nI (jLw.pl w k) := h.2.2.2.1
theorem jLM.lo {S : jSt} {w : jLw} (h : jLM S w) : ∀ k, k < jLw.n w → jgA S (jm 13) k = nI (jLw.lo w k) := h.2.2.2.2.1
theorem jLM.hi {S : jSt} {w : jLw} (h : jLM S w) : ∀ k, k < jLw.n w → jgA S (jm 14) k = nI (jLw.hi w k) := h.2.2.2.2.2.1
theorem jLM.sp {S : jSt} {w : jLw} (h : jLM S w) : ∀ k, k < jLw.n w → jgA S (jm 15) k = nI (jLw.sp w k) := h.2.2.2.2.2.2.1
theorem jLM.lt {S : jSt} {w : jLw} (h : jLM S w) : ∀ k, k < jLw.n w → jLw.so w k = 5 ∨ jLw.so w k = 6 → jgA S (jm 16) k = nI (jLw.lt w k) - nI 1 := h.2.2.2.2.2.2.2.1
theorem jLM.sz {S : jSt} {w : jLw} (h : jLM S w) : ∀ k, k < jLw.n w → jLw.pt w k → jgA S (jm 21) k = nI (jLw.sz w k) := h.2.2.2.2.2.2.2.2.1
theorem jLM.ls {S : jSt} {w : jLw} (h : jLM S w) : ∀ k p, k < jLw.n w → jLw.pt w k → p < jLw.sz w k → jgA S (jm 17) (10 * k + p) = nI (jLw.ls w k p) := h.2.2.2.2.2.2.2.2.2.1
theorem jLM.fo {S : jSt} {w : jLw} (h : jLM S w) : ∀ k q, k < jLw.n w → jLw.pt w k → q < 11 → jgA S (jm 18) (11 * k + q) = nI (jLw.fo w k q) := h.2.2.2.2.2.2.2.2.2.2.1
theorem jLM.la {S : jSt} {w : jLw} (h : jLM S w) : ∀ k, k < jLw.n w → jLw.pt w k → jgA S (jm 19) k = nI (jLw.la w k) := h.2.2.2.2.2.2.2.2.2.2.2.1
theorem jLM.no {S : jSt} {w : jLw} (h : jLM S w) : ∀ k, k < jLw.n w → jLw.pt w k → jgA S (jm 20) k = nI (jLw.no w k) := h.2.2.2.2.2.2.2.2.2.2.2.2.1
theorem jLM.ns {S : jSt} {w : jLw} (h : jLM S w) : ∀ k, k < jLw.n w → jLw.pt w k → jgA S (jm 22) k = nI (jLw.ns w k) := h.2.2.2.2.2.2.2.2.2.2.2.2.2.1
theorem jLM.nx {S : jSt} {w : jLw} (h : jLM S w) : ∀ k m, k < jLw.n w → jLw.pt w k → m < 9 * jLw.ns w k → jgA S (jm 23) (9225 * k + m) = nI (jLw.nx w k m) := h.2.2.2.2.2.2.2.2.2.2.2.2.2.2.1
theorem jLM.fe {S : jSt} {w : jLw} (h : jLM S w) : ∀ k s, k < jLw.n w → jLw.pt w k → s < jLw.ns w k → jgA S (jm 24) (1025 * k + s) = nI (jLw.fe w k s) := h.2.2.2.2.2.2.2.2.2.2.2.2.2.2.2
/-- the class's laws: the standing ones are the objects 2 k + sw -/
def jLC (L : jL) (S : jSt) (w : jLw) (sw : Nat) : Prop := (sw ≤ 1) ∧ (jgI S (jo 0) 8 = nI (jLw.n w)) ∧ (∀ k, k < jLw.n w → jgI S (jl (2 * k + sw) 0) 2 = nI (jLw.so w k)) ∧ (∀ k, k < jLw.n w → jgI S (jl (2 * k + sw) 0) 3 = nI (jLw.wt w k)) ∧ (∀ k, k < jLw.n w → jgI S (jl (2 * k + sw) 0) 4 = nI (jLw.pl w k)) ∧ (∀ k, k < jLw.n w → jLw.so w k = 1 ∨ jLw.so w k = 2 ∨ jLw.so w k = 6 → jgI S (jl (2 * k + sw) 0) 5 = nI (jLw.lo w k)) ∧ (∀ k, k < jLw.n w → jLw.so w k = 2 ∨ jLw.so w k = 6 → jgI S (jl (2 * k + sw) 0) 6 = nI (jLw.hi w k)) ∧ (∀ k, k < jLw.n w → jLw.so w k = 2 → jgI S (jl (2 * k + sw) 0) 7 = nI (jLw.sp w k)) ∧ (∀ k, k < jLw.n w → jLw.so w k = 5 ∨ jLw.so w k = 6 → jgI S (jl (2 * k + sw) 0) 8 = nI (jLw.lt w k)) ∧ (∀ k, k < jLw.n w → jLw.pt w k → jgI S (jl (2 * k + sw) 1) 4 = nI (jLw.sz w k)) ∧ (∀ k, k < jLw.n w → jLw.pt w k → jgI S (jl (2 * k + sw) 1) 6 = nI (jLw.fo w k 10)) ∧ (∀ k, k < jLw.n w → jLw.pt w k → jgI S (jl (2 * k + sw) 1) 7 = nI (jLw.la w k)) ∧ (∀ k, k < jLw.n w → jLw.pt w k → jgI S (jl (2 * k + sw) 1) 8 = nI (jLw.no w k)) ∧ (∀ k l, k < jLw.n w → jLw.pt w k → l < 9 → ∃ t, t < 1024 ∧ jgA S (jl (2 * k + sw) 2) l = nI t ∧ ∀ q, t.testBit q = true ↔ q < jLw.sz w k ∧ jbit (jLw.ls w k q) l = 1) ∧ (∀ k u, k < jLw.n w → jLw.pt w k → u < 32 → jgA S (jl (2 * k + sw) 4) u = nI (jos (jLw.fo w k) u 5)) ∧ (∀ k u, k < jLw.n w → jLw.pt w k → u < 32 → jgA S (jl (2 * k + sw) 5) u = nI (jos (fun i => jLw.fo w k (5 + i)) u 5)) ∧ (∀ k, k < jLw.n w → jLw.pt w k → jgI S (jl (2 * k + sw) 6) 1 = nI 0 ∨ (jgI S (jl (2 * k + sw) 6) 1 = nI (jLw.ns w k) ∧ 10 * jLw.ns w k ≤ jgN S (jt (2 * k + sw)) ∧ jgN S (jt (2 * k + sw)) < 20000 ∧ (∀ s l, s < jLw.ns w k → l < 9 → jgA S (jt (2 * k + sw)) (10 * s + l) = nI (jLw.nx w k (9 * s + l))) ∧ ∀ s, s < jLw.ns w k → jgA S (jt (2 * k + sw)) (10 * s + 9) = nI (jLw.fe w k s))) ∧ (∀ j, j < 32 → jgN S (jt j) = 10 * jLw.tl w j ∧ jLw.tl w j ≤ 1025)
theorem jLC.s1 {L : jL} {S : jSt} {w : jLw} {sw : Nat} (h : jLC L S w sw) : sw ≤ 1 := h.1
theorem jLC.n {L : jL} {S : jSt} {w : jLw} {sw : Nat} (h : jLC L S w sw) : jgI S (jo 0) 8 = nI (jLw.n w) := h.2.1
theorem jLC.so {L : jL} {S : jSt} {w : jLw} {sw : Nat} (h : jLC L S w sw) : ∀ k, k < jLw.n w → jgI S (jl (2 * k + sw) 0) 2 = nI (jLw.so w k) := h.2.2.1
theorem jLC.wt {L : jL} {S : jSt} {w : jLw} {sw : Nat} (h : jLC L S w sw) : ∀ k, k < jLw.n w → jgI S (jl (2 * k + sw) 0) 3 = nI (jLw.wt w k) := h.2.2.2.1
theorem jLC.pl {L : jL} {S : jSt} {w : jLw} {sw : Nat} (h : jLC L S w sw) : ∀ k, k < jLw.n w → jgI S (jl (2 * k + sw) 0) 4 = nI (jLw.pl w k) := h.2.2.2.2.1
theorem jLC.lo {L : jL} {S : jSt} {w : jLw} {sw : Nat} (h : jLC L S w sw) : ∀ k, k < jLw.n w → jLw.so w k = 1 ∨ jLw.so w k = 2 ∨ jLw.so w k = 6 → jgI S (jl (2 * k + sw) 0) 5 = nI (jLw.lo w k) := h.2.2.2.2.2.1
theorem jLC.hi {L : jL} {S : jSt} {w : jLw} {sw : Nat} (h : jLC L S w sw) : ∀ k, k < jLw.n w → jLw.so w k = 2 ∨ jLw.so w k = 6 → jgI S (jl (2 * k + sw) 0) 6 = nI (jLw.hi w k) := h.2.2.2.2.2.2.1
theorem jLC.sp {L : jL} {S : jSt} {w : jLw} {sw : Nat} (h : jLC L S w sw) : ∀ k, k < jLw.n w → jLw.so w k = 2 → jgI S (jl (2 * k + sw) 0) 7 = nI (jLw.sp w k) := h.2.2.2.2.2.2.2.1
theorem jLC.lt {L : jL} {S : jSt} {w : jLw} {sw : Nat} (h : jLC L S w sw) : ∀ k, k < jLw.n w → jLw.so w k = 5 ∨ jLw.so w k = 6 → jgI S (jl (2 * k + sw) 0) 8 = nI (jLw.lt w k) := h.2.2.2.2.2.2.2.2.1
theorem jLC.sz {L : jL} {S : jSt} {w : jLw} {sw : Nat} (h : jLC L S w sw) : ∀ k, k < jLw.n w → jLw.pt w k → jgI S (jl (2 * k + sw) 1) 4 = nI (jLw.sz w k) := h.2.2.2.2.2.2.2.2.2.1
theorem jLC.fi {L : jL} {S : jSt} {w : jLw} {sw : Nat} (h : jLC L S w sw) : ∀ k, k < jLw.n w → jLw.pt w k → jgI S (jl (2 * k + sw) 1) 6 = nI (jLw.fo w k 10) := h.2.2.2.2.2.2.2.2.2.2.1
theorem jLC.la {L : jL} {S : jSt} {w : jLw} {sw : Nat} (h : jLC L S w sw) : ∀ k, k < jLw.n w → jLw.pt w k → jgI S (jl (2 * k + sw) 1) 7 = nI (jLw.la w k) := h.2.2.2.2.2.2.2.2.2.2.2.1
theorem jLC.no {L : jL} {S : jSt} {w : jLw} {sw : Nat} (h : jLC L S w sw) : ∀ k, k < jLw.n w → jLw.pt w k → jgI S (jl (2 * k + sw) 1) 8 = nI (jLw.no w k) := h.2.2.2.2.2.2.2.2.2.2.2.2.1
theorem jLC.tk {L : jL} {S : jSt} {w : jLw} {sw : Nat} (h : jLC L S w sw) : ∀ k l, k < jLw.n w → jLw.pt w k → l < 9 → ∃ t, t < 1024 ∧ jgA S (jl (2 * k + sw) 2) l = nI t ∧ ∀ q, t.testBit q = true ↔ q < jLw.sz w k ∧ jbit (jLw.ls w k q) l = 1 := h.2.2.2.2.2.2.2.2.2.2.2.2.2.1
theorem jLC.al {L : jL} {S : jSt} {w : jLw} {sw : Nat} (h : jLC L S w sw) : ∀ k u, k < jLw.n w → jLw.pt w k → u < 32 → jgA S (jl (2 * k + sw) 4) u = nI (jos (jLw.fo w k) u 5) := h.2.2.2.2.2.2.2.2.2.2.2.2.2.2.1
theorem jLC.au {L : jL} {S : jSt} {w : jLw} {sw : Nat} (h : jLC L S w sw) : ∀ k u, k < jLw.n w → jLw.pt w k → u < 32 → jgA S (jl (2 * k + sw) 5) u = nI (jos (fun i => jLw.fo w k (5 + i)) u 5) := h.2.2.2.2.2.2.2.2.2.2.2.2.2.2.2.1
theorem jLC.au0 {L : jL} {S : jSt} {w : jLw} {sw : Nat} (h : jLC L S w sw) : ∀ k, k < jLw.n w → jLw.pt w k → jgI S (jl (2 * k + sw) 6) 1 = nI 0 ∨ (jgI S (jl (2 * k + sw) 6) 1 = nI (jLw.ns w k) ∧ 10 * jLw.ns w k ≤ jgN S (jt (2 * k + sw)) ∧ jgN S (jt (2 * k + sw)) < 20000 ∧ (∀ s l, s < jLw.ns w k → l < 9 → jgA S (jt (2 * k + sw)) (10 * s + l) = nI (jLw.nx w k (9 * s + l))) ∧ ∀ s, s < jLw.ns w k → jgA S (jt (2 * k + sw)) (10 * s + 9) = nI (jLw.fe w k s)) := h.2.2.2.2.2.2.2.2.2.2.2.2.2.2.2.2.1
theorem jLC.tl {L : jL} {S : jSt} {w : jLw} {sw : Nat} (h : jLC L S w sw) : ∀ j, j < 32 → jgN S (jt j) = 10 * jLw.tl w j ∧ jLw.tl w j ≤ 1025 := h.2.2.2.2.2.2.2.2.2.2.2.2.2.2.2.2.2
