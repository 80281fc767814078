/-! numbers: an Int32 or Int64 by its number -/
theorem jlit (n : Nat) : (OfNat.ofNat n : Int32) = nI (OfNat.ofNat n) := rfl
theorem jlitl (n : Nat) : (OfNat.ofNat n : Int64) = lN (OfNat.ofNat n) := rfl
theorem jmul (a b : Nat) : nI a * nI b = nI (a * b) := (Int32.ofNat_mul a b).symm
theorem jsub {a b : Nat} (h : b ≤ a) : nI a - nI b = nI (a - b) := by
  have e : nI a = nI (a - b) + nI b := by rw [nI_add]; congr 1; omega
  rw [e, Int32.add_sub_cancel]
theorem jix {k n : Nat} (h : k < n) (h2 : k < 2 ^ 31) : ¬ (nI k < 0 ∨ n ≤ (nI k).toNatClampNeg) := by
  rw [nI_clamp h2, Int32.lt_iff_toInt_lt, nI_toInt h2, Int32.toInt_zero]
  omega
theorem jgi_n {k n : Nat} {f : Nat → Int32} (h : k < n) (h2 : k < 2 ^ 31) : jgi n f (nI k) = some (f k) := by
  rw [jgi, if_pos (jix h h2), nI_clamp h2]
theorem jgl_n {k n : Nat} {f : Nat → Int64} (h : k < n) (h2 : k < 2 ^ 31) : jgl n f (nI k) = some (f k) := by
  rw [jgl, if_pos (jix h h2), nI_clamp h2]
theorem jneg {n : Nat} (h : n < 2 ^ 31) : nI n < nI 0 ↔ False := by
  rw [nI_ltI h (b := 0) (by omega)]; exact ⟨fun h => by omega, False.elim⟩
theorem jm1 {n : Nat} (h : n < 2 ^ 31) : (nI n - nI 1 < nI 0) ↔ n = 0 := by
  rcases Nat.eq_zero_or_pos n with h0 | h0
  · subst h0; exact ⟨fun _ => rfl, fun _ => by decide⟩
  · rw [jsub (by omega), nI_ltI (by omega) (by omega)]; omega
theorem jm1g {n : Nat} (h : n < 2 ^ 31) : (nI 0 ≤ nI n - nI 1) ↔ n ≠ 0 := by
  rw [← Int32.not_lt, jm1 h]
theorem jm1e {a b : Nat} (ha : a < 2 ^ 31) (hb : b < 2 ^ 31) : (nI a - nI 1 = nI b - nI 1) ↔ a = b := by
  rw [← nI_eq ha hb]
  exact ⟨fun h => by have := congrArg (· + nI 1) h; simpa using this, fun h => by rw [h]⟩
theorem jm1c (a : Nat) : nI a - nI 1 + nI 1 = nI a := by simp
theorem jm1s {a : Nat} (h : a ≠ 0) : nI a - nI 1 = nI (a - 1) := jsub (by omega)
theorem jofI {x : Int32} (h : 0 ≤ x) : ∃ k, k < 2 ^ 31 ∧ x = nI k := by
  refine ⟨x.toInt.toNat, ?_, ?_⟩
  · have := Int32.toInt_lt x; omega
  · have h2 := Int32.le_iff_toInt_le.mp h
    rw [Int32.toInt_zero] at h2
    apply Int32.toInt_inj.mp
    rw [nI_toInt]
    · omega
    · have := Int32.toInt_lt x; omega
theorem jdiv {a b : Nat} (ha : a < 2 ^ 31) (hb : b < 2 ^ 31) : nI a / nI b = nI (a / b) := by
  apply Int32.toInt_inj.mp
  have h1 : a / b < 2 ^ 31 := Nat.lt_of_le_of_lt (Nat.div_le_self a b) ha
  rw [Int32.toInt_div, nI_toInt ha, nI_toInt hb, nI_toInt h1]
  rw [← Int.ofNat_tdiv]
  generalize a / b = q at h1 ⊢
  apply Int.bmod_eq_of_le <;> omega
theorem jrem {a b : Nat} (ha : a < 2 ^ 31) (hb : b < 2 ^ 31) : nI a - nI a / nI b * nI b = nI (a % b) := by
  have h1 : a / b * b ≤ a := Nat.div_mul_le_self a b
  rw [jdiv ha hb, jmul, jsub h1]
  congr 1
  have := Nat.div_add_mod a b
  rw [Nat.mul_comm] at this
  omega
/-- differences that may fall below 0 -/
theorem jsT {a b : Nat} (ha : a < 2 ^ 30) (hb : b < 2 ^ 30) : (nI a - nI b).toInt = (a : Int) - b := by
  rw [Int32.toInt_sub, nI_toInt (by omega), nI_toInt (by omega)]
  apply Int.bmod_eq_of_le <;> omega
theorem jsle {a b c : Nat} (ha : a < 2 ^ 30) (hb : b < 2 ^ 30) (hc : c < 2 ^ 30) : nI c ≤ nI a - nI b ↔ c + b ≤ a := by
  rw [Int32.le_iff_toInt_le, jsT ha hb, nI_toInt (by omega)]; omega
theorem jslt {a b c : Nat} (ha : a < 2 ^ 30) (hb : b < 2 ^ 30) (hc : c < 2 ^ 30) : nI a - nI b < nI c ↔ a < c + b := by
  rw [Int32.lt_iff_toInt_lt, jsT ha hb, nI_toInt (by omega)]; omega
theorem jss (a b c : Nat) : nI a - nI b - nI c = nI a - nI (b + c) := by
  rw [← nI_add]; exact Int32.sub_sub _ _ _
theorem jlT {n : Nat} (h : n < 2 ^ 63) : (lN n).toInt = (n : Int) := by
  show (Int64.ofNat n).toInt = _
  rw [Int64.toInt_ofNat_of_lt h]
theorem jlLT {a b : Nat} (ha : a < 2 ^ 63) (hb : b < 2 ^ 63) : lN a < lN b ↔ a < b := by
  rw [Int64.lt_iff_toInt_lt, jlT ha, jlT hb]; omega
theorem jlLE {a b : Nat} (ha : a < 2 ^ 63) (hb : b < 2 ^ 63) : lN a ≤ lN b ↔ a ≤ b := by
  rw [Int64.le_iff_toInt_le, jlT ha, jlT hb]; omega
theorem jlS {a b : Nat} (ha : a < 2 ^ 62) (hb : b < 2 ^ 62) : (lN a - lN b).toInt = (a : Int) - b := by
  rw [Int64.toInt_sub, jlT (by omega), jlT (by omega)]
  apply Int.bmod_eq_of_le <;> omega
theorem jlEq {x y : Int64} (h : x.toInt = y.toInt) : x = y := Int64.toInt_inj.mp h
/-- Math.max(0, a - b) as longs -/
theorem jmaxl {a b : Nat} (ha : a < 2 ^ 62) (hb : b < 2 ^ 62) : xmaxl (lN 0) (lN a - lN b) = lN (a - b) := by
  unfold xmaxl
  have h0 : (lN 0).toInt = 0 := jlT (by omega)
  by_cases h : lN a - lN b < lN 0
  · rw [if_pos h]
    rw [Int64.lt_iff_toInt_lt, jlS ha hb, h0] at h
    congr 1; omega
  · rw [if_neg h]
    rw [Int64.lt_iff_toInt_lt, jlS ha hb, h0] at h
    apply jlEq
    rw [jlS ha hb, jlT (by omega)]; omega
theorem jmax {a b : Nat} (ha : a < 2 ^ 31) (hb : b < 2 ^ 31) : xmax (nI a) (nI b) = nI (max a b) := by
  unfold xmax
  by_cases h : a < b
  · rw [if_pos ((nI_ltI ha hb).mpr h)]; congr 1; omega
  · rw [if_neg (fun q => h ((nI_ltI ha hb).mp q))]; congr 1; omega
theorem jmin {a b : Nat} (ha : a < 2 ^ 31) (hb : b < 2 ^ 31) : xmin (nI a) (nI b) = nI (min a b) := by
  unfold xmin
  by_cases h : b < a
  · rw [if_pos ((nI_ltI hb ha).mpr h)]; congr 1; omega
  · rw [if_neg (fun q => h ((nI_ltI hb ha).mp q))]; congr 1; omega
theorem jcge (x y : Int64) : (nI 0 ≤ lg_cmp x y) ↔ y ≤ x := lg_cmp_ge x y
theorem jcle (x y : Int64) : (lg_cmp x y ≤ nI 0) ↔ x ≤ y := lg_cmp_le x y
theorem jcgt (x y : Int64) : (nI 0 < lg_cmp x y) ↔ y < x := lg_cmp_gt x y
theorem jclt (x y : Int64) : (lg_cmp x y < nI 0) ↔ x < y := lg_cmp_lt x y
theorem jceq (x y : Int64) : (lg_cmp x y = nI 0) ↔ x = y := lg_cmp_eq x y
theorem jn_ai {L : jL} (hL : jgood L) {ω : xS} {S : jSt} {c : jC} {k : Nat} (hc : jok L c) (hk : jkt c = 0) (h : k < jlen L c (jgN S c)) (h2 : k < 2 ^ 31) : xai (jW L ω S) (jad L c) (nI k) = some (jgA S c k) := by
  rw [jm_ai hL hc hk, jgi_n h h2]
theorem jn_ab {L : jL} (hL : jgood L) {ω : xS} {S : jSt} {c : jC} {k : Nat} (hc : jok L c) (hk : jkt c = 4) (h : k < jlen L c (jgN S c)) (h2 : k < 2 ^ 31) : xab (jW L ω S) (jad L c) (nI k) = some (jgA S c k) := by
  rw [jm_ab hL hc hk, jgi_n h h2]
theorem jn_az {L : jL} (hL : jgood L) {ω : xS} {S : jSt} {c : jC} {k : Nat} (hc : jok L c) (hk : jkt c = 5) (h : k < jlen L c (jgN S c)) (h2 : k < 2 ^ 31) : xaz (jW L ω S) (jad L c) (nI k) = some (jgA S c k) := by
  rw [jm_az hL hc hk, jgi_n h h2]
theorem jn_al {L : jL} (hL : jgood L) {ω : xS} {S : jSt} {c : jC} {k : Nat} (hc : jok L c) (hk : jkt c = 1) (h : k < jlen L c (jgN S c)) (h2 : k < 2 ^ 31) : xal (jW L ω S) (jad L c) (nI k) = some (jgG S c k) := by
  rw [jm_al hL hc hk, jgl_n h h2]
theorem jn_ar {L : jL} (hL : jgood L) {ω : xS} {S : jSt} {c : jC} {k : Nat} {t : Nat} (hc : jok L c) (hk : jkt c = t) (ht : t = 2 ∨ t = 3) (h : k < jlen L c (jgN S c)) (h2 : k < 2 ^ 31) : xar (jW L ω S) t (jad L c) (nI k) = some (jad L (jgX S c k)) := by
  rw [jm_ar hL hc hk ht (jix h h2), nI_clamp h2]
theorem jn_an {L : jL} (hL : jgood L) {ω : xS} {S : jSt} {c : jC} (hc : jok L c) (hk : jkt c < 6) : xan (jW L ω S) (jad L c) = some (nI (jlen L c (jgN S c))) := jm_an hL hc hk
theorem jn_si {L : jL} (hL : jgood L) {ω : xS} {S : jSt} {c : jC} {k : Nat} {v : Int32} (hc : jok L c) (hk : jkt c = 0) (h : k < jlen L c (jgN S c)) (h2 : k < 2 ^ 31) : xsi (jW L ω S) (jad L c) (nI k) v = some (jW L ω (jsA S c k v)) := by
  rw [jm_si hL hc hk (jix h h2), nI_clamp h2]
theorem jn_sb {L : jL} (hL : jgood L) {ω : xS} {S : jSt} {c : jC} {k : Nat} {v : Int32} (hc : jok L c) (hk : jkt c = 4) (h : k < jlen L c (jgN S c)) (h2 : k < 2 ^ 31) : xsb (jW L ω S) (jad L c) (nI k) v = some (jW L ω (jsA S c k (vp_nar .byte v))) := by
  rw [jm_sb hL hc hk (jix h h2), nI_clamp h2]
theorem jn_sz {L : jL} (hL : jgood L) {ω : xS} {S : jSt} {c : jC} {k : Nat} {v : Int32} (hc : jok L c) (hk : jkt c = 5) (h : k < jlen L c (jgN S c)) (h2 : k < 2 ^ 31) : xsz (jW L ω S) (jad L c) (nI k) v = some (jW L ω (jsA S c k (vp_nar .boolean v))) := by
  rw [jm_sz hL hc hk (jix h h2), nI_clamp h2]
theorem jn_sl {L : jL} (hL : jgood L) {ω : xS} {S : jSt} {c : jC} {k : Nat} {v : Int64} (hc : jok L c) (hk : jkt c = 1) (h : k < jlen L c (jgN S c)) (h2 : k < 2 ^ 31) : xsl (jW L ω S) (jad L c) (nI k) v = some (jW L ω (jsG S c k v)) := by
  rw [jm_sl hL hc hk (jix h h2), nI_clamp h2]
/-- a loop's run: from lo to hi by single turns -/
theorem jlp {σ R : Type} (F : Nat → Nat → σ → R) (T : Nat → σ) {lo hi : Nat} (h : ∀ n i, lo ≤ i → i < hi → F (n + 1) i (T i) = F n (i + 1) (T (i + 1))) : ∀ (m n i : Nat), lo ≤ i → i + m = hi → F (n + m) i (T i) = F n hi (T hi)
  | 0, n, i, h1, h2 => by
    rw [Nat.add_zero] at h2
    subst h2
    rfl
  | m + 1, n, i, h1, h2 => by
    rw [show n + (m + 1) = (n + m) + 1 by omega, h (n + m) i h1 (by omega)]
    exact jlp F T h m n (i + 1) (by omega) (by omega)
theorem jFU {m : Nat} (h : m + 1 ≤ 1000000) : ∃ n, xFU = n + 1 + m := ⟨1000000 - m - 1, by unfold xFU; omega⟩
/-- a loop from lo to hi, entered with the whole fuel: what its last turn does -/
theorem jlpx {σ R : Type} (F : Nat → Nat → σ → R) (T : Nat → σ) {lo hi : Nat} {r : R} (hlo : lo ≤ hi) (hb : hi - lo + 1 ≤ 1000000) (h : ∀ n i, lo ≤ i → i < hi → F (n + 1) i (T i) = F n (i + 1) (T (i + 1))) (hr : ∀ n, F (n + 1) hi (T hi) = r) : F xFU lo (T lo) = r := by
  obtain ⟨n, hn⟩ := jFU hb
  rw [hn, jlp F T h (hi - lo) (n + 1) lo (Nat.le_refl _) (by omega), hr]
