/-! shift, person, past, wish: what they set -/
theorem jrng {x : Int32} {lo hi : Nat} (h1 : (lo : Int) ≤ x.toInt) (h2 : x.toInt ≤ (hi : Int)) : ∃ k, lo ≤ k ∧ k ≤ hi ∧ x = nI k := by
  obtain ⟨k, hk, rfl⟩ := jofI (x := x) (by rw [Int32.le_iff_toInt_le, Int32.toInt_zero]; omega)
  rw [nI_toInt hk] at h1 h2
  exact ⟨k, by omega, by omega, rfl⟩
def jR.sh (A : jR) (l b m s : Nat) : jR := (A.1, (fun q => if q = l then b else jR.bg A q), (fun q => if q = l then m else jR.ln A q), (fun q => if q = l then s else jR.nd A q), A.2.2.2.2)
def jR.pe (A : jR) (p v : Nat) : jR := (A.1, A.2.1, A.2.2.1, A.2.2.2.1, (fun q => if q = p then v else jR.sk A q), A.2.2.2.2.2)
def jR.pa (A : jR) (p j l : Nat) : jR := ((fun q i => if q = p ∧ i = j then l else jR.row A q i), A.2)
def jR.wi (A : jR) (p t l v : Nat) : jR := (A.1, A.2.1, A.2.2.1, A.2.2.2.1, A.2.2.2.2.1, (fun q u => if q = p ∧ u = t then l else jR.wl A q u), (fun q u => if q = p ∧ u = t then v else jR.ww A q u))
theorem jR.sh_good {A : jR} (hA : jRg A) {l b m s : Nat} (h1 : 1 ≤ l) (hb : b < 1440) (hm : m ≤ 1440) (hs : s ≤ 9) : jRg (jR.sh A l b m s) := by
  refine ⟨hA.row, fun q => ?_, fun q => ?_, ?_, fun q => ?_, hA.sk, hA.wl, hA.ww⟩
  · show (if q = l then b else jR.bg A q) < 1440
    split
    · exact hb
    · exact hA.bg q
  · show (if q = l then m else jR.ln A q) ≤ 1440
    split
    · exact hm
    · exact hA.ln q
  · show (if 0 = l then m else jR.ln A 0) = 0
    rw [if_neg (by omega)]
    exact hA.ln0
  · show (if q = l then s else jR.nd A q) ≤ 9
    split
    · exact hs
    · exact hA.nd q
theorem jR.pe_good {A : jR} (hA : jRg A) {p v : Nat} (hv : v ≤ 1023) : jRg (jR.pe A p v) := by
  refine ⟨hA.row, hA.bg, hA.ln, hA.ln0, hA.nd, fun q => ?_, hA.wl, hA.ww⟩
  show (if q = p then v else jR.sk A q) ≤ 1023
  split
  · exact hv
  · exact hA.sk q
theorem jR.pa_good {A : jR} (hA : jRg A) {p j l : Nat} (hl : l ≤ 8) : jRg (jR.pa A p j l) := by
  refine ⟨fun q i => ?_, hA.bg, hA.ln, hA.ln0, hA.nd, hA.sk, hA.wl, hA.ww⟩
  show (if q = p ∧ i = j then l else jR.row A q i) ≤ 8
  split
  · exact hl
  · exact hA.row q i
theorem jR.wi_good {A : jR} (hA : jRg A) {p t l v : Nat} (hl : l ≤ 8) (hv : v ≤ 1000) : jRg (jR.wi A p t l v) := by
  refine ⟨hA.row, hA.bg, hA.ln, hA.ln0, hA.nd, hA.sk, fun q u => ?_, fun q u => ?_⟩
  · show (if q = p ∧ u = t then l else jR.wl A q u) ≤ 8
    split
    · exact hl
    · exact hA.wl q u
  · show (if q = p ∧ u = t then v else jR.ww A q u) ≤ 1000
    split
    · exact hv
    · exact hA.ww q u
/-! shift -/
theorem jRR_shift {L : jL} (hL : jgood L) (hD : jdim L) {ω : xS} {S : jSt} {A : jR} (hA : jRg A) {sw ps wy : Nat} (hK : jLK S sw ps wy) (h : jRC L S A) {k b m s : Nat} (hk : k < 8) (hb : b < 1440) (h1 : 1 ≤ m) (hm : m ≤ 1440) (hs : s < 10) : ∃ S', f_RR_shift (jad L (jo 0)) (nI k) (nI b) (nI m) (nI s) (jW L ω S) = some (nI 1, jW L ω S') ∧ jRC L S' (jR.sh A (k + 1) b m s) ∧ jeqv (fun c => ¬ jisR c) S S' ∧ jgX S' = jgX S := by
  unfold f_RR_shift
  simp (disch := first | omega | rfl | assumption | exact jokr (by decide) (by omega) | exact jokr4 (by omega) | exact jkt_r _ _ | exact jkt_l (by decide) | exact jfk_l (by decide) | exact jkt_t _ | exact jkt_r6 _ _ | exact jkt_t6 _ | (simp only [jok, jlen]; omega) | decide) only [jm_k hL, jm_gi hL, jm_gr hL, jm_gl hL, jm_pi hL, jm_pl hL, jn_ai hL, jn_ab hL, jn_az hL, jn_al hL, jn_ar hL, jn_an hL, jn_si hL, jn_sb hL, jn_sz hL, jn_sl hL, Option.bind_some, xc, xl, jRR_isShift hL hD hA hK, jbel_n, if_true]
  rw [if_neg (by decide)]
  simp (disch := first | omega | rfl | assumption | exact jokr (by decide) (by omega) | exact jokr4 (by omega) | exact jkt_r _ _ | exact jkt_l (by decide) | exact jfk_l (by decide) | exact jkt_t _ | exact jkt_r6 _ _ | exact jkt_t6 _ | (simp only [jok, jlen]; omega) | decide) only [jlit, nI_ltI, nI_leI, if_neg, if_pos, jm_k hL, jm_gi hL, jm_gr hL, jm_gl hL, jm_pi hL, jm_pl hL, jn_ai hL, jn_ab hL, jn_az hL, jn_al hL, jn_ar hL, jn_an hL, jn_si hL, jn_sb hL, jn_sz hL, jn_sl hL, Option.bind_some, xc, xl, jsA_X, jsI_X, jsG_X, hK _ _, jlk, jmx, nI_add]
  refine ⟨_, rfl, ?_, ?_, rfl⟩
  · have a : ∀ c, c ≠ jo 19 → c ≠ jo 20 → c ≠ jo 21 → jgA (jsA (jsA (jsA S (jo 19) (k + 1) (nI b)) (jo 20) (k + 1) (nI m)) (jo 21) (k + 1) (nI s)) c = jgA S c := fun c x y z => by rw [jsA_fn z, jsA_fn y, jsA_fn x]
    refine ⟨h.n, h.d, ?_, ?_, ?_, ?_, ?_, ?_, ?_, ?_, ?_, h.fi, h.wi⟩
    · intro l hl h1
      rw [jsA_ne (by decide), jsA_ne (by decide), jsA_A]
      show _ = nI (if l = k + 1 then b else jR.bg A l)
      by_cases c : l = k + 1
      · rw [if_pos ⟨rfl, c⟩, if_pos c]
      · rw [if_neg (fun q => c q.2), if_neg c]; exact h.bg l hl h1
    · intro l hl
      rw [jsA_ne (by decide), jsA_A]
      show _ = nI (if l = k + 1 then m else jR.ln A l)
      by_cases c : l = k + 1
      · rw [if_pos ⟨rfl, c⟩, if_pos c]
      · rw [if_neg (fun q => c q.2), if_neg c, jsA_ne (by decide)]; exact h.ln l hl
    · intro l hl h1
      rw [jsA_A]
      show _ = nI (if l = k + 1 then s else jR.nd A l)
      by_cases c : l = k + 1
      · rw [if_pos ⟨rfl, c⟩, if_pos c]
      · rw [if_neg (fun q => c q.2), if_neg c, jsA_ne (by decide), jsA_ne (by decide)]; exact h.nd l hl h1
    · intro p hp; rw [a _ (by decide) (by decide) (by decide)]; exact h.sk p hp
    · intro p j hp hj; rw [a _ (fun q => by cases q) (fun q => by cases q) (fun q => by cases q)]; exact h.row p j hp hj
    · intro p t hp ht hx; rw [a _ (fun q => by cases q) (fun q => by cases q) (fun q => by cases q)]; exact h.wl p t hp ht hx
    · intro p t hp ht; rw [a _ (fun q => by cases q) (fun q => by cases q) (fun q => by cases q)]; exact h.ww p t hp ht
    · intro p l hp hl; rw [a _ (fun q => by cases q) (fun q => by cases q) (fun q => by cases q)]; exact h.tf p l hp hl
    · intro t l ht hl; rw [a _ (fun q => by cases q) (fun q => by cases q) (fun q => by cases q)]; exact h.tn t l ht hl
  · exact ((jeqv.sA _ _ _ (fun q => q (Or.inl ⟨19, by omega, by omega, rfl⟩))).trans (jeqv.sA _ _ _ (fun q => q (Or.inl ⟨20, by omega, by omega, rfl⟩)))).trans (jeqv.sA _ _ _ (fun q => q (Or.inl ⟨21, by omega, by omega, rfl⟩)))
theorem jMo_shift {L : jL} (hL : jgood L) (hD : jdim L) {ω : xS} {S : jSt} {A : jR} (hA : jRg A) {sw ps wy : Nat} (hK : jLK S sw ps wy) (h : jRM L S A) {k b m s : Nat} (hk : k < 8) (hb : b < 1440) (h1 : 1 ≤ m) (hm : m ≤ 1440) (hs : s < 10) : ∃ S', f_Mo_shift (jad L (jm 0)) (nI k) (nI b) (nI m) (nI s) (jW L ω S) = some (nI 1, jW L ω S') ∧ jRM L S' (jR.sh A (k + 1) b m s) ∧ jgI S' = jgI S ∧ (∀ q, 9 ≤ q → jgA S' (jm q) = jgA S (jm q)) ∧ jgG S' = jgG S ∧ jeqv (fun c => ¬ jisM c) S S' ∧ jgX S' = jgX S := by
  unfold f_Mo_shift
  simp (disch := first | omega | rfl | assumption | exact jokr (by decide) (by omega) | exact jokr4 (by omega) | exact jkt_r _ _ | exact jkt_l (by decide) | exact jfk_l (by decide) | exact jkt_t _ | exact jkt_r6 _ _ | exact jkt_t6 _ | (simp only [jok, jlen]; omega) | decide) only [jlit, nI_ltI, nI_leI, if_neg, if_pos, jm_k hL, jm_gi hL, jm_gr hL, jm_gl hL, jm_pi hL, jm_pl hL, jn_ai hL, jn_ab hL, jn_az hL, jn_al hL, jn_ar hL, jn_an hL, jn_si hL, jn_sb hL, jn_sz hL, jn_sl hL, Option.bind_some, xc, xl, jsA_X, jsI_X, jsG_X, hK _ _, jlk, jmx]
  refine ⟨_, rfl, ?_, rfl, ?_, rfl, ?_, rfl⟩
  · have a : ∀ q, q ≠ 3 → q ≠ 4 → q ≠ 5 → jgA (jsA (jsA (jsA S (jm 3) k (nI b)) (jm 4) k (nI m)) (jm 5) k (nI s)) (jm q) = jgA S (jm q) := fun q x y z => by rw [jsA_fn (jmne z), jsA_fn (jmne y), jsA_fn (jmne x)]
    refine ⟨h.n, h.d, ?_, ?_, ?_, ?_, ?_, ?_, ?_, ?_⟩
    · intro p t hp ht; rw [a 1 (by omega) (by omega) (by omega)]; exact h.cell p t hp ht
    · intro p j hp hj; rw [a 2 (by omega) (by omega) (by omega)]; exact h.past p j hp hj
    · intro l hl
      rw [jsA_ne (by decide), jsA_ne (by decide), jsA_A]
      show _ = nI (if l + 1 = k + 1 then b else jR.bg A (l + 1))
      by_cases c : l = k
      · rw [if_pos ⟨rfl, c⟩, if_pos (by omega)]
      · rw [if_neg (fun q => c q.2), if_neg (by omega)]; exact h.bg l hl
    · intro l hl
      rw [jsA_ne (by decide), jsA_A]
      show _ = nI (if l + 1 = k + 1 then m else jR.ln A (l + 1))
      by_cases c : l = k
      · rw [if_pos ⟨rfl, c⟩, if_pos (by omega)]
      · rw [if_neg (fun q => c q.2), if_neg (by omega), jsA_ne (by decide)]; exact h.ln l hl
    · intro l hl
      rw [jsA_A]
      show _ = nI (if l + 1 = k + 1 then s else jR.nd A (l + 1))
      by_cases c : l = k
      · rw [if_pos ⟨rfl, c⟩, if_pos (by omega)]
      · rw [if_neg (fun q => c q.2), if_neg (by omega), jsA_ne (by decide), jsA_ne (by decide)]; exact h.nd l hl
    · intro p hp; rw [a 6 (by omega) (by omega) (by omega)]; exact h.sk p hp
    · intro p t hp ht hx; rw [a 7 (by omega) (by omega) (by omega)]; exact h.wl p t hp ht hx
    · intro p t hp ht; rw [a 8 (by omega) (by omega) (by omega)]; exact h.ww p t hp ht
  · intro q hq; rw [jsA_fn (jmne (by omega)), jsA_fn (jmne (by omega)), jsA_fn (jmne (by omega))]
  · exact ((jeqv.sA _ _ _ (fun q => q ⟨3, rfl⟩)).trans (jeqv.sA _ _ _ (fun q => q ⟨4, rfl⟩))).trans (jeqv.sA _ _ _ (fun q => q ⟨5, rfl⟩))
/-- a call that is refused, on both sides -/
theorem jno_shift {L : jL} (hL : jgood L) (hD : jdim L) {ω : xS} {S : jSt} {A : jR} (hA : jRg A) {sw ps wy : Nat} (hK : jLK S sw ps wy) {x1 x2 x3 x4 : Int32} (hv : ¬ (0 ≤ x1.toInt ∧ x1.toInt ≤ 7 ∧ 0 ≤ x2.toInt ∧ x2.toInt ≤ 1439 ∧ 1 ≤ x3.toInt ∧ x3.toInt ≤ 1440 ∧ 0 ≤ x4.toInt ∧ x4.toInt ≤ 9)) : f_RR_shift (jad L (jo 0)) x1 x2 x3 x4 (jW L ω S) = some (-1, jW L ω S) ∧ f_Mo_shift (jad L (jm 0)) x1 x2 x3 x4 (jW L ω S) = some (-1, jW L ω S) := by
  constructor
  · unfold f_RR_shift
    simp (disch := first | omega | rfl | assumption | exact jokr (by decide) (by omega) | exact jokr4 (by omega) | exact jkt_r _ _ | exact jkt_l (by decide) | exact jfk_l (by decide) | exact jkt_t _ | exact jkt_r6 _ _ | exact jkt_t6 _ | (simp only [jok, jlen]; omega) | decide) only [jm_k hL, jm_gi hL, jm_gr hL, jm_gl hL, jm_pi hL, jm_pl hL, jn_ai hL, jn_ab hL, jn_az hL, jn_al hL, jn_ar hL, jn_an hL, jn_si hL, jn_sb hL, jn_sz hL, jn_sl hL, Option.bind_some, xc, xl, jRR_isShift hL hD hA hK]
    cases c : jbel 8 x1
    · rfl
    · have c : ¬ x1 < 0 ∧ ¬ nI 8 ≤ x1 := of_decide_eq_true c
      simp (disch := first | omega | rfl | assumption | exact jokr (by decide) (by omega) | exact jokr4 (by omega) | exact jkt_r _ _ | exact jkt_l (by decide) | exact jfk_l (by decide) | exact jkt_t _ | exact jkt_r6 _ _ | exact jkt_t6 _ | (simp only [jok, jlen]; omega) | decide) only [jlit, Int32.lt_iff_toInt_lt, Int32.le_iff_toInt_le, nI_toInt] at c ⊢
      rw [if_neg (by decide)]
      (repeat' split) <;> first | rfl | (exfalso; apply hv; omega)
  · unfold f_Mo_shift
    simp (disch := first | omega | rfl | assumption | exact jokr (by decide) (by omega) | exact jokr4 (by omega) | exact jkt_r _ _ | exact jkt_l (by decide) | exact jfk_l (by decide) | exact jkt_t _ | exact jkt_r6 _ _ | exact jkt_t6 _ | (simp only [jok, jlen]; omega) | decide) only [jlit, Int32.lt_iff_toInt_lt, Int32.le_iff_toInt_le, nI_toInt]
    (repeat' split) <;> first | rfl | (exfalso; apply hv; omega)
