/-! person -/
theorem jRR_person {L : jL} (hL : jgood L) (hD : jdim L) {ω : xS} {S : jSt} {A : jR} (hA : jRg A) {sw ps wy : Nat} (hK : jLK S sw ps wy) (h : jRC L S A) {p v : Nat} (hp : p < jn L) (hv : v ≤ 1023) : ∃ S', f_RR_person (jad L (jo 0)) (nI p) (nI v) (jW L ω S) = some (nI 1, jW L ω S') ∧ jRC L S' (jR.pe A p v) ∧ jeqv (fun c => ¬ jisR c) S S' ∧ jgX S' = jgX S := by
  have h1 := hD.n8
  unfold f_RR_person
  simp (disch := first | omega | rfl | assumption | exact jokr (by decide) (by omega) | exact jokr4 (by omega) | exact jkt_r _ _ | exact jkt_l (by decide) | exact jfk_l (by decide) | exact jkt_t _ | exact jkt_r6 _ _ | exact jkt_t6 _ | (simp only [jok, jlen]; omega) | decide) only [jm_k hL, jm_gi hL, jm_gr hL, jm_gl hL, jm_pi hL, jm_pl hL, jn_ai hL, jn_ab hL, jn_az hL, jn_al hL, jn_ar hL, jn_an hL, jn_si hL, jn_sb hL, jn_sz hL, jn_sl hL, Option.bind_some, xc, xl, jRR_isPerson hL hD hA hK h, jbel_n, if_true]
  rw [if_neg (by decide)]
  simp (disch := first | omega | rfl | assumption | exact jokr (by decide) (by omega) | exact jokr4 (by omega) | exact jkt_r _ _ | exact jkt_l (by decide) | exact jfk_l (by decide) | exact jkt_t _ | exact jkt_r6 _ _ | exact jkt_t6 _ | (simp only [jok, jlen]; omega) | decide) only [jlit, nI_ltI, nI_leI, if_neg, if_pos, jm_k hL, jm_gi hL, jm_gr hL, jm_gl hL, jm_pi hL, jm_pl hL, jn_ai hL, jn_ab hL, jn_az hL, jn_al hL, jn_ar hL, jn_an hL, jn_si hL, jn_sb hL, jn_sz hL, jn_sl hL, Option.bind_some, xc, xl, jsA_X, jsI_X, jsG_X, hK _ _, jlk, jmx]
  refine ⟨_, rfl, ?_, jeqv.sA _ _ _ (fun q => q (Or.inl ⟨22, by omega, by omega, rfl⟩)), rfl⟩
  have a : ∀ c, c ≠ jo 22 → jgA (jsA S (jo 22) p (nI v)) c = jgA S c := fun c x => jsA_fn x
  refine ⟨h.n, h.d, ?_, ?_, ?_, ?_, ?_, ?_, ?_, ?_, ?_, h.fi, h.wi⟩
  · intro l hl h1; rw [a _ (by decide)]; exact h.bg l hl h1
  · intro l hl; rw [a _ (by decide)]; exact h.ln l hl
  · intro l hl h1; rw [a _ (by decide)]; exact h.nd l hl h1
  · intro q hq
    rw [jsA_A]
    show _ = nI (if q = p then v else jR.sk A q)
    by_cases c : q = p
    · rw [if_pos ⟨rfl, c⟩, if_pos c]
    · rw [if_neg (fun z => c z.2), if_neg c]; exact h.sk q hq
  · intro p j hp hj; rw [a _ (fun q => by cases q)]; exact h.row p j hp hj
  · intro p t hp ht hx; rw [a _ (fun q => by cases q)]; exact h.wl p t hp ht hx
  · intro p t hp ht; rw [a _ (fun q => by cases q)]; exact h.ww p t hp ht
  · intro p l hp hl; rw [a _ (fun q => by cases q)]; exact h.tf p l hp hl
  · intro t l ht hl; rw [a _ (fun q => by cases q)]; exact h.tn t l ht hl
theorem jMo_person {L : jL} (hL : jgood L) (hD : jdim L) {ω : xS} {S : jSt} {A : jR} (hA : jRg A) {sw ps wy : Nat} (hK : jLK S sw ps wy) (h : jRM L S A) {p v : Nat} (hp : p < jn L) (hv : v ≤ 1023) : ∃ S', f_Mo_person (jad L (jm 0)) (nI p) (nI v) (jW L ω S) = some (nI 1, jW L ω S') ∧ jRM L S' (jR.pe A p v) ∧ jgI S' = jgI S ∧ (∀ q, 9 ≤ q → jgA S' (jm q) = jgA S (jm q)) ∧ jgG S' = jgG S ∧ jeqv (fun c => ¬ jisM c) S S' ∧ jgX S' = jgX S := by
  have h1 := hD.n8
  unfold f_Mo_person
  simp (disch := first | omega | rfl | assumption | exact jokr (by decide) (by omega) | exact jokr4 (by omega) | exact jkt_r _ _ | exact jkt_l (by decide) | exact jfk_l (by decide) | exact jkt_t _ | exact jkt_r6 _ _ | exact jkt_t6 _ | (simp only [jok, jlen]; omega) | decide) only [jm_k hL, jm_gi hL, jm_gr hL, jm_gl hL, jm_pi hL, jm_pl hL, jn_ai hL, jn_ab hL, jn_az hL, jn_al hL, jn_ar hL, jn_an hL, jn_si hL, jn_sb hL, jn_sz hL, jn_sl hL, Option.bind_some, xc, xl, jMo_isPerson hL hD hA hK h, jbel_n, if_true]
  rw [if_neg (by decide)]
  simp (disch := first | omega | rfl | assumption | exact jokr (by decide) (by omega) | exact jokr4 (by omega) | exact jkt_r _ _ | exact jkt_l (by decide) | exact jfk_l (by decide) | exact jkt_t _ | exact jkt_r6 _ _ | exact jkt_t6 _ | (simp only [jok, jlen]; omega) | decide) only [jlit, nI_ltI, nI_leI, if_neg, if_pos, jm_k hL, jm_gi hL, jm_gr hL, jm_gl hL, jm_pi hL, jm_pl hL, jn_ai hL, jn_ab hL, jn_az hL, jn_al hL, jn_ar hL, jn_an hL, jn_si hL, jn_sb hL, jn_sz hL, jn_sl hL, Option.bind_some, xc, xl, jsA_X, jsI_X, jsG_X, hK _ _, jlk, jmx]
  refine ⟨_, rfl, ?_, rfl, fun q hq => jsA_fn (jmne (by omega)), rfl, jeqv.sA _ _ _ (fun q => q ⟨6, rfl⟩), rfl⟩
  have a : ∀ q, q ≠ 6 → jgA (jsA S (jm 6) p (nI v)) (jm q) = jgA S (jm q) := fun q x => jsA_fn (jmne x)
  refine ⟨h.n, h.d, ?_, ?_, ?_, ?_, ?_, ?_, ?_, ?_⟩
  · intro p t hp ht; rw [a 1 (by omega)]; exact h.cell p t hp ht
  · intro p j hp hj; rw [a 2 (by omega)]; exact h.past p j hp hj
  · intro l hl; rw [a 3 (by omega)]; exact h.bg l hl
  · intro l hl; rw [a 4 (by omega)]; exact h.ln l hl
  · intro l hl; rw [a 5 (by omega)]; exact h.nd l hl
  · intro q hq
    rw [jsA_A]
    show _ = nI (if q = p then v else jR.sk A q)
    by_cases c : q = p
    · rw [if_pos ⟨rfl, c⟩, if_pos c]
    · rw [if_neg (fun z => c z.2), if_neg c]; exact h.sk q hq
  · intro p t hp ht hx; rw [a 7 (by omega)]; exact h.wl p t hp ht hx
  · intro p t hp ht; rw [a 8 (by omega)]; exact h.ww p t hp ht
theorem jno_person {L : jL} (hL : jgood L) (hD : jdim L) {ω : xS} {S : jSt} {A : jR} (hA : jRg A) {sw ps wy : Nat} (hK : jLK S sw ps wy) (h : jRC L S A) (h' : jRM L S A) {x1 x2 : Int32} (hv : ¬ (jbel (jn L) x1 = true ∧ 0 ≤ x2.toInt ∧ x2.toInt ≤ 1023)) : f_RR_person (jad L (jo 0)) x1 x2 (jW L ω S) = some (-1, jW L ω S) ∧ f_Mo_person (jad L (jm 0)) x1 x2 (jW L ω S) = some (-1, jW L ω S) := by
  constructor
  · unfold f_RR_person
    simp (disch := first | omega | rfl | assumption | exact jokr (by decide) (by omega) | exact jokr4 (by omega) | exact jkt_r _ _ | exact jkt_l (by decide) | exact jfk_l (by decide) | exact jkt_t _ | exact jkt_r6 _ _ | exact jkt_t6 _ | (simp only [jok, jlen]; omega) | decide) only [jm_k hL, jm_gi hL, jm_gr hL, jm_gl hL, jm_pi hL, jm_pl hL, jn_ai hL, jn_ab hL, jn_az hL, jn_al hL, jn_ar hL, jn_an hL, jn_si hL, jn_sb hL, jn_sz hL, jn_sl hL, Option.bind_some, xc, xl, jRR_isPerson hL hD hA hK h]
    cases c : jbel (jn L) x1
    · rfl
    · simp (disch := first | omega | rfl | assumption | exact jokr (by decide) (by omega) | exact jokr4 (by omega) | exact jkt_r _ _ | exact jkt_l (by decide) | exact jfk_l (by decide) | exact jkt_t _ | exact jkt_r6 _ _ | exact jkt_t6 _ | (simp only [jok, jlen]; omega) | decide) only [jlit, Int32.lt_iff_toInt_lt, Int32.le_iff_toInt_le, nI_toInt]
      rw [if_neg (by decide)]
      (repeat' split) <;> first | rfl | (exfalso; apply hv; exact ⟨c, by omega, by omega⟩)
  · unfold f_Mo_person
    simp (disch := first | omega | rfl | assumption | exact jokr (by decide) (by omega) | exact jokr4 (by omega) | exact jkt_r _ _ | exact jkt_l (by decide) | exact jfk_l (by decide) | exact jkt_t _ | exact jkt_r6 _ _ | exact jkt_t6 _ | (simp only [jok, jlen]; omega) | decide) only [jm_k hL, jm_gi hL, jm_gr hL, jm_gl hL, jm_pi hL, jm_pl hL, jn_ai hL, jn_ab hL, jn_az hL, jn_al hL, jn_ar hL, jn_an hL, jn_si hL, jn_sb hL, jn_sz hL, jn_sl hL, Option.bind_some, xc, xl, jMo_isPerson hL hD hA hK h']
    cases c : jbel (jn L) x1
    · rfl
    · simp (disch := first | omega | rfl | assumption | exact jokr (by decide) (by omega) | exact jokr4 (by omega) | exact jkt_r _ _ | exact jkt_l (by decide) | exact jfk_l (by decide) | exact jkt_t _ | exact jkt_r6 _ _ | exact jkt_t6 _ | (simp only [jok, jlen]; omega) | decide) only [jlit, Int32.lt_iff_toInt_lt, Int32.le_iff_toInt_le, nI_toInt]
      rw [if_neg (by decide)]
      (repeat' split) <;> first | rfl | (exfalso; apply hv; exact ⟨c, by omega, by omega⟩)
/-! past -/
theorem jRR_past {L : jL} (hL : jgood L) (hD : jdim L) {ω : xS} {S : jSt} {A : jR} (hA : jRg A) {sw ps wy : Nat} (hK : jLK S sw ps wy) (h : jRC L S A) {p i l : Nat} (hp : p < jn L) (h1 : 1 ≤ i) (hi : i ≤ 7) (hl : l ≤ 8) : ∃ S', f_RR_past (jad L (jo 0)) (nI p) (nI i) (nI l - nI 1) (jW L ω S) = some (nI (jR.row A p (7 - i)) - nI 1, jW L ω S') ∧ jRC L S' (jR.pa A p (7 - i) l) ∧ jeqv (fun c => ¬ jisR c) S S' ∧ jgX S' = jgX S := by
  have h8 := hD.n8
  have h2 := hD.d21
  have e1 : nI 7 - nI i = nI (7 - i) := jsub hi
  unfold f_RR_past
  simp (disch := first | omega | rfl | assumption | exact jokr (by decide) (by omega) | exact jokr4 (by omega) | exact jkt_r _ _ | exact jkt_l (by decide) | exact jfk_l (by decide) | exact jkt_t _ | exact jkt_r6 _ _ | exact jkt_t6 _ | (simp only [jok, jlen]; omega) | decide) only [jm_k hL, jm_gi hL, jm_gr hL, jm_gl hL, jm_pi hL, jm_pl hL, jn_ai hL, jn_ab hL, jn_az hL, jn_al hL, jn_ar hL, jn_an hL, jn_si hL, jn_sb hL, jn_sz hL, jn_sl hL, Option.bind_some, xc, xl, jRR_isPerson hL hD hA hK h, jRR_isShiftOrOff hL hD hA hK, jbel_n, jsh_l, if_true]
  rw [if_neg (by decide)]
  simp (disch := first | omega | rfl | assumption | exact jokr (by decide) (by omega) | exact jokr4 (by omega) | exact jkt_r _ _ | exact jkt_l (by decide) | exact jfk_l (by decide) | exact jkt_t _ | exact jkt_r6 _ _ | exact jkt_t6 _ | (simp only [jok, jlen]; omega) | decide) only [jlit, nI_ltI, nI_leI, nI_eq, if_neg, jm_k hL, jm_gi hL, jm_gr hL, jm_gl hL, jm_pi hL, jm_pl hL, jn_ai hL, jn_ab hL, jn_az hL, jn_al hL, jn_ar hL, jn_an hL, jn_si hL, jn_sb hL, jn_sz hL, jn_sl hL, Option.bind_some, xc, xl, jsA_X, jsI_X, jsG_X, hK _ _, jlk, jmx, e1, jm1c, h.row]
  refine ⟨_, rfl, ?_, jeqv.sA _ _ _ (fun q => q (Or.inr ⟨0, p, rfl⟩)), rfl⟩
  have a : ∀ c, c ≠ jr 0 p → jgA (jsA S (jr 0 p) (7 - i) (nI l)) c = jgA S c := fun c x => jsA_fn x
  have b : ∀ q u, jR.row (jR.pa A p (7 - i) l) q (7 + u) = jR.row A q (7 + u) := fun q u => by
    show (if q = p ∧ 7 + u = 7 - i then l else jR.row A q (7 + u)) = _
    rw [if_neg (fun z => by omega)]
  refine ⟨h.n, h.d, ?_, ?_, ?_, ?_, ?_, ?_, ?_, ?_, ?_, ?_, h.wi⟩
  · intro l hl h1; rw [a _ (fun q => by cases q)]; exact h.bg l hl h1
  · intro l hl; rw [a _ (fun q => by cases q)]; exact h.ln l hl
  · intro l hl h1; rw [a _ (fun q => by cases q)]; exact h.nd l hl h1
  · intro q hq; rw [a _ (fun q => by cases q)]; exact h.sk q hq
  · intro q j hq hj
    rw [jsA_A]
    show _ = nI (if q = p ∧ j = 7 - i then l else jR.row A q j)
    by_cases c : q = p ∧ j = 7 - i
    · rw [if_pos ⟨by rw [c.1], c.2⟩, if_pos c]
    · rw [if_neg (fun z => c ⟨by have := z.1; simp at this; exact this, z.2⟩), if_neg c]; exact h.row q j hq hj
  · intro q t hq ht hx; rw [a _ (fun q => by cases q)]; exact h.wl q t hq ht hx
  · intro q t hq ht; rw [a _ (fun q => by cases q)]; exact h.ww q t hq ht
  · intro q l' hq hl'; rw [a _ (fun q => by cases q), h.tf q l' hq hl']; simp only [b]
  · intro t l' ht hl'; rw [a _ (fun q => by cases q), h.tn t l' ht hl']; simp only [b]
  · simp only [b]; exact h.fi
theorem jMo_past {L : jL} (hL : jgood L) (hD : jdim L) {ω : xS} {S : jSt} {A : jR} (hA : jRg A) {sw ps wy : Nat} (hK : jLK S sw ps wy) (h : jRM L S A) {p i l : Nat} (hp : p < jn L) (h1 : 1 ≤ i) (hi : i ≤ 7) (hl : l ≤ 8) : ∃ S', f_Mo_past (jad L (jm 0)) (nI p) (nI i) (nI l - nI 1) (jW L ω S) = some (nI (jR.row A p (7 - i)) - nI 1, jW L ω S') ∧ jRM L S' (jR.pa A p (7 - i) l) ∧ jgI S' = jgI S ∧ (∀ q, 9 ≤ q → jgA S' (jm q) = jgA S (jm q)) ∧ jgG S' = jgG S ∧ jeqv (fun c => ¬ jisM c) S S' ∧ jgX S' = jgX S := by
  have h8 := hD.n8
  have h2 := hD.d21
  have e1 : nI (7 * p + i) - nI 1 = nI (7 * p + (6 - (7 - i))) := by rw [jsub (by omega)]; congr 1; omega
  unfold f_Mo_past
  simp (disch := first | omega | rfl | assumption | exact jokr (by decide) (by omega) | exact jokr4 (by omega) | exact jkt_r _ _ | exact jkt_l (by decide) | exact jfk_l (by decide) | exact jkt_t _ | exact jkt_r6 _ _ | exact jkt_t6 _ | (simp only [jok, jlen]; omega) | decide) only [jm_k hL, jm_gi hL, jm_gr hL, jm_gl hL, jm_pi hL, jm_pl hL, jn_ai hL, jn_ab hL, jn_az hL, jn_al hL, jn_ar hL, jn_an hL, jn_si hL, jn_sb hL, jn_sz hL, jn_sl hL, Option.bind_some, xc, xl, jMo_isPerson hL hD hA hK h, jMo_isShift, jbel_n, jsh_l, if_true]
  rw [if_neg (by decide)]
  simp (disch := first | omega | rfl | assumption | exact jokr (by decide) (by omega) | exact jokr4 (by omega) | exact jkt_r _ _ | exact jkt_l (by decide) | exact jfk_l (by decide) | exact jkt_t _ | exact jkt_r6 _ _ | exact jkt_t6 _ | (simp only [jok, jlen]; omega) | decide) only [jlit, nI_ltI, nI_leI, nI_eq, if_neg, jm_k hL, jm_gi hL, jm_gr hL, jm_gl hL, jm_pi hL, jm_pl hL, jn_ai hL, jn_ab hL, jn_az hL, jn_al hL, jn_ar hL, jn_an hL, jn_si hL, jn_sb hL, jn_sz hL, jn_sl hL, Option.bind_some, xc, xl, jsA_X, jsI_X, jsG_X, hK _ _, jlk, jmx, jmul, nI_add, e1, h.past]
  refine ⟨_, rfl, ?_, rfl, fun q hq => jsA_fn (jmne (by omega)), rfl, jeqv.sA _ _ _ (fun q => q ⟨2, rfl⟩), rfl⟩
  have a : ∀ q, q ≠ 2 → jgA (jsA S (jm 2) (7 * p + (6 - (7 - i))) (nI l - nI 1)) (jm q) = jgA S (jm q) := fun q x => jsA_fn (jmne x)
  refine ⟨h.n, h.d, ?_, ?_, ?_, ?_, ?_, ?_, ?_, ?_⟩
  · intro q t hq ht
    rw [a 1 (by omega), h.cell q t hq ht]
    show _ = nI (if q = p ∧ 7 + t = 7 - i then l else jR.row A q (7 + t)) - nI 1
    rw [if_neg (fun z => by omega)]
  · intro q j hq hj
    rw [jsA_A]
    show _ = nI (if q = p ∧ j = 7 - i then l else jR.row A q j) - nI 1
    by_cases c : q = p ∧ j = 7 - i
    · rw [if_pos ⟨rfl, by rw [c.1, c.2]⟩, if_pos c]
    · rw [if_neg (fun z => c (by omega)), if_neg c]; exact h.past q j hq hj
  · intro l hl; rw [a 3 (by omega)]; exact h.bg l hl
  · intro l hl; rw [a 4 (by omega)]; exact h.ln l hl
  · intro l hl; rw [a 5 (by omega)]; exact h.nd l hl
  · intro q hq; rw [a 6 (by omega)]; exact h.sk q hq
  · intro p t hp ht hx; rw [a 7 (by omega)]; exact h.wl p t hp ht hx
  · intro p t hp ht; rw [a 8 (by omega)]; exact h.ww p t hp ht
theorem jno_past {L : jL} (hL : jgood L) (hD : jdim L) {ω : xS} {S : jSt} {A : jR} (hA : jRg A) {sw ps wy : Nat} (hK : jLK S sw ps wy) (h : jRC L S A) (h' : jRM L S A) {x1 x2 x3 : Int32} (hv : ¬ (jbel (jn L) x1 = true ∧ 1 ≤ x2.toInt ∧ x2.toInt ≤ 7 ∧ jsh x3 = true)) : f_RR_past (jad L (jo 0)) x1 x2 x3 (jW L ω S) = some (-9, jW L ω S) ∧ f_Mo_past (jad L (jm 0)) x1 x2 x3 (jW L ω S) = some (-9, jW L ω S) := by
  constructor
  · unfold f_RR_past
    simp (disch := first | omega | rfl | assumption | exact jokr (by decide) (by omega) | exact jokr4 (by omega) | exact jkt_r _ _ | exact jkt_l (by decide) | exact jfk_l (by decide) | exact jkt_t _ | exact jkt_r6 _ _ | exact jkt_t6 _ | (simp only [jok, jlen]; omega) | decide) only [jm_k hL, jm_gi hL, jm_gr hL, jm_gl hL, jm_pi hL, jm_pl hL, jn_ai hL, jn_ab hL, jn_az hL, jn_al hL, jn_ar hL, jn_an hL, jn_si hL, jn_sb hL, jn_sz hL, jn_sl hL, Option.bind_some, xc, xl, jRR_isPerson hL hD hA hK h, jRR_isShiftOrOff hL hD hA hK]
    cases c : jbel (jn L) x1
    · rfl
    · simp (disch := first | omega | rfl | assumption | exact jokr (by decide) (by omega) | exact jokr4 (by omega) | exact jkt_r _ _ | exact jkt_l (by decide) | exact jfk_l (by decide) | exact jkt_t _ | exact jkt_r6 _ _ | exact jkt_t6 _ | (simp only [jok, jlen]; omega) | decide) only [jlit, Int32.lt_iff_toInt_lt, nI_toInt]
      rw [if_neg (by decide)]
      split
      · rfl
      · split
        · rfl
        · cases c2 : jsh x3
          · rfl
          · exfalso; apply hv; exact ⟨c, by omega, by omega, c2⟩
  · unfold f_Mo_past
    simp (disch := first | omega | rfl | assumption | exact jokr (by decide) (by omega) | exact jokr4 (by omega) | exact jkt_r _ _ | exact jkt_l (by decide) | exact jfk_l (by decide) | exact jkt_t _ | exact jkt_r6 _ _ | exact jkt_t6 _ | (simp only [jok, jlen]; omega) | decide) only [jm_k hL, jm_gi hL, jm_gr hL, jm_gl hL, jm_pi hL, jm_pl hL, jn_ai hL, jn_ab hL, jn_az hL, jn_al hL, jn_ar hL, jn_an hL, jn_si hL, jn_sb hL, jn_sz hL, jn_sl hL, Option.bind_some, xc, xl, jMo_isPerson hL hD hA hK h', jMo_isShift]
    cases c : jbel (jn L) x1
    · rfl
    · simp (disch := first | omega | rfl | assumption | exact jokr (by decide) (by omega) | exact jokr4 (by omega) | exact jkt_r _ _ | exact jkt_l (by decide) | exact jfk_l (by decide) | exact jkt_t _ | exact jkt_r6 _ _ | exact jkt_t6 _ | (simp only [jok, jlen]; omega) | decide) only [jlit, Int32.lt_iff_toInt_lt, nI_toInt]
      rw [if_neg (by decide)]
      split
      · rfl
      · split
        · rfl
        · cases c2 : jsh x3
          · rfl
          · exfalso; apply hv; exact ⟨c, by omega, by omega, c2⟩
/-! wish -/
theorem jRR_wish {L : jL} (hL : jgood L) (hD : jdim L) {ω : xS} {S : jSt} {A : jR} (hA : jRg A) {sw ps wy : Nat} (hK : jLK S sw ps wy) (h : jRC L S A) {p t l v : Nat} (hp : p < jn L) (ht : t < jd L) (hl : l ≤ 8) (hv : v ≤ 1000) : ∃ S', f_RR_wish (jad L (jo 0)) (nI p) (nI t) (nI l - nI 1) (nI v) (jW L ω S) = some (nI 1, jW L ω S') ∧ jRC L S' (jR.wi A p t l v) ∧ jeqv (fun c => ¬ jisR c) S S' ∧ jgX S' = jgX S := by
  have h8 := hD.n8
  have h2 := hD.d21
  have hw0 := hA.ww p t
  have n18 : ¬ (fun c => ¬ jisR c) (jo 18) := fun q => q (Or.inl ⟨18, by omega, by omega, rfl⟩)
  have n1 : ¬ (fun c => ¬ jisR c) (jr 1 p) := fun q => q (Or.inr ⟨1, p, rfl⟩)
  have n2 : ¬ (fun c => ¬ jisR c) (jr 2 p) := fun q => q (Or.inr ⟨2, p, rfl⟩)
  have key : ∀ (x : Int32), x = nI (jno v) - nI (jno (jR.ww A p t)) → jRC L (jsA (jsA (jsI S (jo 18) 12 (jgI S (jo 18) 12 + x)) (jr 1 p) t (nI l)) (jr 2 p) t (nI v)) (jR.wi A p t l v) := by
    intro x hx
    have a : ∀ c, c ≠ jr 1 p → c ≠ jr 2 p → jgA (jsA (jsA (jsI S (jo 18) 12 (jgI S (jo 18) 12 + x)) (jr 1 p) t (nI l)) (jr 2 p) t (nI v)) c = jgA S c := fun c y z => by rw [jsA_fn z, jsA_fn y]; rfl
    refine ⟨?_, ?_, ?_, ?_, ?_, ?_, ?_, ?_, ?_, ?_, ?_, ?_, ?_⟩
    · rw [jsA_I, jsA_I, jsI_ne (Or.inr (by decide))]; exact h.n
    · rw [jsA_I, jsA_I, jsI_ne (Or.inr (by decide))]; exact h.d
    · intro l hl h1; rw [a _ (fun q => by cases q) (fun q => by cases q)]; exact h.bg l hl h1
    · intro l hl; rw [a _ (fun q => by cases q) (fun q => by cases q)]; exact h.ln l hl
    · intro l hl h1; rw [a _ (fun q => by cases q) (fun q => by cases q)]; exact h.nd l hl h1
    · intro q hq; rw [a _ (fun q => by cases q) (fun q => by cases q)]; exact h.sk q hq
    · intro q j hq hj; rw [a _ (fun q => by cases q) (fun q => by cases q)]; exact h.row q j hq hj
    · intro q u hq hu hx
      rw [jsA_ne (fun q => by cases q), jsA_A]
      show _ = nI (if q = p ∧ u = t then l else jR.wl A q u)
      by_cases c : q = p ∧ u = t
      · rw [if_pos ⟨by rw [c.1], c.2⟩, if_pos c]
      · rw [if_neg (fun z => c ⟨by have := z.1; simp at this; exact this, z.2⟩), if_neg c]
        have hx : (if q = p ∧ u = t then v else jR.ww A q u) ≠ 0 := hx
        rw [if_neg c] at hx
        exact h.wl q u hq hu hx
    · intro q u hq hu
      rw [jsA_A]
      show _ = nI (if q = p ∧ u = t then v else jR.ww A q u)
      by_cases c : q = p ∧ u = t
      · rw [if_pos ⟨by rw [c.1], c.2⟩, if_pos c]
      · rw [if_neg (fun z => c ⟨by have := z.1; simp at this; exact this, z.2⟩), if_neg c, jsA_ne (fun q => by cases q)]
        exact h.ww q u hq hu
    · intro q l' hq hl'; rw [a _ (fun q => by cases q) (fun q => by cases q)]; exact h.tf q l' hq hl'
    · intro t l' ht hl'; rw [a _ (fun q => by cases q) (fun q => by cases q)]; exact h.tn t l' ht hl'
    · rw [jsA_I, jsA_I, jsI_ne (Or.inr (by decide))]; exact h.fi
    · rw [jsA_I, jsA_I, jsI_I, if_pos ⟨rfl, rfl⟩, h.wi, hx]
      have e1 := jcntn (f := fun u => jR.ww A p u) (g := fun u => jR.ww (jR.wi A p t l v) p u) (t := t) (k := jd L) (a := jR.ww A p t) (b := v) ht rfl (by show (if p = p ∧ t = t then v else jR.ww A p t) = v; rw [if_pos ⟨rfl, rfl⟩]) (fun i hi hne => by show (if p = p ∧ i = t then v else jR.ww A p i) = jR.ww A p i; rw [if_neg (fun z => hne z.2)])
      have e2 := jsm_upd (f := fun q => jsm (fun u => jno (jR.ww A q u)) (jd L)) (g := fun q => jsm (fun u => jno (jR.ww (jR.wi A p t l v) q u)) (jd L)) (t := p) (k := jn L) hp (fun i hi hne => jsm_ext fun u hu => by show jno (if i = p ∧ u = t then v else jR.ww A i u) = jno (jR.ww A i u); rw [if_neg (fun z => hne z.1)])
      have e2 : jsm (fun q => jsm (fun u => jno (jR.ww (jR.wi A p t l v) q u)) (jd L)) (jn L) + jsm (fun u => jno (jR.ww A p u)) (jd L) = jsm (fun q => jsm (fun u => jno (jR.ww A q u)) (jd L)) (jn L) + jsm (fun u => jno (jR.ww (jR.wi A p t l v) p u)) (jd L) := e2
      have e3 : nI (jsm (fun q => jsm (fun u => jno (jR.ww (jR.wi A p t l v) q u)) (jd L)) (jn L)) + nI (jno (jR.ww A p t)) = nI (jsm (fun q => jsm (fun u => jno (jR.ww A q u)) (jd L)) (jn L)) + nI (jno v) := by
        rw [nI_add, nI_add]
        congr 1
        omega
      generalize nI (jsm (fun q => jsm (fun u => jno (jR.ww (jR.wi A p t l v) q u)) (jd L)) (jn L)) = x at e3 ⊢
      generalize nI (jsm (fun q => jsm (fun u => jno (jR.ww A q u)) (jd L)) (jn L)) = y at e3 ⊢
      generalize nI (jno v) = u at e3 ⊢
      generalize nI (jno (jR.ww A p t)) = z at e3 ⊢
      grind
  have kx : ∀ x : Int32, jeqv (fun c => ¬ jisR c) S (jsA (jsA (jsI S (jo 18) 12 (jgI S (jo 18) 12 + x)) (jr 1 p) t (nI l)) (jr 2 p) t (nI v)) := fun x => ((jeqv.sI _ _ _ n18).trans (jeqv.sA _ _ _ n1)).trans (jeqv.sA _ _ _ n2)
  have j0 : jno 0 = 0 := rfl
  have j1 : ∀ a, a ≠ 0 → jno a = 1 := fun a ha => by unfold jno; rw [if_neg ha]
  unfold f_RR_wish f_Roster_setWish f_Roster_setWish_31
  simp (disch := first | omega | rfl | assumption | exact jokr (by decide) (by omega) | exact jokr4 (by omega) | exact jkt_r _ _ | exact jkt_l (by decide) | exact jfk_l (by decide) | exact jkt_t _ | exact jkt_r6 _ _ | exact jkt_t6 _ | (simp only [jok, jlen]; omega) | decide) only [jm_k hL, jm_gi hL, jm_gr hL, jm_gl hL, jm_pi hL, jm_pl hL, jn_ai hL, jn_ab hL, jn_az hL, jn_al hL, jn_ar hL, jn_an hL, jn_si hL, jn_sb hL, jn_sz hL, jn_sl hL, Option.bind_some, xc, xl, jRR_isCell hL hD hA hK h, jRR_isShiftOrOff hL hD hA hK, jbel_n, jsh_l, Bool.and_self, if_true, jlit, nI_eq, nI_ltI, nI_leI, if_neg, if_pos, jsA_X, jsI_X, jsG_X, hK _ _, jlk, jmx, jm1c, h.ww]
  by_cases c1 : v = 0
  · rw [if_pos c1]
    by_cases c2 : jR.ww A p t = 0
    · rw [if_pos c2]
      simp (disch := first | omega | rfl | assumption | exact jokr (by decide) (by omega) | exact jokr4 (by omega) | exact jkt_r _ _ | exact jkt_l (by decide) | exact jfk_l (by decide) | exact jkt_t _ | exact jkt_r6 _ _ | exact jkt_t6 _ | (simp only [jok, jlen]; omega) | decide) only [jm_k hL, jm_gi hL, jm_gr hL, jm_gl hL, jm_pi hL, jm_pl hL, jn_ai hL, jn_ab hL, jn_az hL, jn_al hL, jn_ar hL, jn_an hL, jn_si hL, jn_sb hL, jn_sz hL, jn_sl hL, Option.bind_some, xc, xl, jsA_X, jsI_X, jsG_X, hK _ _, jlk, jmx]
      exact ⟨_, rfl, key _ (by rw [c1, c2, j0]), kx _, rfl⟩
    · rw [if_neg c2]
      simp (disch := first | omega | rfl | assumption | exact jokr (by decide) (by omega) | exact jokr4 (by omega) | exact jkt_r _ _ | exact jkt_l (by decide) | exact jfk_l (by decide) | exact jkt_t _ | exact jkt_r6 _ _ | exact jkt_t6 _ | (simp only [jok, jlen]; omega) | decide) only [jm_k hL, jm_gi hL, jm_gr hL, jm_gl hL, jm_pi hL, jm_pl hL, jn_ai hL, jn_ab hL, jn_az hL, jn_al hL, jn_ar hL, jn_an hL, jn_si hL, jn_sb hL, jn_sz hL, jn_sl hL, Option.bind_some, xc, xl, jsA_X, jsI_X, jsG_X, hK _ _, jlk, jmx]
      exact ⟨_, rfl, key _ (by rw [c1, j1 _ c2, j0]), kx _, rfl⟩
  · rw [if_neg c1]
    by_cases c2 : jR.ww A p t = 0
    · rw [if_pos c2]
      simp (disch := first | omega | rfl | assumption | exact jokr (by decide) (by omega) | exact jokr4 (by omega) | exact jkt_r _ _ | exact jkt_l (by decide) | exact jfk_l (by decide) | exact jkt_t _ | exact jkt_r6 _ _ | exact jkt_t6 _ | (simp only [jok, jlen]; omega) | decide) only [jm_k hL, jm_gi hL, jm_gr hL, jm_gl hL, jm_pi hL, jm_pl hL, jn_ai hL, jn_ab hL, jn_az hL, jn_al hL, jn_ar hL, jn_an hL, jn_si hL, jn_sb hL, jn_sz hL, jn_sl hL, Option.bind_some, xc, xl, jsA_X, jsI_X, jsG_X, hK _ _, jlk, jmx]
      exact ⟨_, rfl, key _ (by rw [c2, j1 _ c1, j0]), kx _, rfl⟩
    · rw [if_neg c2]
      simp (disch := first | omega | rfl | assumption | exact jokr (by decide) (by omega) | exact jokr4 (by omega) | exact jkt_r _ _ | exact jkt_l (by decide) | exact jfk_l (by decide) | exact jkt_t _ | exact jkt_r6 _ _ | exact jkt_t6 _ | (simp only [jok, jlen]; omega) | decide) only [jm_k hL, jm_gi hL, jm_gr hL, jm_gl hL, jm_pi hL, jm_pl hL, jn_ai hL, jn_ab hL, jn_az hL, jn_al hL, jn_ar hL, jn_an hL, jn_si hL, jn_sb hL, jn_sz hL, jn_sl hL, Option.bind_some, xc, xl, jsA_X, jsI_X, jsG_X, hK _ _, jlk, jmx]
      exact ⟨_, rfl, key _ (by rw [j1 _ c1, j1 _ c2]), kx _, rfl⟩
theorem jMo_wish {L : jL} (hL : jgood L) (hD : jdim L) {ω : xS} {S : jSt} {A : jR} (hA : jRg A) {sw ps wy : Nat} (hK : jLK S sw ps wy) (h : jRM L S A) {p t l v : Nat} (hp : p < jn L) (ht : t < jd L) (hl : l ≤ 8) (hv : v ≤ 1000) : ∃ S', f_Mo_wish (jad L (jm 0)) (nI p) (nI t) (nI l - nI 1) (nI v) (jW L ω S) = some (nI 1, jW L ω S') ∧ jRM L S' (jR.wi A p t l v) ∧ jgI S' = jgI S ∧ (∀ q, 9 ≤ q → jgA S' (jm q) = jgA S (jm q)) ∧ jgG S' = jgG S ∧ jeqv (fun c => ¬ jisM c) S S' ∧ jgX S' = jgX S := by
  have h8 := hD.n8
  have h2 := hD.d21
  unfold f_Mo_wish
  simp (disch := first | omega | rfl | assumption | exact jokr (by decide) (by omega) | exact jokr4 (by omega) | exact jkt_r _ _ | exact jkt_l (by decide) | exact jfk_l (by decide) | exact jkt_t _ | exact jkt_r6 _ _ | exact jkt_t6 _ | (simp only [jok, jlen]; omega) | decide) only [jm_k hL, jm_gi hL, jm_gr hL, jm_gl hL, jm_pi hL, jm_pl hL, jn_ai hL, jn_ab hL, jn_az hL, jn_al hL, jn_ar hL, jn_an hL, jn_si hL, jn_sb hL, jn_sz hL, jn_sl hL, Option.bind_some, xc, xl, jMo_isCell hL hD hA hK h, jMo_isShift, jbel_n, jsh_l, Bool.and_self, if_true, jlit, nI_eq, nI_ltI, nI_leI, if_neg, if_pos, jsA_X, jsI_X, jsG_X, hK _ _, jlk, jmx, jmul, nI_add]
  refine ⟨_, rfl, ?_, rfl, fun q hq => by rw [jsA_fn (jmne (by omega)), jsA_fn (jmne (by omega))], rfl, (jeqv.sA _ _ _ (fun q => q ⟨7, rfl⟩)).trans (jeqv.sA _ _ _ (fun q => q ⟨8, rfl⟩)), rfl⟩
  have a : ∀ q, q ≠ 7 → q ≠ 8 → jgA (jsA (jsA S (jm 7) (21 * p + t) (nI l - nI 1)) (jm 8) (21 * p + t) (nI v)) (jm q) = jgA S (jm q) := fun q x y => by rw [jsA_fn (jmne y), jsA_fn (jmne x)]
  refine ⟨h.n, h.d, ?_, ?_, ?_, ?_, ?_, ?_, ?_, ?_⟩
  · intro q u hq hu; rw [a 1 (by omega) (by omega)]; exact h.cell q u hq hu
  · intro q j hq hj; rw [a 2 (by omega) (by omega)]; exact h.past q j hq hj
  · intro l hl; rw [a 3 (by omega) (by omega)]; exact h.bg l hl
  · intro l hl; rw [a 4 (by omega) (by omega)]; exact h.ln l hl
  · intro l hl; rw [a 5 (by omega) (by omega)]; exact h.nd l hl
  · intro q hq; rw [a 6 (by omega) (by omega)]; exact h.sk q hq
  · intro q u hq hu hx
    rw [jsA_ne (by decide), jsA_A]
    show _ = nI (if q = p ∧ u = t then l else jR.wl A q u) - nI 1
    by_cases c : q = p ∧ u = t
    · rw [if_pos ⟨rfl, by rw [c.1, c.2]⟩, if_pos c]
    · rw [if_neg (fun z => c (by omega)), if_neg c]
      have hx : (if q = p ∧ u = t then v else jR.ww A q u) ≠ 0 := hx
      rw [if_neg c] at hx
      exact h.wl q u hq hu hx
  · intro q u hq hu
    rw [jsA_A]
    show _ = nI (if q = p ∧ u = t then v else jR.ww A q u)
    by_cases c : q = p ∧ u = t
    · rw [if_pos ⟨rfl, by rw [c.1, c.2]⟩, if_pos c]
    · rw [if_neg (fun z => c (by omega)), if_neg c, jsA_ne (by decide)]; exact h.ww q u hq hu
theorem jno_wish {L : jL} (hL : jgood L) (hD : jdim L) {ω : xS} {S : jSt} {A : jR} (hA : jRg A) {sw ps wy : Nat} (hK : jLK S sw ps wy) (h : jRC L S A) (h' : jRM L S A) {x1 x2 x3 x4 : Int32} (hv : ¬ (jbel (jn L) x1 = true ∧ jbel (jd L) x2 = true ∧ jsh x3 = true ∧ 0 ≤ x4.toInt ∧ x4.toInt ≤ 1000)) : f_RR_wish (jad L (jo 0)) x1 x2 x3 x4 (jW L ω S) = some (-1, jW L ω S) ∧ f_Mo_wish (jad L (jm 0)) x1 x2 x3 x4 (jW L ω S) = some (-1, jW L ω S) := by
  constructor
  · unfold f_RR_wish
    simp (disch := first | omega | rfl | assumption | exact jokr (by decide) (by omega) | exact jokr4 (by omega) | exact jkt_r _ _ | exact jkt_l (by decide) | exact jfk_l (by decide) | exact jkt_t _ | exact jkt_r6 _ _ | exact jkt_t6 _ | (simp only [jok, jlen]; omega) | decide) only [jm_k hL, jm_gi hL, jm_gr hL, jm_gl hL, jm_pi hL, jm_pl hL, jn_ai hL, jn_ab hL, jn_az hL, jn_al hL, jn_ar hL, jn_an hL, jn_si hL, jn_sb hL, jn_sz hL, jn_sl hL, Option.bind_some, xc, xl, jRR_isCell hL hD hA hK h, jRR_isShiftOrOff hL hD hA hK]
    cases c : jbel (jn L) x1
    · rfl
    · cases c2 : jbel (jd L) x2
      · rfl
      · cases c3 : jsh x3
        · rfl
        · simp (disch := first | omega | rfl | assumption | exact jokr (by decide) (by omega) | exact jokr4 (by omega) | exact jkt_r _ _ | exact jkt_l (by decide) | exact jfk_l (by decide) | exact jkt_t _ | exact jkt_r6 _ _ | exact jkt_t6 _ | (simp only [jok, jlen]; omega) | decide) only [jlit, Int32.lt_iff_toInt_lt, Int32.le_iff_toInt_le, nI_toInt, Bool.and_self, if_true, nI_eq, if_neg]
          (repeat' split) <;> first | rfl | (exfalso; apply hv; exact ⟨c, c2, c3, by omega, by omega⟩)
  · unfold f_Mo_wish
    simp (disch := first | omega | rfl | assumption | exact jokr (by decide) (by omega) | exact jokr4 (by omega) | exact jkt_r _ _ | exact jkt_l (by decide) | exact jfk_l (by decide) | exact jkt_t _ | exact jkt_r6 _ _ | exact jkt_t6 _ | (simp only [jok, jlen]; omega) | decide) only [jm_k hL, jm_gi hL, jm_gr hL, jm_gl hL, jm_pi hL, jm_pl hL, jn_ai hL, jn_ab hL, jn_az hL, jn_al hL, jn_ar hL, jn_an hL, jn_si hL, jn_sb hL, jn_sz hL, jn_sl hL, Option.bind_some, xc, xl, jMo_isCell hL hD hA hK h', jMo_isShift]
    cases c : jbel (jn L) x1
    · rfl
    · cases c2 : jbel (jd L) x2
      · rfl
      · cases c3 : jsh x3
        · rfl
        · simp (disch := first | omega | rfl | assumption | exact jokr (by decide) (by omega) | exact jokr4 (by omega) | exact jkt_r _ _ | exact jkt_l (by decide) | exact jfk_l (by decide) | exact jkt_t _ | exact jkt_r6 _ _ | exact jkt_t6 _ | (simp only [jok, jlen]; omega) | decide) only [jlit, Int32.lt_iff_toInt_lt, Int32.le_iff_toInt_le, nI_toInt, Bool.and_self, if_true, nI_eq, if_neg]
          (repeat' split) <;> first | rfl | (exfalso; apply hv; exact ⟨c, c2, c3, by omega, by omega⟩)
