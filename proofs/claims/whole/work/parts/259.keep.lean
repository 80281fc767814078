/-! a cell is put, and kept for undo -/
theorem jLK.of {S S' : jSt} {sw ps wy : Nat} (h : jLK S sw ps wy) (e : jgX S' = jgX S) : jLK S' sw ps wy := fun c k => by rw [e]; exact h c k
theorem jRR_keep {L : jL} (hL : jgood L) (hD : jdim L) {ω : xS} {S : jSt} {A : jR} (hA : jRg A) {sw ps wy : Nat} (hK : jLK S sw ps wy) {w : jLw} (h : jRC L S A) (hC : jLC L S w sw) {cn nw : Nat} {e : Nat → Nat × Nat × Nat} (hh : jHC S cn nw e) (hc : cn ≤ 200) {p t l : Nat} (hp : p < jn L) (ht : t < jd L) (hl : l ≤ 8) : ∃ S', f_RR_keepCell (jad L (jo 0)) (nI p) (nI t) (nI l) (jW L ω S) = some (jW L ω S') ∧ jRC L S' (jR.put A p t l) ∧ jHC S' (min 200 (cn + 1)) ((nw + 1) % 200) (jadd (p, t, jR.row A p (7 + t)) e) ∧ jeqv (fun c => ¬ jisH c ∧ ¬ jisR c) S S' ∧ jgX S' = jgX S := by
  obtain ⟨S1, e1, e2, e3, e4⟩ := jHi_add hL hD hA hK (ω := ω) hh hc (p := p) (t := t) (l := jR.row A p (7 + t))
  have hR1 : jRC L S1 A := h.same (e3.weak (fun c hc q => by
    obtain ⟨z, a, b, rfl⟩ := q
    rcases hc with ⟨y, c1, c2, c3⟩ | ⟨y1, y2, c3⟩
    · have : z = y := by simpa using c3
      omega
    · cases c3))
  have e5 := jRo_setCell hL hD hA (hK.of e4) (ω := ω) hR1 hp ht hl
  refine ⟨jcell S1 p t (jR.row A p (7 + t)) l, ?_, hR1.put hD hp ht, e2.same ?_, ?_, e4⟩
  · unfold f_RR_keepCell
    simp (disch := first | omega | rfl | assumption | exact jokr (by decide) (by omega) | exact jokr4 (by omega) | exact jkt_r _ _ | exact jkt_l (by decide) | exact jfk_l (by decide) | exact jkt_t _ | exact jkt_r6 _ _ | exact jkt_t6 _ | (simp only [jok, jlen]; omega) | decide) only [jm_k hL, jm_gi hL, jm_gr hL, jm_gl hL, jm_pi hL, jm_pl hL, jn_ai hL, jn_ab hL, jn_az hL, jn_al hL, jn_ar hL, jn_an hL, jn_si hL, jn_sb hL, jn_sz hL, jn_sl hL, Option.bind_some, xc, xl, jsA_X, jsI_X, jsG_X, hK _ _, jlk, jmx, jRo_letterOf hL hD hA hK h hp ht, e1, e4, e5]
  · refine jeqv.cell S1 p t _ l ?_ ?_ ?_ ?_
    · rintro ⟨q, a, b, c⟩
      have : 18 = q := by simpa using c
      omega
    · rintro ⟨q, a, b, c⟩; cases c
    · rintro ⟨q, a, b, c⟩; cases c
    · rintro ⟨q, a, b, c⟩; cases c
  · refine (e3.weak (fun c hc => hc.1)).trans (jeqv.cell S1 p t _ l ?_ ?_ ?_ ?_)
    · exact fun q => q.2 (Or.inl ⟨18, by omega, by omega, rfl⟩)
    · exact fun q => q.2 (Or.inr ⟨0, p, rfl⟩)
    · exact fun q => q.2 (Or.inr ⟨3, p, rfl⟩)
    · exact fun q => q.2 (Or.inr ⟨4, t, rfl⟩)
/-- of the reference: tape and place of the fault stay -/
def jmk (S S' : jSt) : Prop := jgI S' (jm 0) 11 = jgI S (jm 0) 11 ∧ jgI S' (jm 0) 12 = jgI S (jm 0) 12 ∧ jgA S' (jm 9) = jgA S (jm 9)
theorem jmk.refl (S : jSt) : jmk S S := ⟨rfl, rfl, rfl⟩
theorem jmk.trans {S S' S'' : jSt} (h : jmk S S') (h' : jmk S' S'') : jmk S S'' := ⟨h'.1.trans h.1, h'.2.1.trans h.2.1, h'.2.2.trans h.2.2⟩
theorem jMo_set {L : jL} (hL : jgood L) (hD : jdim L) {ω : xS} {S : jSt} {A : jR} (hA : jRg A) {sw ps wy : Nat} (hK : jLK S sw ps wy) {w : jLw} (h : jRM L S A) (hM : jLM S w) {cn fr : Nat} {e : Nat → Nat × Nat × Nat} (hh : jHM S cn fr e) (hc : cn ≤ 200) {p t l : Nat} (hp : p < jn L) (ht : t < jd L) (hl : l ≤ 8) : ∃ S', f_Mo_set1 (jad L (jm 0)) (nI (21 * p + t)) (nI l - nI 1) (jW L ω S) = some (jW L ω S') ∧ jRM L S' (jR.put A p t l) ∧ jLM S' w ∧ (∃ fr', jHM S' (min 200 (cn + 1)) fr' (jadd (p, t, jR.row A p (7 + t)) e)) ∧ jeqv (fun c => ¬ jisM c) S S' ∧ jgX S' = jgX S ∧ jmk S S' := by
  have h1 := hD.n8
  have h2 := hD.d21
  have hf := hh.f2
  have hm : (fr + cn) % 200 < 200 := Nat.mod_lt _ (by decide)
  have hm2 : (fr + 1) % 200 < 200 := Nat.mod_lt _ (by decide)
  have n0 : ¬ (fun c => ¬ jisM c) (jm 0) := fun q => q ⟨0, rfl⟩
  have n1 : ¬ (fun c => ¬ jisM c) (jm 1) := fun q => q ⟨1, rfl⟩
  have n25 : ¬ (fun c => ¬ jisM c) (jm 25) := fun q => q ⟨25, rfl⟩
  have n26 : ¬ (fun c => ¬ jisM c) (jm 26) := fun q => q ⟨26, rfl⟩
  -- two arrays are written, then a number, then the cell
  have key : ∀ (S1 : jSt) (fr' : Nat), fr' < 200 → jgI S1 (jm 0) 0 = jgI S (jm 0) 0 → jgI S1 (jm 0) 1 = jgI S (jm 0) 1 → jgI S1 (jm 0) 20 = jgI S (jm 0) 20 → jgI S1 (jm 0) 32 = nI (min 200 (cn + 1)) → jgI S1 (jm 0) 31 = nI fr' → (fr' + min 200 (cn + 1) - 1) % 200 = (fr + cn) % 200 → jgA S1 = jgA (jsA (jsA S (jm 25) ((fr + cn) % 200) (nI (21 * p + t))) (jm 26) ((fr + cn) % 200) (jgA S (jm 1) (21 * p + t))) → jRM L (jsA S1 (jm 1) (21 * p + t) (nI l - nI 1)) (jR.put A p t l) ∧ jLM (jsA S1 (jm 1) (21 * p + t) (nI l - nI 1)) w ∧ ∃ fr', jHM (jsA S1 (jm 1) (21 * p + t) (nI l - nI 1)) (min 200 (cn + 1)) fr' (jadd (p, t, jR.row A p (7 + t)) e) := by
    intro S1 fr' hfr g0 g1 g20 g32 g31 gk gA
    have a : ∀ q, q ≠ 25 → q ≠ 26 → jgA S1 (jm q) = jgA S (jm q) := fun q h5 h6 => by
      rw [gA, jsA_fn (jmne h6), jsA_fn (jmne h5)]
    have hRM1 : jRM L S1 A := by
      unfold jRM at h ⊢
      rw [g0, g1, a 1 (by omega) (by omega), a 2 (by omega) (by omega), a 3 (by omega) (by omega), a 4 (by omega) (by omega), a 5 (by omega) (by omega), a 6 (by omega) (by omega), a 7 (by omega) (by omega), a 8 (by omega) (by omega)]
      exact h
    refine ⟨hRM1.put hD hp ht, (hM.same g20 (fun q z1 z2 => a q (by omega) (by omega))).put _ _, fr', g32, g31, hfr, ?_, ?_⟩
    · intro i hi
      rw [jsA_ne (by decide), gA, jsA_ne (by decide), jsA_A]
      rcases i with _ | i
      · rw [if_pos ⟨rfl, gk⟩]; rfl
      · have e3 : (fr' + min 200 (cn + 1) - 1 - (i + 1)) % 200 = (fr + cn - 1 - i) % 200 := by omega
        rw [if_neg (fun q => by omega), e3]
        exact hh.c i (by omega)
    · intro i hi
      rw [jsA_ne (by decide), gA, jsA_A]
      rcases i with _ | i
      · rw [if_pos ⟨rfl, gk⟩]
        exact h.cell p t hp ht
      · have e3 : (fr' + min 200 (cn + 1) - 1 - (i + 1)) % 200 = (fr + cn - 1 - i) % 200 := by omega
        rw [if_neg (fun q => by omega), jsA_ne (by decide), e3]
        exact hh.l i (by omega)
  unfold f_Mo_set1
  simp (disch := first | omega | rfl | assumption | exact jokr (by decide) (by omega) | exact jokr4 (by omega) | exact jkt_r _ _ | exact jkt_l (by decide) | exact jfk_l (by decide) | exact jkt_t _ | exact jkt_r6 _ _ | exact jkt_t6 _ | (simp only [jok, jlen]; omega) | decide) only [jm_k hL, jm_gi hL, jm_gr hL, jm_gl hL, jm_pi hL, jm_pl hL, jn_ai hL, jn_ab hL, jn_az hL, jn_al hL, jn_ar hL, jn_an hL, jn_si hL, jn_sb hL, jn_sz hL, jn_sl hL, Option.bind_some, xc, xl, jsA_X, jsI_X, jsG_X, hK _ _, jlk, jmx, jlit, nI_add, hh.k, hh.f, jrem, jsA_I, jsA_ne (show jm 1 ≠ jm 25 by decide), nI_eq]
  by_cases c : cn = 200
  · rw [if_pos c]
    refine ⟨_, rfl, ?_⟩
    have := key (jsI (jsA (jsA S (jm 25) ((fr + cn) % 200) (nI (21 * p + t))) (jm 26) ((fr + cn) % 200) (jgA S (jm 1) (21 * p + t))) (jm 0) 31 (nI ((fr + 1) % 200))) ((fr + 1) % 200) hm2 rfl rfl rfl (by rw [jsI_ne (Or.inr (by decide)), jsA_I, jsA_I, hh.k]; congr 1; omega) (by rw [jsI_I, if_pos ⟨rfl, rfl⟩]) (by omega) rfl
    exact ⟨this.1, this.2.1, this.2.2, (((jeqv.sA _ _ _ n25).trans (jeqv.sA _ _ _ n26)).trans (jeqv.sI _ _ _ n0)).trans (jeqv.sA _ _ _ n1), rfl, rfl, rfl, by rw [jsA_fn (by decide), jsI_A, jsA_fn (by decide), jsA_fn (by decide)]⟩
  · rw [if_neg c]
    refine ⟨_, rfl, ?_⟩
    have := key (jsI (jsA (jsA S (jm 25) ((fr + cn) % 200) (nI (21 * p + t))) (jm 26) ((fr + cn) % 200) (jgA S (jm 1) (21 * p + t))) (jm 0) 32 (nI (cn + 1))) fr hf rfl rfl rfl (by rw [jsI_I, if_pos ⟨rfl, rfl⟩]; congr 1; omega) (by rw [jsI_ne (Or.inr (by decide)), jsA_I, jsA_I, hh.f]) (by omega) rfl
    exact ⟨this.1, this.2.1, this.2.2, (((jeqv.sA _ _ _ n25).trans (jeqv.sA _ _ _ n26)).trans (jeqv.sI _ _ _ n0)).trans (jeqv.sA _ _ _ n1), rfl, rfl, rfl, by rw [jsA_fn (by decide), jsI_A, jsA_fn (by decide), jsA_fn (by decide)]⟩
