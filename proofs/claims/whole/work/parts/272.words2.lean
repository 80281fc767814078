/-! loops by what holds at their heads -/
theorem jlpI {σ R : Type} (F : Nat → Nat → σ → R) (Inv : Nat → σ → Prop) {lo hi : Nat} (hlo : lo ≤ hi) (hb : hi - lo + 1 ≤ 1000000) (h : ∀ n i s, lo ≤ i → i < hi → Inv i s → ∃ s', F (n + 1) i s = F n (i + 1) s' ∧ Inv (i + 1) s') (s : σ) (h0 : Inv lo s) : ∃ n s', F xFU lo s = F (n + 1) hi s' ∧ Inv hi s' := by
  have key : ∀ m n i s, lo ≤ i → i + m = hi → Inv i s → ∃ s', F (n + m) i s = F n hi s' ∧ Inv hi s' := by
    intro m
    induction m with
    | zero =>
      intro n i s h1 h2 h3
      rw [Nat.add_zero] at h2
      subst h2
      exact ⟨s, rfl, h3⟩
    | succ m ih =>
      intro n i s h1 h2 h3
      obtain ⟨s', e, h4⟩ := h (n + m) i s h1 (by omega) h3
      obtain ⟨s2, e2, h5⟩ := ih n (i + 1) s' (by omega) (by omega) h4
      exact ⟨s2, by rw [show n + (m + 1) = n + m + 1 by omega, e, e2], h5⟩
  obtain ⟨n, hn⟩ := jFU hb
  obtain ⟨s', e, h1⟩ := key (hi - lo) (n + 1) lo s (Nat.le_refl _) (by omega) h0
  exact ⟨n, s', by rw [hn, e], h1⟩
/-! the tables of automata -/
def jTb (S : jSt) (j ns : Nat) (nx fe : Nat → Nat) : Prop := (jgI S (jl j 6) 1 = nI ns) ∧ (10 * ns ≤ jgN S (jt j)) ∧ (jgN S (jt j) < 20000) ∧ (∀ s l, s < ns → l < 9 → jgA S (jt j) (10 * s + l) = nI (nx (9 * s + l))) ∧ (∀ s, s < ns → jgA S (jt j) (10 * s + 9) = nI (fe s))
theorem jTb.s {S : jSt} {j ns : Nat} {nx fe : Nat → Nat} (h : jTb S j ns nx fe) : jgI S (jl j 6) 1 = nI ns := h.1
theorem jTb.l {S : jSt} {j ns : Nat} {nx fe : Nat → Nat} (h : jTb S j ns nx fe) : 10 * ns ≤ jgN S (jt j) := h.2.1
theorem jTb.u {S : jSt} {j ns : Nat} {nx fe : Nat → Nat} (h : jTb S j ns nx fe) : jgN S (jt j) < 20000 := h.2.2.1
theorem jTb.x {S : jSt} {j ns : Nat} {nx fe : Nat → Nat} (h : jTb S j ns nx fe) : ∀ s l, s < ns → l < 9 → jgA S (jt j) (10 * s + l) = nI (nx (9 * s + l)) := h.2.2.2.1
theorem jTb.e {S : jSt} {j ns : Nat} {nx fe : Nat → Nat} (h : jTb S j ns nx fe) : ∀ s, s < ns → jgA S (jt j) (10 * s + 9) = nI (fe s) := h.2.2.2.2
theorem jAu_entry {L : jL} (hL : jgood L) {ω : xS} {S : jSt} {sw ps wy : Nat} (hK : jLK S sw ps wy) {j ns : Nat} {nx fe : Nat → Nat} (hj : j < 32) (h : jTb S j ns nx fe) {s l : Nat} (hs : s < ns) (hl : l ≤ 9) : f_Automaton_entry (jad L (jl j 6)) (nI s) (nI l) (jW L ω S) = some (if l < 9 then nI (nx (9 * s + l)) else nI (fe s)) := by
  have h1 := h.l
  have h2 := h.u
  unfold f_Automaton_entry
  simp (disch := first | omega | rfl | assumption | exact jokr (by decide) (by omega) | exact jokr4 (by omega) | exact jkt_r _ _ | exact jkt_l (by decide) | exact jfk_l (by decide) | exact jkt_t _ | exact jkt_r6 _ _ | exact jkt_t6 _ | (simp only [jok, jlen]; omega) | decide) only [jm_k hL, jm_gi hL, jm_gr hL, jm_gl hL, jm_pi hL, jm_pl hL, jn_ai hL, jn_ab hL, jn_az hL, jn_al hL, jn_ar hL, jn_an hL, jn_si hL, jn_sb hL, jn_sz hL, jn_sl hL, Option.bind_some, xc, xl, jsA_X, jsI_X, jsG_X, hK _ _, jlk, jmx, jlit, jmul, nI_add, jneg, if_false, jlen, nI_leI, if_neg]
  by_cases c : l < 9
  · rw [if_pos c, Nat.mul_comm s 10, h.x s l hs c]
  · rw [if_neg c, show l = 9 by omega, Nat.mul_comm s 10, h.e s hs]
theorem jwyc {wy : Nat} (h : wy ≤ 1) : (wy = 0 ∨ wy = 1) := by omega
theorem jal_a {L : jL} (hL : jgood L) {ω : xS} {S : jSt} {wy k : Nat} (h : wy ≤ 1) (hk : k < 1025) : xal (jW L ω S) (jad L (jo (14 + wy))) (nI k) = some (jgG S (jo (14 + wy)) k) := by
  rcases jwyc h with rfl | rfl
  · exact jn_al hL (c := jo 14) (by simp only [jok]; omega) rfl (by simp only [jlen]; omega) (by omega)
  · exact jn_al hL (c := jo 15) (by simp only [jok]; omega) rfl (by simp only [jlen]; omega) (by omega)
theorem jsl_a {L : jL} (hL : jgood L) {ω : xS} {S : jSt} {wy k : Nat} {v : Int64} (h : wy ≤ 1) (hk : k < 1025) : xsl (jW L ω S) (jad L (jo (14 + wy))) (nI k) v = some (jW L ω (jsG S (jo (14 + wy)) k v)) := by
  rcases jwyc h with rfl | rfl
  · exact jn_sl hL (c := jo 14) (by simp only [jok]; omega) rfl (by simp only [jlen]; omega) (by omega)
  · exact jn_sl hL (c := jo 15) (by simp only [jok]; omega) rfl (by simp only [jlen]; omega) (by omega)
theorem jsl_b {L : jL} (hL : jgood L) {ω : xS} {S : jSt} {wy k : Nat} {v : Int64} (h : wy ≤ 1) (hk : k < 1025) : xsl (jW L ω S) (jad L (jo (15 - wy))) (nI k) v = some (jW L ω (jsG S (jo (15 - wy)) k v)) := by
  rcases jwyc h with rfl | rfl
  · exact jn_sl hL (c := jo 15) (by simp only [jok]; omega) rfl (by simp only [jlen]; omega) (by omega)
  · exact jn_sl hL (c := jo 14) (by simp only [jok]; omega) rfl (by simp only [jlen]; omega) (by omega)
theorem jone {q r : Nat} (h : q ≠ r) : jo q ≠ jo r := fun z => h (by simpa using z)
/-- the links when ways and longerWays are swapped -/
theorem jLK.swapW {S : jSt} {sw ps wy : Nat} (h : jLK S sw ps wy) (hw : wy ≤ 1) : jLK (jsX (jsX S (jo 7) 6 (jo (15 - wy))) (jo 7) 7 (jo (14 + wy))) sw ps (1 - wy) := by
  intro c k
  rw [jsX_X, jsX_X]
  by_cases c7 : c = jo 7 ∧ k = 7
  · rw [if_pos c7, c7.1, c7.2]
    show jo (14 + wy) = jo (15 - (1 - wy))
    congr 1
    omega
  · rw [if_neg c7]
    by_cases c6 : c = jo 7 ∧ k = 6
    · rw [if_pos c6, c6.1, c6.2]
      show jo (15 - wy) = jo (14 + (1 - wy))
      congr 1
      omega
    · rw [if_neg c6, h c k]
      by_cases c0 : c = jo 7
      · subst c0
        rcases k with _ | _ | _ | _ | _ | _ | _ | _ | k
        · rfl
        · rfl
        · rfl
        · rfl
        · rfl
        · rfl
        · exact absurd ⟨rfl, rfl⟩ c6
        · exact absurd ⟨rfl, rfl⟩ c7
        · rfl
      · rcases c with q | ⟨t, p⟩ | ⟨j, q⟩ | j | q
        · have hq : q ≠ 7 := fun z => c0 (by rw [z])
          simp only [jlk]
          split <;> first | rfl | omega
        · rfl
        · rfl
        · rfl
        · rfl
/-- nothing but longs and links changes -/
def jsim (S S' : jSt) : Prop := jgI S' = jgI S ∧ jgA S' = jgA S ∧ jgN S' = jgN S
theorem jsim.refl (S : jSt) : jsim S S := ⟨rfl, rfl, rfl⟩
theorem jsim.trans {S S' S'' : jSt} (h : jsim S S') (h' : jsim S' S'') : jsim S S'' := ⟨h'.1.trans h.1, h'.2.1.trans h.2.1, h'.2.2.trans h.2.2⟩
theorem jTb.sim {S S' : jSt} {j ns : Nat} {nx fe : Nat → Nat} (h : jTb S j ns nx fe) (e : jsim S S') : jTb S' j ns nx fe := by
  unfold jTb at h ⊢
  rw [e.1, e.2.1, e.2.2]
  exact h
theorem jsG_c {S : jSt} {c : jC} {k k' : Nat} {v : Int64} : jgG (jsG S c k v) c k' = if k' = k then v else jgG S c k' := by
  rw [jsG_G]
  by_cases h : k' = k
  · rw [if_pos ⟨rfl, h⟩, if_pos h]
  · rw [if_neg (fun q => h q.2), if_neg h]
theorem jsG_o {S : jSt} {c c' : jC} {k : Nat} {v : Int64} (h : c' ≠ c) : jgG (jsG S c k v) c' = jgG S c' := by
  funext k'
  rw [jsG_G, if_neg (fun (q : c' = c ∧ k' = k) => h q.1)]
/-- THE CLASS COUNTS WORDS -/
theorem jKW_66 {L : jL} (hL : jgood L) {ω : xS} {S : jSt} {sw ps wy : Nat} (hK : jLK S sw ps wy) (hwy : wy ≤ 1) {j ns : Nat} {nx fe : Nat → Nat} (hj : j < 32) (h : jTb S j ns nx fe) (hns : ns ≤ 1025) (hnx : ∀ m, m < 9 * ns → nx m < ns) {k45 : Nat → Nat → Int32 → Int32 → Int32 → xS → Option (Int64 × xS)} {k54 : Nat → Nat → Int32 → Int32 → Int32 → Int32 → xS → Option (Int64 × xS)} {x2 x3 x4 : Int32} {s : Nat} (hs : s < ns) : f_AutomatonMaker_wordsOf_66 k45 k54 xFU (jad L (jo 7)) (jad L (jl j 6)) x2 x3 x4 (nI s) (lN 0) (nI 0) (jW L ω S) = k54 (jad L (jo 7)) (jad L (jl j 6)) x2 x3 x4 (nI (s + 1)) (jW L ω (jsG S (jo (15 - wy)) s (jbwd nx (jgG S (jo (14 + wy))) s))) := by
  refine jlpx (fun n i x => f_AutomatonMaker_wordsOf_66 k45 k54 n (jad L (jo 7)) (jad L (jl j 6)) x2 x3 x4 (nI s) x (nI i) (jW L ω S)) (fun i => jsl (fun l => jgG S (jo (14 + wy)) (nx (9 * s + l))) i) (lo := 0) (hi := 9) (Nat.zero_le _) (by omega) ?_ ?_
  · intro n i _ hi
    have e1 := jAu_entry hL (ω := ω) hK hj h hs (l := i) (by omega)
    rw [if_pos hi] at e1
    have hx := hnx (9 * s + i) (by omega)
    have e2 := jal_a hL (ω := ω) (S := S) hwy (k := nx (9 * s + i)) (by omega)
    rw [f_AutomatonMaker_wordsOf_66]
    simp (disch := first | omega | rfl | assumption | exact jokr (by decide) (by omega) | exact jokr4 (by omega) | exact jkt_r _ _ | exact jkt_l (by decide) | exact jfk_l (by decide) | exact jkt_t _ | exact jkt_r6 _ _ | exact jkt_t6 _ | (simp only [jok, jlen]; omega) | decide) only [jm_k hL, jm_gi hL, jm_gr hL, jm_gl hL, jm_pi hL, jm_pl hL, jn_ai hL, jn_ab hL, jn_az hL, jn_al hL, jn_ar hL, jn_an hL, jn_si hL, jn_sb hL, jn_sz hL, jn_sl hL, Option.bind_some, xc, xl, jsA_X, jsI_X, jsG_X, hK _ _, jlk, jmx, jlit, jlitl, jmul, nI_add, lN_add, nI_leI, nI_ltI, nI_eq, jm1, jm1g, jm1e, jm1c, if_neg, e1, e2]
    rfl
  · intro n
    have e2 := jsl_b hL (ω := ω) (S := S) hwy (k := s) (v := jbwd nx (jgG S (jo (14 + wy))) s) (by omega)
    rw [f_AutomatonMaker_wordsOf_66]
    simp (disch := first | omega | rfl | assumption | exact jokr (by decide) (by omega) | exact jokr4 (by omega) | exact jkt_r _ _ | exact jkt_l (by decide) | exact jfk_l (by decide) | exact jkt_t _ | exact jkt_r6 _ _ | exact jkt_t6 _ | (simp only [jok, jlen]; omega) | decide) only [jm_k hL, jm_gi hL, jm_gr hL, jm_gl hL, jm_pi hL, jm_pl hL, jn_ai hL, jn_ab hL, jn_az hL, jn_al hL, jn_ar hL, jn_an hL, jn_si hL, jn_sb hL, jn_sz hL, jn_sl hL, Option.bind_some, xc, xl, jsA_X, jsI_X, jsG_X, hK _ _, jlk, jmx, jlit, jlitl, jmul, nI_add, lN_add, nI_leI, nI_ltI, nI_eq, jm1, jm1g, jm1e, jm1c, if_pos]
    unfold jbwd at e2 ⊢
    rw [e2]
    rfl
theorem jKW_54 {L : jL} (hL : jgood L) {ω : xS} {S : jSt} {sw ps wy : Nat} (hK : jLK S sw ps wy) (hwy : wy ≤ 1) {j ns : Nat} {nx fe : Nat → Nat} (hj : j < 32) (h : jTb S j ns nx fe) (hns : ns ≤ 1025) (hnx : ∀ m, m < 9 * ns → nx m < ns) {k45 : Nat → Nat → Int32 → Int32 → Int32 → xS → Option (Int64 × xS)} {x2 : Int32} {r : Nat} : ∃ S', f_AutomatonMaker_wordsOf_54 k45 xFU (jad L (jo 7)) (jad L (jl j 6)) x2 (nI ns) (nI r) (nI 0) (jW L ω S) = k45 (jad L (jo 7)) (jad L (jl j 6)) x2 (nI ns) (nI (r + 1)) (jW L ω S') ∧ jLK S' sw ps (1 - wy) ∧ (∀ s, s < ns → jgG S' (jo (14 + (1 - wy))) s = jbwd nx (jgG S (jo (14 + wy))) s) ∧ jsim S S' := by
  obtain ⟨n, S1, e1, hK1, hG1, hB1, hs1⟩ := jlpI (fun n i (T : jSt) => f_AutomatonMaker_wordsOf_54 k45 n (jad L (jo 7)) (jad L (jl j 6)) x2 (nI ns) (nI r) (nI i) (jW L ω T)) (fun i T => jLK T sw ps wy ∧ jgG T (jo (14 + wy)) = jgG S (jo (14 + wy)) ∧ (∀ s, s < i → jgG T (jo (15 - wy)) s = jbwd nx (jgG S (jo (14 + wy))) s) ∧ jsim S T) (lo := 0) (hi := ns) (Nat.zero_le _) (by omega) (by
    intro n i T _ hi ⟨a1, a2, a3, a4⟩
    refine ⟨jsG T (jo (15 - wy)) i (jbwd nx (jgG T (jo (14 + wy))) i), ?_, a1, ?_, ?_, a4⟩
    · rw [f_AutomatonMaker_wordsOf_54, if_neg (fun q => by have := (nI_leI (by omega) (by omega)).mp q; omega)]
      exact jKW_66 hL a1 hwy hj (h.sim a4) hns hnx hi
    · rw [jsG_o (jone (by omega))]; exact a2
    · intro s hs
      rw [jsG_c]
      by_cases c : s = i
      · rw [if_pos c, c, a2]
      · rw [if_neg c]; exact a3 s (by omega)) S ⟨hK, rfl, fun s hs => absurd hs (Nat.not_lt_zero s), jsim.refl S⟩
  refine ⟨jsX (jsX S1 (jo 7) 6 (jo (15 - wy))) (jo 7) 7 (jo (14 + wy)), ?_, hK1.swapW hwy, ?_, ?_⟩
  · refine e1.trans ?_
    show f_AutomatonMaker_wordsOf_54 k45 (n + 1) _ _ _ _ _ _ _ = _
    rw [f_AutomatonMaker_wordsOf_54]
    have hK := hK1
    simp (disch := first | omega | rfl | assumption | exact jokr (by decide) (by omega) | exact jokr4 (by omega) | exact jkt_r _ _ | exact jkt_l (by decide) | exact jfk_l (by decide) | exact jkt_t _ | exact jkt_r6 _ _ | exact jkt_t6 _ | (simp only [jok, jlen]; omega) | decide) only [jm_k hL, jm_gi hL, jm_gr hL, jm_gl hL, jm_pi hL, jm_pl hL, jn_ai hL, jn_ab hL, jn_az hL, jn_al hL, jn_ar hL, jn_an hL, jn_si hL, jn_sb hL, jn_sz hL, jn_sl hL, Option.bind_some, xc, xl, jsA_X, jsI_X, jsG_X, hK _ _, jlk, jmx, jlit, jlitl, jmul, nI_add, lN_add, nI_leI, nI_ltI, nI_eq, jm1, jm1g, jm1e, jm1c, jm_pr hL, if_pos, jsX_X]
  · intro s hs
    show jgG S1 (jo (14 + (1 - wy))) s = _
    rw [show 14 + (1 - wy) = 15 - wy by omega]
    exact hB1 s hs
  · exact hs1
theorem jbwd_ext {n : Nat} {nx : Nat → Nat} {v w : Nat → Int64} (hnx : ∀ m, m < 9 * n → nx m < n) (h : ∀ s, s < n → v s = w s) {s : Nat} (hs : s < n) : jbwd nx v s = jbwd nx w s := jsl_ext fun l hl => h _ (hnx _ (by omega))
theorem jKW_words {L : jL} (hL : jgood L) {ω : xS} {S : jSt} {sw ps wy : Nat} (hK : jLK S sw ps wy) (hwy : wy ≤ 1) {j ns : Nat} {nx fe : Nat → Nat} (hj : j < 32) (h : jTb S j ns nx fe) (hn1 : 1 ≤ ns) (hns : ns ≤ 1025) (hnx : ∀ m, m < 9 * ns → nx m < ns) {x : Nat} (hx : x ≤ 40) : ∃ S' wy', f_AutomatonMaker_wordsOf (jad L (jo 7)) (jad L (jl j 6)) (nI x) (jW L ω S) = some (jbw nx (fun s => Int32.toInt64 (nI (fe s))) x 0, jW L ω S') ∧ wy' ≤ 1 ∧ jLK S' sw ps wy' ∧ jsim S S' := by
  obtain ⟨n, S1, e1, hK1, hG1, hs1⟩ := jlpI (fun n i (T : jSt) => f_AutomatonMaker_wordsOf_14 n (jad L (jo 7)) (jad L (jl j 6)) (nI x) (nI ns) (nI i) (jW L ω T)) (fun i T => jLK T sw ps wy ∧ (∀ s, s < i → jgG T (jo (14 + wy)) s = Int32.toInt64 (nI (fe s))) ∧ jsim S T) (lo := 0) (hi := ns) (Nat.zero_le _) (by omega) (by
    intro n i T _ hi ⟨a1, a3, a4⟩
    have hK := a1
    have e1 := jAu_entry hL (ω := ω) a1 hj (h.sim a4) hi (l := 9) (by omega)
    rw [if_neg (by omega)] at e1
    have e2 := jsl_a hL (ω := ω) (S := T) hwy (k := i) (v := Int32.toInt64 (nI (fe i))) (by omega)
    refine ⟨jsG T (jo (14 + wy)) i (Int32.toInt64 (nI (fe i))), ?_, a1, ?_, a4⟩
    · show f_AutomatonMaker_wordsOf_14 (n + 1) _ _ _ _ _ _ = f_AutomatonMaker_wordsOf_14 n _ _ _ _ _ _
      rw [f_AutomatonMaker_wordsOf_14]
      simp (disch := first | omega | rfl | assumption | exact jokr (by decide) (by omega) | exact jokr4 (by omega) | exact jkt_r _ _ | exact jkt_l (by decide) | exact jfk_l (by decide) | exact jkt_t _ | exact jkt_r6 _ _ | exact jkt_t6 _ | (simp only [jok, jlen]; omega) | decide) only [jm_k hL, jm_gi hL, jm_gr hL, jm_gl hL, jm_pi hL, jm_pl hL, jn_ai hL, jn_ab hL, jn_az hL, jn_al hL, jn_ar hL, jn_an hL, jn_si hL, jn_sb hL, jn_sz hL, jn_sl hL, Option.bind_some, xc, xl, jsA_X, jsI_X, jsG_X, hK _ _, jlk, jmx, jlit, nI_add, nI_leI, if_neg, e1, e2]
    · intro s hs
      rw [jsG_c]
      by_cases c : s = i
      · rw [if_pos c, c]
      · rw [if_neg c]; exact a3 s (by omega)) S ⟨hK, fun s hs => absurd hs (Nat.not_lt_zero s), jsim.refl S⟩
  obtain ⟨n2, T2, e2, hw2, hK2, hG2, hs2⟩ := jlpI (fun n i (T : jSt × Nat) => f_AutomatonMaker_wordsOf_45 n (jad L (jo 7)) (jad L (jl j 6)) (nI x) (nI ns) (nI i) (jW L ω T.1)) (fun i T => T.2 ≤ 1 ∧ jLK T.1 sw ps T.2 ∧ (∀ s, s < ns → jgG T.1 (jo (14 + T.2)) s = jbw nx (fun s => Int32.toInt64 (nI (fe s))) i s) ∧ jsim S T.1) (lo := 0) (hi := x) (Nat.zero_le _) (by omega) (by
    intro n i T _ hi ⟨a0, a1, a3, a4⟩
    obtain ⟨S', b1, b2, b3, b4⟩ := jKW_54 hL (ω := ω) a1 a0 hj (h.sim a4) hns hnx (k45 := f_AutomatonMaker_wordsOf_45 n) (x2 := nI x) (r := i)
    refine ⟨(S', 1 - T.2), ?_, by show 1 - T.2 ≤ 1; omega, b2, ?_, a4.trans b4⟩
    · show f_AutomatonMaker_wordsOf_45 (n + 1) _ _ _ _ _ _ = f_AutomatonMaker_wordsOf_45 n _ _ _ _ _ _
      rw [f_AutomatonMaker_wordsOf_45, if_neg (fun q => by have := (nI_leI (by omega) (by omega)).mp q; omega)]
      exact b1
    · intro s hs
      show jgG S' (jo (14 + (1 - T.2))) s = _
      rw [b3 s hs, jbwd_ext hnx a3 hs]
      rfl) (S1, wy) ⟨hwy, hK1, hG1, hs1⟩
  refine ⟨T2.1, T2.2, ?_, hw2, hK2, hs2⟩
  have e3 := h.s
  have e4 := jal_a hL (ω := ω) (S := T2.1) hw2 (k := 0) (by omega)
  unfold f_AutomatonMaker_wordsOf
  simp (disch := first | omega | rfl | assumption | exact jokr (by decide) (by omega) | exact jokr4 (by omega) | exact jkt_r _ _ | exact jkt_l (by decide) | exact jfk_l (by decide) | exact jkt_t _ | exact jkt_r6 _ _ | exact jkt_t6 _ | (simp only [jok, jlen]; omega) | decide) only [jm_k hL, jm_gi hL, jm_gr hL, jm_gl hL, jm_pi hL, jm_pl hL, jn_ai hL, jn_ab hL, jn_az hL, jn_al hL, jn_ar hL, jn_an hL, jn_si hL, jn_sb hL, jn_sz hL, jn_sl hL, Option.bind_some, xc, xl, e3, jlit, jmin]
  rw [show min 1025 ns = ns by omega]
  refine e1.trans ?_
  show f_AutomatonMaker_wordsOf_14 (n + 1) _ _ _ _ _ _ = _
  rw [f_AutomatonMaker_wordsOf_14, if_pos ((nI_leI (by omega) (by omega)).mpr (Nat.le_refl _))]
  refine e2.trans ?_
  show f_AutomatonMaker_wordsOf_45 (n2 + 1) _ _ _ _ _ _ = _
  rw [f_AutomatonMaker_wordsOf_45, if_pos ((nI_leI (by omega) (by omega)).mpr (Nat.le_refl _))]
  have hK := hK2
  simp (disch := first | omega | rfl | assumption | exact jokr (by decide) (by omega) | exact jokr4 (by omega) | exact jkt_r _ _ | exact jkt_l (by decide) | exact jfk_l (by decide) | exact jkt_t _ | exact jkt_r6 _ _ | exact jkt_t6 _ | (simp only [jok, jlen]; omega) | decide) only [jm_k hL, jm_gi hL, jm_gr hL, jm_gl hL, jm_pi hL, jm_pl hL, jn_ai hL, jn_ab hL, jn_az hL, jn_al hL, jn_ar hL, jn_an hL, jn_si hL, jn_sb hL, jn_sz hL, jn_sl hL, Option.bind_some, xc, xl, jsA_X, jsI_X, jsG_X, hK _ _, jlk, jmx, jlit]
  rw [e4, Option.bind_some, hG2 0 (by omega)]
