/-! A NEW TABLE: the layout changes, the old one stays where it is, unused -/
def jLt (L : jL) (j z : Nat) : jL := (L.1, L.2.1, L.2.2.1, fun i => if i = j then z else L.2.2.2 i)
def jfit (L : jL) (z : Nat) : Prop := (jB L + 338 + 4 * jn L + jd L ≤ z) ∧ (∀ j, j < 32 → jtb L j < z)
theorem jfit.b {L : jL} {z : Nat} (h : jfit L z) : jB L + 338 + 4 * jn L + jd L ≤ z := h.1
theorem jfit.t {L : jL} {z : Nat} (h : jfit L z) : ∀ j, j < 32 → jtb L j < z := h.2
theorem jLt_tb (L : jL) (j z i : Nat) : jtb (jLt L j z) i = if i = j then z else jtb L i := rfl
theorem jgood.re {L : jL} (hL : jgood L) {j z : Nat} (hf : jfit L z) : jgood (jLt L j z) := by
  have hb := hf.b
  refine ⟨fun i hi => ?_, fun i i' hi hi' e => ?_⟩
  · rw [jLt_tb]
    by_cases c : i = j
    · rw [if_pos c]; right; exact hb
    · rw [if_neg c]; exact hL.1 i hi
  · rw [jLt_tb, jLt_tb] at e
    have t1 := hf.t i hi
    have t2 := hf.t i' hi'
    by_cases c : i = j
    · by_cases c' : i' = j
      · omega
      · rw [if_pos c, if_neg c'] at e; omega
    · by_cases c' : i' = j
      · rw [if_neg c, if_pos c'] at e; omega
      · rw [if_neg c, if_neg c'] at e; exact hL.2 i i' hi hi' e
theorem jfit.re {L : jL} {j z : Nat} (hf : jfit L z) : jfit (jLt L j z) (z + 1) := by
  refine ⟨Nat.le_succ_of_le hf.b, fun i hi => ?_⟩
  rw [jLt_tb]
  split
  · omega
  · exact Nat.lt_succ_of_lt (hf.t i hi)
theorem jLt_ad {L : jL} {j z : Nat} {c : jC} (h : c ≠ jt j) : jad (jLt L j z) c = jad L c := by
  rcases c with k | ⟨t, p⟩ | ⟨i, k⟩ | i | k
  · rfl
  · rfl
  · rfl
  · show jtb (jLt L j z) i = jtb L i
    rw [jLt_tb, if_neg (fun q => h (by rw [q]))]
  · rfl
theorem jLt_aj {L : jL} {j z : Nat} : jad (jLt L j z) (jt j) = z := if_pos rfl
theorem jLt_ok {L : jL} {j z : Nat} {c : jC} : jok (jLt L j z) c ↔ jok L c := by
  rcases c with k | ⟨t, p⟩ | ⟨i, k⟩ | i | k <;> exact Iff.rfl
theorem jLt_len {L : jL} {j z : Nat} {c : jC} {n : Nat} : jlen (jLt L j z) c n = jlen L c n := by
  rcases c with k | ⟨t, p⟩ | ⟨i, k⟩ | i | k <;> rfl
theorem jfit.lt {L : jL} {z : Nat} (hf : jfit L z) {c : jC} (hc : jok L c) : jad L c < z := by
  have hb := hf.b
  rcases c with k | ⟨t, p⟩ | ⟨i, k⟩ | i | k
  · simp only [jok] at hc
    simp only [jad]
    (repeat' split) <;> omega
  · simp only [jok] at hc
    simp only [jad]
    (repeat' split at hc) <;> (repeat' split) <;> omega
  · simp only [jok] at hc
    simp only [jad]
    omega
  · exact hf.t i hc
  · simp only [jok] at hc
    simp only [jad]
    omega
def jrl (T : jSt) (j len : Nat) : jSt := (T.1, fun c => if c = jt j then fun _ => 0 else T.2.1 c, T.2.2.1, T.2.2.2.1, fun c => if c = jt j then len else T.2.2.2.2 c)
theorem jrl_A {T : jSt} {j len : Nat} {c : jC} (h : c ≠ jt j) : jgA (jrl T j len) c = jgA T c := if_neg h
theorem jrl_N {T : jSt} {j len : Nat} {c : jC} (h : c ≠ jt j) : jgN (jrl T j len) c = jgN T c := if_neg h
theorem jrl_Nj {T : jSt} {j len : Nat} : jgN (jrl T j len) (jt j) = len := if_pos rfl
theorem jrl_Aj {T : jSt} {j len : Nat} : jgA (jrl T j len) (jt j) = fun _ => 0 := if_pos rfl
theorem jlk_t {sw ps wy j k : Nat} {c : jC} (h : jlk sw ps wy c k = jt j) : c = jl j 6 := by
  rcases c with q | ⟨t, p⟩ | ⟨i, q⟩ | i | q
  · exfalso
    revert h
    simp only [jlk]
    split <;> (try split) <;> intro h <;> cases h
  · cases h
  · revert h
    simp only [jlk]
    split
    · split <;> intro h <;> cases h
    · split <;> intro h <;> cases h
    · intro h
      have : i = j := by simpa using h
      rw [this]
    · intro h; cases h
  · cases h
  · exfalso
    revert h
    show jmx k = jt j → False
    unfold jmx
    split <;> intro h <;> cases h
theorem jfl_ext2 {L L' : jL} {S S' : jSt} {c : jC} : ∀ (fs : List Nat) (b : Nat), (∀ k y, b ≤ k → jfv L S c k y = jfv L' S' c k y) → jfl L S c b fs = jfl L' S' c b fs
  | [], b, h => rfl
  | q :: fs, b, h => by
    simp only [jfl]
    rw [jfl_ext2 fs (b + 1) (fun k y hk => h k y (by omega)), h b q (Nat.le_refl _)]
theorem jen_re {L : jL} {T : jSt} {sw ps wy j z len : Nat} (hK : jLK T sw ps wy) {c : jC} (h1 : c ≠ jt j) (h2 : c ≠ jl j 6) : jen (jLt L j z) (jrl T j len) c = jen L T c := by
  have hX : ∀ k, jad (jLt L j z) (jgX (jrl T j len) c k) = jad L (jgX T c k) := fun k => by
    show jad (jLt L j z) (jgX T c k) = _
    refine jLt_ad (fun q => h2 (jlk_t (k := k) (sw := sw) (ps := ps) (wy := wy) ?_))
    rw [← hK c k]; exact q
  have hv : ∀ k y, jfv (jLt L j z) (jrl T j len) c k y = jfv L T c k y := fun k y => by
    unfold jfv
    rw [hX k]
    rfl
  unfold jen
  rw [jfl_ext2 (L := jLt L j z) (L' := L) (S := jrl T j len) (S' := T) (jfk c) 0 (fun k y _ => hv k y), jLt_len, jrl_N h1, jrl_A h1, show jgG (jrl T j len) = jgG T from rfl]
  simp only [hX]
theorem jW_re {L : jL} (hL : jgood L) {ω : xS} {T : jSt} {sw ps wy : Nat} (hK : jLK T sw ps wy) {j z len : Nat} (hj : j < 32) (hf : jfit L z) : xp (xu (jW L ω T) z (.inl (0, len, .inl (fun _ => 0)))) (jad L (jl j 6)) 0 0 (.ref z) = some (jW (jLt L j z) (jW L ω T) (jrl T j len)) := by
  have hok : jok L (jl j 6) := ⟨hj, by omega⟩
  have hlt := hf.lt hok
  have e1 : xu (jW L ω T) z (.inl (0, len, .inl (fun _ => 0))) (jad L (jl j 6)) = some (.inr (0, jfl L T (jl j 6) 0 (jfk (jl j 6)))) := by
    rw [xu_ne _ _ (by omega), jW_ob hL hok (ci := 0) rfl]
  have hL' := hL.re (j := j) hf
  rw [xp, e1]
  show (if 0 = 0 ∧ 0 < (jfl L T (jl j 6) 0 (jfk (jl j 6))).length then _ else _) = _
  rw [if_pos ⟨rfl, by rw [jfl_len]; exact (show 0 < 2 by decide)⟩]
  congr 1
  funext p
  by_cases c1 : p = jad L (jl j 6)
  · subst c1
    rw [xu_self]
    have e2 : jad L (jl j 6) = jad (jLt L j z) (jl j 6) := rfl
    rw [e2, jW_ob hL' (ci := 0) (jLt_ok.mpr hok) rfl]
    have e3 : jfl (jLt L j z) (jrl T j len) (jl j 6) 0 (jfk (jl j 6)) = (jfl L T (jl j 6) 0 (jfk (jl j 6))).set 0 (.ref z) := by
      show [jfv (jLt L j z) (jrl T j len) (jl j 6) 0 2, jfv (jLt L j z) (jrl T j len) (jl j 6) 1 0] = [Value.ref z, jfv L T (jl j 6) 1 0]
      have e4 : jgX T (jl j 6) 0 = jt j := hK (jl j 6) 0
      show [Value.ref (jad (jLt L j z) (jgX T (jl j 6) 0)), _] = _
      rw [e4, jLt_aj]
      rfl
    rw [e3]
  · rw [xu_ne _ _ c1]
    by_cases c2 : p = z
    · subst c2
      rw [xu_self]
      have e2 : jad (jLt L j p) (jt j) = p := jLt_aj
      have e3 := jW_at hL' (ω := jW L ω T) (S := jrl T j len) (c := jt j) (jLt_ok.mpr hj)
      rw [e2] at e3
      rw [e3]
      unfold jen
      rw [jkt_t, if_neg (by decide), if_neg (by decide), if_neg (by decide), jrl_Aj]
      show _ = some (Sum.inl (0, jgN (jrl T j len) (jt j), _))
      rw [jrl_Nj]
    · rw [xu_ne _ _ c2]
      by_cases hx : ∃ c, jok (jLt L j z) c ∧ jad (jLt L j z) c = p
      · obtain ⟨c, h1, h2⟩ := hx
        have n1 : c ≠ jt j := fun q => by rw [q, jLt_aj] at h2; exact c2 h2.symm
        have n2 : c ≠ jl j 6 := fun q => by rw [q, jLt_ad (fun q => by cases q)] at h2; exact c1 h2.symm
        have h3 : jad L c = p := by rw [← jLt_ad n1]; exact h2
        have e3 := jW_at hL' (ω := jW L ω T) (S := jrl T j len) h1
        have e4 := jW_at hL (ω := ω) (S := T) (jLt_ok.mp h1)
        rw [h2] at e3
        rw [h3] at e4
        rw [e3, e4, jen_re hK n1 n2]
      · rw [jW_non hx]
/-- what a table's growing costs -/
def jgr (tl tl' c u : Nat) : Prop := (c = 0 ∧ u = 0 ∧ tl' = tl) ∨ (c = 1 ∧ u = 10 * tl' ∧ 12 ≤ tl' ∧ tl < tl' ∧ (2 * tl ≤ tl' ∨ tl' = 1025))
theorem jAu_reserve {L : jL} (hL : jgood L) {ω : xS} {T : jSt} {sw ps wy : Nat} (hK : jLK T sw ps wy) {j z tl q : Nat} (hj : j < 32) (hf : jfit L z) (hN : jgN T (jt j) = 10 * tl) (htl : tl ≤ 1025) (hq : q ≤ 1025) : ∃ (c u tl' : Nat) (tb' : Nat → Nat) (ω' : xS) (T' : jSt), f_Automaton_reserve (jad L (jl j 6)) (nI q) z (jW L ω T) = some (c, u, jW (L.1, L.2.1, L.2.2.1, tb') ω' T') ∧ jgood (L.1, L.2.1, L.2.2.1, tb') ∧ jfit (L.1, L.2.1, L.2.2.1, tb') (z + c) ∧ jgr tl tl' c u ∧ q ≤ tl' ∧ tl' ≤ 1025 ∧ jgN T' (jt j) = 10 * tl' ∧ (∀ c, c ≠ jt j → jgN T' c = jgN T c ∧ jgA T' c = jgA T c) ∧ jgI T' = jgI T ∧ jgX T' = jgX T ∧ jgG T' = jgG T := by
  by_cases c : q ≤ tl
  · refine ⟨0, 0, tl, L.2.2.2, ω, T, ?_, hL, hf, Or.inl ⟨rfl, rfl, rfl⟩, c, htl, hN, fun _ _ => ⟨rfl, rfl⟩, rfl, rfl, rfl⟩
    unfold f_Automaton_reserve
    simp (disch := first | omega | rfl | assumption | exact jokr (by decide) (by omega) | exact jokr4 (by omega) | exact jkt_r _ _ | exact jkt_l (by decide) | exact jfk_l (by decide) | exact jkt_t _ | exact jkt_r6 _ _ | exact jkt_t6 _ | (simp only [jok, jlen]; omega) | decide) only [jm_k hL, jm_gi hL, jm_gr hL, jm_gl hL, jm_pi hL, jm_pl hL, jn_ai hL, jn_ab hL, jn_az hL, jn_al hL, jn_ar hL, jn_an hL, jn_si hL, jn_sb hL, jn_sz hL, jn_sl hL, Option.bind_some, xc, xl, jsA_X, jsI_X, jsG_X, hK _ _, jlk, jmx, jlit, jmul, jlen, hN, nI_leI, if_pos]
    try rfl
  · refine ⟨1, 10 * min 1025 (max (max 12 q) (2 * tl)), min 1025 (max (max 12 q) (2 * tl)), (jLt L j z).2.2.2, jW L ω T, jrl T j (10 * min 1025 (max (max 12 q) (2 * tl))), ?_, hL.re hf, hf.re, Or.inr ⟨rfl, rfl, by omega, by omega, by omega⟩, by omega, by omega, jrl_Nj, fun c hc => ⟨jrl_N hc, jrl_A hc⟩, rfl, rfl, rfl⟩
    have e0 : nI (2 * (10 * tl)) / nI 10 = nI (2 * tl) := by
      rw [jdiv (by omega) (by omega)]; congr 1; omega
    have hm : min 1025 (max (max 12 q) (2 * tl)) * 10 = 10 * min 1025 (max (max 12 q) (2 * tl)) := Nat.mul_comm _ _
    have hle : min 1025 (max (max 12 q) (2 * tl)) ≤ 1025 := by omega
    have e1 : xmin (nI 1025) (xmax (xmax (nI 12) (nI q)) (nI (2 * tl))) * nI 10 = nI (10 * min 1025 (max (max 12 q) (2 * tl))) := by
      rw [jmax (by omega) (by omega), jmax (by omega) (by omega), jmin (by omega) (by omega), jmul, hm]
    have e2 := jW_re hL (ω := ω) hK (len := 10 * min 1025 (max (max 12 q) (2 * tl))) hj hf
    unfold f_Automaton_reserve
    simp (disch := first | omega | rfl | assumption | exact jokr (by decide) (by omega) | exact jokr4 (by omega) | exact jkt_r _ _ | exact jkt_l (by decide) | exact jfk_l (by decide) | exact jkt_t _ | exact jkt_r6 _ _ | exact jkt_t6 _ | (simp only [jok, jlen]; omega) | decide) only [jm_k hL, jm_gi hL, jm_gr hL, jm_gl hL, jm_pi hL, jm_pl hL, jn_ai hL, jn_ab hL, jn_az hL, jn_al hL, jn_ar hL, jn_an hL, jn_si hL, jn_sb hL, jn_sz hL, jn_sl hL, Option.bind_some, xc, xl, jsA_X, jsI_X, jsG_X, hK _ _, jlk, jmx, jlit, jmul, jlen, hN, nI_leI, if_neg, e0, e1, jneg, false_or, nI_ltI, nI_clamp]
    rw [show (fun (_ : Nat) => nI 0) = (fun _ => (0 : Int32)) from rfl, e2]
    rfl
