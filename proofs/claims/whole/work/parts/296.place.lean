/-! THE CLASS'S POSITIONS: a place more, all places gone -/
theorem jkl1 {L : jL} (hL : jgood L) {ω : xS} {S : jSt} {j : Nat} (hj : j < 32) {α : Type} {q : Option α} : xk (jW L ω S) (jad L (jl j 1)) 7 q = q := jm_k hL ⟨hj, by omega⟩ rfl
theorem jP_clear {L : jL} (hL : jgood L) {ω : xS} {S : jSt} {sw ps wy : Nat} (hK : jLK S sw ps wy) {j : Nat} (hj : j < 32) : ∃ T, f_Positions_clear (jad L (jl j 1)) (jW L ω S) = some (jW L ω T) ∧ jfq (fun c => c = jl j 1 ∨ c = jl j 2 ∨ c = jl j 3) S T ∧ jgI T (jl j 1) 4 = nI 0 ∧ jgI T (jl j 1) 5 = nI 0 ∧ (∀ l, l < 9 → jgA T (jl j 2) l = nI 0) ∧ ∀ p, p < 10 → jgA T (jl j 3) p = nI 0 := by
  have f0 : jfq (fun c => c = jl j 1 ∨ c = jl j 2 ∨ c = jl j 3) S (jsI (jsI S (jl j 1) 4 (nI 0)) (jl j 1) 5 (nI 0)) := (jfq.sI _ _ _ (Or.inl rfl)).trans (jfq.sI _ _ _ (Or.inl rfl))
  obtain ⟨n, T1, e1, a1, a2, a3⟩ := jlpI (fun n i (T : jSt) => f_Positions_clear_12 n (jad L (jl j 1)) (nI i) (jW L ω T)) (fun i T => jfq (fun c => c = jl j 1 ∨ c = jl j 2 ∨ c = jl j 3) S T ∧ jgI T = jgI (jsI (jsI S (jl j 1) 4 (nI 0)) (jl j 1) 5 (nI 0)) ∧ ∀ l, l < i → jgA T (jl j 2) l = nI 0) (lo := 0) (hi := 9) (Nat.zero_le _) (by omega) (by
    intro n i T _ hi ⟨b1, b2, b3⟩
    have hK := hK.of b1.1
    refine ⟨jsA T (jl j 2) i (nI 0), ?_, b1.trans (jfq.sA _ _ _ (Or.inr (Or.inl rfl))), b2, fun l hl => ?_⟩
    · show f_Positions_clear_12 (n + 1) _ _ _ = f_Positions_clear_12 n _ _ _
      rw [f_Positions_clear_12]
      simp (disch := first | omega | rfl | assumption | exact jokr (by decide) (by omega) | exact jokr4 (by omega) | exact jkt_r _ _ | exact jkt_l (by decide) | exact jfk_l (by decide) | exact jkt_t _ | exact jkt_r6 _ _ | exact jkt_t6 _ | (simp only [jok, jlen]; omega) | decide) only [jm_k hL, jm_gi hL, jm_gr hL, jm_gl hL, jm_pi hL, jm_pl hL, jn_ai hL, jn_ab hL, jn_az hL, jn_al hL, jn_ar hL, jn_an hL, jn_si hL, jn_sb hL, jn_sz hL, jn_sl hL, Option.bind_some, xc, xl, jsA_X, jsI_X, jsG_X, hK _ _, jlk, jmx, jlit, nI_add, nI_leI, if_neg]
    · rw [jsA_c]
      by_cases c : l = i
      · rw [if_pos c]
      · rw [if_neg c]; exact b3 l (by omega)) _ ⟨f0, rfl, fun l hl => absurd hl (Nat.not_lt_zero l)⟩
  obtain ⟨n2, T2, e2, c1, c2, c3, c4⟩ := jlpI (fun n i (T : jSt) => f_Positions_clear_33 n (jad L (jl j 1)) (nI i) (jW L ω T)) (fun i T => jfq (fun c => c = jl j 1 ∨ c = jl j 2 ∨ c = jl j 3) S T ∧ jgI T = jgI (jsI (jsI S (jl j 1) 4 (nI 0)) (jl j 1) 5 (nI 0)) ∧ (∀ l, l < 9 → jgA T (jl j 2) l = nI 0) ∧ ∀ p, p < i → jgA T (jl j 3) p = nI 0) (lo := 0) (hi := 10) (Nat.zero_le _) (by omega) (by
    intro n i T _ hi ⟨b1, b2, b3, b4⟩
    have hK := hK.of b1.1
    refine ⟨jsA T (jl j 3) i (nI 0), ?_, b1.trans (jfq.sA _ _ _ (Or.inr (Or.inr rfl))), b2, fun l hl => ?_, fun p hp => ?_⟩
    · show f_Positions_clear_33 (n + 1) _ _ _ = f_Positions_clear_33 n _ _ _
      rw [f_Positions_clear_33]
      simp (disch := first | omega | rfl | assumption | exact jokr (by decide) (by omega) | exact jokr4 (by omega) | exact jkt_r _ _ | exact jkt_l (by decide) | exact jfk_l (by decide) | exact jkt_t _ | exact jkt_r6 _ _ | exact jkt_t6 _ | (simp only [jok, jlen]; omega) | decide) only [jm_k hL, jm_gi hL, jm_gr hL, jm_gl hL, jm_pi hL, jm_pl hL, jn_ai hL, jn_ab hL, jn_az hL, jn_al hL, jn_ar hL, jn_an hL, jn_si hL, jn_sb hL, jn_sz hL, jn_sl hL, Option.bind_some, xc, xl, jsA_X, jsI_X, jsG_X, hK _ _, jlk, jmx, jlit, nI_add, nI_leI, if_neg]
    · rw [jsA_ne (fun z => by cases z)]; exact b3 l hl
    · rw [jsA_c]
      by_cases c : p = i
      · rw [if_pos c]
      · rw [if_neg c]; exact b4 p (by omega)) T1 ⟨a1, a2, a3, fun l hl => absurd hl (Nat.not_lt_zero l)⟩
  refine ⟨T2, ?_, c1, ?_, ?_, c3, c4⟩
  · unfold f_Positions_clear
    simp (disch := first | omega | rfl | assumption | exact jokr (by decide) (by omega) | exact jokr4 (by omega) | exact jkt_r _ _ | exact jkt_l (by decide) | exact jfk_l (by decide) | exact jkt_t _ | exact jkt_r6 _ _ | exact jkt_t6 _ | (simp only [jok, jlen]; omega) | decide) only [jm_k hL, jm_gi hL, jm_gr hL, jm_gl hL, jm_pi hL, jm_pl hL, jn_ai hL, jn_ab hL, jn_az hL, jn_al hL, jn_ar hL, jn_an hL, jn_si hL, jn_sb hL, jn_sz hL, jn_sl hL, Option.bind_some, xc, xl, jlit]
    refine e1.trans ?_
    show f_Positions_clear_12 (n + 1) _ _ _ = _
    rw [f_Positions_clear_12]
    simp (disch := first | omega | rfl | assumption | exact jokr (by decide) (by omega) | exact jokr4 (by omega) | exact jkt_r _ _ | exact jkt_l (by decide) | exact jfk_l (by decide) | exact jkt_t _ | exact jkt_r6 _ _ | exact jkt_t6 _ | (simp only [jok, jlen]; omega) | decide) only [jlit, nI_leI, if_pos]
    refine e2.trans ?_
    show f_Positions_clear_33 (n2 + 1) _ _ _ = _
    rw [f_Positions_clear_33]
    simp (disch := first | omega | rfl | assumption | exact jokr (by decide) (by omega) | exact jokr4 (by omega) | exact jkt_r _ _ | exact jkt_l (by decide) | exact jfk_l (by decide) | exact jkt_t _ | exact jkt_r6 _ _ | exact jkt_t6 _ | (simp only [jok, jlen]; omega) | decide) only [jlit, nI_leI, if_pos]
  · rw [c2, jsI_c, if_neg (by decide), jsI_c, if_pos rfl]
  · rw [c2, jsI_c, if_pos rfl]
theorem jenc_bit {z : Nat} (hz : z < 10) : nI (2 ^ z) ||| (nI (2 ^ z) <<< (nI 10 &&& nI 31)) = nI (jenc (2 ^ z, 2 ^ z, 0)) ∧ jGg (2 ^ z, 2 ^ z, 0) := by
  have hall : ∀ z, z < 10 → nI (2 ^ z) ||| (nI (2 ^ z) <<< (nI 10 &&& nI 31)) = nI (jenc (2 ^ z, 2 ^ z, 0)) := by decide +kernel
  have h2 : 2 ^ z ≤ 2 ^ 9 := Nat.pow_le_pow_right (by decide) (by omega)
  exact ⟨hall z hz, by show 2 ^ z < 1024; omega, by show 2 ^ z < 1024; omega, Nat.zero_le _⟩
theorem jP_add {L : jL} (hL : jgood L) {ω : xS} {S : jSt} {sw ps wy : Nat} (hK : jLK S sw ps wy) {j z b : Nat} (hj : j < 32) (hz : jgI S (jl j 1) 4 = nI z) (hz10 : z < 10) (hb : b < 512) : ∃ T, f_Positions_add (jad L (jl j 1)) (nI b) (jW L ω S) = some (nI (jenc (2 ^ z, 2 ^ z, 0)), jW L ω T) ∧ jfq (fun c => c = jl j 1 ∨ c = jl j 2) S T ∧ jgI T = jgI (jsI S (jl j 1) 4 (nI (z + 1))) ∧ ∀ l, l < 9 → jgA T (jl j 2) l = if b.testBit l = true then jgA S (jl j 2) l ||| nI (2 ^ z) else jgA S (jl j 2) l := by
  have f0 : jfq (fun c => c = jl j 1 ∨ c = jl j 2) S (jsI S (jl j 1) 4 (nI (z + 1))) := jfq.sI _ _ _ (Or.inl rfl)
  obtain ⟨n, T1, e1, a1, a2, a3⟩ := jlpI (fun n i (T : jSt) => f_Positions_add_36 n (jad L (jl j 1)) (nI b) (nI (2 ^ z)) (nI i) (jW L ω T)) (fun i T => jfq (fun c => c = jl j 1 ∨ c = jl j 2) S T ∧ jgI T = jgI (jsI S (jl j 1) 4 (nI (z + 1))) ∧ ∀ l, jgA T (jl j 2) l = if l < i ∧ b.testBit l = true then jgA S (jl j 2) l ||| nI (2 ^ z) else jgA S (jl j 2) l) (lo := 0) (hi := 9) (Nat.zero_le _) (by omega) (by
    intro n i T _ hi ⟨b1, b2, b3⟩
    have hK := hK.of b1.1
    have hbt := jbt0 (a := b) (p := i) (by omega) (by omega)
    have hj1 := jbit_tb b i
    have hj2 := jbit_lt b i
    by_cases c : b.testBit i = true
    · refine ⟨jsA T (jl j 2) i (jgA T (jl j 2) i ||| nI (2 ^ z)), ?_, b1.trans (jfq.sA _ _ _ (Or.inr rfl)), b2, fun l => ?_⟩
      · show f_Positions_add_36 (n + 1) _ _ _ _ _ = f_Positions_add_36 n _ _ _ _ _
        rw [f_Positions_add_36]
        simp (disch := first | omega | rfl | assumption | exact jokr (by decide) (by omega) | exact jokr4 (by omega) | exact jkt_r _ _ | exact jkt_l (by decide) | exact jfk_l (by decide) | exact jkt_t _ | exact jkt_r6 _ _ | exact jkt_t6 _ | (simp only [jok, jlen]; omega) | decide) only [jm_k hL, jm_gi hL, jm_gr hL, jm_gl hL, jm_pi hL, jm_pl hL, jn_ai hL, jn_ab hL, jn_az hL, jn_al hL, jn_ar hL, jn_an hL, jn_si hL, jn_sb hL, jn_sz hL, jn_sl hL, Option.bind_some, xc, xl, jsA_X, jsI_X, jsG_X, hK _ _, jlk, jmx, jlit, nI_add, nI_leI, if_neg]
        rw [if_neg (fun z => by have := hbt.mp z; have := hj1.mpr c; omega)]
      · rw [jsA_c]
        by_cases e : l = i
        · rw [if_pos e, e, if_pos ⟨by omega, c⟩, b3 i, if_neg (by omega)]
        · rw [if_neg e, b3 l]
          by_cases c2 : l < i ∧ b.testBit l = true
          · rw [if_pos c2, if_pos ⟨by omega, c2.2⟩]
          · rw [if_neg c2, if_neg (fun z => c2 ⟨by omega, z.2⟩)]
    · refine ⟨T, ?_, b1, b2, fun l => ?_⟩
      · show f_Positions_add_36 (n + 1) _ _ _ _ _ = f_Positions_add_36 n _ _ _ _ _
        rw [f_Positions_add_36]
        simp (disch := first | omega | rfl | assumption | exact jokr (by decide) (by omega) | exact jokr4 (by omega) | exact jkt_r _ _ | exact jkt_l (by decide) | exact jfk_l (by decide) | exact jkt_t _ | exact jkt_r6 _ _ | exact jkt_t6 _ | (simp only [jok, jlen]; omega) | decide) only [jm_k hL, jm_gi hL, jm_gr hL, jm_gl hL, jm_pi hL, jm_pl hL, jn_ai hL, jn_ab hL, jn_az hL, jn_al hL, jn_ar hL, jn_an hL, jn_si hL, jn_sb hL, jn_sz hL, jn_sl hL, Option.bind_some, xc, xl, jsA_X, jsI_X, jsG_X, hK _ _, jlk, jmx, jlit, nI_add, nI_leI, if_neg]
        rw [if_pos (hbt.mpr (by
          have : ¬ jbit b i = 1 := fun z => c (hj1.mp z)
          omega))]
      · rw [b3 l]
        by_cases c2 : l < i ∧ b.testBit l = true
        · rw [if_pos c2, if_pos ⟨by omega, c2.2⟩]
        · rw [if_neg c2, if_neg (fun z => c2 ⟨by
            rcases Nat.lt_or_ge l i with q | q
            · exact q
            · exact absurd (show b.testBit i = true by rw [show i = l by omega]; exact z.2) c, z.2⟩)]) _ ⟨f0, rfl, fun l => by rw [if_neg (by omega)]; rfl⟩
  refine ⟨T1, ?_, a1, a2, fun l hl => ?_⟩
  · unfold f_Positions_add
    have hsh := jsh1 (p := z) (by omega)
    simp (disch := first | omega | rfl | assumption | exact jokr (by decide) (by omega) | exact jokr4 (by omega) | exact jkt_r _ _ | exact jkt_l (by decide) | exact jfk_l (by decide) | exact jkt_t _ | exact jkt_r6 _ _ | exact jkt_t6 _ | (simp only [jok, jlen]; omega) | decide) only [jm_k hL, jm_gi hL, jm_gr hL, jm_gl hL, jm_pi hL, jm_pl hL, jn_ai hL, jn_ab hL, jn_az hL, jn_al hL, jn_ar hL, jn_an hL, jn_si hL, jn_sb hL, jn_sz hL, jn_sl hL, Option.bind_some, xc, xl, jsA_X, jsI_X, jsG_X, hK _ _, jlk, jmx, jlit, nI_add, nI_ltI, if_pos, hz, hsh]
    refine e1.trans ?_
    show f_Positions_add_36 (n + 1) _ _ _ _ _ = _
    rw [f_Positions_add_36]
    simp (disch := first | omega | rfl | assumption | exact jokr (by decide) (by omega) | exact jokr4 (by omega) | exact jkt_r _ _ | exact jkt_l (by decide) | exact jfk_l (by decide) | exact jkt_t _ | exact jkt_r6 _ _ | exact jkt_t6 _ | (simp only [jok, jlen]; omega) | decide) only [jlit, nI_leI, if_pos]
    rw [(jenc_bit hz10).1]
  · rw [a3 l]
    by_cases c : b.testBit l = true
    · rw [if_pos ⟨hl, c⟩, if_pos c]
    · rw [if_neg (fun z => c z.2), if_neg c]
theorem jP_add10 {L : jL} (hL : jgood L) {ω : xS} {S : jSt} {sw ps wy : Nat} (hK : jLK S sw ps wy) {j z : Nat} {v : Int32} (hj : j < 32) (hz : jgI S (jl j 1) 4 = nI z) (hz10 : z = 10) : f_Positions_add (jad L (jl j 1)) v (jW L ω S) = some (nI (jenc (0, 0, 1)), jW L ω (jsI S (jl j 1) 5 (nI 1))) := by
  subst hz10
  unfold f_Positions_add
  simp (disch := first | omega | rfl | assumption | exact jokr (by decide) (by omega) | exact jokr4 (by omega) | exact jkt_r _ _ | exact jkt_l (by decide) | exact jfk_l (by decide) | exact jkt_t _ | exact jkt_r6 _ _ | exact jkt_t6 _ | (simp only [jok, jlen]; omega) | decide) only [jm_k hL, jm_gi hL, jm_gr hL, jm_gl hL, jm_pi hL, jm_pl hL, jn_ai hL, jn_ab hL, jn_az hL, jn_al hL, jn_ar hL, jn_an hL, jn_si hL, jn_sb hL, jn_sz hL, jn_sl hL, Option.bind_some, xc, xl, jsA_X, jsI_X, jsG_X, hK _ _, jlk, jmx, jlit, nI_ltI, if_neg, hz]
  rfl
/-! the class's tables of what follows -/
theorem jP_fol {L : jL} (hL : jgood L) {ω : xS} {S : jSt} {sw ps wy : Nat} (hK : jLK S sw ps wy) {j u b : Nat} {fo : Nat → Nat} (hj : j < 32) (hu : u < 32) (hb : b = 0 ∨ b = 5) (hfo : ∀ p, p < 10 → jgA S (jl j 3) p = nI (fo p)) : f_Positions_followersOf (jad L (jl j 1)) (nI u) (nI b) (jW L ω S) = some (nI (jos (fun i => fo (b + i)) u 5)) := by
  unfold f_Positions_followersOf
  refine jlpx (fun n i x => f_Positions_followersOf_5 n (jad L (jl j 1)) (nI u) (nI b) x (nI i) (jW L ω S)) (fun i => nI (jos (fun i => fo (b + i)) u i)) (lo := 0) (hi := 5) (Nat.zero_le _) (by omega) ?_ ?_
  · intro n i _ hi
    have hbt := jbt0 (a := u) (p := i) (by omega) (by omega)
    have hj2 := jbit_lt u i
    have hf := hfo (b + i) (by omega)
    show f_Positions_followersOf_5 (n + 1) _ _ _ _ _ _ = f_Positions_followersOf_5 n _ _ _ _ _ _
    rw [f_Positions_followersOf_5, jos]
    simp (disch := first | omega | rfl | assumption | exact jokr (by decide) (by omega) | exact jokr4 (by omega) | exact jkt_r _ _ | exact jkt_l (by decide) | exact jfk_l (by decide) | exact jkt_t _ | exact jkt_r6 _ _ | exact jkt_t6 _ | (simp only [jok, jlen]; omega) | decide) only [jm_k hL, jm_gi hL, jm_gr hL, jm_gl hL, jm_pi hL, jm_pl hL, jn_ai hL, jn_ab hL, jn_az hL, jn_al hL, jn_ar hL, jn_an hL, jn_si hL, jn_sb hL, jn_sz hL, jn_sl hL, Option.bind_some, xc, xl, jsA_X, jsI_X, jsG_X, hK _ _, jlk, jmx, jlit, nI_add, nI_leI, if_neg]
    by_cases c : jbit u i = 1
    · rw [if_neg (fun z => by have := hbt.mp z; omega), if_pos c]
      simp (disch := first | omega | rfl | assumption | exact jokr (by decide) (by omega) | exact jokr4 (by omega) | exact jkt_r _ _ | exact jkt_l (by decide) | exact jfk_l (by decide) | exact jkt_t _ | exact jkt_r6 _ _ | exact jkt_t6 _ | (simp only [jok, jlen]; omega) | decide) only [jm_k hL, jm_gi hL, jm_gr hL, jm_gl hL, jm_pi hL, jm_pl hL, jn_ai hL, jn_ab hL, jn_az hL, jn_al hL, jn_ar hL, jn_an hL, jn_si hL, jn_sb hL, jn_sz hL, jn_sl hL, Option.bind_some, xc, xl, jsA_X, jsI_X, jsG_X, hK _ _, jlk, jmx, hf, jorA]
    · rw [if_pos (hbt.mpr (by omega)), if_neg c, Nat.or_zero]
  · intro n
    show f_Positions_followersOf_5 (n + 1) _ _ _ _ _ _ = _
    rw [f_Positions_followersOf_5]
    simp (disch := first | omega | rfl | assumption | exact jokr (by decide) (by omega) | exact jokr4 (by omega) | exact jkt_r _ _ | exact jkt_l (by decide) | exact jfk_l (by decide) | exact jkt_t _ | exact jkt_r6 _ _ | exact jkt_t6 _ | (simp only [jok, jlen]; omega) | decide) only [jlit, nI_leI, if_pos]
theorem jP_finish {L : jL} (hL : jgood L) {ω : xS} {S : jSt} {sw ps wy : Nat} (hK : jLK S sw ps wy) {j : Nat} {x : jG} {fo : Nat → Nat} (hj : j < 32) (hx : jGg x) (hfo : ∀ p, p < 10 → jgA S (jl j 3) p = nI (fo p)) : ∃ T, f_Positions_finish (jad L (jl j 1)) (nI (jenc x)) (jW L ω S) = some (jW L ω T) ∧ jfq (fun c => c = jl j 1 ∨ c = jl j 4 ∨ c = jl j 5) S T ∧ jgI T (jl j 1) 4 = jgI S (jl j 1) 4 ∧ jgI T (jl j 1) 6 = nI x.1 ∧ jgI T (jl j 1) 7 = nI x.2.1 ∧ jgI T (jl j 1) 8 = nI x.2.2 ∧ (∀ u, u < 32 → jgA T (jl j 4) u = nI (jos fo u 5)) ∧ ∀ u, u < 32 → jgA T (jl j 5) u = nI (jos (fun i => fo (5 + i)) u 5) := by
  have hxl := jenc_lt hx
  have hl := hx.l
  have he := hx.e
  have l3 : jenc x &&& 1048576 ≤ 1048576 := Nat.and_le_right
  have e7 : (nI (jenc x) >>> (nI 10 &&& nI 31)) &&& nI 1023 = nI x.2.1 := by
    rw [jshr (by omega) (by omega), jandA]
    congr 1
    refine Nat.eq_of_testBit_eq fun i => ?_
    rw [Nat.testBit_and, jm1023, ← Nat.shiftRight_eq_div_pow, Nat.testBit_shiftRight, jenc_tb hx, if_neg (by omega)]
    by_cases c : i < 10
    · rw [if_pos (by omega), decide_eq_true c, Bool.and_true, show 10 + i - 10 = i by omega]
    · rw [decide_eq_false c, Bool.and_false, jtb_lt (n := 10) hl (by omega)]
  have loop : ∀ U : jSt, jfq (fun c => c = jl j 1 ∨ c = jl j 4 ∨ c = jl j 5) S U → jgA U = jgA S → ∃ T, f_Positions_finish_39 xFU (jad L (jl j 1)) 0 (jW L ω U) = some (jW L ω T) ∧ jfq (fun c => c = jl j 1 ∨ c = jl j 4 ∨ c = jl j 5) S T ∧ jgI T = jgI U ∧ (∀ u, u < 32 → jgA T (jl j 4) u = nI (jos fo u 5)) ∧ ∀ u, u < 32 → jgA T (jl j 5) u = nI (jos (fun i => fo (5 + i)) u 5) := by
    intro U hU hUA
    obtain ⟨n, T, e1, a1, a2, a3, a4⟩ := jlpI (fun n i (T : jSt) => f_Positions_finish_39 n (jad L (jl j 1)) (nI i) (jW L ω T)) (fun i T => jfq (fun c => c = jl j 1 ∨ c = jl j 4 ∨ c = jl j 5) S T ∧ jgI T = jgI U ∧ (∀ u, u < i → jgA T (jl j 4) u = nI (jos fo u 5)) ∧ ∀ u, u < i → jgA T (jl j 5) u = nI (jos (fun i => fo (5 + i)) u 5)) (lo := 0) (hi := 32) (Nat.zero_le _) (by omega) (by
      intro n i T _ hi ⟨b1, b2, b3, b4⟩
      have hK := hK.of b1.1
      have n3 : ¬ (fun c => c = jl j 1 ∨ c = jl j 4 ∨ c = jl j 5) (jl j 3) := fun z => by rcases z with z | z | z <;> first | exact absurd z (jone (by decide)) | cases z
      have hf : ∀ p, p < 10 → jgA T (jl j 3) p = nI (fo p) := fun p hp => by rw [(b1.2.2 _ n3).2]; exact hfo p hp
      have hf2 : ∀ p, p < 10 → jgA (jsA T (jl j 4) i (nI (jos fo i 5))) (jl j 3) p = nI (fo p) := fun p hp => by rw [jsA_ne (fun z => by cases z)]; exact hf p hp
      have q1 : f_Positions_followersOf (jad L (jl j 1)) (nI i) 0 (jW L ω T) = some (nI (jos fo i 5)) := by
        have := jP_fol hL (ω := ω) hK (u := i) (b := 0) (fo := fo) hj hi (Or.inl rfl) hf
        simp only [Nat.zero_add] at this
        exact this
      have q2 : f_Positions_followersOf (jad L (jl j 1)) (nI i) 5 (jW L ω (jsA T (jl j 4) i (nI (jos fo i 5)))) = some (nI (jos (fun i => fo (5 + i)) i 5)) := jP_fol hL (ω := ω) (S := jsA T (jl j 4) i (nI (jos fo i 5))) hK (u := i) (b := 5) (fo := fo) hj hi (Or.inr rfl) hf2
      refine ⟨jsA (jsA T (jl j 4) i (nI (jos fo i 5))) (jl j 5) i (nI (jos (fun i => fo (5 + i)) i 5)), ?_, (b1.trans (jfq.sA _ _ _ (Or.inr (Or.inl rfl)))).trans (jfq.sA _ _ _ (Or.inr (Or.inr rfl))), b2, fun u hu => ?_, fun u hu => ?_⟩
      · show f_Positions_finish_39 (n + 1) _ _ _ = f_Positions_finish_39 n _ _ _
        rw [f_Positions_finish_39]
        have jl32 : ∀ v : Int32, ¬ (32 : Int32) ≤ nI i := fun v z => by have := (nI_leI (a := 32) (by omega) (by omega)).mp z; omega
        rw [if_neg (jl32 0)]
        simp (disch := first | omega | rfl | assumption | exact jokr (by decide) (by omega) | exact jokr4 (by omega) | exact jkt_r _ _ | exact jkt_l (by decide) | exact jfk_l (by decide) | exact jkt_t _ | exact jkt_r6 _ _ | exact jkt_t6 _ | (simp only [jok, jlen]; omega) | decide) only [jm_k hL, jm_gi hL, jm_gr hL, jm_gl hL, jm_pi hL, jm_pl hL, jn_ai hL, jn_ab hL, jn_az hL, jn_al hL, jn_ar hL, jn_an hL, jn_si hL, jn_sb hL, jn_sz hL, jn_sl hL, Option.bind_some, xc, xl, jsA_X, jsI_X, jsG_X, hK _ _, jlk, jmx, q1, q2]
        rw [show nI i + 1 = nI (i + 1) by rw [jlit, nI_add]]
      · rw [jsA_ne (fun z => by cases z), jsA_c]
        by_cases c : u = i
        · rw [if_pos c, c]
        · rw [if_neg c]; exact b3 u (by omega)
      · rw [jsA_c]
        by_cases c : u = i
        · rw [if_pos c, c]
        · rw [if_neg c, jsA_ne (fun z => by cases z)]; exact b4 u (by omega)) U ⟨hU, rfl, fun u hu => absurd hu (Nat.not_lt_zero u), fun u hu => absurd hu (Nat.not_lt_zero u)⟩
    refine ⟨T, ?_, a1, a2, a3, a4⟩
    refine e1.trans ?_
    show f_Positions_finish_39 (n + 1) _ _ _ = _
    rw [f_Positions_finish_39]
    simp (disch := first | omega | rfl | assumption | exact jokr (by decide) (by omega) | exact jokr4 (by omega) | exact jkt_r _ _ | exact jkt_l (by decide) | exact jfk_l (by decide) | exact jkt_t _ | exact jkt_r6 _ _ | exact jkt_t6 _ | (simp only [jok, jlen]; omega) | decide) only [jlit, nI_leI, if_pos]
  have fin : ∀ v : Nat, v = x.2.2 → ∃ T, f_Positions_finish_39 xFU (jad L (jl j 1)) 0 (jW L ω (jsI (jsI (jsI S (jl j 1) 6 (nI x.1)) (jl j 1) 7 (nI x.2.1)) (jl j 1) 8 (nI v))) = some (jW L ω T) ∧ jfq (fun c => c = jl j 1 ∨ c = jl j 4 ∨ c = jl j 5) S T ∧ jgI T (jl j 1) 4 = jgI S (jl j 1) 4 ∧ jgI T (jl j 1) 6 = nI x.1 ∧ jgI T (jl j 1) 7 = nI x.2.1 ∧ jgI T (jl j 1) 8 = nI x.2.2 ∧ (∀ u, u < 32 → jgA T (jl j 4) u = nI (jos fo u 5)) ∧ ∀ u, u < 32 → jgA T (jl j 5) u = nI (jos (fun i => fo (5 + i)) u 5) := by
    intro v hv
    obtain ⟨T, g1, g2, g3, g4, g5⟩ := loop (jsI (jsI (jsI S (jl j 1) 6 (nI x.1)) (jl j 1) 7 (nI x.2.1)) (jl j 1) 8 (nI v)) (((jfq.sI _ _ _ (Or.inl rfl)).trans (jfq.sI _ _ _ (Or.inl rfl))).trans (jfq.sI _ _ _ (Or.inl rfl))) rfl
    refine ⟨T, g1, g2, ?_, ?_, ?_, ?_, g4, g5⟩
    · rw [g3, jsI_c, if_neg (by decide), jsI_c, if_neg (by decide), jsI_c, if_neg (by decide)]
    · rw [g3, jsI_c, if_neg (by decide), jsI_c, if_neg (by decide), jsI_c, if_pos rfl]
    · rw [g3, jsI_c, if_neg (by decide), jsI_c, if_pos rfl]
    · rw [g3, jsI_c, if_pos rfl, hv]
  unfold f_Positions_finish
  by_cases c : x.2.2 = 0
  · obtain ⟨T, g1, g2⟩ := fin 0 c.symm
    refine ⟨T, ?_, g2⟩
    have c2 := (jenc_E0 hx).mpr c
    simp (disch := first | omega | rfl | assumption | exact jokr (by decide) (by omega) | exact jokr4 (by omega) | exact jkt_r _ _ | exact jkt_l (by decide) | exact jfk_l (by decide) | exact jkt_t _ | exact jkt_r6 _ _ | exact jkt_t6 _ | (simp only [jok, jlen]; omega) | decide) only [jm_k hL, jm_gi hL, jm_gr hL, jm_gl hL, jm_pi hL, jm_pl hL, jn_ai hL, jn_ab hL, jn_az hL, jn_al hL, jn_ar hL, jn_an hL, jn_si hL, jn_sb hL, jn_sz hL, jn_sl hL, Option.bind_some, xc, xl, jlit, jandA (jenc x), jenc_F hx, e7, c2, if_true]
    exact g1
  · obtain ⟨T, g1, g2⟩ := fin 1 (by omega)
    refine ⟨T, ?_, g2⟩
    have c2 : ¬ jenc x &&& 1048576 = 0 := fun z => c ((jenc_E0 hx).mp z)
    simp (disch := first | omega | rfl | assumption | exact jokr (by decide) (by omega) | exact jokr4 (by omega) | exact jkt_r _ _ | exact jkt_l (by decide) | exact jfk_l (by decide) | exact jkt_t _ | exact jkt_r6 _ _ | exact jkt_t6 _ | (simp only [jok, jlen]; omega) | decide) only [jm_k hL, jm_gi hL, jm_gr hL, jm_gl hL, jm_pi hL, jm_pl hL, jn_ai hL, jn_ab hL, jn_az hL, jn_al hL, jn_ar hL, jn_an hL, jn_si hL, jn_sb hL, jn_sz hL, jn_sl hL, Option.bind_some, xc, xl, jlit, jandA (jenc x), jenc_F hx, e7, nI_eq, if_neg]
    exact g1
