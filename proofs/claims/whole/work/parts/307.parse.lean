/-! THE CLASS'S PARSER: faults, the end, the whole pattern -/
theorem jPp_take_bad {L : jL} (hL : jgood L) {ω : xS} {S : jSt} {sw ps wy : Nat} (hK : jLK S sw ps wy) {tp : Nat → Nat} {ts q t x j f p : Nat} {s : jPs} (hT : jTc S tp ts) (hP : jPx tp ts q t) (hq : q < x) (hx : x < t) (hj : j < 32) (hi : jPi s) (hd : jPs.d s ≤ 40) (h : jCs S j s x 0) (hf : jFt1 tp ts x s f p) : ∃ T, f_PatternParser_takeByte (jad L (jo 31)) (nI (tp x)) (jad L (jl j 1)) (jW L ω S) = some (jW L ω T) ∧ jfq (jisP j) S T ∧ jgI T (jo 31) 10 = nI f ∧ jgI T (jo 31) 11 = nI p ∧ jgI T (jo 31) 8 = nI 0 := by
  have hb := hP.b
  have ht := hP.t
  have hbb := hb x
  have g4 : xgi (jW L ω S) (jad L (jo 31)) 6 4 = some (nI (jPs.d s)) := by
    have := h.d
    simp (disch := first | omega | rfl | assumption | exact jokr (by decide) (by omega) | exact jokr4 (by omega) | exact jkt_r _ _ | exact jkt_l (by decide) | exact jfk_l (by decide) | exact jkt_t _ | exact jkt_r6 _ _ | exact jkt_t6 _ | (simp only [jok, jlen]; omega) | decide) only [jm_gi hL, this]
  have g9 : xgi (jW L ω S) (jad L (jo 31)) 6 9 = some (nI x) := by
    have := h.x
    simp (disch := first | omega | rfl | assumption | exact jokr (by decide) (by omega) | exact jokr4 (by omega) | exact jkt_r _ _ | exact jkt_l (by decide) | exact jfk_l (by decide) | exact jkt_t _ | exact jkt_r6 _ _ | exact jkt_t6 _ | (simp only [jok, jlen]; omega) | decide) only [jm_gi hL, this]
  have e75 : jPs.hs s = 1 → ∃ v, xgi (jW L ω S) (jad L (jo 31)) 6 5 = some v ∧ ¬ v = (-1 : Int32) := fun h1 => by
    obtain ⟨z, X, U, y, q1, q2, q3, q4, q5, q6, q7, q8, q9⟩ := h.ex hi
    obtain ⟨g, rfl⟩ := jysome q8 h1
    obtain ⟨hg, h5⟩ := q7.s g rfl
    exact ⟨_, by simp (disch := first | omega | rfl | assumption | exact jokr (by decide) (by omega) | exact jokr4 (by omega) | exact jkt_r _ _ | exact jkt_l (by decide) | exact jfk_l (by decide) | exact jkt_t _ | exact jkt_r6 _ _ | exact jkt_t6 _ | (simp only [jok, jlen]; omega) | decide) only [jm_gi hL, h5], jenc_ne hg⟩
  -- refused at x
  have rf := jPp_ref hL (ω := ω) hK (f := 2) (p := x) h.x
  have pack : ∀ X : Option xS, X = some (jW L ω (jsI (jsI (jsI S (jo 31) 10 (nI 2)) (jo 31) 11 (nI x)) (jo 31) 9 (nI (x + 1)))) → f_PatternParser_takeByte (jad L (jo 31)) (nI (tp x)) (jad L (jl j 1)) (jW L ω S) = X → f = 2 → p = x → ∃ T, f_PatternParser_takeByte (jad L (jo 31)) (nI (tp x)) (jad L (jl j 1)) (jW L ω S) = some (jW L ω T) ∧ jfq (jisP j) S T ∧ jgI T (jo 31) 10 = nI f ∧ jgI T (jo 31) 11 = nI p ∧ jgI T (jo 31) 8 = nI 0 := by
    intro X hX he h2 hp
    subst h2 hp
    refine ⟨_, he.trans hX, ((jfq.sI _ _ _ (jP31 j)).trans (jfq.sI _ _ _ (jP31 j))).trans (jfq.sI _ _ _ (jP31 j)), ?_, ?_, ?_⟩
    · rw [jsI_c, if_neg (by decide), jsI_c, if_neg (by decide), jsI_c, if_pos rfl]
    · rw [jsI_c, if_neg (by decide), jsI_c, if_pos rfl]
    · rw [jsI_c, if_neg (by decide), jsI_c, if_neg (by decide), jsI_c, if_neg (by decide)]; exact h.c
  rcases hf with ⟨c, ho, rfl, rfl⟩ | ⟨h1, r1, c, hbr, rfl, rfl⟩ | ⟨c3, c1, c2, c4, hno, hf2, hpx⟩
  · obtain ⟨T1, v, a1, a2, _, a3⟩ := jPp_choice hL (ω := ω) hK hT hP hq hx h.x h.f
    obtain ⟨b1, b2⟩ := a3 ho
    refine ⟨T1, ?_, a2.P, b1, b2, by rw [a2.2.2 _ (by decide)]; exact h.c⟩
    have g10 : xgi (jW L ω T1) (jad L (jo 31)) 6 10 = some (nI 2) := by simp (disch := first | omega | rfl | assumption | exact jokr (by decide) (by omega) | exact jokr4 (by omega) | exact jkt_r _ _ | exact jkt_l (by decide) | exact jfk_l (by decide) | exact jkt_t _ | exact jkt_r6 _ _ | exact jkt_t6 _ | (simp only [jok, jlen]; omega) | decide) only [jm_gi hL, b1]
    unfold f_PatternParser_takeByte
    rw [if_pos (show nI (tp x) = (91 : Int32) by rw [c]; rfl), jk31 hL, a1]
    simp only [xc]
    unfold f_PatternParser_takeByte_30
    rw [g10, Option.bind_some, if_neg (show ¬ nI 2 = (0 : Int32) by decide)]
  · obtain ⟨T1, a1, a2, a3, a4, a5⟩ := jPp_braces hL (ω := ω) hK hT hP hq hx h.x h.f
    rw [if_neg hbr] at a1
    have h2 := h.fC a2 a3 a4
    obtain ⟨T2, b1, b2, b3, b4⟩ := jCs_once hL (ω := ω) (hK.of a2.1.1) hj hi h1 h2
    have k11 : jgI T2 (jo 31) 11 = nI (jbrF tp x).2 := by rw [b4]; exact a5 hbr
    obtain ⟨w, w1, w2⟩ := e75 h1
    have g7 : xgi (jW L ω S) (jad L (jo 31)) 6 7 = some (nI 1) := by
      have := h.r h1
      rw [r1] at this
      simp (disch := first | omega | rfl | assumption | exact jokr (by decide) (by omega) | exact jokr4 (by omega) | exact jkt_r _ _ | exact jkt_l (by decide) | exact jfk_l (by decide) | exact jkt_t _ | exact jkt_r6 _ _ | exact jkt_t6 _ | (simp only [jok, jlen]; omega) | decide) only [jm_gi hL, this]
    refine ⟨jsI T2 (jo 31) 9 (nI (x + 4 + 1)), ?_, (a2.P.trans b2).trans (jfq.sI _ _ _ (jP31 j)), by rw [jsI_c, if_neg (by decide)]; exact b3.f, by rw [jsI_c, if_neg (by decide)]; exact k11, by rw [jsI_c, if_neg (by decide)]; exact b3.c⟩
    rw [jTake_none hL hK hb (by omega) (by omega) (by omega) (by rw [c]; rfl), jT30_none hL hK h, if_neg (by intro z; rw [jlit, nI_eq (by omega) (by omega)] at z; omega)]
    unfold f_PatternParser_takeByte_75
    rw [w1, Option.bind_some, if_neg w2, if_neg (by intro z; rw [jlit, nI_eq (by omega) (by omega)] at z; omega), if_neg (by intro z; rw [jlit, nI_eq (by omega) (by omega)] at z; omega)]
    unfold f_PatternParser_takeByte_114
    rw [if_neg (by intro z; rw [jlit, nI_eq (by omega) (by omega)] at z; omega)]
    unfold f_PatternParser_takeByte_136
    rw [g7, Option.bind_some, if_neg (show ¬ nI 1 = (0 : Int32) by decide), if_pos (show nI (tp x) = (123 : Int32) by rw [c]; rfl), jk31 hL, a1]
    simp only [xc]
    rw [jk31 hL, b1, Option.bind_some]
    exact jPp_next hL (hK.of (a2.P.trans b2).1) b3.x
  · have e0 : f_PatternParser_takeByte (jad L (jo 31)) (nI (tp x)) (jad L (jl j 1)) (jW L ω S) = f_PatternParser_takeByte_75 (jad L (jo 31)) (nI (tp x)) (jad L (jl j 1)) (jW L ω S) := by
      rw [jTake_none hL hK hb (by omega) c1 c2 c3, jT30_none hL hK h, if_neg (by intro z; rw [jlit, nI_eq (by omega) (by omega)] at z; omega)]
    by_cases h1 : jPs.hs s = 1
    · obtain ⟨w, w1, w2⟩ := e75 h1
      have r01 := hi.r1
      have n34 : tp x ≠ 34 := (hP.i x hq hx).2.2
      have hr := h.r h1
      have g7 : xgi (jW L ω S) (jad L (jo 31)) 6 7 = some (nI (jPs.rp s)) := by simp (disch := first | omega | rfl | assumption | exact jokr (by decide) (by omega) | exact jokr4 (by omega) | exact jkt_r _ _ | exact jkt_l (by decide) | exact jfk_l (by decide) | exact jkt_t _ | exact jkt_r6 _ _ | exact jkt_t6 _ | (simp only [jok, jlen]; omega) | decide) only [jm_gi hL, hr]
      have c124 : tp x ≠ 124 := fun z => hno ⟨h1, Or.inl z⟩
      have c41 : ¬ (tp x = 41 ∧ 0 < jPs.d s) := fun z => hno ⟨h1, Or.inr (Or.inl z)⟩
      have crp : ¬ (jPs.rp s = 1 ∧ (tp x = 42 ∨ tp x = 43 ∨ tp x = 63 ∨ tp x = 123)) := fun z => hno ⟨h1, Or.inr (Or.inr z)⟩
      -- from takeByte_114 on
      by_cases r0 : jPs.rp s = 0
      · rw [r0] at g7
        have e114 : f_PatternParser_takeByte_114 (jad L (jo 31)) (nI (tp x)) (jad L (jl j 1)) (jW L ω S) = some (jW L ω (jsI (jsI (jsI S (jo 31) 10 (nI 2)) (jo 31) 11 (nI x)) (jo 31) 9 (nI (x + 1)))) := by
          unfold f_PatternParser_takeByte_114
          rw [if_neg (by intro z; rw [jlit, nI_eq (by omega) (by omega)] at z; omega)]
          unfold f_PatternParser_takeByte_136
          rw [g7, Option.bind_some, if_pos (show nI 0 = (0 : Int32) from rfl), g9, Option.bind_some]
          exact rf
        refine pack _ e114 (e0.trans ?_) hf2 hpx
        unfold f_PatternParser_takeByte_75
        rw [w1, Option.bind_some, if_neg w2, if_neg (by intro z; rw [jlit, nI_eq (by omega) (by omega)] at z; omega)]
        by_cases k41 : tp x = 41
        · have hd0 : jPs.d s = 0 := by
            rcases Nat.eq_zero_or_pos (jPs.d s) with z | z
            · exact z
            · exact absurd ⟨k41, z⟩ c41
          rw [if_pos (show nI (tp x) = (41 : Int32) by rw [k41]; rfl), g4, Option.bind_some, hd0, if_neg (show ¬ (0 : Int32) < nI 0 by decide)]
        · rw [if_neg (by intro z; rw [jlit, nI_eq (by omega) (by omega)] at z; omega)]
      · have r1 : jPs.rp s = 1 := by omega
        rw [r1] at g7
        have hsg : f_PatternParser_timesBySign (jad L (jo 31)) (nI (tp x)) (jW L ω S) = some (nI 11, jW L ω (jsI (jsI S (jo 31) 10 (nI 2)) (jo 31) 11 (nI x))) := by
          have rf2 : f_PatternParser_refuse (jad L (jo 31)) 2 (nI x) (jW L ω S) = some (jW L ω (jsI (jsI S (jo 31) 10 (nI 2)) (jo 31) 11 (nI x))) := jPp_refuse hL hK
          unfold f_PatternParser_timesBySign
          rw [if_neg (by intro z; rw [jlit, nI_eq (by omega) (by omega)] at z; omega), if_neg (by intro z; rw [jlit, nI_eq (by omega) (by omega)] at z; omega), if_neg (by intro z; rw [jlit, nI_eq (by omega) (by omega)] at z; omega), g9, Option.bind_some, jk31 hL, rf2, Option.bind_some]
          rfl
        have fC : jfC S (jsI (jsI S (jo 31) 10 (nI 2)) (jo 31) 11 (nI x)) := (jfC.sI _ _ (by omega)).trans (jfC.sI _ _ (by omega))
        have h2 : jCs (jsI (jsI S (jo 31) 10 (nI 2)) (jo 31) 11 (nI x)) j s x 2 := h.fC fC (by rw [jsI_c, if_neg (by decide), jsI_c, if_neg (by decide)]; exact h.x) (by rw [jsI_c, if_neg (by decide), jsI_c, if_pos rfl])
        obtain ⟨T2, b1, b2, b3, b4⟩ := jCs_once hL (ω := ω) (hK.of fC.1.1) hj hi h1 h2
        have k11 : jgI T2 (jo 31) 11 = nI x := by rw [b4, jsI_c, if_pos rfl]
        subst hf2 hpx
        refine ⟨jsI T2 (jo 31) 9 (nI (p + 1)), e0.trans ?_, (fC.P.trans b2).trans (jfq.sI _ _ _ (jP31 j)), by rw [jsI_c, if_neg (by decide)]; exact b3.f, by rw [jsI_c, if_neg (by decide)]; exact k11, by rw [jsI_c, if_neg (by decide)]; exact b3.c⟩
        have e114 : f_PatternParser_takeByte_114 (jad L (jo 31)) (nI (tp p)) (jad L (jl j 1)) (jW L ω S) = some (jW L ω (jsI T2 (jo 31) 9 (nI (p + 1)))) := by
          unfold f_PatternParser_takeByte_114
          rw [if_neg (by intro z; rw [jlit, nI_eq (by omega) (by omega)] at z; omega)]
          unfold f_PatternParser_takeByte_136
          rw [g7, Option.bind_some, if_neg (show ¬ nI 1 = (0 : Int32) by decide), if_neg (by intro z; rw [jlit, nI_eq (by omega) (by omega)] at z; omega), jk31 hL, hsg]
          simp only [xc]
          rw [jk31 hL, b1, Option.bind_some]
          exact jPp_next hL (hK.of (fC.P.trans b2).1) b3.x
        unfold f_PatternParser_takeByte_75
        rw [w1, Option.bind_some, if_neg w2, if_neg (by intro z; rw [jlit, nI_eq (by omega) (by omega)] at z; omega)]
        by_cases k41 : tp p = 41
        · have hd0 : jPs.d s = 0 := by
            rcases Nat.eq_zero_or_pos (jPs.d s) with z | z
            · exact z
            · exact absurd ⟨k41, z⟩ c41
          rw [if_pos (show nI (tp p) = (41 : Int32) by rw [k41]; rfl), g4, Option.bind_some, hd0, if_neg (show ¬ (0 : Int32) < nI 0 by decide)]
          exact e114
        · rw [if_neg (by intro z; rw [jlit, nI_eq (by omega) (by omega)] at z; omega)]
          exact e114
    · have h0 : jPs.hs s = 0 := by have := hi.h1; omega
      have g5 : xgi (jW L ω S) (jad L (jo 31)) 6 5 = some (-1) := by
        have := h.n h0
        simp (disch := first | omega | rfl | assumption | exact jokr (by decide) (by omega) | exact jokr4 (by omega) | exact jkt_r _ _ | exact jkt_l (by decide) | exact jfk_l (by decide) | exact jkt_t _ | exact jkt_r6 _ _ | exact jkt_t6 _ | (simp only [jok, jlen]; omega) | decide) only [jm_gi hL, this]
      refine pack _ rf (e0.trans ?_) hf2 hpx
      unfold f_PatternParser_takeByte_75
      rw [g5, Option.bind_some, if_pos rfl, g9, Option.bind_some]
      rfl
/-- what the quote leaves -/
def jCe (T : jSt) (j : Nat) (s : jPs) : Prop := (jgI T (jo 31) 8 = nI 1) ∧ (jgI T (jo 31) 10 = nI 0) ∧ (jPs.sz s ≤ 10 → jgI T (jl j 1) 4 = nI (jPs.sz s) ∧ jgI T (jl j 1) 5 = nI 0 ∧ (∀ l, l < 9 → jTk T j (jPs.sz s) (jPs.ls s) l) ∧ (∀ p, p < 10 → jgA T (jl j 3) p = nI (jpF s p)) ∧ jgI T (jo 31) 5 = nI (jenc (jpU s))) ∧ (10 < jPs.sz s → jgI T (jl j 1) 5 = nI 1)
theorem jCe.c {T : jSt} {j : Nat} {s : jPs} (h : jCe T j s) : jgI T (jo 31) 8 = nI 1 := h.1
theorem jCe.f {T : jSt} {j : Nat} {s : jPs} (h : jCe T j s) : jgI T (jo 31) 10 = nI 0 := h.2.1
theorem jCe.A {T : jSt} {j : Nat} {s : jPs} (h : jCe T j s) : jPs.sz s ≤ 10 → jgI T (jl j 1) 4 = nI (jPs.sz s) ∧ jgI T (jl j 1) 5 = nI 0 ∧ (∀ l, l < 9 → jTk T j (jPs.sz s) (jPs.ls s) l) ∧ (∀ p, p < 10 → jgA T (jl j 3) p = nI (jpF s p)) ∧ jgI T (jo 31) 5 = nI (jenc (jpU s)) := h.2.2.1
theorem jCe.B {T : jSt} {j : Nat} {s : jPs} (h : jCe T j s) : 10 < jPs.sz s → jgI T (jl j 1) 5 = nI 1 := h.2.2.2
theorem jPp_take_end {L : jL} (hL : jgood L) {ω : xS} {S : jSt} {sw ps wy : Nat} (hK : jLK S sw ps wy) {tp : Nat → Nat} {ts q t j : Nat} {s : jPs} (hP : jPx tp ts q t) (hj : j < 32) (hi : jPi s) (hd : jPs.d s ≤ 40) (h : jCs S j s t 0) : (jPs.hs s = 1 ∧ jPs.d s = 0 → ∃ T, f_PatternParser_takeByte (jad L (jo 31)) (nI (tp t)) (jad L (jl j 1)) (jW L ω S) = some (jW L ω T) ∧ jfq (jisP j) S T ∧ jCe T j s) ∧ (¬ (jPs.hs s = 1 ∧ jPs.d s = 0) → ∃ T, f_PatternParser_takeByte (jad L (jo 31)) (nI (tp t)) (jad L (jl j 1)) (jW L ω S) = some (jW L ω T) ∧ jfq (jisP j) S T ∧ jgI T (jo 31) 10 = nI 2 ∧ jgI T (jo 31) 11 = nI t ∧ jgI T (jo 31) 8 = nI 0) := by
  have hb := hP.b
  have ht := hP.t
  have hbb := hb t
  have hc := hP.c
  have g4 : xgi (jW L ω S) (jad L (jo 31)) 6 4 = some (nI (jPs.d s)) := by
    have := h.d
    simp (disch := first | omega | rfl | assumption | exact jokr (by decide) (by omega) | exact jokr4 (by omega) | exact jkt_r _ _ | exact jkt_l (by decide) | exact jfk_l (by decide) | exact jkt_t _ | exact jkt_r6 _ _ | exact jkt_t6 _ | (simp only [jok, jlen]; omega) | decide) only [jm_gi hL, this]
  have g9 : xgi (jW L ω S) (jad L (jo 31)) 6 9 = some (nI t) := by
    have := h.x
    simp (disch := first | omega | rfl | assumption | exact jokr (by decide) (by omega) | exact jokr4 (by omega) | exact jkt_r _ _ | exact jkt_l (by decide) | exact jfk_l (by decide) | exact jkt_t _ | exact jkt_r6 _ _ | exact jkt_t6 _ | (simp only [jok, jlen]; omega) | decide) only [jm_gi hL, this]
  have e75 : jPs.hs s = 1 → ∃ v, xgi (jW L ω S) (jad L (jo 31)) 6 5 = some v ∧ ¬ v = (-1 : Int32) := fun h1 => by
    obtain ⟨z, X, U, y, q1, q2, q3, q4, q5, q6, q7, q8, q9⟩ := h.ex hi
    obtain ⟨g, rfl⟩ := jysome q8 h1
    obtain ⟨hg, h5⟩ := q7.s g rfl
    exact ⟨_, by simp (disch := first | omega | rfl | assumption | exact jokr (by decide) (by omega) | exact jokr4 (by omega) | exact jkt_r _ _ | exact jkt_l (by decide) | exact jfk_l (by decide) | exact jkt_t _ | exact jkt_r6 _ _ | exact jkt_t6 _ | (simp only [jok, jlen]; omega) | decide) only [jm_gi hL, h5], jenc_ne hg⟩
  have rf := jPp_ref hL (ω := ω) hK (f := 2) (p := t) h.x
  have e0 : f_PatternParser_takeByte (jad L (jo 31)) (nI (tp t)) (jad L (jl j 1)) (jW L ω S) = f_PatternParser_takeByte_75 (jad L (jo 31)) (nI (tp t)) (jad L (jl j 1)) (jW L ω S) := by
    rw [jTake_none hL hK hb ht (by omega) (by omega) (by rw [hc]; rfl), jT30_none hL hK h, if_neg (by intro z; rw [jlit, nI_eq (by omega) (by omega)] at z; omega)]
  have bad : ∀ X : Option xS, X = some (jW L ω (jsI (jsI (jsI S (jo 31) 10 (nI 2)) (jo 31) 11 (nI t)) (jo 31) 9 (nI (t + 1)))) → f_PatternParser_takeByte (jad L (jo 31)) (nI (tp t)) (jad L (jl j 1)) (jW L ω S) = X → ∃ T, f_PatternParser_takeByte (jad L (jo 31)) (nI (tp t)) (jad L (jl j 1)) (jW L ω S) = some (jW L ω T) ∧ jfq (jisP j) S T ∧ jgI T (jo 31) 10 = nI 2 ∧ jgI T (jo 31) 11 = nI t ∧ jgI T (jo 31) 8 = nI 0 := by
    intro X hX he
    refine ⟨_, he.trans hX, ((jfq.sI _ _ _ (jP31 j)).trans (jfq.sI _ _ _ (jP31 j))).trans (jfq.sI _ _ _ (jP31 j)), ?_, ?_, ?_⟩
    · rw [jsI_c, if_neg (by decide), jsI_c, if_neg (by decide), jsI_c, if_pos rfl]
    · rw [jsI_c, if_neg (by decide), jsI_c, if_pos rfl]
    · rw [jsI_c, if_neg (by decide), jsI_c, if_neg (by decide), jsI_c, if_neg (by decide)]; exact h.c
  refine ⟨fun hy => ?_, fun hno => ?_⟩
  · obtain ⟨h1, hd0⟩ := hy
    obtain ⟨z, X, U, y, q1, q2, q3, q4, q5, q6, q7, q8, q9⟩ := h.ex hi
    obtain ⟨g, rfl⟩ := jysome q8 h1
    obtain ⟨hg, h5⟩ := q7.s g rfl
    obtain ⟨T, a1, a2, a3, a4, a5, a6, _, a7⟩ := jPp_endRow hL (ω := ω) hK hj hd q5 q3 hg h.d h5 q6 q4 q2 q1 (c := 34) (Or.inr (Or.inr rfl))
    obtain ⟨b1, b2, b3⟩ := a7 (by decide)
    obtain ⟨w, w1, w2⟩ := e75 h1
    have t9 : jgI T (jo 31) 9 = nI t := by rw [b3, if_neg (by decide), if_neg (by decide), if_neg (by decide), if_neg (by decide), if_neg (by decide)]; exact h.x
    have I31 : ∀ k, k ≠ 9 → jgI (jsI T (jo 31) 9 (nI (t + 1))) (jo 31) k = jgI T (jo 31) k := fun k hk => by rw [jsI_c, if_neg hk]
    have Il : jgI (jsI T (jo 31) 9 (nI (t + 1))) (jl j 1) = jgI S (jl j 1) := by rw [jsI_fn (fun z => by cases z), a3]
    refine ⟨jsI T (jo 31) 9 (nI (t + 1)), e0.trans ?_, a2.trans (jfq.sI _ _ _ (jP31 j)), ?_, ?_, fun c => ?_, fun c => ?_⟩
    · unfold f_PatternParser_takeByte_75
      rw [w1, Option.bind_some, if_neg w2, if_neg (by intro z; rw [jlit, nI_eq (by omega) (by omega)] at z; omega), if_neg (by intro z; rw [jlit, nI_eq (by omega) (by omega)] at z; omega)]
      unfold f_PatternParser_takeByte_114
      rw [if_pos (show nI (tp t) = (34 : Int32) by rw [hc]; rfl), g4, Option.bind_some, hd0, if_pos (show nI 0 = (0 : Int32) from rfl), jk31 hL, hc, a1, Option.bind_some]
      exact jPp_next hL (hK.of a2.1) t9
    · rw [I31 _ (by decide), b3, if_neg (by decide), if_neg (by decide), if_neg (by decide), if_neg (by decide), if_pos rfl, if_pos rfl]
    · rw [I31 _ (by decide), b3, if_neg (by decide), if_neg (by decide), if_neg (by decide), if_neg (by decide), if_neg (by decide)]; exact h.f
    · have A := h.A c
      obtain ⟨rfl, rfl, rfl, hy1⟩ := q9 c
      have hgi : g = jPs.it s := by have := hy1 h1; simpa using this
      subst hgi
      have hro := hi.ro (jPs.d s) (Nat.le_refl _)
      refine ⟨by rw [Il]; exact A.z, by rw [Il]; exact A.o, fun l hl => ?_, fun p hp => by rw [jsI_A, a5]; exact jchn_A A hro hp, ?_⟩
      · obtain ⟨t', u1, u2, u3⟩ := (A.tk l hl).x
        exact ⟨t', u1, by rw [jsI_A, a4]; exact u2, u3⟩
      · rw [I31 _ (by decide), b3, if_neg (by decide), if_pos rfl]; rfl
    · obtain ⟨w', B⟩ := h.B c
      rw [Il]; exact B.o
  · by_cases h1 : jPs.hs s = 1
    · have hdp : 0 < jPs.d s := by
        rcases Nat.eq_zero_or_pos (jPs.d s) with z | z
        · exact absurd ⟨h1, z⟩ hno
        · exact z
      obtain ⟨w, w1, w2⟩ := e75 h1
      have hr := h.r h1
      have r01 := hi.r1
      have g7 : xgi (jW L ω S) (jad L (jo 31)) 6 7 = some (nI (jPs.rp s)) := by simp (disch := first | omega | rfl | assumption | exact jokr (by decide) (by omega) | exact jokr4 (by omega) | exact jkt_r _ _ | exact jkt_l (by decide) | exact jfk_l (by decide) | exact jkt_t _ | exact jkt_r6 _ _ | exact jkt_t6 _ | (simp only [jok, jlen]; omega) | decide) only [jm_gi hL, hr]
      have e1 : f_PatternParser_takeByte (jad L (jo 31)) (nI (tp t)) (jad L (jl j 1)) (jW L ω S) = f_PatternParser_takeByte_136 (jad L (jo 31)) (nI (tp t)) (jad L (jl j 1)) (jW L ω S) := by
        refine e0.trans ?_
        unfold f_PatternParser_takeByte_75
        rw [w1, Option.bind_some, if_neg w2, if_neg (by intro z; rw [jlit, nI_eq (by omega) (by omega)] at z; omega), if_neg (by intro z; rw [jlit, nI_eq (by omega) (by omega)] at z; omega)]
        unfold f_PatternParser_takeByte_114
        rw [if_pos (show nI (tp t) = (34 : Int32) by rw [hc]; rfl), g4, Option.bind_some, if_neg (show ¬ nI (jPs.d s) = (0 : Int32) from fun z => by rw [jlit, nI_eq (by omega) (by omega)] at z; omega)]
      by_cases r0 : jPs.rp s = 0
      · rw [r0] at g7
        refine bad _ rf (e1.trans ?_)
        unfold f_PatternParser_takeByte_136
        rw [g7, Option.bind_some, if_pos (show nI 0 = (0 : Int32) from rfl), g9, Option.bind_some]
        rfl
      · have r1 : jPs.rp s = 1 := by omega
        rw [r1] at g7
        have hsg : f_PatternParser_timesBySign (jad L (jo 31)) (nI (tp t)) (jW L ω S) = some (nI 11, jW L ω (jsI (jsI S (jo 31) 10 (nI 2)) (jo 31) 11 (nI t))) := by
          have rf2 : f_PatternParser_refuse (jad L (jo 31)) 2 (nI t) (jW L ω S) = some (jW L ω (jsI (jsI S (jo 31) 10 (nI 2)) (jo 31) 11 (nI t))) := jPp_refuse hL hK
          unfold f_PatternParser_timesBySign
          rw [if_neg (by intro z; rw [jlit, nI_eq (by omega) (by omega)] at z; omega), if_neg (by intro z; rw [jlit, nI_eq (by omega) (by omega)] at z; omega), if_neg (by intro z; rw [jlit, nI_eq (by omega) (by omega)] at z; omega), g9, Option.bind_some, jk31 hL, rf2, Option.bind_some]
          rfl
        have fC : jfC S (jsI (jsI S (jo 31) 10 (nI 2)) (jo 31) 11 (nI t)) := (jfC.sI _ _ (by omega)).trans (jfC.sI _ _ (by omega))
        have h2 : jCs (jsI (jsI S (jo 31) 10 (nI 2)) (jo 31) 11 (nI t)) j s t 2 := h.fC fC (by rw [jsI_c, if_neg (by decide), jsI_c, if_neg (by decide)]; exact h.x) (by rw [jsI_c, if_neg (by decide), jsI_c, if_pos rfl])
        obtain ⟨T2, b1, b2, b3, b4⟩ := jCs_once hL (ω := ω) (hK.of fC.1.1) hj hi h1 h2
        refine ⟨jsI T2 (jo 31) 9 (nI (t + 1)), e1.trans ?_, (fC.P.trans b2).trans (jfq.sI _ _ _ (jP31 j)), by rw [jsI_c, if_neg (by decide)]; exact b3.f, by rw [jsI_c, if_neg (by decide), b4, jsI_c, if_pos rfl], by rw [jsI_c, if_neg (by decide)]; exact b3.c⟩
        unfold f_PatternParser_takeByte_136
        rw [g7, Option.bind_some, if_neg (show ¬ nI 1 = (0 : Int32) by decide), if_neg (by intro z; rw [jlit, nI_eq (by omega) (by omega)] at z; omega), jk31 hL, hsg]
        simp only [xc]
        rw [jk31 hL, b1, Option.bind_some]
        exact jPp_next hL (hK.of (fC.P.trans b2).1) b3.x
    · have h0 : jPs.hs s = 0 := by have := hi.h1; omega
      have g5 : xgi (jW L ω S) (jad L (jo 31)) 6 5 = some (-1) := by
        have := h.n h0
        simp (disch := first | omega | rfl | assumption | exact jokr (by decide) (by omega) | exact jokr4 (by omega) | exact jkt_r _ _ | exact jkt_l (by decide) | exact jfk_l (by decide) | exact jkt_t _ | exact jkt_r6 _ _ | exact jkt_t6 _ | (simp only [jok, jlen]; omega) | decide) only [jm_gi hL, this]
      refine bad _ rf (e0.trans ?_)
      unfold f_PatternParser_takeByte_75
      rw [g5, Option.bind_some, if_pos rfl, g9, Option.bind_some]
      rfl
