/-! THE CLASS TAKES A BYTE of a pattern -/
theorem jCs.fC {S T : jSt} {j x y ft f' : Nat} {s : jPs} (h : jCs S j s x ft) (e : jfC S T) (h9 : jgI T (jo 31) 9 = nI y) (h10 : jgI T (jo 31) 10 = nI f') : jCs T j s y f' := by
  have e1 : jgI T (jl j 1) = jgI S (jl j 1) := (e.1.2.2 _ (fun z => by cases z)).1
  refine ⟨by rw [e.2.2 _ (by decide)]; exact h.d, h9, h10, by rw [e.2.2 _ (by decide)]; exact h.c, fun z => by rw [e.2.2 _ (by decide)]; exact h.n z, fun z => by rw [e.2.2 _ (by decide)]; exact h.r z, fun z => ?_, fun z => ?_⟩
  · have A := h.A z
    refine ⟨by rw [e1]; exact A.z, by rw [e1]; exact A.o, fun l hl => ?_, fun p hp => by rw [e.2.1]; exact A.fo p hp, fun q hq => by rw [e.2.1]; exact A.en q hq, fun q hq => by rw [e.2.1]; exact A.ro q hq, fun q h1 hq => by rw [e.2.1]; exact A.gf q h1 hq, fun q => by rw [e.2.2 _ (by decide), e.2.2 _ (by decide)]; exact A.it q⟩
    obtain ⟨t, u1, u2, u3⟩ := (A.tk l hl).x
    exact ⟨t, u1, by rw [e.2.1]; exact u2, u3⟩
  · obtain ⟨w, B⟩ := h.B z
    exact ⟨w, B.z10, by rw [e1]; exact B.z, by rw [e1]; exact B.o, fun q hq => by rw [e.2.1]; exact B.en q hq, fun q hq => by rw [e.2.1]; exact B.ro q hq, fun q h1 hq => by rw [e.2.1]; exact B.gf q h1 hq, fun q => by rw [e.2.2 _ (by decide), e.2.2 _ (by decide)]; exact B.it q⟩
theorem jfC.P {S T : jSt} {j : Nat} (h : jfC S T) : jfq (jisP j) S T := h.1.weak (fun c hc => hc ▸ jP31 j)
theorem jcne {c v : Nat} (hc : c < 256) (hv : v < 256) (h : c ≠ v) : ¬ nI c = nI v := fun z => by rw [nI_eq (by omega) (by omega)] at z; exact h z
/-- what takeByte_30 asks -/
theorem jT30_atom {L : jL} (hL : jgood L) {ω : xS} {S : jSt} {sw ps wy : Nat} (hK : jLK S sw ps wy) {j x b c : Nat} {s : jPs} (hj : j < 32) (hi : jPi s) (hd : jPs.d s ≤ 40) (hb : b < 512) (hb0 : b ≠ 0) (h : jCs S j s x 0) : ∃ T, f_PatternParser_takeByte_30 (jad L (jo 31)) (nI c) (jad L (jl j 1)) (nI b) (jW L ω S) = some (jW L ω T) ∧ jfq (jisP j) S T ∧ jCs T j (jpA s b) (x + 1) 0 := by
  obtain ⟨T, a1, a2, a3⟩ := jCs_atom hL (ω := ω) hK hj hi hd hb h
  refine ⟨jsI T (jo 31) 9 (nI (x + 1)), ?_, a2.trans (jfq.sI _ _ _ (jP31 j)), a3.nx⟩
  have g10 : xgi (jW L ω S) (jad L (jo 31)) 6 10 = some (nI 0) := by
    have := h.f
    simp (disch := first | omega | rfl | assumption | exact jokr (by decide) (by omega) | exact jokr4 (by omega) | exact jkt_r _ _ | exact jkt_l (by decide) | exact jfk_l (by decide) | exact jkt_t _ | exact jkt_r6 _ _ | exact jkt_t6 _ | (simp only [jok, jlen]; omega) | decide) only [jm_gi hL, this]
  unfold f_PatternParser_takeByte_30
  rw [g10, Option.bind_some, if_pos (show nI 0 = (0 : Int32) from rfl), if_neg (show ¬ nI b = (0 : Int32) from fun z => by rw [jlit, nI_eq (by omega) (by omega)] at z; exact hb0 z), jk31 hL, a1, Option.bind_some]
  exact jPp_next hL (hK.of a2.1) a3.x
theorem jT30_none {L : jL} (hL : jgood L) {ω : xS} {S : jSt} {sw ps wy : Nat} (hK : jLK S sw ps wy) {j x c : Nat} {s : jPs} (h : jCs S j s x 0) : f_PatternParser_takeByte_30 (jad L (jo 31)) (nI c) (jad L (jl j 1)) (nI 0) (jW L ω S) = (if nI c = 40 then ((xgi (jW L ω S) (jad L (jo 31)) 6 4).bind fun t12 => if 40 ≤ t12 then f_PatternParser_takeByte_75 (jad L (jo 31)) (nI c) (jad L (jl j 1)) (jW L ω S) else ((xk (jW L ω S) (jad L (jo 31)) 6 (f_PatternParser_openGroup (jad L (jo 31)) (jad L (jl j 1)) (jW L ω S))).bind fun w16 => (xgi w16 (jad L (jo 31)) 6 9).bind fun t17 => (xp w16 (jad L (jo 31)) 6 9 (.int (t17 + 1))).bind fun w18 => some w18)) else f_PatternParser_takeByte_75 (jad L (jo 31)) (nI c) (jad L (jl j 1)) (jW L ω S)) := by
  have g10 : xgi (jW L ω S) (jad L (jo 31)) 6 10 = some (nI 0) := by
    have := h.f
    simp (disch := first | omega | rfl | assumption | exact jokr (by decide) (by omega) | exact jokr4 (by omega) | exact jkt_r _ _ | exact jkt_l (by decide) | exact jfk_l (by decide) | exact jkt_t _ | exact jkt_r6 _ _ | exact jkt_t6 _ | (simp only [jok, jlen]; omega) | decide) only [jm_gi hL, this]
  unfold f_PatternParser_takeByte_30
  rw [g10, Option.bind_some, if_pos (show nI 0 = (0 : Int32) from rfl), if_pos (show nI 0 = (0 : Int32) from rfl)]
/-- a byte that is no letter, no choice and no point -/
theorem jTake_none {L : jL} (hL : jgood L) {ω : xS} {S : jSt} {sw ps wy : Nat} (hK : jLK S sw ps wy) {tp : Nat → Nat} {ts x : Nat} (hb : ∀ i, tp i < 256) (hx : x < ts) (c1 : tp x ≠ 91) (c2 : tp x ≠ 46) (c3 : jltr (tp x) = false) {a2 : Nat} : f_PatternParser_takeByte (jad L (jo 31)) (nI (tp x)) a2 (jW L ω S) = f_PatternParser_takeByte_30 (jad L (jo 31)) (nI (tp x)) a2 (nI 0) (jW L ω S) := by
  have hbb := hb x
  have hlb := jPp_letterBit (tp := tp) (ts := ts) (i := x) (a0 := jad L (jo 31)) hb (ω := jW L ω S)
  have hbe : jbv tp ts x = nI (tp x) := by unfold jbv; rw [if_pos hx]
  rw [hbe, if_pos hx, (jlb_0 _).mpr c3] at hlb
  unfold f_PatternParser_takeByte
  rw [if_neg (by intro z; rw [jlit, nI_eq (by omega) (by omega)] at z; omega), if_neg (by intro z; rw [jlit, nI_eq (by omega) (by omega)] at z; omega), jk31 hL, hlb, Option.bind_some]
theorem jPp_ref {L : jL} (hL : jgood L) {ω : xS} {S : jSt} {sw ps wy : Nat} (hK : jLK S sw ps wy) {x f p : Nat} (h9 : jgI S (jo 31) 9 = nI x) : ((xk (jW L ω S) (jad L (jo 31)) 6 (f_PatternParser_refuse (jad L (jo 31)) (nI f) (nI p) (jW L ω S))).bind fun w59 => (xgi w59 (jad L (jo 31)) 6 9).bind fun t60 => (xp w59 (jad L (jo 31)) 6 9 (.int (t60 + 1))).bind fun w61 => some w61) = some (jW L ω (jsI (jsI (jsI S (jo 31) 10 (nI f)) (jo 31) 11 (nI p)) (jo 31) 9 (nI (x + 1)))) := by
  rw [jk31 hL, jPp_refuse hL hK, Option.bind_some]
  exact jPp_next hL (S := jsI (jsI S (jo 31) 10 (nI f)) (jo 31) 11 (nI p)) hK (by rw [jsI_c, if_neg (by decide), jsI_c, if_neg (by decide)]; exact h9)
theorem jPp_take {L : jL} (hL : jgood L) {ω : xS} {S : jSt} {sw ps wy : Nat} (hK : jLK S sw ps wy) {tp : Nat → Nat} {ts q t x y j : Nat} {s s1 : jPs} (hT : jTc S tp ts) (hP : jPx tp ts q t) (hq : q < x) (hx : x < t) (hj : j < 32) (hi : jPi s) (hd : jPs.d s < 40) (h : jCs S j s x 0) (hs : jSt1 tp ts x s y s1) : ∃ T, f_PatternParser_takeByte (jad L (jo 31)) (nI (tp x)) (jad L (jl j 1)) (jW L ω S) = some (jW L ω T) ∧ jfq (jisP j) S T ∧ jCs T j s1 y 0 := by
  have hb := hP.b
  have ht := hP.t
  have hbb := hb x
  have g4 : xgi (jW L ω S) (jad L (jo 31)) 6 4 = some (nI (jPs.d s)) := by
    have := h.d
    simp (disch := first | omega | rfl | assumption | exact jokr (by decide) (by omega) | exact jokr4 (by omega) | exact jkt_r _ _ | exact jkt_l (by decide) | exact jfk_l (by decide) | exact jkt_t _ | exact jkt_r6 _ _ | exact jkt_t6 _ | (simp only [jok, jlen]; omega) | decide) only [jm_gi hL, this]
  -- behind the item's look
  have e75 : jPs.hs s = 1 → ∃ v, xgi (jW L ω S) (jad L (jo 31)) 6 5 = some v ∧ ¬ v = (-1 : Int32) := fun h1 => by
    obtain ⟨z, X, U, y, q1, q2, q3, q4, q5, q6, q7, q8, q9⟩ := h.ex hi
    obtain ⟨g, rfl⟩ := jysome q8 h1
    obtain ⟨hg, h5⟩ := q7.s g rfl
    exact ⟨_, by simp (disch := first | omega | rfl | assumption | exact jokr (by decide) (by omega) | exact jokr4 (by omega) | exact jkt_r _ _ | exact jkt_l (by decide) | exact jfk_l (by decide) | exact jkt_t _ | exact jkt_r6 _ _ | exact jkt_t6 _ | (simp only [jok, jlen]; omega) | decide) only [jm_gi hL, h5], jenc_ne hg⟩
  have rep : ∀ (c : Nat) (v : Nat) (T1 : jSt) (s1 : jPs), tp x = c → (c = 42 ∨ c = 43 ∨ c = 63) → jPs.hs s = 1 → jPs.rp s = 1 → f_PatternParser_timesBySign (jad L (jo 31)) (nI c) (jW L ω S) = some (nI v, jW L ω S) → f_PatternParser_repeatItem (jad L (jo 31)) (nI v) (jad L (jl j 1)) (jW L ω S) = some (jW L ω T1) → jfq (jisP j) S T1 → jCs T1 j s1 x 0 → ∃ T, f_PatternParser_takeByte (jad L (jo 31)) (nI (tp x)) (jad L (jl j 1)) (jW L ω S) = some (jW L ω T) ∧ jfq (jisP j) S T ∧ jCs T j s1 (x + 1) 0 := by
    intro c v T1 s1 hc hcc h1 r1 hsg hrp hfr hcs
    refine ⟨jsI T1 (jo 31) 9 (nI (x + 1)), ?_, hfr.trans (jfq.sI _ _ _ (jP31 j)), hcs.nx⟩
    obtain ⟨w, w1, w2⟩ := e75 h1
    have g7 : xgi (jW L ω S) (jad L (jo 31)) 6 7 = some (nI 1) := by
      have := h.r h1
      rw [r1] at this
      simp (disch := first | omega | rfl | assumption | exact jokr (by decide) (by omega) | exact jokr4 (by omega) | exact jkt_r _ _ | exact jkt_l (by decide) | exact jfk_l (by decide) | exact jkt_t _ | exact jkt_r6 _ _ | exact jkt_t6 _ | (simp only [jok, jlen]; omega) | decide) only [jm_gi hL, this]
    rw [jTake_none hL hK hb (by omega) (by omega) (by omega) (by rw [hc]; rcases hcc with rfl | rfl | rfl <;> rfl), jT30_none hL hK h, if_neg (by intro z; rw [jlit, nI_eq (by omega) (by omega)] at z; omega)]
    unfold f_PatternParser_takeByte_75
    rw [w1, Option.bind_some, if_neg w2, if_neg (by intro z; rw [jlit, nI_eq (by omega) (by omega)] at z; omega), if_neg (by intro z; rw [jlit, nI_eq (by omega) (by omega)] at z; omega)]
    unfold f_PatternParser_takeByte_114
    rw [if_neg (by intro z; rw [jlit, nI_eq (by omega) (by omega)] at z; omega)]
    unfold f_PatternParser_takeByte_136
    rw [g7, Option.bind_some, if_neg (show ¬ nI 1 = (0 : Int32) by decide), if_neg (by intro z; rw [jlit, nI_eq (by omega) (by omega)] at z; omega), jk31 hL, hc, hsg]
    simp only [xc]
    rw [jk31 hL, hrp, Option.bind_some]
    exact jPp_next hL (hK.of hfr.1) hcs.x
  rcases hs with ⟨b, ha, rfl⟩ | ⟨c, rfl, rfl⟩ | ⟨h1, c, rfl, rfl⟩ | ⟨h1, c, hd0, rfl, rfl⟩ | ⟨h1, r1, c, rfl, rfl⟩ | ⟨h1, r1, c, rfl, rfl⟩ | ⟨h1, r1, c, rfl, rfl⟩ | ⟨h1, r1, c, hbr, rfl, rfl⟩
  · rcases ha with ⟨c, ho, rfl, rfl⟩ | ⟨c, rfl, rfl⟩ | ⟨c, rfl, rfl⟩
    · obtain ⟨T1, v, a1, a2, a3, _⟩ := jPp_choice hL (ω := ω) hK hT hP hq hx h.x h.f
      obtain ⟨b1, b2, b3⟩ := a3 ho
      obtain ⟨l1, l2⟩ := jcL_ok hP hq hx ho
      obtain ⟨T2, d1, d2, d3⟩ := jT30_atom hL (ω := ω) (hK.of a2.1.1) (c := tp x) hj hi (by omega) l1 l2 (h.fC a2 b3 b2)
      refine ⟨T2, ?_, a2.P.trans d2, d3⟩
      unfold f_PatternParser_takeByte
      rw [if_pos (show nI (tp x) = (91 : Int32) by rw [c]; rfl), jk31 hL, a1, b1]
      exact d1
    · obtain ⟨T2, d1, d2, d3⟩ := jT30_atom hL (ω := ω) hK (c := tp x) (b := 511) hj hi (by omega) (by decide) (by decide) h
      refine ⟨T2, ?_, d2, d3⟩
      unfold f_PatternParser_takeByte
      rw [if_neg (by intro z; rw [jlit, nI_eq (by omega) (by omega)] at z; omega), if_pos (show nI (tp x) = (46 : Int32) by rw [c]; rfl)]
      exact d1
    · have hl0 : jlb (tp x) ≠ 0 := fun z => by rw [(jlb_0 _).mp z] at c; cases c
      have c' : tp x = 45 ∨ (97 ≤ tp x ∧ tp x ≤ 104) := of_decide_eq_true c
      obtain ⟨T2, d1, d2, d3⟩ := jT30_atom hL (ω := ω) hK (c := tp x) hj hi (by omega) (jlb_lt _) hl0 h
      refine ⟨T2, ?_, d2, d3⟩
      have hlb := jPp_letterBit (tp := tp) (ts := ts) (i := x) (a0 := jad L (jo 31)) hb (ω := jW L ω S)
      have hbe : jbv tp ts x = nI (tp x) := by unfold jbv; rw [if_pos (by omega)]
      rw [hbe, if_pos (show x < ts by omega)] at hlb
      unfold f_PatternParser_takeByte
      rw [if_neg (by intro z; rw [jlit, nI_eq (by omega) (by omega)] at z; omega), if_neg (by intro z; rw [jlit, nI_eq (by omega) (by omega)] at z; omega), jk31 hL, hlb, Option.bind_some]
      exact d1
  · obtain ⟨T1, a1, a2, a3⟩ := jCs_open hL (ω := ω) hK hj hi hd h
    refine ⟨jsI T1 (jo 31) 9 (nI (x + 1)), ?_, a2.trans (jfq.sI _ _ _ (jP31 j)), a3.nx⟩
    rw [jTake_none hL hK hb (by omega) (by omega) (by omega) (by rw [c]; rfl), jT30_none hL hK h, if_pos (show nI (tp x) = (40 : Int32) by rw [c]; rfl), g4, Option.bind_some, if_neg (show ¬ (40 : Int32) ≤ nI (jPs.d s) from fun z => by have := (nI_leI (a := 40) (by omega) (by omega)).mp z; omega), jk31 hL, a1, Option.bind_some]
    exact jPp_next hL (hK.of a2.1) a3.x
  · obtain ⟨T1, a1, a2, a3⟩ := jCs_bar hL (ω := ω) hK hj hi (by omega) h1 h
    obtain ⟨w, w1, w2⟩ := e75 h1
    refine ⟨jsI T1 (jo 31) 9 (nI (x + 1)), ?_, a2.trans (jfq.sI _ _ _ (jP31 j)), a3.nx⟩
    rw [jTake_none hL hK hb (by omega) (by omega) (by omega) (by rw [c]; rfl), jT30_none hL hK h, if_neg (by intro z; rw [jlit, nI_eq (by omega) (by omega)] at z; omega)]
    unfold f_PatternParser_takeByte_75
    rw [w1, Option.bind_some, if_neg w2, if_pos (show nI (tp x) = (124 : Int32) by rw [c]; rfl), jk31 hL, c, a1, Option.bind_some]
    exact jPp_next hL (hK.of a2.1) a3.x
  · obtain ⟨T1, a1, a2, a3⟩ := jCs_close hL (ω := ω) hK hj hi (by omega) hd0 h1 h
    obtain ⟨w, w1, w2⟩ := e75 h1
    refine ⟨jsI T1 (jo 31) 9 (nI (x + 1)), ?_, a2.trans (jfq.sI _ _ _ (jP31 j)), a3.nx⟩
    rw [jTake_none hL hK hb (by omega) (by omega) (by omega) (by rw [c]; rfl), jT30_none hL hK h, if_neg (by intro z; rw [jlit, nI_eq (by omega) (by omega)] at z; omega)]
    unfold f_PatternParser_takeByte_75
    rw [w1, Option.bind_some, if_neg w2, if_neg (by intro z; rw [jlit, nI_eq (by omega) (by omega)] at z; omega), if_pos (show nI (tp x) = (41 : Int32) by rw [c]; rfl), g4, Option.bind_some, if_pos (show (0 : Int32) < nI (jPs.d s) from (nI_ltI (a := 0) (by omega) (by omega)).mpr hd0), jk31 hL, c, a1, Option.bind_some]
    exact jPp_next hL (hK.of a2.1) a3.x
  · obtain ⟨T1, a1, a2, a3⟩ := jCs_star hL (ω := ω) hK (a := 0) hj hi h1 (by omega) h
    exact rep 42 0 T1 _ c (Or.inl rfl) h1 r1 rfl a1 a2 a3
  · obtain ⟨T1, a1, a2, a3⟩ := jCs_star hL (ω := ω) hK (a := 1) hj hi h1 (by omega) h
    exact rep 43 10 T1 _ c (Or.inr (Or.inl rfl)) h1 r1 rfl a1 a2 a3
  · obtain ⟨T1, a1, a2, a3, _⟩ := jCs_quest hL (ω := ω) hK hj hi h1 h
    exact rep 63 1 T1 _ c (Or.inr (Or.inr rfl)) h1 r1 rfl a1 a2 a3
  · obtain ⟨d1, d2, d3, d4, d5⟩ := jbrF_ok hbr
    obtain ⟨T1, a1, a2, a3, a4, _⟩ := jPp_braces hL (ω := ω) hK hT hP hq hx h.x h.f
    rw [hbr] at a1 a4
    rw [if_pos rfl] at a1
    have h2 := h.fC a2 a3 a4
    obtain ⟨T2, b1, b2, b3, _⟩ := jCs_brace hL (ω := ω) (hK.of a2.1.1) (a := tp (x + 1) - 48) (b := tp (x + 3) - 48) hj hi h1 (by omega) (by omega) (by omega) h2
    obtain ⟨w, w1, w2⟩ := e75 h1
    have g7 : xgi (jW L ω S) (jad L (jo 31)) 6 7 = some (nI 1) := by
      have := h.r h1
      rw [r1] at this
      simp (disch := first | omega | rfl | assumption | exact jokr (by decide) (by omega) | exact jokr4 (by omega) | exact jkt_r _ _ | exact jkt_l (by decide) | exact jfk_l (by decide) | exact jkt_t _ | exact jkt_r6 _ _ | exact jkt_t6 _ | (simp only [jok, jlen]; omega) | decide) only [jm_gi hL, this]
    refine ⟨jsI T2 (jo 31) 9 (nI (x + 4 + 1)), ?_, (a2.P.trans b2).trans (jfq.sI _ _ _ (jP31 j)), b3.nx⟩
    rw [jTake_none hL hK hb (by omega) (by omega) (by omega) (by rw [c]; rfl), jT30_none hL hK h, if_neg (by intro z; rw [jlit, nI_eq (by omega) (by omega)] at z; omega)]
    unfold f_PatternParser_takeByte_75
    rw [w1, Option.bind_some, if_neg w2, if_neg (by intro z; rw [jlit, nI_eq (by omega) (by omega)] at z; omega), if_neg (by intro z; rw [jlit, nI_eq (by omega) (by omega)] at z; omega)]
    unfold f_PatternParser_takeByte_114
    rw [if_neg (by intro z; rw [jlit, nI_eq (by omega) (by omega)] at z; omega)]
    unfold f_PatternParser_takeByte_136
    rw [g7, Option.bind_some, if_neg (show ¬ nI 1 = (0 : Int32) by decide), if_pos (show nI (tp x) = (123 : Int32) by rw [c]; rfl), jk31 hL, a1]
    simp only [xc]
    rw [jk31 hL, b1, Option.bind_some]
    exact jPp_next hL (hK.of (a2.P.trans b2).1) b3.x
