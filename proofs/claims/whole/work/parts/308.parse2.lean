/-! THE CLASS READS A PATTERN -/
theorem jSt1.dep {tp : Nat → Nat} {ts q t x y : Nat} {s s1 : jPs} (h : jPx tp ts q t) (hq : q < x) (hx : x < t) (hi : jPi s) (hs : jSt1 tp ts x s y s1) : jPs.d s1 + x + 1 ≤ jPs.d s + 1 + y := by
  have hy := (hs.ok h hq hx hi).1
  rcases hs with ⟨b, ha, rfl⟩ | ⟨c, rfl, rfl⟩ | ⟨h1, c, rfl, rfl⟩ | ⟨h1, c, hd, rfl, rfl⟩ | ⟨h1, r1, c, rfl, rfl⟩ | ⟨h1, r1, c, rfl, rfl⟩ | ⟨h1, r1, c, rfl, rfl⟩ | ⟨h1, r1, c, hb, rfl, rfl⟩
  · show jPs.d s + x + 1 ≤ _; omega
  · show jPs.d s + 1 + x + 1 ≤ _; omega
  · show jPs.d s + x + 1 ≤ _; omega
  · show jPs.d s - 1 + x + 1 ≤ _; omega
  · show jPs.d s + x + 1 ≤ _; omega
  · show jPs.d s + x + 1 ≤ _; omega
  · show jPs.d s + x + 1 ≤ _; omega
  · show jPs.d s + x + 1 ≤ _; omega
def jisPP (j : Nat) : jC → Prop := fun c => jisP j c ∨ c = jl j 4 ∨ c = jl j 5
theorem jP_o1 (j : Nat) : ¬ jisP j (jo 1) := fun z => by
  rcases z with z | z | z | z | z | z | z <;> first | exact absurd z (jone (by decide)) | cases z
theorem jP_o2 (j : Nat) : ¬ jisP j (jo 2) := fun z => by
  rcases z with z | z | z | z | z | z | z <;> first | exact absurd z (jone (by decide)) | cases z
theorem jPp_units {L : jL} (hL : jgood L) {ω : xS} {S : jSt} {sw ps wy : Nat} (hK : jLK S sw ps wy) {tp : Nat → Nat} {ts q t j a1 : Nat} (hP : jPx tp ts q t) (hj : j < 32) : ∀ n m i x (S1 : jSt) (s : jPs) x' s', jTr tp ts t n x s x' s' → q < x → i + n ≤ 40 → n + 1 ≤ m → jPs.d s + q + 1 ≤ x → jfq (jisP j) S S1 → jTc S1 tp ts → jPi s → jCs S1 j s x 0 → ∃ m' T, f_PatternParser_parse_48 m (jad L (jo 31)) (nI a1) (jad L (jl j 1)) (nI i) (jW L ω S1) = f_PatternParser_parse_48 (m' + 1) (jad L (jo 31)) (nI a1) (jad L (jl j 1)) (nI (i + n)) (jW L ω T) ∧ m' + n + 1 = m ∧ jfq (jisP j) S T ∧ jTc T tp ts ∧ jPi s' ∧ jCs T j s' x' 0 ∧ jPs.d s' + q + 1 ≤ x'
  | 0, m, i, x, S1, s, x', s', htr, hq, hi40, hm, hd, hfr, hT, hi, hc => by
    obtain ⟨rfl, rfl⟩ := htr
    obtain ⟨m, rfl⟩ : ∃ m', m = m' + 1 := ⟨m - 1, by omega⟩
    exact ⟨m, S1, rfl, rfl, hfr, hT, hi, hc, hd⟩
  | n + 1, m, i, x, S1, s, x', s', htr, hq, hi40, hm, hd, hfr, hT, hi, hc => by
    obtain ⟨hxt, y, s1, hst, htr⟩ := htr
    obtain ⟨m, rfl⟩ : ∃ m', m = m' + 1 := ⟨m - 1, by omega⟩
    have hK1 := hK.of hfr.1
    have ht := hP.t
    have hs15 := hP.s
    have hl := hP.l
    obtain ⟨g1, g2, g3⟩ := hst.ok hP hq hxt hi
    have gd := hst.dep hP hq hxt hi
    obtain ⟨T1, a1', a2, a3⟩ := jPp_take hL (ω := ω) hK1 hT hP hq hxt hj hi (by omega) hc hst
    have hT1 := hT.fq a2 (jP_o1 j) (jP_o2 j)
    obtain ⟨m', T, e1, e2, e3, e4, e5, e6, e7⟩ := jPp_units hL (ω := ω) (S := S) hK (a1 := a1) hP hj n m (i + 1) y T1 s1 x' s' htr (by omega) (by omega) (by omega) (by omega) (hfr.trans a2) hT1 g3 a3
    refine ⟨m', T, ?_, by omega, e3, e4, e5, e6, e7⟩
    rw [f_PatternParser_parse_48, if_neg (show ¬ (40 : Int32) < nI i from fun z => by have := (nI_ltI (a := 40) (by omega) (by omega)).mp z; omega)]
    have g10 : xgi (jW L ω S1) (jad L (jo 31)) 6 10 = some (nI 0) := by
      have := hc.f
      simp (disch := first | omega | rfl | assumption | exact jokr (by decide) (by omega) | exact jokr4 (by omega) | exact jkt_r _ _ | exact jkt_l (by decide) | exact jfk_l (by decide) | exact jkt_t _ | exact jkt_r6 _ _ | exact jkt_t6 _ | (simp only [jok, jlen]; omega) | decide) only [jm_gi hL, this]
    have g8 : xgi (jW L ω S1) (jad L (jo 31)) 6 8 = some (nI 0) := by
      have := hc.c
      simp (disch := first | omega | rfl | assumption | exact jokr (by decide) (by omega) | exact jokr4 (by omega) | exact jkt_r _ _ | exact jkt_l (by decide) | exact jfk_l (by decide) | exact jkt_t _ | exact jkt_r6 _ _ | exact jkt_t6 _ | (simp only [jok, jlen]; omega) | decide) only [jm_gi hL, this]
    have g9 : xgi (jW L ω S1) (jad L (jo 31)) 6 9 = some (nI x) := by
      have := hc.x
      simp (disch := first | omega | rfl | assumption | exact jokr (by decide) (by omega) | exact jokr4 (by omega) | exact jkt_r _ _ | exact jkt_l (by decide) | exact jfk_l (by decide) | exact jkt_t _ | exact jkt_r6 _ _ | exact jkt_t6 _ | (simp only [jok, jlen]; omega) | decide) only [jm_gi hL, this]
    have g0 : xgr (jW L ω S1) (jad L (jo 31)) 6 0 = some (jad L (jo 1)) := by
      have hK := hK1
      simp (disch := first | omega | rfl | assumption | exact jokr (by decide) (by omega) | exact jokr4 (by omega) | exact jkt_r _ _ | exact jkt_l (by decide) | exact jfk_l (by decide) | exact jkt_t _ | exact jkt_r6 _ _ | exact jkt_t6 _ | (simp only [jok, jlen]; omega) | decide) only [jm_k hL, jm_gi hL, jm_gr hL, jm_gl hL, jm_pi hL, jm_pl hL, jn_ai hL, jn_ab hL, jn_az hL, jn_al hL, jn_ar hL, jn_an hL, jn_si hL, jn_sb hL, jn_sz hL, jn_sl hL, Option.bind_some, xc, xl, jsA_X, jsI_X, jsG_X, hK _ _, jlk, jmx]
    have lk : f_Tape_byteAt (jad L (jo 1)) (nI x) (jW L ω S1) = some (nI (tp x)) := by
      rw [jTape_at hL hK1 hT (by omega)]
      unfold jbv
      rw [if_pos (by omega)]
    rw [g10, Option.bind_some, if_pos (show nI 0 = (0 : Int32) from rfl), g8, Option.bind_some, if_pos (show nI 0 = (0 : Int32) from rfl), g0, Option.bind_some, g9, Option.bind_some, jkt1 hL, lk, Option.bind_some, jk31 hL, a1', Option.bind_some, show nI i + 1 = nI (i + 1) by rw [jlit, nI_add], e1, show i + 1 + n = i + (n + 1) by omega]
/-- what the class's positions then hold -/
def jPq (T : jSt) (j : Nat) (s : jPs) : Prop := (jgI T (jl j 1) 4 = nI (jPs.sz s)) ∧ (jgI T (jl j 1) 6 = nI (jpU s).1) ∧ (jgI T (jl j 1) 7 = nI (jpU s).2.1) ∧ (jgI T (jl j 1) 8 = nI (jpU s).2.2) ∧ (∀ l, l < 9 → jTk T j (jPs.sz s) (jPs.ls s) l) ∧ (∀ u, u < 32 → jgA T (jl j 4) u = nI (jos (jpF s) u 5)) ∧ (∀ u, u < 32 → jgA T (jl j 5) u = nI (jos (fun i => jpF s (5 + i)) u 5))
theorem jPq.z {T : jSt} {j : Nat} {s : jPs} (h : jPq T j s) : jgI T (jl j 1) 4 = nI (jPs.sz s) := h.1
theorem jPq.fi {T : jSt} {j : Nat} {s : jPs} (h : jPq T j s) : jgI T (jl j 1) 6 = nI (jpU s).1 := h.2.1
theorem jPq.la {T : jSt} {j : Nat} {s : jPs} (h : jPq T j s) : jgI T (jl j 1) 7 = nI (jpU s).2.1 := h.2.2.1
theorem jPq.no {T : jSt} {j : Nat} {s : jPs} (h : jPq T j s) : jgI T (jl j 1) 8 = nI (jpU s).2.2 := h.2.2.2.1
theorem jPq.tk {T : jSt} {j : Nat} {s : jPs} (h : jPq T j s) : ∀ l, l < 9 → jTk T j (jPs.sz s) (jPs.ls s) l := h.2.2.2.2.1
theorem jPq.al {T : jSt} {j : Nat} {s : jPs} (h : jPq T j s) : ∀ u, u < 32 → jgA T (jl j 4) u = nI (jos (jpF s) u 5) := h.2.2.2.2.2.1
theorem jPq.au {T : jSt} {j : Nat} {s : jPs} (h : jPq T j s) : ∀ u, u < 32 → jgA T (jl j 5) u = nI (jos (fun i => jpF s (5 + i)) u 5) := h.2.2.2.2.2.2
theorem jPp_90 {L : jL} (hL : jgood L) {ω : xS} {S : jSt} {sw ps wy : Nat} (hK : jLK S sw ps wy) {tp : Nat → Nat} {ts q t j a1 : Nat} {s : jPs} (hj : j < 32) (hi : jPi s) (h1 : jPs.hs s = 1) (h : jCe S j s) : ∃ T, f_PatternParser_parse_90 (jad L (jo 31)) (nI a1) (jad L (jl j 1)) (jW L ω S) = some (jW L ω T) ∧ jfq (jisPP j) S T ∧ (jPs.sz s ≤ 10 → jgI T (jo 31) 10 = nI 0 ∧ jPq T j s) ∧ (10 < jPs.sz s → jgI T (jo 31) 10 = nI 3 ∧ jgI T (jo 31) 11 = nI a1) := by
  have g8 : xgi (jW L ω S) (jad L (jo 31)) 6 8 = some (nI 1) := by
    have := h.c
    simp (disch := first | omega | rfl | assumption | exact jokr (by decide) (by omega) | exact jokr4 (by omega) | exact jkt_r _ _ | exact jkt_l (by decide) | exact jfk_l (by decide) | exact jkt_t _ | exact jkt_r6 _ _ | exact jkt_t6 _ | (simp only [jok, jlen]; omega) | decide) only [jm_gi hL, this]
  unfold f_PatternParser_parse_90
  rw [g8, Option.bind_some, if_neg (show ¬ nI 1 = (0 : Int32) by decide)]
  rcases Nat.lt_or_ge 10 (jPs.sz s) with c | c
  · have g5 : xgi (jW L ω S) (jad L (jl j 1)) 7 5 = some (nI 1) := by
      have := h.B c
      simp (disch := first | omega | rfl | assumption | exact jokr (by decide) (by omega) | exact jokr4 (by omega) | exact jkt_r _ _ | exact jkt_l (by decide) | exact jfk_l (by decide) | exact jkt_t _ | exact jkt_r6 _ _ | exact jkt_t6 _ | (simp only [jok, jlen]; omega) | decide) only [jm_gi hL, this]
    refine ⟨jsI (jsI S (jo 31) 10 (nI 3)) (jo 31) 11 (nI a1), ?_, (jfq.sI _ _ _ (Or.inl (jP31 j))).trans (jfq.sI _ _ _ (Or.inl (jP31 j))), fun z => by omega, fun _ => ⟨by rw [jsI_c, if_neg (by decide), jsI_c, if_pos rfl], by rw [jsI_c, if_pos rfl]⟩⟩
    have rf : f_PatternParser_refuse (jad L (jo 31)) 3 (nI a1) (jW L ω S) = some (jW L ω (jsI (jsI S (jo 31) 10 (nI 3)) (jo 31) 11 (nI a1))) := jPp_refuse hL hK
    rw [g5, Option.bind_some, if_neg (show ¬ nI 1 = (0 : Int32) by decide), jk31 hL, rf, Option.bind_some]
  · obtain ⟨A1, A2, A3, A4, A5⟩ := h.A c
    have g5 : xgi (jW L ω S) (jad L (jl j 1)) 7 5 = some (nI 0) := by simp (disch := first | omega | rfl | assumption | exact jokr (by decide) (by omega) | exact jokr4 (by omega) | exact jkt_r _ _ | exact jkt_l (by decide) | exact jfk_l (by decide) | exact jkt_t _ | exact jkt_r6 _ _ | exact jkt_t6 _ | (simp only [jok, jlen]; omega) | decide) only [jm_gi hL, A2]
    have gi : xgi (jW L ω S) (jad L (jo 31)) 6 5 = some (nI (jenc (jpU s))) := by simp (disch := first | omega | rfl | assumption | exact jokr (by decide) (by omega) | exact jokr4 (by omega) | exact jkt_r _ _ | exact jkt_l (by decide) | exact jfk_l (by decide) | exact jkt_t _ | exact jkt_r6 _ _ | exact jkt_t6 _ | (simp only [jok, jlen]; omega) | decide) only [jm_gi hL, A5]
    have hgU : jGg (jpU s) := (jpU_ok hi h1).1.good c
    obtain ⟨T, a1', a2, a3, a4, a5, a6, a7, a8⟩ := jP_finish hL (ω := ω) hK hj hgU A4
    have n31 : ¬ (fun c => c = jl j 1 ∨ c = jl j 4 ∨ c = jl j 5) (jo 31) := fun z => by rcases z with z | z | z <;> cases z
    have n2 : ¬ (fun c => c = jl j 1 ∨ c = jl j 4 ∨ c = jl j 5) (jl j 2) := fun z => by rcases z with z | z | z <;> cases z
    refine ⟨T, ?_, a2.weak (fun c hc => ?_), fun _ => ⟨by rw [(a2.2.2 _ n31).1]; exact h.f, by rw [a3]; exact A1, a4, a5, a6, fun l hl => ?_, a7, a8⟩, fun z => by omega⟩
    · rw [g5, Option.bind_some, if_pos (show nI 0 = (0 : Int32) from rfl), Option.bind_some, if_neg (show ¬ nI 1 = (0 : Int32) by decide), gi, Option.bind_some, jkl1 hL hj, a1', Option.bind_some]
    · rcases hc with z | z | z <;> subst z
      · exact Or.inl (jPl1 j)
      · exact Or.inr (Or.inl rfl)
      · exact Or.inr (Or.inr rfl)
    · obtain ⟨t', u1, u2, u3⟩ := (A3 l hl).x
      exact ⟨t', u1, by rw [(a2.2.2 _ n2).2]; exact u2, u3⟩
theorem jPp_parse {L : jL} (hL : jgood L) {ω : xS} {S : jSt} {sw ps wy : Nat} (hK : jLK S sw ps wy) {tp : Nat → Nat} {ts q t j n x f p : Nat} {s : jPs} (hT : jTc S tp ts) (hP : jPx tp ts q t) (hj : j < 32) (htr : jTr tp ts t n (q + 1) jp00 x s) (hn : n ≤ x - (q + 1)) (hx : q + 1 ≤ x) (hxt : x ≤ t) (he : jEnd tp ts t x s f p) : ∃ T, f_PatternParser_parse (jad L (jo 31)) (nI q) (jad L (jl j 1)) (jW L ω S) = some (jW L ω T) ∧ jfq (jisPP j) S T ∧ (f ≠ 0 → jgI T (jo 31) 10 = nI f ∧ jgI T (jo 31) 11 = nI p) ∧ (f = 0 → jPs.sz s ≤ 10 → jgI T (jo 31) 10 = nI 0 ∧ jPq T j s) ∧ (f = 0 → 10 < jPs.sz s → jgI T (jo 31) 10 = nI 3 ∧ jgI T (jo 31) 11 = nI q) := by
  have ht := hP.t
  have hs15 := hP.s
  have hl := hP.l
  obtain ⟨T0, a1, a2, a3, a4, a5, a6⟩ := jP_clear hL (ω := ω) hK hj
  have hK0 := hK.of a2.1
  have n31 : ¬ (fun c => c = jl j 1 ∨ c = jl j 2 ∨ c = jl j 3) (jo 31) := fun z => by rcases z with z | z | z <;> cases z
  have w0 : jfq (jisP j) S T0 := a2.weak (fun c hc => by
    rcases hc with z | z | z <;> subst z
    · exact jPl1 j
    · exact jPl2 j
    · exact jPl3 j)
  have w1 : jfq (jisP j) S (jsA (jsA (jsI (jsI (jsI (jsI (jsI T0 (jo 31) 10 (nI 0)) (jo 31) 8 (nI 0)) (jo 31) 9 (nI (q + 1))) (jo 31) 5 (-1)) (jo 31) 4 (nI 0)) (jo 32) 0 (nI 0)) (jo 33) 0 (nI 1048576)) := ((((((w0.trans (jfq.sI _ _ _ (jP31 j))).trans (jfq.sI _ _ _ (jP31 j))).trans (jfq.sI _ _ _ (jP31 j))).trans (jfq.sI _ _ _ (jP31 j))).trans (jfq.sI _ _ _ (jP31 j))).trans (jfq.sA _ _ _ (jP32 j))).trans (jfq.sA _ _ _ (jP33 j))
  have hT1 := hT.fq w1 (jP_o1 j) (jP_o2 j)
  have c0 : jCs (jsA (jsA (jsI (jsI (jsI (jsI (jsI T0 (jo 31) 10 (nI 0)) (jo 31) 8 (nI 0)) (jo 31) 9 (nI (q + 1))) (jo 31) 5 (-1)) (jo 31) 4 (nI 0)) (jo 32) 0 (nI 0)) (jo 33) 0 (nI 1048576)) j jp00 (q + 1) 0 := by
    refine ⟨?_, ?_, ?_, ?_, fun _ => ?_, fun z => absurd z (by show ¬ (0 = 1); decide), fun _ => ⟨?_, ?_, fun l hl => ?_, fun p hp => ?_, fun e he => ?_, fun e he => ?_, fun e h1 he => ?_, fun z => absurd z (by show ¬ (0 = 1); decide)⟩, fun z => absurd z (by show ¬ (10 < 0); decide)⟩
    · rw [jsA_I, jsA_I, jsI_c, if_pos rfl]; rfl
    · rw [jsA_I, jsA_I, jsI_c, if_neg (by decide), jsI_c, if_neg (by decide), jsI_c, if_pos rfl]
    · rw [jsA_I, jsA_I, jsI_c, if_neg (by decide), jsI_c, if_neg (by decide), jsI_c, if_neg (by decide), jsI_c, if_neg (by decide), jsI_c, if_pos rfl]
    · rw [jsA_I, jsA_I, jsI_c, if_neg (by decide), jsI_c, if_neg (by decide), jsI_c, if_neg (by decide), jsI_c, if_pos rfl]
    · rw [jsA_I, jsA_I, jsI_c, if_neg (by decide), jsI_c, if_pos rfl]
    · rw [jsA_I, jsA_I, jsI_fn (fun z => by cases z), jsI_fn (fun z => by cases z), jsI_fn (fun z => by cases z), jsI_fn (fun z => by cases z), jsI_fn (fun z => by cases z)]; exact a3
    · rw [jsA_I, jsA_I, jsI_fn (fun z => by cases z), jsI_fn (fun z => by cases z), jsI_fn (fun z => by cases z), jsI_fn (fun z => by cases z), jsI_fn (fun z => by cases z)]; exact a4
    · refine ⟨0, by decide, ?_, fun q => ⟨fun z => (by rw [Nat.zero_testBit] at z; cases z), fun z => absurd z.1 (Nat.not_lt_zero q)⟩⟩
      rw [jsA_ne (fun z => by cases z), jsA_ne (fun z => by cases z)]; exact a5 l hl
    · rw [jsA_ne (fun z => by cases z), jsA_ne (fun z => by cases z)]; exact a6 p hp
    · have he : e ≤ 0 := he
      obtain rfl : e = 0 := by omega
      rw [jsA_ne (jone (by decide)), jsA_c, if_pos rfl]; rfl
    · have he : e ≤ 0 := he
      obtain rfl : e = 0 := by omega
      rw [jsA_c, if_pos rfl]; rfl
    · have he : e ≤ 0 := he
      omega
  obtain ⟨m', T, e1, e2, e3, e4, e5, e6, e7⟩ := jPp_units hL (ω := ω) (S := S) hK (a1 := q) hP hj n xFU 0 (q + 1) _ jp00 x s htr (by omega) (by omega) (by unfold xFU; omega) (by show 0 + q + 1 ≤ q + 1; omega) w1 hT1 jp00_ok c0
  have hKT := hK.of e3.1
  -- the last byte
  have last : ∀ T2 : jSt, f_PatternParser_takeByte (jad L (jo 31)) (nI (tp x)) (jad L (jl j 1)) (jW L ω T) = some (jW L ω T2) → jLK T2 sw ps wy → (∃ v, jgI T2 (jo 31) 10 = nI v ∧ v ≤ 4 ∧ v ≠ 0) ∨ jgI T2 (jo 31) 8 = nI 1 → (∃ v, jgI T2 (jo 31) 10 = nI v ∧ v ≤ 4) → f_PatternParser_parse (jad L (jo 31)) (nI q) (jad L (jl j 1)) (jW L ω S) = f_PatternParser_parse_90 (jad L (jo 31)) (nI q) (jad L (jl j 1)) (jW L ω T2) := by
    intro T2 htk hK2 hst hv4
    have g10 : xgi (jW L ω T) (jad L (jo 31)) 6 10 = some (nI 0) := by
      have := e6.f
      simp (disch := first | omega | rfl | assumption | exact jokr (by decide) (by omega) | exact jokr4 (by omega) | exact jkt_r _ _ | exact jkt_l (by decide) | exact jfk_l (by decide) | exact jkt_t _ | exact jkt_r6 _ _ | exact jkt_t6 _ | (simp only [jok, jlen]; omega) | decide) only [jm_gi hL, this]
    have g8 : xgi (jW L ω T) (jad L (jo 31)) 6 8 = some (nI 0) := by
      have := e6.c
      simp (disch := first | omega | rfl | assumption | exact jokr (by decide) (by omega) | exact jokr4 (by omega) | exact jkt_r _ _ | exact jkt_l (by decide) | exact jfk_l (by decide) | exact jkt_t _ | exact jkt_r6 _ _ | exact jkt_t6 _ | (simp only [jok, jlen]; omega) | decide) only [jm_gi hL, this]
    have g9 : xgi (jW L ω T) (jad L (jo 31)) 6 9 = some (nI x) := by
      have := e6.x
      simp (disch := first | omega | rfl | assumption | exact jokr (by decide) (by omega) | exact jokr4 (by omega) | exact jkt_r _ _ | exact jkt_l (by decide) | exact jfk_l (by decide) | exact jkt_t _ | exact jkt_r6 _ _ | exact jkt_t6 _ | (simp only [jok, jlen]; omega) | decide) only [jm_gi hL, this]
    have g0 : xgr (jW L ω T) (jad L (jo 31)) 6 0 = some (jad L (jo 1)) := by
      have hK := hKT
      simp (disch := first | omega | rfl | assumption | exact jokr (by decide) (by omega) | exact jokr4 (by omega) | exact jkt_r _ _ | exact jkt_l (by decide) | exact jfk_l (by decide) | exact jkt_t _ | exact jkt_r6 _ _ | exact jkt_t6 _ | (simp only [jok, jlen]; omega) | decide) only [jm_k hL, jm_gi hL, jm_gr hL, jm_gl hL, jm_pi hL, jm_pl hL, jn_ai hL, jn_ab hL, jn_az hL, jn_al hL, jn_ar hL, jn_an hL, jn_si hL, jn_sb hL, jn_sz hL, jn_sl hL, Option.bind_some, xc, xl, jsA_X, jsI_X, jsG_X, hK _ _, jlk, jmx]
    have lk : f_Tape_byteAt (jad L (jo 1)) (nI x) (jW L ω T) = some (nI (tp x)) := by
      rw [jTape_at hL hKT e4 (by omega)]
      unfold jbv
      rw [if_pos (by omega)]
    have st1 : f_PatternParser_parse_48 (m' + 1) (jad L (jo 31)) (nI q) (jad L (jl j 1)) (nI (0 + n)) (jW L ω T) = f_PatternParser_parse_48 m' (jad L (jo 31)) (nI q) (jad L (jl j 1)) (nI (0 + n + 1)) (jW L ω T2) := by
      rw [f_PatternParser_parse_48, if_neg (show ¬ (40 : Int32) < nI (0 + n) from fun z => by have := (nI_ltI (a := 40) (by omega) (by omega)).mp z; omega), g10, Option.bind_some, if_pos (show nI 0 = (0 : Int32) from rfl), g8, Option.bind_some, if_pos (show nI 0 = (0 : Int32) from rfl), g0, Option.bind_some, g9, Option.bind_some, jkt1 hL, lk, Option.bind_some, jk31 hL, htk, Option.bind_some, show nI (0 + n) + 1 = nI (0 + n + 1) by rw [jlit, nI_add]]
    have st2 : f_PatternParser_parse_48 m' (jad L (jo 31)) (nI q) (jad L (jl j 1)) (nI (0 + n + 1)) (jW L ω T2) = f_PatternParser_parse_90 (jad L (jo 31)) (nI q) (jad L (jl j 1)) (jW L ω T2) := by
      obtain ⟨m2, rfl⟩ : ∃ m2, m' = m2 + 1 := ⟨m' - 1, by unfold xFU at e2; omega⟩
      rw [f_PatternParser_parse_48]
      by_cases c40 : (40 : Int32) < nI (0 + n + 1)
      · rw [if_pos c40]
      · rw [if_neg c40]
        obtain ⟨v, v1, v2⟩ := hv4
        have g10' : xgi (jW L ω T2) (jad L (jo 31)) 6 10 = some (nI v) := by simp (disch := first | omega | rfl | assumption | exact jokr (by decide) (by omega) | exact jokr4 (by omega) | exact jkt_r _ _ | exact jkt_l (by decide) | exact jfk_l (by decide) | exact jkt_t _ | exact jkt_r6 _ _ | exact jkt_t6 _ | (simp only [jok, jlen]; omega) | decide) only [jm_gi hL, v1]
        rw [g10', Option.bind_some]
        rcases hst with ⟨v', w1, w2, w3⟩ | h8
        · have : v' = v := by
            have := w1.symm.trans v1
            rw [nI_eq (by omega) (by omega)] at this
            exact this
          subst this
          rw [if_neg (show ¬ nI v' = (0 : Int32) from fun z => by rw [jlit, nI_eq (by omega) (by omega)] at z; exact w3 z)]
        · have g8' : xgi (jW L ω T2) (jad L (jo 31)) 6 8 = some (nI 1) := by simp (disch := first | omega | rfl | assumption | exact jokr (by decide) (by omega) | exact jokr4 (by omega) | exact jkt_r _ _ | exact jkt_l (by decide) | exact jfk_l (by decide) | exact jkt_t _ | exact jkt_r6 _ _ | exact jkt_t6 _ | (simp only [jok, jlen]; omega) | decide) only [jm_gi hL, h8]
          by_cases cv : nI v = (0 : Int32)
          · rw [if_pos cv, g8', Option.bind_some, if_neg (show ¬ nI 1 = (0 : Int32) by decide)]
          · rw [if_neg cv]
    unfold f_PatternParser_parse
    have hKK := hK0
    rw [jkl1 hL hj, a1, Option.bind_some]
    have e1' : f_PatternParser_parse_48 xFU (jad L (jo 31)) (nI q) (jad L (jl j 1)) (nI 0) (jW L ω (jsA (jsA (jsI (jsI (jsI (jsI (jsI T0 (jo 31) 10 (nI 0)) (jo 31) 8 (nI 0)) (jo 31) 9 (nI (q + 1))) (jo 31) 5 (-1)) (jo 31) 4 (nI 0)) (jo 32) 0 (nI 0)) (jo 33) 0 (nI 1048576))) = f_PatternParser_parse_90 (jad L (jo 31)) (nI q) (jad L (jl j 1)) (jW L ω T2) := (e1.trans st1).trans st2
    have hK := hK0
    simp (disch := first | omega | rfl | assumption | exact jokr (by decide) (by omega) | exact jokr4 (by omega) | exact jkt_r _ _ | exact jkt_l (by decide) | exact jfk_l (by decide) | exact jkt_t _ | exact jkt_r6 _ _ | exact jkt_t6 _ | (simp only [jok, jlen]; omega) | decide) only [jm_k hL, jm_gi hL, jm_gr hL, jm_gl hL, jm_pi hL, jm_pl hL, jn_ai hL, jn_ab hL, jn_az hL, jn_al hL, jn_ar hL, jn_an hL, jn_si hL, jn_sb hL, jn_sz hL, jn_sl hL, Option.bind_some, xc, xl, jsA_X, jsI_X, jsG_X, hK _ _, jlk, jmx, jlit, nI_add]
    exact e1'
  -- a fault leaves the loop
  have bad : ∀ (T2 : jSt) (v w : Nat), v ≠ 0 → v ≤ 4 → f_PatternParser_takeByte (jad L (jo 31)) (nI (tp x)) (jad L (jl j 1)) (jW L ω T) = some (jW L ω T2) → jfq (jisP j) T T2 → jgI T2 (jo 31) 10 = nI v → jgI T2 (jo 31) 11 = nI w → jgI T2 (jo 31) 8 = nI 0 → ∃ T3, f_PatternParser_parse (jad L (jo 31)) (nI q) (jad L (jl j 1)) (jW L ω S) = some (jW L ω T3) ∧ jfq (jisPP j) S T3 ∧ jgI T3 (jo 31) 10 = nI v ∧ jgI T3 (jo 31) 11 = nI w := by
    intro T2 v w v0 v4 htk hfr h10 h11 h8
    refine ⟨T2, ?_, (e3.trans hfr).weak (fun c hc => Or.inl hc), h10, h11⟩
    rw [last T2 htk (hKT.of hfr.1) (Or.inl ⟨v, h10, v4, v0⟩) ⟨v, h10, v4⟩]
    have g8 : xgi (jW L ω T2) (jad L (jo 31)) 6 8 = some (nI 0) := by simp (disch := first | omega | rfl | assumption | exact jokr (by decide) (by omega) | exact jokr4 (by omega) | exact jkt_r _ _ | exact jkt_l (by decide) | exact jfk_l (by decide) | exact jkt_t _ | exact jkt_r6 _ _ | exact jkt_t6 _ | (simp only [jok, jlen]; omega) | decide) only [jm_gi hL, h8]
    unfold f_PatternParser_parse_90
    rw [g8, Option.bind_some, if_pos (show nI 0 = (0 : Int32) from rfl), Option.bind_some, if_pos (show nI 0 = (0 : Int32) from rfl)]
  rcases he with ⟨hxt', hf0, hft⟩ | ⟨rfl, he⟩
  · obtain ⟨T2, b1, b2, b3, b4, b5⟩ := jPp_take_bad hL (ω := ω) hKT e4 hP (by omega) hxt' hj e5 (by omega) e6 hft
    have hf4 : f ≤ 4 := by
      rcases hft with ⟨_, _, rfl, _⟩ | ⟨_, _, _, _, rfl, _⟩ | ⟨_, _, _, _, _, rfl, _⟩
      · decide
      · unfold jbrF
        (repeat' split) <;> (dsimp only; omega)
      · decide
    obtain ⟨T3, c1, c2, c3, c4⟩ := bad T2 f p hf0 hf4 b1 b2 b3 b4 b5
    exact ⟨T3, c1, c2, fun _ => ⟨c3, c4⟩, fun z => absurd z hf0, fun z => absurd z hf0⟩
  · obtain ⟨g1, g2⟩ := jPp_take_end hL (ω := ω) hKT hP hj e5 (by omega) e6
    rcases he with ⟨h1, hd0, rfl⟩ | ⟨hno, rfl, rfl⟩
    · obtain ⟨T2, b1, b2, b3⟩ := g1 ⟨h1, hd0⟩
      obtain ⟨T3, c1, c2, c3, c4⟩ := jPp_90 hL (ω := ω) (tp := tp) (ts := ts) (q := q) (t := x) (hKT.of b2.1) (a1 := q) hj e5 h1 b3
      refine ⟨T3, ?_, ((e3.trans b2).weak (fun c hc => Or.inl hc)).trans c2, fun z => absurd rfl z, fun _ => c3, fun _ => c4⟩
      rw [last T2 b1 (hKT.of b2.1) (Or.inr b3.c) ⟨0, b3.f, by omega⟩]
      exact c1
    · obtain ⟨T2, b1, b2, b3, b4, b5⟩ := g2 hno
      obtain ⟨T3, c1, c2, c3, c4⟩ := bad T2 2 p (by decide) (by decide) b1 b2 b3 b4 b5
      exact ⟨T3, c1, c2, fun _ => ⟨c3, c4⟩, fun z => absurd z (by decide), fun z => absurd z (by decide)⟩
