/-! the reference's law -/
theorem jNm_st {tp : Nat → Nat} {ts lo hi : Nat} {r : Nat × Nat × Nat} (h : r.1 ≠ 0) : jNm tp ts lo hi r = (lo, r) := by
  unfold jNm
  rw [if_neg (fun z => h z.1), jEx_st h]
theorem jNm_0 {tp : Nat → Nat} {ts lo hi : Nat} {r : Nat × Nat × Nat} (h : (jNm tp ts lo hi r).2.1 = 0) : r.1 = 0 := by
  rcases Nat.eq_zero_or_pos r.1 with z | z
  · exact z
  · rw [jNm_st (by omega)] at h
    exact h
theorem jEx_0 {tp : Nat → Nat} {ts k : Nat} {r : Nat × Nat × Nat} (h : (jEx tp ts k r).1 = 0) : r.1 = 0 := by
  rcases Nat.eq_zero_or_pos r.1 with z | z
  · exact z
  · rw [jEx_st (by omega)] at h
    exact h
theorem jDP.of {S T : jSt} {k : Nat} {s : jPs} {ns : Nat} {nx fe : Nat → Nat} (h : jDP S k s ns nx fe) (a : ∀ q, 17 ≤ q → q ≤ 24 → jgA T (jm q) = jgA S (jm q)) : jDP T k s ns nx fe := ⟨by rw [a _ (by omega) (by omega)]; exact h.sz, by rw [a _ (by omega) (by omega)]; exact h.ls, by rw [a _ (by omega) (by omega)]; exact h.fo, by rw [a _ (by omega) (by omega)]; exact h.la, by rw [a _ (by omega) (by omega)]; exact h.no, by rw [a _ (by omega) (by omega)]; exact h.ns, by rw [a _ (by omega) (by omega)]; exact h.nx, by rw [a _ (by omega) (by omega)]; exact h.fe, h.f1, h.as⟩
/-- rows of law k as they are written -/
def jRow (T : jSt) (k : Nat) (x2 x3 x4 x5 x6 x7 y0 : Int32) : Prop := (jgA T (jm 10) k = x3) ∧ (jgA T (jm 11) k = y0) ∧ (jgA T (jm 12) k = x2) ∧ (jgA T (jm 13) k = x4) ∧ (jgA T (jm 14) k = x5) ∧ (jgA T (jm 15) k = x6) ∧ (jgA T (jm 16) k = x7)
theorem jRow.so {T : jSt} {k : Nat} {x2 x3 x4 x5 x6 x7 y0 : Int32} (h : jRow T k x2 x3 x4 x5 x6 x7 y0) : jgA T (jm 10) k = x3 := h.1
theorem jRow.wt {T : jSt} {k : Nat} {x2 x3 x4 x5 x6 x7 y0 : Int32} (h : jRow T k x2 x3 x4 x5 x6 x7 y0) : jgA T (jm 11) k = y0 := h.2.1
theorem jRow.pl {T : jSt} {k : Nat} {x2 x3 x4 x5 x6 x7 y0 : Int32} (h : jRow T k x2 x3 x4 x5 x6 x7 y0) : jgA T (jm 12) k = x2 := h.2.2.1
theorem jRow.lo {T : jSt} {k : Nat} {x2 x3 x4 x5 x6 x7 y0 : Int32} (h : jRow T k x2 x3 x4 x5 x6 x7 y0) : jgA T (jm 13) k = x4 := h.2.2.2.1
theorem jRow.hi {T : jSt} {k : Nat} {x2 x3 x4 x5 x6 x7 y0 : Int32} (h : jRow T k x2 x3 x4 x5 x6 x7 y0) : jgA T (jm 14) k = x5 := h.2.2.2.2.1
theorem jRow.sp {T : jSt} {k : Nat} {x2 x3 x4 x5 x6 x7 y0 : Int32} (h : jRow T k x2 x3 x4 x5 x6 x7 y0) : jgA T (jm 15) k = x6 := h.2.2.2.2.2.1
theorem jRow.lt {T : jSt} {k : Nat} {x2 x3 x4 x5 x6 x7 y0 : Int32} (h : jRow T k x2 x3 x4 x5 x6 x7 y0) : jgA T (jm 16) k = x7 := h.2.2.2.2.2.2
theorem jMl_382 {L : jL} (hL : jgood L) {ω : xS} {S : jSt} {sw ps wy : Nat} (hK : jLK S sw ps wy) {k σ g : Nat} {x2 x3 x4 x5 x6 x7 y0 : Int32} (hk : k < 16) (h41 : jgI S (jm 0) 41 = nI σ) (h39 : jgI S (jm 0) 39 = nI g) (hg4 : g ≤ 4) (hσ : σ = 0 ∨ (σ = 1 ∧ g = 0)) : ∃ T, f_Mo_law0_382 (jad L (jm 0)) (nI k) x2 x3 x4 x5 x6 x7 y0 (jW L ω S) = some (jW L ω T) ∧ jfM σ k S T ∧ jgI T = jgI S ∧ (∀ q, 17 ≤ q → jgA T (jm q) = jgA S (jm q)) ∧ (σ = 1 → jRow T k x2 x3 x4 x5 x6 x7 y0) := by
  unfold f_Mo_law0_382
  rw [jxg_m hL (by omega) (by omega) (by omega) h41, Option.bind_some]
  rcases hσ with rfl | ⟨rfl, rfl⟩
  · refine ⟨S, ?_, (jfN.refl S).M 0 k, rfl, fun _ _ => rfl, fun z => by omega⟩
    rw [if_pos (show nI 0 = (0 : Int32) from rfl)]
  · refine ⟨jsA (jsA (jsA (jsA (jsA (jsA (jsA S (jm 10) k x3) (jm 11) k y0) (jm 12) k x2) (jm 13) k x4) (jm 14) k x5) (jm 15) k x6) (jm 16) k x7, ?_, ⟨fun z => by omega, ((((((jfV.sA S x3 (by omega)).trans (jfV.sA _ _ (by omega))).trans (jfV.sA _ _ (by omega))).trans (jfV.sA _ _ (by omega))).trans (jfV.sA _ _ (by omega))).trans (jfV.sA _ _ (by omega))).trans (jfV.sA _ _ (by omega))⟩, rfl, fun q hq => ?_, fun _ => ⟨?_, ?_, ?_, ?_, ?_, ?_, ?_⟩⟩
    · rw [if_neg (show ¬ nI 1 = (0 : Int32) by decide), jxg_m hL (by omega) (by omega) (by omega) h39, Option.bind_some, if_pos (show nI 0 = (0 : Int32) from rfl)]
      simp (disch := first | omega | rfl | assumption | exact jokr (by decide) (by omega) | exact jokr4 (by omega) | exact jkt_r _ _ | exact jkt_l (by decide) | exact jfk_l (by decide) | exact jkt_t _ | exact jkt_r6 _ _ | exact jkt_t6 _ | (simp only [jok, jlen]; omega) | decide) only [jm_k hL, jm_gi hL, jm_gr hL, jm_gl hL, jm_pi hL, jm_pl hL, jn_ai hL, jn_ab hL, jn_az hL, jn_al hL, jn_ar hL, jn_an hL, jn_si hL, jn_sb hL, jn_sz hL, jn_sl hL, Option.bind_some, xc, xl, jsA_X, jsI_X, jsG_X, hK _ _, jlk, jmx]
    · rw [jsA_fn (jmne (by omega)), jsA_fn (jmne (by omega)), jsA_fn (jmne (by omega)), jsA_fn (jmne (by omega)), jsA_fn (jmne (by omega)), jsA_fn (jmne (by omega)), jsA_fn (jmne (by omega))]
    · rw [jsA_ne (jmne (by decide)), jsA_ne (jmne (by decide)), jsA_ne (jmne (by decide)), jsA_ne (jmne (by decide)), jsA_ne (jmne (by decide)), jsA_ne (jmne (by decide)), jsA_c, if_pos rfl]
    · rw [jsA_ne (jmne (by decide)), jsA_ne (jmne (by decide)), jsA_ne (jmne (by decide)), jsA_ne (jmne (by decide)), jsA_ne (jmne (by decide)), jsA_c, if_pos rfl]
    · rw [jsA_ne (jmne (by decide)), jsA_ne (jmne (by decide)), jsA_ne (jmne (by decide)), jsA_ne (jmne (by decide)), jsA_c, if_pos rfl]
    · rw [jsA_ne (jmne (by decide)), jsA_ne (jmne (by decide)), jsA_ne (jmne (by decide)), jsA_c, if_pos rfl]
    · rw [jsA_ne (jmne (by decide)), jsA_ne (jmne (by decide)), jsA_c, if_pos rfl]
    · rw [jsA_ne (jmne (by decide)), jsA_c, if_pos rfl]
    · rw [jsA_c, if_pos rfl]
theorem jRr.of {S T : jSt} {ts : Nat} {r : Nat × Nat × Nat} (h : jRr S ts r) (e : jgI T = jgI S) : jRr T ts r := ⟨by rw [e]; exact h.f, h.f4, by rw [e]; exact h.z, by rw [e]; exact h.p⟩
theorem jz0 (g : Nat) (h4 : g ≤ 4) : nI g = (0 : Int32) ↔ g = 0 := by rw [jlit, nI_eq (by omega) (by omega)]
/-- a weight, and the rows -/
theorem jMl_wt {L : jL} (hL : jgood L) {ω : xS} {S : jSt} {sw ps wy : Nat} (hK : jLK S sw ps wy) {tp : Nat → Nat} {ts k σ : Nat} {r : Nat × Nat × Nat} {x2 x3 x4 x5 x6 x7 : Int32} (hk : k < 16) (hT : jTm S tp ts) (hr : jRr S ts r) (h41 : jgI S (jm 0) 41 = nI σ) (hσ : σ = 0 ∨ (σ = 1 ∧ (jNm tp ts 0 1000 r).2.1 = 0)) : ∃ T, ((xgi (jW L ω S) (jad L (jm 0)) 12 39).bind fun t => if t = 0 then (xc (xk (jW L ω S) (jad L (jm 0)) 12 (f_Mo_number (jad L (jm 0)) 0 1000 (jW L ω S))) fun t67 w68 => f_Mo_law0_382 (jad L (jm 0)) (nI k) x2 x3 x4 x5 x6 x7 t67 w68) else f_Mo_law0_382 (jad L (jm 0)) (nI k) x2 x3 x4 x5 x6 x7 0 (jW L ω S)) = some (jW L ω T) ∧ jfM σ k S T ∧ jRr T ts (jNm tp ts 0 1000 r).2 ∧ (∀ q, 17 ≤ q → q < 27 → jgA T (jm q) = jgA S (jm q)) ∧ (σ = 1 → jRow T k x2 x3 x4 x5 x6 x7 (nI (jNm tp ts 0 1000 r).1)) := by
  have hr4 := hr.f4
  by_cases c : r.1 = 0
  · obtain ⟨T1, x, e1, a1, a2, a3⟩ := jMr_number hL (ω := ω) hK hT hr (lo := 0) (hi := 1000) (by decide) (by decide)
    have e1 : f_Mo_number (jad L (jm 0)) 0 1000 (jW L ω S) = some (x, jW L ω T1) := e1
    obtain ⟨T, b1, b2, b3, b4, b5⟩ := jMl_382 hL (ω := ω) (hK.of a1.1) (x2 := x2) (x3 := x3) (x4 := x4) (x5 := x5) (x6 := x6) (x7 := x7) (y0 := x) hk (by rw [a1.2.2.2.2 41 (by omega)]; exact h41) a2.f a2.f4 hσ
    refine ⟨T, ?_, (a1.N.M σ k).trans b2, a2.of b3, fun q h1 h2 => by rw [b4 q h1, a1.2.2.1], fun z => ?_⟩
    · rw [jxg_m hL (by omega) (by omega) (by omega) hr.f, Option.bind_some, if_pos ((jz0 _ hr4).mpr c), jkm hL, e1]
      simp only [xc]
      exact b1
    · have hx : x = nI (jNm tp ts 0 1000 r).1 := a3 (by omega)
      rw [← hx]
      exact b5 z
  · have e := jNm_st (tp := tp) (ts := ts) (lo := 0) (hi := 1000) c
    rw [e] at hσ ⊢
    have s0 : σ = 0 := by
      rcases hσ with z | ⟨_, z⟩
      · exact z
      · exact absurd z c
    obtain ⟨T, b1, b2, b3, b4, b5⟩ := jMl_382 hL (ω := ω) hK (x2 := x2) (x3 := x3) (x4 := x4) (x5 := x5) (x6 := x6) (x7 := x7) (y0 := 0) hk h41 hr.f hr4 (Or.inl s0)
    refine ⟨T, ?_, b2, hr.of b3, fun q h1 _ => b4 q h1, fun z => by omega⟩
    rw [jxg_m hL (by omega) (by omega) (by omega) hr.f, Option.bind_some, if_neg (fun z => c ((jz0 _ hr4).mp z))]
    exact b1
/-- numbers that bound each other: hours and cover -/
theorem jMl_259 {L : jL} (hL : jgood L) {ω : xS} {S : jSt} {sw ps wy : Nat} (hK : jLK S sw ps wy) {tp : Nat → Nat} {ts d k σ so H : Nat} {r : Nat × Nat × Nat} {x2 x7 y0 : Int32} (hk : k < 16) (hd : d < 2 ^ 31) (hT : jTm S tp ts) (hr : jRr S ts r) (h41 : jgI S (jm 0) 41 = nI σ) (h1 : jgI S (jm 0) 1 = nI d) (hso : (so = 2 ∧ H = 99999 ∧ y0 = 99999) ∨ (so = 6 ∧ H = 8 ∧ y0 = 8)) {a b c : Nat × Nat × Nat × Nat} (ha : a = jNm tp ts 0 H r) (hb : b = jNm tp ts a.1 H a.2) (hc : c = if so = 2 then jNm tp ts 1 d b.2 else (0, b.2)) (hσ : σ = 0 ∨ (σ = 1 ∧ (jNm tp ts 0 1000 c.2).2.1 = 0)) : ∃ T, f_Mo_law0_259 (jad L (jm 0)) (nI k) x2 (nI so) x7 y0 (jW L ω S) = some (jW L ω T) ∧ jfM σ k S T ∧ jRr T ts (jNm tp ts 0 1000 c.2).2 ∧ (σ = 1 → jRow T k x2 (nI so) (nI a.1) (nI b.1) (nI c.1) x7 (nI (jNm tp ts 0 1000 c.2).1)) := by
  have hy : y0 = nI H := by
    rcases hso with ⟨_, e1, e2⟩ | ⟨_, e1, e2⟩ <;> rw [e1, e2] <;> rfl
  have hH : H < 1000000 := by omega
  obtain ⟨T1, x, e1, a1, a2, a3⟩ := jMr_number hL (ω := ω) hK hT hr (lo := 0) (hi := H) (by decide) (by omega)
  rw [← ha] at a2 a3
  have e1 : f_Mo_number (jad L (jm 0)) 0 (nI H) (jW L ω S) = some (x, jW L ω T1) := e1
  have hr4 := a2.f4
  have hT1 := hT.f0 a1
  have hK1 := hK.of a1.1
  have t41 : jgI T1 (jm 0) 41 = nI σ := by rw [a1.2.2.2.2 41 (by omega)]; exact h41
  have t1 : jgI T1 (jm 0) 1 = nI d := by rw [a1.2.2.2.2 1 (by omega)]; exact h1
  unfold f_Mo_law0_259
  rw [jkm hL, hy, e1]
  simp only [xc]
  rw [jxg_m hL (by omega) (by omega) (by omega) a2.f, Option.bind_some]
  -- 289 where a fault stands
  have bad : ∀ (U : jSt) (y x : Int32) (rr : Nat × Nat × Nat), jLK U sw ps wy → jTm U tp ts → jRr U ts rr → rr.1 ≠ 0 → jgI U (jm 0) 41 = nI σ → σ = 0 → ∃ T, f_Mo_law0_289 (jad L (jm 0)) (nI k) x2 (nI so) x x7 y (jW L ω U) = some (jW L ω T) ∧ jfM σ k U T ∧ jRr T ts rr := by
    intro U y x rr hKU hTU hrU h0 u41 s0
    obtain ⟨T, b1, b2, b3, b4, b5⟩ := jMl_wt hL (ω := ω) hKU (x2 := x2) (x3 := nI so) (x4 := x) (x5 := y) (x6 := 0) (x7 := x7) hk hTU hrU u41 (Or.inl s0)
    rw [jNm_st h0] at b3
    refine ⟨T, ?_, b2, b3⟩
    unfold f_Mo_law0_289
    rw [jxg_m hL (by omega) (by omega) (by omega) hrU.f, Option.bind_some, if_neg (fun z => h0 ((jz0 _ hrU.f4).mp z)), ← jxg_m hL (ω := ω) (by omega) (by omega) (by omega) hrU.f]
    exact b1
  have s0 : ∀ g : Nat, g ≠ 0 → ((jNm tp ts 0 1000 c.2).2.1 = 0 → g = 0) → σ = 0 := fun g h0 hg => by
    rcases hσ with z | ⟨_, z⟩
    · exact z
    · exact absurd (hg z) h0
  have c0 : (jNm tp ts 0 1000 c.2).2.1 = 0 → b.2.1 = 0 := fun z => by
    have z := jNm_0 z
    rw [hc] at z
    by_cases q : so = 2
    · rw [if_pos q] at z; exact jNm_0 z
    · rw [if_neg q] at z; exact z
  have b0 : b.2.1 = 0 → a.2.1 = 0 := fun z => by rw [hb] at z; exact jNm_0 z
  by_cases ca : a.2.1 = 0
  · have hx := a3 ca
    have ba : a.1 < 1000000 := by rw [ha]; exact jNm_b (by decide) (fun z => (hr.z z).2)
    obtain ⟨T2, x', e2, g1, g2, g3⟩ := jMr_number hL (ω := ω) hK1 hT1 a2 (lo := a.1) (hi := H) (by omega) (by omega)
    rw [← hb] at g2 g3
    have hT2 := hT1.f0 g1
    have hK2 := hK1.of g1.1
    have u41 : jgI T2 (jm 0) 41 = nI σ := by rw [g1.2.2.2.2 41 (by omega)]; exact t41
    have u1 : jgI T2 (jm 0) 1 = nI d := by rw [g1.2.2.2.2 1 (by omega)]; exact t1
    rw [if_pos ((jz0 _ hr4).mpr ca), jkm hL, hx, e2]
    simp only [xc]
    by_cases cb : b.2.1 = 0
    · have hx' := g3 cb
      rw [hx']
      unfold f_Mo_law0_289
      rw [jxg_m hL (by omega) (by omega) (by omega) g2.f, Option.bind_some, if_pos ((jz0 _ g2.f4).mpr cb)]
      by_cases q : so = 2
      · rw [if_pos q] at hc
        have gd : xgi (jW L ω T2) (jad L (jm 0)) 12 1 = some (nI d) := by simp (disch := first | omega | rfl | assumption | exact jokr (by decide) (by omega) | exact jokr4 (by omega) | exact jkt_r _ _ | exact jkt_l (by decide) | exact jfk_l (by decide) | exact jkt_t _ | exact jkt_r6 _ _ | exact jkt_t6 _ | (simp only [jok, jlen]; omega) | decide) only [jm_gi hL, u1]
        obtain ⟨T3, x'', e3, m1, m2, m3⟩ := jMr_number hL (ω := ω) hK2 hT2 g2 (lo := 1) (hi := d) (by decide) hd
        rw [← hc] at m2 m3
        have e3 : f_Mo_number (jad L (jm 0)) 1 (nI d) (jW L ω T2) = some (x'', jW L ω T3) := e3
        have w41 : jgI T3 (jm 0) 41 = nI σ := by rw [m1.2.2.2.2 41 (by omega)]; exact u41
        obtain ⟨T, b1, b2, b3, b4, b5⟩ := jMl_wt hL (ω := ω) (hK2.of m1.1) (x2 := x2) (x3 := nI so) (x4 := nI a.1) (x5 := nI b.1) (x6 := x'') (x7 := x7) hk (hT2.f0 m1) m2 w41 hσ
        refine ⟨T, ?_, ((((a1.trans g1).trans m1).N.M σ k).trans b2), b3, fun z => ?_⟩
        · rw [if_pos (show nI so = (2 : Int32) by rw [q]; rfl), gd, Option.bind_some, jkm hL, e3]
          simp only [xc]
          exact b1
        · have cc : c.2.1 = 0 := by
            rcases hσ with y | ⟨_, y⟩
            · omega
            · exact jNm_0 y
          rw [← m3 cc]
          exact b5 z
      · rw [if_neg q] at hc
        have hc2 : c.2 = b.2 := by rw [hc]
        have hc1 : c.1 = 0 := by rw [hc]
        rw [hc2] at hσ ⊢
        obtain ⟨T, b1, b2, b3, b4, b5⟩ := jMl_wt hL (ω := ω) hK2 (x2 := x2) (x3 := nI so) (x4 := nI a.1) (x5 := nI b.1) (x6 := 0) (x7 := x7) hk hT2 g2 u41 hσ
        refine ⟨T, ?_, (((a1.trans g1).N.M σ k).trans b2), b3, fun z => by rw [hc1]; exact b5 z⟩
        rw [if_neg (show ¬ nI so = (2 : Int32) from fun z => by rw [jlit, nI_eq (by omega) (by omega)] at z; exact q z), ← jxg_m hL (ω := ω) (by omega) (by omega) (by omega) g2.f]
        exact b1
    · obtain ⟨T, b1, b2, b3⟩ := bad T2 x' (nI a.1) b.2 hK2 hT2 g2 cb u41 (s0 _ cb c0)
      have hc2 : c.2 = b.2 := by
        rw [hc]
        by_cases q : so = 2
        · rw [if_pos q, jNm_st cb]
        · rw [if_neg q]
      rw [hc2, jNm_st cb]
      exact ⟨T, b1, (((a1.trans g1).N.M σ k).trans b2), b3, fun z => absurd (s0 _ cb c0) (by omega)⟩
  · have hb2 : b.2 = a.2 := by rw [hb, jNm_st ca]
    have s00 := s0 _ ca (fun z => b0 (c0 z))
    obtain ⟨T, b1, b2, b3⟩ := bad T1 0 x a.2 hK1 hT1 a2 ca t41 s00
    have hc2 : c.2 = a.2 := by
      rw [hc]
      by_cases q : so = 2
      · rw [if_pos q, hb2, jNm_st ca]
      · rw [if_neg q]; exact hb2
    rw [hc2, jNm_st ca, if_neg (fun z => ca ((jz0 _ hr4).mp z))]
    exact ⟨T, b1, ((a1.N.M σ k).trans b2), b3, fun z => by omega⟩
