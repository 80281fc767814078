/-! THE LAW'S LOOP: every call, on both sides, answers alike, and all holds again -/
def jGo (a1 a2 cc uu z : Nat) (W : xS) : Prop := ∃ (L : jL) (ω : xS) (S : jSt) (A : jR) (w : jLw) (H : jH) (tp : Nat → Nat) (ts sw ps wy : Nat), W = jW L ω S ∧ jgood L ∧ jIv L S A w H tp ts sw ps wy ∧ jfit L z ∧ jroom (jLw.tl w) cc uu ∧ jad L (jo 0) = a1 ∧ jad L (jm 0) = a2
def jYs (xs : Nat → Int32) (N : Nat) (x3 : Int32) : Prop := (ysc xs N (x3 + 1) = some (xs (x3 + 1).toNatClampNeg)) ∧ (ysc xs N (x3 + 2) = some (xs (x3 + 2).toNatClampNeg)) ∧ (ysc xs N (x3 + 3) = some (xs (x3 + 3).toNatClampNeg)) ∧ (ysc xs N (x3 + 4) = some (xs (x3 + 4).toNatClampNeg))
theorem jYs.a {xs : Nat → Int32} {N : Nat} {x3 : Int32} (h : jYs xs N x3) : ysc xs N (x3 + 1) = some (xs (x3 + 1).toNatClampNeg) := h.1
theorem jYs.b {xs : Nat → Int32} {N : Nat} {x3 : Int32} (h : jYs xs N x3) : ysc xs N (x3 + 2) = some (xs (x3 + 2).toNatClampNeg) := h.2.1
theorem jYs.c {xs : Nat → Int32} {N : Nat} {x3 : Int32} (h : jYs xs N x3) : ysc xs N (x3 + 3) = some (xs (x3 + 3).toNatClampNeg) := h.2.2.1
theorem jYs.d {xs : Nat → Int32} {N : Nat} {x3 : Int32} (h : jYs xs N x3) : ysc xs N (x3 + 4) = some (xs (x3 + 4).toNatClampNeg) := h.2.2.2
theorem jcmp0 (r : Int64) : lg_cmp r r = 0 := by
  unfold lg_cmp
  rw [if_neg (show ¬ r > r from Int64.lt_irrefl), if_pos rfl]
theorem jpl_place {L : jL} (hL : jgood L) {ω : xS} {S : jSt} {sw ps wy : Nat} (hK : jLK S sw ps wy) (hP : jgI S (jo 29) 4 = jgI S (jm 0) 12) : f_RR_place (jad L (jo 0)) (jW L ω S) = some (jgI S (jm 0) 12) ∧ f_Mo_place (jad L (jm 0)) (jW L ω S) = some (jgI S (jm 0) 12) := by
  constructor
  · unfold f_RR_place
    simp (disch := first | omega | rfl | assumption | exact jokr (by decide) (by omega) | exact jokr4 (by omega) | exact jkt_r _ _ | exact jkt_l (by decide) | exact jfk_l (by decide) | exact jkt_t _ | exact jkt_r6 _ _ | exact jkt_t6 _ | (simp only [jok, jlen]; omega) | decide) only [jm_k hL, jm_gi hL, jm_gr hL, jm_gl hL, jm_pi hL, jm_pl hL, jn_ai hL, jn_ab hL, jn_az hL, jn_al hL, jn_ar hL, jn_an hL, jn_si hL, jn_sb hL, jn_sz hL, jn_sl hL, Option.bind_some, xc, xl, jsA_X, jsI_X, jsG_X, hK _ _, jlk, jmx, hP]
  · unfold f_Mo_place
    simp (disch := first | omega | rfl | assumption | exact jokr (by decide) (by omega) | exact jokr4 (by omega) | exact jkt_r _ _ | exact jkt_l (by decide) | exact jfk_l (by decide) | exact jkt_t _ | exact jkt_r6 _ _ | exact jkt_t6 _ | (simp only [jok, jlen]; omega) | decide) only [jm_k hL, jm_gi hL, jm_gr hL, jm_gl hL, jm_pi hL, jm_pl hL, jn_ai hL, jn_ab hL, jn_az hL, jn_al hL, jn_ar hL, jn_an hL, jn_si hL, jn_sb hL, jn_sz hL, jn_sl hL, Option.bind_some, xc, xl]
theorem jg_245 {xs : Nat → Int32} {N a1 a2 cc uu z : Nat} {x3 : Int32} {W : xS} {k38 : Nat → Nat → Int32 → Nat → Nat → Nat → xS → Option Unit} (hg : jGo a1 a2 cc uu z W) (y : jYs xs N x3) (K : ∀ cc uu z W, jGo a1 a2 cc uu z W → k38 a1 a2 (x3 + 5) cc uu z W = some ()) : f_law_245 xs N k38 a1 a2 x3 cc uu z W = some () := by
  obtain ⟨L, ω, S, A, w, H, tp, ts, sw, ps, wy, rfl, hL, h, hf, hr, rfl, rfl⟩ := hg
  obtain ⟨r, S1, S2, A2, H2, e1, e2, h2, hK2⟩ := jop_shift hL (ω := ω) h (xs (x3 + 1).toNatClampNeg) (xs (x3 + 2).toNatClampNeg) (xs (x3 + 3).toNatClampNeg) (xs (x3 + 4).toNatClampNeg)
  have kk := K cc uu z _ ⟨L, ω, S2, A2, w, H2, tp, ts, sw, ps, wy, rfl, hL, h2, hf, hr, rfl, rfl⟩
  unfold f_law_245
  simp only [y.a, y.b, y.c, y.d, Option.bind_some, jk0 hL, jkm hL, e1, e2, xc, jcmp0, if_true]
  exact kk
theorem jg_298 {xs : Nat → Int32} {N a1 a2 cc uu z : Nat} {x3 : Int32} {W : xS} {k38 : Nat → Nat → Int32 → Nat → Nat → Nat → xS → Option Unit} (hg : jGo a1 a2 cc uu z W) (y : jYs xs N x3) (K : ∀ cc uu z W, jGo a1 a2 cc uu z W → k38 a1 a2 (x3 + 5) cc uu z W = some ()) : f_law_298 xs N k38 a1 a2 x3 cc uu z W = some () := by
  obtain ⟨L, ω, S, A, w, H, tp, ts, sw, ps, wy, rfl, hL, h, hf, hr, rfl, rfl⟩ := hg
  obtain ⟨r, S1, S2, A2, H2, e1, e2, h2, hK2⟩ := jop_person hL (ω := ω) h (xs (x3 + 1).toNatClampNeg) (xs (x3 + 2).toNatClampNeg)
  have kk := K cc uu z _ ⟨L, ω, S2, A2, w, H2, tp, ts, sw, ps, wy, rfl, hL, h2, hf, hr, rfl, rfl⟩
  unfold f_law_298
  simp only [y.a, y.b, y.c, y.d, Option.bind_some, jk0 hL, jkm hL, e1, e2, xc, jcmp0, if_true]
  exact kk
theorem jg_331 {xs : Nat → Int32} {N a1 a2 cc uu z : Nat} {x3 : Int32} {W : xS} {k38 : Nat → Nat → Int32 → Nat → Nat → Nat → xS → Option Unit} (hg : jGo a1 a2 cc uu z W) (y : jYs xs N x3) (K : ∀ cc uu z W, jGo a1 a2 cc uu z W → k38 a1 a2 (x3 + 5) cc uu z W = some ()) : f_law_331 xs N k38 a1 a2 x3 cc uu z W = some () := by
  obtain ⟨L, ω, S, A, w, H, tp, ts, sw, ps, wy, rfl, hL, h, hf, hr, rfl, rfl⟩ := hg
  obtain ⟨r, S1, S2, A2, H2, e1, e2, h2, hK2⟩ := jop_past hL (ω := ω) h (xs (x3 + 1).toNatClampNeg) (xs (x3 + 2).toNatClampNeg) (xs (x3 + 3).toNatClampNeg)
  have kk := K cc uu z _ ⟨L, ω, S2, A2, w, H2, tp, ts, sw, ps, wy, rfl, hL, h2, hf, hr, rfl, rfl⟩
  unfold f_law_331
  simp only [y.a, y.b, y.c, y.d, Option.bind_some, jk0 hL, jkm hL, e1, e2, xc, jcmp0, if_true]
  exact kk
theorem jg_374 {xs : Nat → Int32} {N a1 a2 cc uu z : Nat} {x3 : Int32} {W : xS} {k38 : Nat → Nat → Int32 → Nat → Nat → Nat → xS → Option Unit} (hg : jGo a1 a2 cc uu z W) (y : jYs xs N x3) (K : ∀ cc uu z W, jGo a1 a2 cc uu z W → k38 a1 a2 (x3 + 5) cc uu z W = some ()) : f_law_374 xs N k38 a1 a2 x3 cc uu z W = some () := by
  obtain ⟨L, ω, S, A, w, H, tp, ts, sw, ps, wy, rfl, hL, h, hf, hr, rfl, rfl⟩ := hg
  obtain ⟨r, S1, S2, A2, H2, e1, e2, h2, hK2⟩ := jop_wish hL (ω := ω) h (xs (x3 + 1).toNatClampNeg) (xs (x3 + 2).toNatClampNeg) (xs (x3 + 3).toNatClampNeg) (xs (x3 + 4).toNatClampNeg)
  have kk := K cc uu z _ ⟨L, ω, S2, A2, w, H2, tp, ts, sw, ps, wy, rfl, hL, h2, hf, hr, rfl, rfl⟩
  unfold f_law_374
  simp only [y.a, y.b, y.c, y.d, Option.bind_some, jk0 hL, jkm hL, e1, e2, xc, jcmp0, if_true]
  exact kk
theorem jg_460 {xs : Nat → Int32} {N a1 a2 cc uu z : Nat} {x3 : Int32} {W : xS} {k38 : Nat → Nat → Int32 → Nat → Nat → Nat → xS → Option Unit} (hg : jGo a1 a2 cc uu z W) (y : jYs xs N x3) (K : ∀ cc uu z W, jGo a1 a2 cc uu z W → k38 a1 a2 (x3 + 5) cc uu z W = some ()) : f_law_460 xs N k38 a1 a2 x3 cc uu z W = some () := by
  obtain ⟨L, ω, S, A, w, H, tp, ts, sw, ps, wy, rfl, hL, h, hf, hr, rfl, rfl⟩ := hg
  obtain ⟨r, S1, S2, A2, H2, e1, e2, h2, hK2⟩ := jop_put hL (ω := ω) h (xs (x3 + 1).toNatClampNeg) (xs (x3 + 2).toNatClampNeg) (xs (x3 + 3).toNatClampNeg)
  have kk := K cc uu z _ ⟨L, ω, S2, A2, w, H2, tp, ts, sw, ps, wy, rfl, hL, h2, hf, hr, rfl, rfl⟩
  unfold f_law_460
  simp only [y.a, y.b, y.c, y.d, Option.bind_some, jk0 hL, jkm hL, e1, e2, xc, jcmp0, if_true]
  exact kk
theorem jg_504 {xs : Nat → Int32} {N a1 a2 cc uu z : Nat} {x3 : Int32} {W : xS} {k38 : Nat → Nat → Int32 → Nat → Nat → Nat → xS → Option Unit} (hg : jGo a1 a2 cc uu z W) (y : jYs xs N x3) (K : ∀ cc uu z W, jGo a1 a2 cc uu z W → k38 a1 a2 (x3 + 5) cc uu z W = some ()) : f_law_504 xs N k38 a1 a2 x3 cc uu z W = some () := by
  obtain ⟨L, ω, S, A, w, H, tp, ts, sw, ps, wy, rfl, hL, h, hf, hr, rfl, rfl⟩ := hg
  obtain ⟨r, S1, S2, A2, H2, e1, e2, h2, hK2⟩ := jop_change hL (ω := ω) h (xs (x3 + 1).toNatClampNeg) (xs (x3 + 2).toNatClampNeg) (xs (x3 + 3).toNatClampNeg)
  have kk := K cc uu z _ ⟨L, ω, S2, A2, w, H2, tp, ts, sw, ps, wy, rfl, hL, h2, hf, hr, rfl, rfl⟩
  unfold f_law_504
  simp only [y.a, y.b, y.c, y.d, Option.bind_some, jk0 hL, jkm hL, e1, e2, xc, jcmp0, if_true]
  exact kk
theorem jg_548 {xs : Nat → Int32} {N a1 a2 cc uu z : Nat} {x3 : Int32} {W : xS} {k38 : Nat → Nat → Int32 → Nat → Nat → Nat → xS → Option Unit} (hg : jGo a1 a2 cc uu z W) (y : jYs xs N x3) (K : ∀ cc uu z W, jGo a1 a2 cc uu z W → k38 a1 a2 (x3 + 5) cc uu z W = some ()) : f_law_548 xs N k38 a1 a2 x3 cc uu z W = some () := by
  obtain ⟨L, ω, S, A, w, H, tp, ts, sw, ps, wy, rfl, hL, h, hf, hr, rfl, rfl⟩ := hg
  obtain ⟨r, S1, S2, A2, H2, e1, e2, h2, hK2⟩ := jop_undo hL (ω := ω) h 
  have kk := K cc uu z _ ⟨L, ω, S2, A2, w, H2, tp, ts, sw, ps, wy, rfl, hL, h2, hf, hr, rfl, rfl⟩
  unfold f_law_548
  simp only [y.a, y.b, y.c, y.d, Option.bind_some, jk0 hL, jkm hL, e1, e2, xc, jcmp0, if_true]
  exact kk
theorem jg_561 {xs : Nat → Int32} {N a1 a2 cc uu z : Nat} {x3 : Int32} {W : xS} {k38 : Nat → Nat → Int32 → Nat → Nat → Nat → xS → Option Unit} (hg : jGo a1 a2 cc uu z W) (y : jYs xs N x3) (K : ∀ cc uu z W, jGo a1 a2 cc uu z W → k38 a1 a2 (x3 + 5) cc uu z W = some ()) : f_law_561 xs N k38 a1 a2 x3 cc uu z W = some () := by
  obtain ⟨L, ω, S, A, w, H, tp, ts, sw, ps, wy, rfl, hL, h, hf, hr, rfl, rfl⟩ := hg
  obtain ⟨r, S1, S2, A2, H2, e1, e2, h2, hK2⟩ := jop_best hL (ω := ω) h (xs (x3 + 1).toNatClampNeg) (xs (x3 + 2).toNatClampNeg)
  have kk := K cc uu z _ ⟨L, ω, S2, A2, w, H2, tp, ts, sw, ps, wy, rfl, hL, h2, hf, hr, rfl, rfl⟩
  unfold f_law_561
  simp only [y.a, y.b, y.c, y.d, Option.bind_some, jk0 hL, jkm hL, e1, e2, xc, jcmp0, if_true]
  exact kk
theorem jg_594 {xs : Nat → Int32} {N a1 a2 cc uu z : Nat} {x3 : Int32} {W : xS} {k38 : Nat → Nat → Int32 → Nat → Nat → Nat → xS → Option Unit} (hg : jGo a1 a2 cc uu z W) (y : jYs xs N x3) (K : ∀ cc uu z W, jGo a1 a2 cc uu z W → k38 a1 a2 (x3 + 5) cc uu z W = some ()) : f_law_594 xs N k38 a1 a2 x3 cc uu z W = some () := by
  obtain ⟨L, ω, S, A, w, H, tp, ts, sw, ps, wy, rfl, hL, h, hf, hr, rfl, rfl⟩ := hg
  obtain ⟨r, S1, S2, A2, H2, e1, e2, h2, hK2⟩ := jop_descend hL (ω := ω) h (xs (x3 + 1).toNatClampNeg)
  have kk := K cc uu z _ ⟨L, ω, S2, A2, w, H2, tp, ts, sw, ps, wy, rfl, hL, h2, hf, hr, rfl, rfl⟩
  unfold f_law_594
  simp only [y.a, y.b, y.c, y.d, Option.bind_some, jk0 hL, jkm hL, e1, e2, xc, jcmp0, if_true]
  exact kk
theorem jg_156 {xs : Nat → Int32} {N a1 a2 cc uu z : Nat} {x3 : Int32} {W : xS} {k38 : Nat → Nat → Int32 → Nat → Nat → Nat → xS → Option Unit} (hg : jGo a1 a2 cc uu z W) (y : jYs xs N x3) (K : ∀ cc uu z W, jGo a1 a2 cc uu z W → k38 a1 a2 (x3 + 5) cc uu z W = some ()) : f_law_156 xs N k38 a1 a2 x3 cc uu z W = some () := by
  obtain ⟨L, ω, S, A, w, H, tp, ts, sw, ps, wy, rfl, hL, h, hf, hr, rfl, rfl⟩ := hg
  obtain ⟨r, S1, S2, tp2, ts2, e1, e2, h2, hK2⟩ := jop_feed hL (ω := ω) h (xs (x3 + 1).toNatClampNeg) ((xlshl (Int32.toInt64 (xs (x3 + 2).toNatClampNeg)) 32) ||| ((Int32.toInt64 (xs (x3 + 3).toNatClampNeg)) &&& 4294967295))
  have kk := K cc uu z _ ⟨L, ω, S2, A, w, H, tp2, ts2, sw, ps, wy, rfl, hL, h2, hf, hr, rfl, rfl⟩
  unfold f_law_156
  simp only [y.a, y.b, y.c, y.d, Option.bind_some, jk0 hL, jkm hL, e1, e2, xc, jcmp0, if_true]
  exact kk
theorem jg_219 {xs : Nat → Int32} {N a1 a2 cc uu z : Nat} {x3 : Int32} {W : xS} {k38 : Nat → Nat → Int32 → Nat → Nat → Nat → xS → Option Unit} (hg : jGo a1 a2 cc uu z W) (y : jYs xs N x3) (K : ∀ cc uu z W, jGo a1 a2 cc uu z W → k38 a1 a2 (x3 + 5) cc uu z W = some ()) : f_law_219 xs N k38 a1 a2 x3 cc uu z W = some () := by
  obtain ⟨L, ω, S, A, w, H, tp, ts, sw, ps, wy, rfl, hL, h, hf, hr, rfl, rfl⟩ := hg
  obtain ⟨r, S1, S2, w2, sw2, e1, e2, h2, ht⟩ := jop_read hL (ω := ω) h
  have kk := K cc uu z _ ⟨L, ω, S2, A, w2, H, tp, 0, sw2, ps, wy, rfl, hL, h2, hf, by rw [ht]; exact hr, rfl, rfl⟩
  unfold f_law_219
  simp only [y.a, y.b, y.c, y.d, Option.bind_some, jk0 hL, jkm hL, e1, e2, xc, jcmp0, if_true]
  exact kk
theorem jg_232 {xs : Nat → Int32} {N a1 a2 cc uu z : Nat} {x3 : Int32} {W : xS} {k38 : Nat → Nat → Int32 → Nat → Nat → Nat → xS → Option Unit} (hg : jGo a1 a2 cc uu z W) (y : jYs xs N x3) (K : ∀ cc uu z W, jGo a1 a2 cc uu z W → k38 a1 a2 (x3 + 5) cc uu z W = some ()) : f_law_232 xs N k38 a1 a2 x3 cc uu z W = some () := by
  obtain ⟨L, ω, S, A, w, H, tp, ts, sw, ps, wy, rfl, hL, h, hf, hr, rfl, rfl⟩ := hg
  obtain ⟨e1, e2⟩ := jpl_place hL (ω := ω) h.K h.P
  have kk := K cc uu z _ ⟨L, ω, S, A, w, H, tp, ts, sw, ps, wy, rfl, hL, h, hf, hr, rfl, rfl⟩
  unfold f_law_232
  simp only [y.a, y.b, y.c, y.d, Option.bind_some, jk0 hL, jkm hL, e1, e2, xc, jcmp0, if_true]
  exact kk
theorem jg_427 {xs : Nat → Int32} {N a1 a2 cc uu z : Nat} {x3 : Int32} {W : xS} {k38 : Nat → Nat → Int32 → Nat → Nat → Nat → xS → Option Unit} (hg : jGo a1 a2 cc uu z W) (y : jYs xs N x3) (K : ∀ cc uu z W, jGo a1 a2 cc uu z W → k38 a1 a2 (x3 + 5) cc uu z W = some ()) : f_law_427 xs N k38 a1 a2 x3 cc uu z W = some () := by
  obtain ⟨L, ω, S, A, w, H, tp, ts, sw, ps, wy, rfl, hL, h, hf, hr, rfl, rfl⟩ := hg
  obtain ⟨r, e1, e2⟩ := jeq_at hL h.D h.A h.K (ω := ω) h.RC h.RM (xs (x3 + 1).toNatClampNeg) (xs (x3 + 2).toNatClampNeg)
  have kk := K cc uu z _ ⟨L, ω, S, A, w, H, tp, ts, sw, ps, wy, rfl, hL, h, hf, hr, rfl, rfl⟩
  unfold f_law_427
  simp only [y.a, y.b, y.c, y.d, Option.bind_some, jk0 hL, jkm hL, e1, e2, xc, jcmp0, if_true]
  exact kk
theorem jg_617 {xs : Nat → Int32} {N a1 a2 cc uu z : Nat} {x3 : Int32} {W : xS} {k38 : Nat → Nat → Int32 → Nat → Nat → Nat → xS → Option Unit} (hg : jGo a1 a2 cc uu z W) (y : jYs xs N x3) (K : ∀ cc uu z W, jGo a1 a2 cc uu z W → k38 a1 a2 (x3 + 5) cc uu z W = some ()) : f_law_617 xs N k38 a1 a2 x3 cc uu z W = some () := by
  obtain ⟨L, ω, S, A, w, H, tp, ts, sw, ps, wy, rfl, hL, h, hf, hr, rfl, rfl⟩ := hg
  obtain ⟨r, e1, e2⟩ := jeq_broken hL h.D h.A h.K (ω := ω) h.W h.RC h.RM h.LC h.LM (xs (x3 + 1).toNatClampNeg) (xs (x3 + 2).toNatClampNeg)
  have kk := K cc uu z _ ⟨L, ω, S, A, w, H, tp, ts, sw, ps, wy, rfl, hL, h, hf, hr, rfl, rfl⟩
  unfold f_law_617
  simp only [y.a, y.b, y.c, y.d, Option.bind_some, jk0 hL, jkm hL, e1, e2, xc, jcmp0, if_true]
  exact kk
theorem jg_651 {xs : Nat → Int32} {N a1 a2 cc uu z : Nat} {x3 : Int32} {W : xS} {k38 : Nat → Nat → Int32 → Nat → Nat → Nat → xS → Option Unit} (hg : jGo a1 a2 cc uu z W) (y : jYs xs N x3) (K : ∀ cc uu z W, jGo a1 a2 cc uu z W → k38 a1 a2 (x3 + 5) cc uu z W = some ()) : f_law_651 xs N k38 a1 a2 x3 cc uu z W = some () := by
  obtain ⟨L, ω, S, A, w, H, tp, ts, sw, ps, wy, rfl, hL, h, hf, hr, rfl, rfl⟩ := hg
  have e1 := jRR_score hL h.D h.A h.K (ω := ω) h.W h.RC h.LC
  have e2 := jMo_score hL h.D h.A h.K (ω := ω) h.W h.RM h.LM
  have kk := K cc uu z _ ⟨L, ω, S, A, w, H, tp, ts, sw, ps, wy, rfl, hL, h, hf, hr, rfl, rfl⟩
  unfold f_law_651
  simp only [y.a, y.b, y.c, y.d, Option.bind_some, jk0 hL, jkm hL, e1, e2, xc, jcmp0, if_true]
  exact kk
theorem jg_665 {xs : Nat → Int32} {N a1 a2 cc uu z : Nat} {x3 : Int32} {W : xS} {k38 : Nat → Nat → Int32 → Nat → Nat → Nat → xS → Option Unit} (hg : jGo a1 a2 cc uu z W) (y : jYs xs N x3) (K : ∀ cc uu z W, jGo a1 a2 cc uu z W → k38 a1 a2 (x3 + 5) cc uu z W = some ()) : f_law_665 xs N k38 a1 a2 x3 cc uu z W = some () := by
  obtain ⟨L, ω, S, A, w, H, tp, ts, sw, ps, wy, rfl, hL, h, hf, hr, rfl, rfl⟩ := hg
  obtain ⟨r, e1, e2⟩ := jeq_minutes hL h.D h.A h.K (ω := ω) h.RC h.RM (xs (x3 + 1).toNatClampNeg) (xs (x3 + 2).toNatClampNeg) (xs (x3 + 3).toNatClampNeg)
  have kk := K cc uu z _ ⟨L, ω, S, A, w, H, tp, ts, sw, ps, wy, rfl, hL, h, hf, hr, rfl, rfl⟩
  unfold f_law_665
  simp only [y.a, y.b, y.c, y.d, Option.bind_some, jk0 hL, jkm hL, e1, e2, xc, jcmp0, if_true]
  exact kk
theorem jg_885 {xs : Nat → Int32} {N a1 a2 cc uu z : Nat} {x3 : Int32} {W : xS} {k38 : Nat → Nat → Int32 → Nat → Nat → Nat → xS → Option Unit} (hg : jGo a1 a2 cc uu z W) (y : jYs xs N x3) (K : ∀ cc uu z W, jGo a1 a2 cc uu z W → k38 a1 a2 (x3 + 5) cc uu z W = some ()) : f_law_885 xs N k38 a1 a2 x3 cc uu z W = some () := by
  obtain ⟨L, ω, S, A, w, H, tp, ts, sw, ps, wy, rfl, hL, h, hf, hr, rfl, rfl⟩ := hg
  obtain ⟨nw, hC⟩ := h.HC
  obtain ⟨fr, hM⟩ := h.HM
  have e1 := jRR_count hL h.D h.A h.K (ω := ω) h.RC h.LC h.T.c hC.k (xs (x3 + 1).toNatClampNeg)
  have e2 := jMo_count hL h.D h.A h.K (ω := ω) h.RM h.LM h.T.m hM.k (xs (x3 + 1).toNatClampNeg)
  have kk := K cc uu z _ ⟨L, ω, S, A, w, H, tp, ts, sw, ps, wy, rfl, hL, h, hf, hr, rfl, rfl⟩
  unfold f_law_885
  simp only [y.a, y.b, y.c, y.d, Option.bind_some, jk0 hL, jkm hL, e1, e2, xc, jcmp0, if_true]
  exact kk
theorem jg_709 {xs : Nat → Int32} {N a1 a2 cc uu z : Nat} {x3 : Int32} {W : xS} {k38 : Nat → Nat → Int32 → Nat → Nat → Nat → xS → Option Unit} (hg : jGo a1 a2 cc uu z W) (y : jYs xs N x3) (K : ∀ cc uu z W, jGo a1 a2 cc uu z W → k38 a1 a2 (x3 + 5) cc uu z W = some ()) : f_law_709 xs N k38 a1 a2 x3 cc uu z W = some () := by
  obtain ⟨L, ω, S, A, w, H, tp, ts, sw, ps, wy, rfl, hL, h, hf, hr, rfl, rfl⟩ := hg
  obtain ⟨r, c, u, tb2, ω2, S1, t2, ps2, wy2, e1, e2, hR⟩ := jop_law hL (ω := ω) h hf (xs (x3 + 1).toNatClampNeg) (xs (x3 + 2).toNatClampNeg)
  have e1 : f_RR_law (jad L (jo 0)) (xs (x3 + 1).toNatClampNeg) (xs (x3 + 2).toNatClampNeg) z (jW L ω S) = some (r, c, u, jW (L.1, L.2.1, L.2.2.1, tb2) ω2 S1) := e1
  have r2 := hR.r cc uu hr
  have le := r2.le
  have kk := K (cc + c) (uu + u) (z + c) _ ⟨(L.1, L.2.1, L.2.2.1, tb2), ω2, S1, A, jLw.stl w t2, H, tp, ts, sw, ps2, wy2, rfl, hR.g, hR.i, hR.f, r2, rfl, rfl⟩
  have k2 : ∀ {β : Type} {q : Option β}, xk (jW (L.1, L.2.1, L.2.2.1, tb2) ω2 S1) (jad L (jm 0)) 12 q = q := fun {β q} => jkm hR.g
  unfold f_law_709
  simp only [y.a, y.b, y.c, y.d, Option.bind_some, jk0 hL, e1, xc4]
  rw [if_neg (show ¬ (600000 < cc + c ∨ 7302250 < uu + u) by omega)]
  simp only [y.a, y.b, y.c, y.d, k2, e2, xc, Option.bind_some, jcmp0, if_true]
  exact kk
theorem jg_742 {xs : Nat → Int32} {N a1 a2 cc uu z : Nat} {x3 : Int32} {W : xS} {k38 : Nat → Nat → Int32 → Nat → Nat → Nat → xS → Option Unit} (hg : jGo a1 a2 cc uu z W) (y : jYs xs N x3) (K : ∀ cc uu z W, jGo a1 a2 cc uu z W → k38 a1 a2 (x3 + 5) cc uu z W = some ()) : f_law_742 xs N k38 a1 a2 x3 cc uu z W = some () := by
  obtain ⟨L, ω, S, A, w, H, tp, ts, sw, ps, wy, rfl, hL, h, hf, hr, rfl, rfl⟩ := hg
  obtain ⟨r, c, u, tb2, ω2, S1, t2, ps2, wy2, e1, e2, hR⟩ := jop_state hL (ω := ω) h hf (xs (x3 + 1).toNatClampNeg) (xs (x3 + 2).toNatClampNeg) (xs (x3 + 3).toNatClampNeg)
  have e1 : f_RR_state (jad L (jo 0)) (xs (x3 + 1).toNatClampNeg) (xs (x3 + 2).toNatClampNeg) (xs (x3 + 3).toNatClampNeg) z (jW L ω S) = some (r, c, u, jW (L.1, L.2.1, L.2.2.1, tb2) ω2 S1) := e1
  have r2 := hR.r cc uu hr
  have le := r2.le
  have kk := K (cc + c) (uu + u) (z + c) _ ⟨(L.1, L.2.1, L.2.2.1, tb2), ω2, S1, A, jLw.stl w t2, H, tp, ts, sw, ps2, wy2, rfl, hR.g, hR.i, hR.f, r2, rfl, rfl⟩
  have k2 : ∀ {β : Type} {q : Option β}, xk (jW (L.1, L.2.1, L.2.2.1, tb2) ω2 S1) (jad L (jm 0)) 12 q = q := fun {β q} => jkm hR.g
  unfold f_law_742
  simp only [y.a, y.b, y.c, y.d, Option.bind_some, jk0 hL, e1, xc4]
  rw [if_neg (show ¬ (600000 < cc + c ∨ 7302250 < uu + u) by omega)]
  simp only [y.a, y.b, y.c, y.d, k2, e2, xc, Option.bind_some, jcmp0, if_true]
  exact kk
theorem jg_785 {xs : Nat → Int32} {N a1 a2 cc uu z : Nat} {x3 : Int32} {W : xS} {k38 : Nat → Nat → Int32 → Nat → Nat → Nat → xS → Option Unit} (hg : jGo a1 a2 cc uu z W) (y : jYs xs N x3) (K : ∀ cc uu z W, jGo a1 a2 cc uu z W → k38 a1 a2 (x3 + 5) cc uu z W = some ()) : f_law_785 xs N k38 a1 a2 x3 cc uu z W = some () := by
  obtain ⟨L, ω, S, A, w, H, tp, ts, sw, ps, wy, rfl, hL, h, hf, hr, rfl, rfl⟩ := hg
  obtain ⟨r, c, u, tb2, ω2, S1, t2, ps2, wy2, e1, e2, hR⟩ := jop_alike hL (ω := ω) h hf (xs (x3 + 1).toNatClampNeg) (xs (x3 + 2).toNatClampNeg)
  have e1 : f_RR_alike (jad L (jo 0)) (xs (x3 + 1).toNatClampNeg) (xs (x3 + 2).toNatClampNeg) z (jW L ω S) = some (r, c, u, jW (L.1, L.2.1, L.2.2.1, tb2) ω2 S1) := e1
  have r2 := hR.r cc uu hr
  have le := r2.le
  have kk := K (cc + c) (uu + u) (z + c) _ ⟨(L.1, L.2.1, L.2.2.1, tb2), ω2, S1, A, jLw.stl w t2, H, tp, ts, sw, ps2, wy2, rfl, hR.g, hR.i, hR.f, r2, rfl, rfl⟩
  have k2 : ∀ {β : Type} {q : Option β}, xk (jW (L.1, L.2.1, L.2.2.1, tb2) ω2 S1) (jad L (jm 0)) 12 q = q := fun {β q} => jkm hR.g
  unfold f_law_785
  simp only [y.a, y.b, y.c, y.d, Option.bind_some, jk0 hL, e1, xc4]
  rw [if_neg (show ¬ (600000 < cc + c ∨ 7302250 < uu + u) by omega)]
  simp only [y.a, y.b, y.c, y.d, k2, e2, xc, Option.bind_some, jcmp0, if_true]
  exact kk
theorem jg_818 {xs : Nat → Int32} {N a1 a2 cc uu z : Nat} {x3 : Int32} {W : xS} {k38 : Nat → Nat → Int32 → Nat → Nat → Nat → xS → Option Unit} (hg : jGo a1 a2 cc uu z W) (y : jYs xs N x3) (K : ∀ cc uu z W, jGo a1 a2 cc uu z W → k38 a1 a2 (x3 + 5) cc uu z W = some ()) : f_law_818 xs N k38 a1 a2 x3 cc uu z W = some () := by
  obtain ⟨L, ω, S, A, w, H, tp, ts, sw, ps, wy, rfl, hL, h, hf, hr, rfl, rfl⟩ := hg
  obtain ⟨r, c, u, tb2, ω2, S1, S2, t2, ps2, wy2, e1, e2, hR⟩ := jop_words hL (ω := ω) h hf (xs (x3 + 1).toNatClampNeg) (xs (x3 + 2).toNatClampNeg)
  have e1 : f_RR_words (jad L (jo 0)) (xs (x3 + 1).toNatClampNeg) (xs (x3 + 2).toNatClampNeg) z (jW L ω S) = some (r, c, u, jW (L.1, L.2.1, L.2.2.1, tb2) ω2 S1) := e1
  have r2 := hR.r cc uu hr
  have le := r2.le
  have kk := K (cc + c) (uu + u) (z + c) _ ⟨(L.1, L.2.1, L.2.2.1, tb2), ω2, S2, A, jLw.stl w t2, H, tp, ts, sw, ps2, wy2, rfl, hR.g, hR.i, hR.f, r2, rfl, rfl⟩
  have k2 : ∀ {β : Type} {q : Option β}, xk (jW (L.1, L.2.1, L.2.2.1, tb2) ω2 S1) (jad L (jm 0)) 12 q = q := fun {β q} => jkm hR.g
  unfold f_law_818
  simp only [y.a, y.b, y.c, y.d, Option.bind_some, jk0 hL, e1, xc4]
  rw [if_neg (show ¬ (600000 < cc + c ∨ 7302250 < uu + u) by omega)]
  simp only [y.a, y.b, y.c, y.d, k2, e2, xc, Option.bind_some, jcmp0, if_true]
  exact kk
theorem jg_852 {xs : Nat → Int32} {N a1 a2 cc uu z : Nat} {x3 : Int32} {W : xS} {k38 : Nat → Nat → Int32 → Nat → Nat → Nat → xS → Option Unit} (hg : jGo a1 a2 cc uu z W) (y : jYs xs N x3) (K : ∀ cc uu z W, jGo a1 a2 cc uu z W → k38 a1 a2 (x3 + 5) cc uu z W = some ()) : f_law_852 xs N k38 a1 a2 x3 cc uu z W = some () := by
  obtain ⟨L, ω, S, A, w, H, tp, ts, sw, ps, wy, rfl, hL, h, hf, hr, rfl, rfl⟩ := hg
  obtain ⟨r, c, u, tb2, ω2, S1, S2, t2, ps2, wy2, e1, e2, hR⟩ := jop_word hL (ω := ω) h hf (xs (x3 + 1).toNatClampNeg) (xs (x3 + 2).toNatClampNeg)
  have e1 : f_RR_word (jad L (jo 0)) (xs (x3 + 1).toNatClampNeg) (xs (x3 + 2).toNatClampNeg) z (jW L ω S) = some (r, c, u, jW (L.1, L.2.1, L.2.2.1, tb2) ω2 S1) := e1
  have r2 := hR.r cc uu hr
  have le := r2.le
  have kk := K (cc + c) (uu + u) (z + c) _ ⟨(L.1, L.2.1, L.2.2.1, tb2), ω2, S2, A, jLw.stl w t2, H, tp, ts, sw, ps2, wy2, rfl, hR.g, hR.i, hR.f, r2, rfl, rfl⟩
  have k2 : ∀ {β : Type} {q : Option β}, xk (jW (L.1, L.2.1, L.2.2.1, tb2) ω2 S1) (jad L (jm 0)) 12 q = q := fun {β q} => jkm hR.g
  unfold f_law_852
  simp only [y.a, y.b, y.c, y.d, Option.bind_some, jk0 hL, e1, xc4]
  rw [if_neg (show ¬ (600000 < cc + c ∨ 7302250 < uu + u) by omega)]
  simp only [y.a, y.b, y.c, y.d, k2, e2, xc, Option.bind_some, jcmp0, if_true]
  exact kk
theorem jysE {xs : Nat → Int32} {N k : Nat} (h : k < N) (h2 : k < 2 ^ 31) : ysc xs N (nI k) = some (xs (nI k).toNatClampNeg) := if_pos (jix h h2)
theorem jloop {xs : Nat → Int32} {N a1 a2 : Nat} (hN : N ≤ 2562) (h5 : 5 ≤ N) : ∀ (f i cc uu z : Nat) (W : xS), N ≤ i + 5 * f + 4 → i ≤ N + 5 → jGo a1 a2 cc uu z W → f_law_38 xs N (f + 1) a1 a2 (nI i) cc uu z W = some ()
  | 0, i, cc, uu, z, W, hi, hi2, hg => by
    rw [f_law_38, if_pos]
    show nI N - 5 < nI i
    rw [show (5 : Int32) = nI 5 from rfl, jsub h5, nI_ltI (by omega) (by omega)]
    omega
  | f + 1, i, cc, uu, z, W, hi, hi2, hg => by
    rw [f_law_38]
    by_cases c : nI N - 5 < nI i
    · rw [if_pos c]
    · rw [if_neg c]
      rw [show (5 : Int32) = nI 5 from rfl, jsub h5, nI_ltI (by omega) (by omega)] at c
      have y0 := jysE (xs := xs) (N := N) (k := i) (by omega) (by omega)
      have ex : ∀ j : Nat, nI i + nI j = nI (i + j) := fun j => nI_add i j
      have ys : jYs xs N (nI i) := by
        refine ⟨?_, ?_, ?_, ?_⟩
        · rw [show nI i + 1 = nI (i + 1) from ex 1]; exact jysE (by omega) (by omega)
        · rw [show nI i + 2 = nI (i + 2) from ex 2]; exact jysE (by omega) (by omega)
        · rw [show nI i + 3 = nI (i + 3) from ex 3]; exact jysE (by omega) (by omega)
        · rw [show nI i + 4 = nI (i + 4) from ex 4]; exact jysE (by omega) (by omega)
      have K : ∀ cc uu z W, jGo a1 a2 cc uu z W → f_law_38 xs N (f + 1) a1 a2 (nI i + 5) cc uu z W = some () := fun cc uu z W hg => by
        rw [show nI i + 5 = nI (i + 5) from ex 5]
        exact jloop hN h5 f (i + 5) cc uu z W (by omega) (by omega) hg
      rw [y0, Option.bind_some]
      by_cases c0 : ((xs (nI i).toNatClampNeg) &&& 31) = 0
      · rw [if_pos c0]; exact jg_156 hg ys K
      rw [if_neg c0]
      by_cases c1 : ((xs (nI i).toNatClampNeg) &&& 31) = 1
      · rw [if_pos c1]; exact jg_219 hg ys K
      rw [if_neg c1]
      by_cases c2 : ((xs (nI i).toNatClampNeg) &&& 31) = 2
      · rw [if_pos c2]; exact jg_232 hg ys K
      rw [if_neg c2]
      by_cases c3 : ((xs (nI i).toNatClampNeg) &&& 31) = 3
      · rw [if_pos c3]; exact jg_245 hg ys K
      rw [if_neg c3]
      by_cases c4 : ((xs (nI i).toNatClampNeg) &&& 31) = 4
      · rw [if_pos c4]; exact jg_298 hg ys K
      rw [if_neg c4]
      by_cases c5 : ((xs (nI i).toNatClampNeg) &&& 31) = 5
      · rw [if_pos c5]; exact jg_331 hg ys K
      rw [if_neg c5]
      by_cases c6 : ((xs (nI i).toNatClampNeg) &&& 31) = 6
      · rw [if_pos c6]; exact jg_374 hg ys K
      rw [if_neg c6]
      by_cases c7 : ((xs (nI i).toNatClampNeg) &&& 31) = 7
      · rw [if_pos c7]; exact jg_427 hg ys K
      rw [if_neg c7]
      by_cases c8 : ((xs (nI i).toNatClampNeg) &&& 31) = 8
      · rw [if_pos c8]; exact jg_460 hg ys K
      rw [if_neg c8]
      by_cases c9 : ((xs (nI i).toNatClampNeg) &&& 31) = 9
      · rw [if_pos c9]; exact jg_504 hg ys K
      rw [if_neg c9]
      by_cases c10 : ((xs (nI i).toNatClampNeg) &&& 31) = 10
      · rw [if_pos c10]; exact jg_548 hg ys K
      rw [if_neg c10]
      by_cases c11 : ((xs (nI i).toNatClampNeg) &&& 31) = 11
      · rw [if_pos c11]; exact jg_561 hg ys K
      rw [if_neg c11]
      by_cases c12 : ((xs (nI i).toNatClampNeg) &&& 31) = 12
      · rw [if_pos c12]; exact jg_594 hg ys K
      rw [if_neg c12]
      by_cases c13 : ((xs (nI i).toNatClampNeg) &&& 31) = 13
      · rw [if_pos c13]; exact jg_617 hg ys K
      rw [if_neg c13]
      by_cases c14 : ((xs (nI i).toNatClampNeg) &&& 31) = 14
      · rw [if_pos c14]; exact jg_651 hg ys K
      rw [if_neg c14]
      by_cases c15 : ((xs (nI i).toNatClampNeg) &&& 31) = 15
      · rw [if_pos c15]; exact jg_665 hg ys K
      rw [if_neg c15]
      by_cases c16 : ((xs (nI i).toNatClampNeg) &&& 31) = 16
      · rw [if_pos c16]; exact jg_709 hg ys K
      rw [if_neg c16]
      by_cases c17 : ((xs (nI i).toNatClampNeg) &&& 31) = 17
      · rw [if_pos c17]; exact jg_742 hg ys K
      rw [if_neg c17]
      by_cases c18 : ((xs (nI i).toNatClampNeg) &&& 31) = 18
      · rw [if_pos c18]; exact jg_785 hg ys K
      rw [if_neg c18]
      by_cases c19 : ((xs (nI i).toNatClampNeg) &&& 31) = 19
      · rw [if_pos c19]; exact jg_818 hg ys K
      rw [if_neg c19]
      by_cases c20 : ((xs (nI i).toNatClampNeg) &&& 31) = 20
      · rw [if_pos c20]; exact jg_852 hg ys K
      rw [if_neg c20]
      by_cases c21 : ((xs (nI i).toNatClampNeg) &&& 31) = 21
      · rw [if_pos c21]; exact jg_885 hg ys K
      rw [if_neg c21]
      exact K cc uu z W hg
theorem jcellE {xs : Nat → Int32} {N k : Nat} (hN : N ≤ 2562) (hk : k < 2) : ∃ t, f_Lw_cell xs N (nI k) = some t := by
  unfold f_Lw_cell
  by_cases c : nI N ≤ nI k
  · exact ⟨0, by rw [if_pos c]⟩
  · rw [if_neg c]
    have c2 : ¬ N ≤ k := fun z => c ((nI_leI (by omega) (by omega)).mpr z)
    exact ⟨_, by rw [jysE (by omega) (by omega), Option.bind_some]⟩
/-- THE PURE THEOREM: the law's function, from an empty world, ends well -/
theorem jlaw {xs : Nat → Int32} {N : Nat} (hN : N ≤ 2562) (B : Nat) : f_law xs N B (fun _ => none) = some () := by
  obtain ⟨t2, h2⟩ := jcellE (xs := xs) (k := 0) hN (by omega)
  obtain ⟨t4, h4⟩ := jcellE (xs := xs) (k := 1) hN (by omega)
  have h2 : f_Lw_cell xs N 0 = some t2 := h2
  have h4 : f_Lw_cell xs N 1 = some t4 := h4
  obtain ⟨n, d, w6, ω, S, n1, n8, d1, d21, en, ed, a1, a2, hS⟩ := jI_start B t2 t4
  have hn : (nI n).toNatClampNeg = n := nI_clamp (by omega)
  have hd : (nI d).toNatClampNeg = d := nI_clamp (by omega)
  have h7 : (7 + nI d).toNatClampNeg = 7 + d := by rw [show (7 : Int32) = nI 7 from rfl, nI_add]; exact nI_clamp (by omega)
  have m1 : n * (7 + d) ≤ 8 * 28 := Nat.mul_le_mul n8 (by omega)
  have m2 : n * d ≤ 8 * 21 := Nat.mul_le_mul n8 d21
  have hI := hS.iv (B := B) n1 n8 d1 d21
  have go : ∀ cc uu, cc ≤ 1000 → uu ≤ 300000 → jGo B (B + 291 + 4 * n + d) cc uu (B + 291 + 4 * n + d + 47) (jW (jL0 B n d) ω S) := fun cc uu hc hu => ⟨jL0 B n d, ω, S, jRo, jLw0, (0, fun _ => (0, 0, 0)), fun _ => 0, 0, 0, 0, 0, rfl, jgood0 B n d, hI, jfit0 B n d, ⟨fun _ => 0, fun _ => 0, by omega, by omega, fun j _ => ⟨Nat.le_refl 0, Or.inl (Nat.zero_le _), Nat.zero_le _⟩⟩, rfl, rfl⟩
  unfold f_law
  simp only [xl, h2, h4, Option.bind_some, en, ed, hn, hd, h7]
  rw [if_neg (by omega), a1]
  simp only [xc]
  have a2 : f_Mo_init (B + 291 + 4 * n + d) t2 t4 (B + 291 + 4 * n + d + 1) (xu w6 (B + 291 + 4 * n + d) (.inr (12, [.int 0, .int 0, .null, .null, .null, .null, .null, .null, .null, .null, .null, .int 0, .int 0, .null, .null, .null, .null, .null, .null, .null, .int 0, .null, .null, .null, .null, .null, .null, .null, .null, .null, .null, .int 0, .int 0, .int 0, .int 0, .int 0, .int 0, .int 0, .long 0, .int 0, .int 0, .int 0, .int 0, .int 0, .int 0, .null, .null, .null, .null, .null, .null, .null, .null, .null, .null, .null, .null, .null, .null, .null, .null, .null, .null, .null, .null]))) = some (jW (jL0 B n d) ω S) := a2
  rw [a2, Option.bind_some]
  by_cases h5 : 5 ≤ N
  · exact jloop hN h5 999999 2 _ _ _ _ (by omega) (by omega) (go _ _ (by omega) (by omega))
  · rw [show xFU = 999999 + 1 from rfl, f_law_38, if_pos]
    rcases (show N = 0 ∨ N = 1 ∨ N = 2 ∨ N = 3 ∨ N = 4 by omega) with rfl | rfl | rfl | rfl | rfl <;> decide
