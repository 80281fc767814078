/-! the roster's calls, each on both sides -/
theorem jop_set {L : jL} (hL : jgood L) {ω : xS} {S : jSt} {A : jR} {w : jLw} {H : jH} {tp : Nat → Nat} {ts sw ps wy : Nat} (h : jIv L S A w H tp ts sw ps wy) {α : Type} {f g : xS → Option (α × xS)} {r : α} {S1 S2 : jSt} {A' : jR} (hA' : jRg A') (a1 : f (jW L ω S) = some (r, jW L ω S1)) (a2 : jRC L S1 A') (a3 : jeqv (fun c => ¬ jisR c) S S1) (a4 : jgX S1 = jgX S) (b1 : g (jW L ω S1) = some (r, jW L ω S2)) (b2 : jRM L S2 A') (b3 : jgI S2 = jgI S1) (b4 : ∀ q, 9 ≤ q → jgA S2 (jm q) = jgA S1 (jm q)) (b6 : jeqv (fun c => ¬ jisM c) S1 S2) (b7 : jgX S2 = jgX S1) : jOp L ω S w tp ts sw ps wy α f g := by
  have eM : jeqv jisM S S1 := a3.weak (fun c hc => fun q => jisR_M q hc)
  have hH1 : ∃ nw, jHC S1 H.1 nw H.2 := h.HC.elim fun nw z => ⟨nw, z.same (a3.weak (fun c hc q => jisR_H q hc))⟩
  refine ⟨r, S1, S2, A', H, a1, b1, h.step hA' h.H a2 hH1 (jnR_RH a3) a4 b2 ((h.LM.eqv eM).same (by rw [b3]) (fun q hq _ => b4 q (by omega))) ?_ b6 b7 ⟨by rw [b3], by rw [b3], b4 9 (by omega)⟩, h.K.of a4⟩
  obtain ⟨fr, z⟩ := h.HM
  have z := z.same eM
  refine ⟨fr, ?_⟩
  unfold jHM at z ⊢
  rw [b3, b4 25 (by omega), b4 26 (by omega)]
  exact z
theorem jeM {S S1 : jSt} (a3 : jeqv (fun c => ¬ jisR c) S S1) : jeqv jisM S S1 := a3.weak (fun c hc => fun q => jisR_M q hc)
theorem jop_person {L : jL} (hL : jgood L) {ω : xS} {S : jSt} {A : jR} {w : jLw} {H : jH} {tp : Nat → Nat} {ts sw ps wy : Nat} (h : jIv L S A w H tp ts sw ps wy) (x1 x2 : Int32) : jOp L ω S w tp ts sw ps wy Int32 (f_RR_person (jad L (jo 0)) x1 x2) (f_Mo_person (jad L (jm 0)) x1 x2) := by
  have h8 := h.D.n8
  by_cases hv : jbel (jn L) x1 = true ∧ 0 ≤ x2.toInt ∧ x2.toInt ≤ 1023
  · obtain ⟨p, hp, rfl⟩ := (jbel_iff (by omega)).mp hv.1
    obtain ⟨v, _, hv2, rfl⟩ := jrng (lo := 0) (hi := 1023) hv.2.1 hv.2.2
    obtain ⟨S1, a1, a2, a3, a4⟩ := jRR_person hL h.D h.A h.K (ω := ω) h.RC hp hv2
    obtain ⟨S2, b1, b2, b3, b4, b5, b6, b7⟩ := jMo_person hL h.D h.A (h.K.of a4) (ω := ω) (h.RM.same (jeM a3)) hp hv2
    exact jop_set hL h (jR.pe_good h.A hv2) a1 a2 a3 a4 b1 b2 b3 b4 b6 b7
  · exact jOp_no h (jno_person hL h.D h.A h.K h.RC h.RM hv)
theorem jop_past {L : jL} (hL : jgood L) {ω : xS} {S : jSt} {A : jR} {w : jLw} {H : jH} {tp : Nat → Nat} {ts sw ps wy : Nat} (h : jIv L S A w H tp ts sw ps wy) (x1 x2 x3 : Int32) : jOp L ω S w tp ts sw ps wy Int32 (f_RR_past (jad L (jo 0)) x1 x2 x3) (f_Mo_past (jad L (jm 0)) x1 x2 x3) := by
  have h8 := h.D.n8
  by_cases hv : jbel (jn L) x1 = true ∧ 1 ≤ x2.toInt ∧ x2.toInt ≤ 7 ∧ jsh x3 = true
  · obtain ⟨p, hp, rfl⟩ := (jbel_iff (by omega)).mp hv.1
    obtain ⟨i, h1, hi, rfl⟩ := jrng (lo := 1) (hi := 7) hv.2.1 hv.2.2.1
    obtain ⟨l, hl, rfl⟩ := jsh_iff.mp hv.2.2.2
    obtain ⟨S1, a1, a2, a3, a4⟩ := jRR_past hL h.D h.A h.K (ω := ω) h.RC hp h1 hi hl
    obtain ⟨S2, b1, b2, b3, b4, b5, b6, b7⟩ := jMo_past hL h.D h.A (h.K.of a4) (ω := ω) (h.RM.same (jeM a3)) hp h1 hi hl
    exact jop_set hL h (jR.pa_good h.A hl) a1 a2 a3 a4 b1 b2 b3 b4 b6 b7
  · exact jOp_no h (jno_past hL h.D h.A h.K h.RC h.RM hv)
theorem jop_wish {L : jL} (hL : jgood L) {ω : xS} {S : jSt} {A : jR} {w : jLw} {H : jH} {tp : Nat → Nat} {ts sw ps wy : Nat} (h : jIv L S A w H tp ts sw ps wy) (x1 x2 x3 x4 : Int32) : jOp L ω S w tp ts sw ps wy Int32 (f_RR_wish (jad L (jo 0)) x1 x2 x3 x4) (f_Mo_wish (jad L (jm 0)) x1 x2 x3 x4) := by
  have h8 := h.D.n8
  have h2 := h.D.d21
  by_cases hv : jbel (jn L) x1 = true ∧ jbel (jd L) x2 = true ∧ jsh x3 = true ∧ 0 ≤ x4.toInt ∧ x4.toInt ≤ 1000
  · obtain ⟨p, hp, rfl⟩ := (jbel_iff (by omega)).mp hv.1
    obtain ⟨t, ht, rfl⟩ := (jbel_iff (by omega)).mp hv.2.1
    obtain ⟨l, hl, rfl⟩ := jsh_iff.mp hv.2.2.1
    obtain ⟨v, _, hv2, rfl⟩ := jrng (lo := 0) (hi := 1000) hv.2.2.2.1 hv.2.2.2.2
    obtain ⟨S1, a1, a2, a3, a4⟩ := jRR_wish hL h.D h.A h.K (ω := ω) h.RC hp ht hl hv2
    obtain ⟨S2, b1, b2, b3, b4, b5, b6, b7⟩ := jMo_wish hL h.D h.A (h.K.of a4) (ω := ω) (h.RM.same (jeM a3)) hp ht hl hv2
    exact jop_set hL h (jR.wi_good h.A hl hv2) a1 a2 a3 a4 b1 b2 b3 b4 b6 b7
  · exact jOp_no h (jno_wish hL h.D h.A h.K h.RC h.RM hv)
/-- the same difference by either measure -/
theorem jdiff_eq {L : jL} {w : jLw} (hw : jLg L w) {A : jR} {p t l : Nat} (ht : t < jd L) : lN (jar w (jR.put A p t l) L p t) - lN (jar w A L p t) = lN (jnr w (jR.put A p t l) L p t) - lN (jnr w A L p t) := by
  have e := jdn hw (A := A) (p := p) (t := t) (l := l) ht
  have e2 : lN (jnr w (jR.put A p t l) L p t) + lN (jar w A L p t) = lN (jnr w A L p t) + lN (jar w (jR.put A p t l) L p t) := by rw [lN_add, lN_add, e]
  generalize lN (jnr w (jR.put A p t l) L p t) = a at e2 ⊢
  generalize lN (jar w A L p t) = b at e2 ⊢
  generalize lN (jnr w A L p t) = c at e2 ⊢
  generalize lN (jar w (jR.put A p t l) L p t) = d at e2 ⊢
  grind
theorem jno_cell {L : jL} (hL : jgood L) (hD : jdim L) {ω : xS} {S : jSt} {A : jR} (hA : jRg A) {sw ps wy : Nat} (hK : jLK S sw ps wy) (h : jRC L S A) (h' : jRM L S A) {x1 x2 x3 : Int32} (hv : ¬ (jbel (jn L) x1 = true ∧ jbel (jd L) x2 = true ∧ jsh x3 = true)) : (f_RR_put (jad L (jo 0)) x1 x2 x3 (jW L ω S) = some (4611686018427387904, jW L ω S) ∧ f_Mo_put (jad L (jm 0)) x1 x2 x3 (jW L ω S) = some (4611686018427387904, jW L ω S)) ∧ f_RR_change (jad L (jo 0)) x1 x2 x3 (jW L ω S) = some (4611686018427387904, jW L ω S) ∧ f_Mo_change (jad L (jm 0)) x1 x2 x3 (jW L ω S) = some (4611686018427387904, jW L ω S) := by
  unfold f_RR_put f_Mo_put f_RR_change f_Mo_change
  simp (disch := first | omega | rfl | assumption | exact jokr (by decide) (by omega) | exact jokr4 (by omega) | exact jkt_r _ _ | exact jkt_l (by decide) | exact jfk_l (by decide) | exact jkt_t _ | exact jkt_r6 _ _ | exact jkt_t6 _ | (simp only [jok, jlen]; omega) | decide) only [jm_k hL, jm_gi hL, jm_gr hL, jm_gl hL, jm_pi hL, jm_pl hL, jn_ai hL, jn_ab hL, jn_az hL, jn_al hL, jn_ar hL, jn_an hL, jn_si hL, jn_sb hL, jn_sz hL, jn_sl hL, Option.bind_some, xc, xl, jRR_isCell hL hD hA hK h, jRR_isShiftOrOff hL hD hA hK, jMo_isCell hL hD hA hK h', jMo_isShift]
  cases c1 : jbel (jn L) x1
  · exact ⟨⟨rfl, rfl⟩, rfl, rfl⟩
  · cases c2 : jbel (jd L) x2
    · exact ⟨⟨rfl, rfl⟩, rfl, rfl⟩
    · cases c3 : jsh x3
      · exact ⟨⟨rfl, rfl⟩, rfl, rfl⟩
      · exact absurd ⟨c1, c2, c3⟩ hv
theorem jop_change {L : jL} (hL : jgood L) {ω : xS} {S : jSt} {A : jR} {w : jLw} {H : jH} {tp : Nat → Nat} {ts sw ps wy : Nat} (h : jIv L S A w H tp ts sw ps wy) (x1 x2 x3 : Int32) : jOp L ω S w tp ts sw ps wy Int64 (f_RR_change (jad L (jo 0)) x1 x2 x3) (f_Mo_change (jad L (jm 0)) x1 x2 x3) := by
  have h8 := h.D.n8
  have h2 := h.D.d21
  by_cases hv : jbel (jn L) x1 = true ∧ jbel (jd L) x2 = true ∧ jsh x3 = true
  · obtain ⟨p, hp, rfl⟩ := (jbel_iff (by omega)).mp hv.1
    obtain ⟨t, ht, rfl⟩ := (jbel_iff (by omega)).mp hv.2.1
    obtain ⟨l, hl, rfl⟩ := jsh_iff.mp hv.2.2
    have a1 := jRR_diff hL h.D h.A h.K (ω := ω) h.W h.RC h.LC hp ht hl
    have b1 := jMo_changed hL h.D h.A h.K (ω := ω) h.W h.RM h.LM hp ht hl
    rw [jdiff_eq h.W ht] at a1
    refine jOp_no h (r := lN (jnr w (jR.put A p t l) L p t) - lN (jnr w A L p t)) ⟨?_, ?_⟩
    · unfold f_RR_change
      simp (disch := first | omega | rfl | assumption | exact jokr (by decide) (by omega) | exact jokr4 (by omega) | exact jkt_r _ _ | exact jkt_l (by decide) | exact jfk_l (by decide) | exact jkt_t _ | exact jkt_r6 _ _ | exact jkt_t6 _ | (simp only [jok, jlen]; omega) | decide) only [jm_k hL, jm_gi hL, jm_gr hL, jm_gl hL, jm_pi hL, jm_pl hL, jn_ai hL, jn_ab hL, jn_az hL, jn_al hL, jn_ar hL, jn_an hL, jn_si hL, jn_sb hL, jn_sz hL, jn_sl hL, Option.bind_some, xc, xl, jRR_isCell hL h.D h.A h.K h.RC, jRR_isShiftOrOff hL h.D h.A h.K, hv.1, hv.2.1, hv.2.2, Bool.and_self, if_true, jlit, nI_eq, if_neg, jm1c, a1]
    · unfold f_Mo_change
      simp (disch := first | omega | rfl | assumption | exact jokr (by decide) (by omega) | exact jokr4 (by omega) | exact jkt_r _ _ | exact jkt_l (by decide) | exact jfk_l (by decide) | exact jkt_t _ | exact jkt_r6 _ _ | exact jkt_t6 _ | (simp only [jok, jlen]; omega) | decide) only [jm_k hL, jm_gi hL, jm_gr hL, jm_gl hL, jm_pi hL, jm_pl hL, jn_ai hL, jn_ab hL, jn_az hL, jn_al hL, jn_ar hL, jn_an hL, jn_si hL, jn_sb hL, jn_sz hL, jn_sl hL, Option.bind_some, xc, xl, jMo_isCell hL h.D h.A h.K h.RM, jMo_isShift, hv.1, hv.2.1, hv.2.2, Bool.and_self, if_true, jlit, nI_eq, if_neg, b1]
  · exact jOp_no h (jno_cell hL h.D h.A h.K h.RC h.RM hv).2
theorem jop_put {L : jL} (hL : jgood L) {ω : xS} {S : jSt} {A : jR} {w : jLw} {H : jH} {tp : Nat → Nat} {ts sw ps wy : Nat} (h : jIv L S A w H tp ts sw ps wy) (x1 x2 x3 : Int32) : jOp L ω S w tp ts sw ps wy Int64 (f_RR_put (jad L (jo 0)) x1 x2 x3) (f_Mo_put (jad L (jm 0)) x1 x2 x3) := by
  have h8 := h.D.n8
  have h2 := h.D.d21
  by_cases hv : jbel (jn L) x1 = true ∧ jbel (jd L) x2 = true ∧ jsh x3 = true
  · obtain ⟨p, hp, rfl⟩ := (jbel_iff (by omega)).mp hv.1
    obtain ⟨t, ht, rfl⟩ := (jbel_iff (by omega)).mp hv.2.1
    obtain ⟨l, hl, rfl⟩ := jsh_iff.mp hv.2.2
    have a1 := jRR_diff hL h.D h.A h.K (ω := ω) h.W h.RC h.LC hp ht hl
    rw [jdiff_eq h.W ht] at a1
    obtain ⟨nw, hHC⟩ := h.HC
    obtain ⟨S1, c1, c2, c3, c4, c5⟩ := jRR_keep hL h.D h.A h.K (ω := ω) h.RC h.LC hHC h.H.c hp ht hl
    have eM : jeqv jisM S S1 := c4.weak (fun c hc => jisM_RH hc)
    have b1 := jMo_changed hL h.D h.A (h.K.of c5) (ω := ω) h.W (h.RM.same eM) (h.LM.eqv eM) hp ht hl
    obtain ⟨fr, hHM⟩ := h.HM
    obtain ⟨S2, d1, d2, d3, d4, d5, d6, d7⟩ := jMo_set hL h.D h.A (h.K.of c5) (ω := ω) (h.RM.same eM) (h.LM.eqv eM) (hHM.same eM) h.H.c hp ht hl
    have hH' : jHg L (min 200 (H.1 + 1)) (jadd (p, t, jR.row A p (7 + t)) H.2) := by
      have hc := h.H.c
      refine ⟨by omega, fun i hi => ?_, fun i hi => ?_, fun i hi => ?_⟩
      · rcases i with _ | i
        · exact hp
        · exact h.H.p i (by omega)
      · rcases i with _ | i
        · exact ht
        · exact h.H.t i (by omega)
      · rcases i with _ | i
        · exact h.A.row _ _
        · exact h.H.l i (by omega)
    refine ⟨lN (jnr w (jR.put A p t l) L p t) - lN (jnr w A L p t), S1, S2, jR.put A p t l, (min 200 (H.1 + 1), jadd (p, t, jR.row A p (7 + t)) H.2), ?_, ?_, h.step (jR.put_good h.A hl) hH' c2 ⟨_, c3⟩ c4 c5 d2 d3 d4 d5 d6 d7, h.K.of c5⟩
    · unfold f_RR_put
      simp (disch := first | omega | rfl | assumption | exact jokr (by decide) (by omega) | exact jokr4 (by omega) | exact jkt_r _ _ | exact jkt_l (by decide) | exact jfk_l (by decide) | exact jkt_t _ | exact jkt_r6 _ _ | exact jkt_t6 _ | (simp only [jok, jlen]; omega) | decide) only [jm_k hL, jm_gi hL, jm_gr hL, jm_gl hL, jm_pi hL, jm_pl hL, jn_ai hL, jn_ab hL, jn_az hL, jn_al hL, jn_ar hL, jn_an hL, jn_si hL, jn_sb hL, jn_sz hL, jn_sl hL, Option.bind_some, xc, xl, jRR_isCell hL h.D h.A h.K h.RC, jRR_isShiftOrOff hL h.D h.A h.K, hv.1, hv.2.1, hv.2.2, Bool.and_self, if_true, jlit, nI_eq, if_neg, jm1c, a1, c1]
    · unfold f_Mo_put
      simp (disch := first | omega | rfl | assumption | exact jokr (by decide) (by omega) | exact jokr4 (by omega) | exact jkt_r _ _ | exact jkt_l (by decide) | exact jfk_l (by decide) | exact jkt_t _ | exact jkt_r6 _ _ | exact jkt_t6 _ | (simp only [jok, jlen]; omega) | decide) only [jm_k hL, jm_gi hL, jm_gr hL, jm_gl hL, jm_pi hL, jm_pl hL, jn_ai hL, jn_ab hL, jn_az hL, jn_al hL, jn_ar hL, jn_an hL, jn_si hL, jn_sb hL, jn_sz hL, jn_sl hL, Option.bind_some, xc, xl, jMo_isCell hL h.D h.A (h.K.of c5) (h.RM.same eM), jMo_isShift, hv.1, hv.2.1, hv.2.2, Bool.and_self, if_true, jlit, nI_eq, if_neg, b1, jmul, nI_add, d1]
  · exact jOp_no h (jno_cell hL h.D h.A h.K h.RC h.RM hv).1
theorem jop_best {L : jL} (hL : jgood L) {ω : xS} {S : jSt} {A : jR} {w : jLw} {H : jH} {tp : Nat → Nat} {ts sw ps wy : Nat} (h : jIv L S A w H tp ts sw ps wy) (x1 x2 : Int32) : jOp L ω S w tp ts sw ps wy Int32 (f_RR_best (jad L (jo 0)) x1 x2) (f_Mo_best (jad L (jm 0)) x1 x2) := by
  have h8 := h.D.n8
  have h2 := h.D.d21
  cases c1 : jbel (jn L) x1
  · refine jOp_no h (r := -9) ⟨?_, ?_⟩
    · unfold f_RR_best; simp (disch := first | omega | rfl | assumption | exact jokr (by decide) (by omega) | exact jokr4 (by omega) | exact jkt_r _ _ | exact jkt_l (by decide) | exact jfk_l (by decide) | exact jkt_t _ | exact jkt_r6 _ _ | exact jkt_t6 _ | (simp only [jok, jlen]; omega) | decide) only [jm_k hL, jm_gi hL, jm_gr hL, jm_gl hL, jm_pi hL, jm_pl hL, jn_ai hL, jn_ab hL, jn_az hL, jn_al hL, jn_ar hL, jn_an hL, jn_si hL, jn_sb hL, jn_sz hL, jn_sl hL, Option.bind_some, xc, xl, jRR_isCell hL h.D h.A h.K h.RC, c1]; rfl
    · unfold f_Mo_best; simp (disch := first | omega | rfl | assumption | exact jokr (by decide) (by omega) | exact jokr4 (by omega) | exact jkt_r _ _ | exact jkt_l (by decide) | exact jfk_l (by decide) | exact jkt_t _ | exact jkt_r6 _ _ | exact jkt_t6 _ | (simp only [jok, jlen]; omega) | decide) only [jm_k hL, jm_gi hL, jm_gr hL, jm_gl hL, jm_pi hL, jm_pl hL, jn_ai hL, jn_ab hL, jn_az hL, jn_al hL, jn_ar hL, jn_an hL, jn_si hL, jn_sb hL, jn_sz hL, jn_sl hL, Option.bind_some, xc, xl, jMo_isCell hL h.D h.A h.K h.RM, c1]; rfl
  · cases c2 : jbel (jd L) x2
    · refine jOp_no h (r := -9) ⟨?_, ?_⟩
      · unfold f_RR_best; simp (disch := first | omega | rfl | assumption | exact jokr (by decide) (by omega) | exact jokr4 (by omega) | exact jkt_r _ _ | exact jkt_l (by decide) | exact jfk_l (by decide) | exact jkt_t _ | exact jkt_r6 _ _ | exact jkt_t6 _ | (simp only [jok, jlen]; omega) | decide) only [jm_k hL, jm_gi hL, jm_gr hL, jm_gl hL, jm_pi hL, jm_pl hL, jn_ai hL, jn_ab hL, jn_az hL, jn_al hL, jn_ar hL, jn_an hL, jn_si hL, jn_sb hL, jn_sz hL, jn_sl hL, Option.bind_some, xc, xl, jRR_isCell hL h.D h.A h.K h.RC, c1, c2]; rfl
      · unfold f_Mo_best; simp (disch := first | omega | rfl | assumption | exact jokr (by decide) (by omega) | exact jokr4 (by omega) | exact jkt_r _ _ | exact jkt_l (by decide) | exact jfk_l (by decide) | exact jkt_t _ | exact jkt_r6 _ _ | exact jkt_t6 _ | (simp only [jok, jlen]; omega) | decide) only [jm_k hL, jm_gi hL, jm_gr hL, jm_gl hL, jm_pi hL, jm_pl hL, jn_ai hL, jn_ab hL, jn_az hL, jn_al hL, jn_ar hL, jn_an hL, jn_si hL, jn_sb hL, jn_sz hL, jn_sl hL, Option.bind_some, xc, xl, jMo_isCell hL h.D h.A h.K h.RM, c1, c2]; rfl
    · obtain ⟨p, hp, rfl⟩ := (jbel_iff (by omega)).mp c1
      obtain ⟨t, ht, rfl⟩ := (jbel_iff (by omega)).mp c2
      have a1 := jRR_bestLetter hL h.D h.A h.K (ω := ω) h.W h.RC h.LC hp ht
      have b1 := jMo_best17 hL h.D h.A h.K (ω := ω) h.W h.RM h.LM hp ht
      have z1 : (-nI 1 : Int32) = nI 0 - nI 1 := by decide
      refine jOp_no h (r := nI (jbl w A L p t) - nI 1) ⟨?_, ?_⟩
      · unfold f_RR_best
        simp (disch := first | omega | rfl | assumption | exact jokr (by decide) (by omega) | exact jokr4 (by omega) | exact jkt_r _ _ | exact jkt_l (by decide) | exact jfk_l (by decide) | exact jkt_t _ | exact jkt_r6 _ _ | exact jkt_t6 _ | (simp only [jok, jlen]; omega) | decide) only [jm_k hL, jm_gi hL, jm_gr hL, jm_gl hL, jm_pi hL, jm_pl hL, jn_ai hL, jn_ab hL, jn_az hL, jn_al hL, jn_ar hL, jn_an hL, jn_si hL, jn_sb hL, jn_sz hL, jn_sl hL, Option.bind_some, xc, xl, jRR_isCell hL h.D h.A h.K h.RC, c1, c2, Bool.and_self, if_true, jlit, nI_eq, if_neg, a1]
      · unfold f_Mo_best
        simp (disch := first | omega | rfl | assumption | exact jokr (by decide) (by omega) | exact jokr4 (by omega) | exact jkt_r _ _ | exact jkt_l (by decide) | exact jfk_l (by decide) | exact jkt_t _ | exact jkt_r6 _ _ | exact jkt_t6 _ | (simp only [jok, jlen]; omega) | decide) only [jm_k hL, jm_gi hL, jm_gr hL, jm_gl hL, jm_pi hL, jm_pl hL, jn_ai hL, jn_ab hL, jn_az hL, jn_al hL, jn_ar hL, jn_an hL, jn_si hL, jn_sb hL, jn_sz hL, jn_sl hL, Option.bind_some, xc, xl, jMo_isCell hL h.D h.A h.K h.RM, c1, c2, Bool.and_self, if_true, jlit, nI_eq, if_neg, z1, b1]
theorem jop_undo {L : jL} (hL : jgood L) {ω : xS} {S : jSt} {A : jR} {w : jLw} {H : jH} {tp : Nat → Nat} {ts sw ps wy : Nat} (h : jIv L S A w H tp ts sw ps wy) : jOp L ω S w tp ts sw ps wy Int32 (f_RR_undo (jad L (jo 0))) (f_Mo_undo (jad L (jm 0))) := by
  obtain ⟨nw, hHC⟩ := h.HC
  obtain ⟨fr, hHM⟩ := h.HM
  have hc := h.H.c
  by_cases h0 : H.1 = 0
  · have e1 := hHC.k
    have e2 := hHM.k
    have hK := h.K
    rw [h0] at e1 e2
    refine jOp_no h (r := -2) ⟨?_, ?_⟩
    · unfold f_RR_undo
      simp (disch := first | omega | rfl | assumption | exact jokr (by decide) (by omega) | exact jokr4 (by omega) | exact jkt_r _ _ | exact jkt_l (by decide) | exact jfk_l (by decide) | exact jkt_t _ | exact jkt_r6 _ _ | exact jkt_t6 _ | (simp only [jok, jlen]; omega) | decide) only [jm_k hL, jm_gi hL, jm_gr hL, jm_gl hL, jm_pi hL, jm_pl hL, jn_ai hL, jn_ab hL, jn_az hL, jn_al hL, jn_ar hL, jn_an hL, jn_si hL, jn_sb hL, jn_sz hL, jn_sl hL, Option.bind_some, xc, xl, jsA_X, jsI_X, jsG_X, hK _ _, jlk, jmx, e1, jlit]
      rfl
    · unfold f_Mo_undo
      simp (disch := first | omega | rfl | assumption | exact jokr (by decide) (by omega) | exact jokr4 (by omega) | exact jkt_r _ _ | exact jkt_l (by decide) | exact jfk_l (by decide) | exact jkt_t _ | exact jkt_r6 _ _ | exact jkt_t6 _ | (simp only [jok, jlen]; omega) | decide) only [jm_k hL, jm_gi hL, jm_gr hL, jm_gl hL, jm_pi hL, jm_pl hL, jn_ai hL, jn_ab hL, jn_az hL, jn_al hL, jn_ar hL, jn_an hL, jn_si hL, jn_sb hL, jn_sz hL, jn_sl hL, Option.bind_some, xc, xl, e2, jlit]
      rfl
  · obtain ⟨S1, c1, c2, c3, c4, c5⟩ := jRR_undo hL h.D h.A h.K (ω := ω) h.RC hHC h.H h0
    have eM : jeqv jisM S S1 := c4.weak (fun c hc => jisM_RH hc)
    obtain ⟨S2, d1, d2, d3, d4, d5, d6, d7⟩ := jMo_undo hL h.D h.A (h.K.of c5) (ω := ω) (h.RM.same eM) (h.LM.eqv eM) (hHM.same eM) h.H h0
    refine ⟨nI (H.1 - 1), S1, S2, _, (H.1 - 1, fun i => H.2 (i + 1)), c1, d1, h.step (jR.put_good h.A (h.H.l 0 (by omega))) ⟨by show H.1 - 1 ≤ 200; omega, fun i hi => h.H.p (i + 1) (by have hi : i < H.1 - 1 := hi; omega), fun i hi => h.H.t (i + 1) (by have hi : i < H.1 - 1 := hi; omega), fun i hi => h.H.l (i + 1) (by have hi : i < H.1 - 1 := hi; omega)⟩ c2 c3 c4 c5 d2 d3 d4 d5 d6 d7, h.K.of c5⟩
theorem jop_descend {L : jL} (hL : jgood L) {ω : xS} {S : jSt} {A : jR} {w : jLw} {H : jH} {tp : Nat → Nat} {ts sw ps wy : Nat} (h : jIv L S A w H tp ts sw ps wy) (x1 : Int32) : jOp L ω S w tp ts sw ps wy Int32 (f_RR_descend (jad L (jo 0)) x1) (f_Mo_descend (jad L (jm 0)) x1) := by
  by_cases hv : 0 ≤ x1.toInt ∧ x1.toInt ≤ 3
  · obtain ⟨x, _, hx, rfl⟩ := jrng (lo := 0) (hi := 3) hv.1 hv.2
    obtain ⟨S1, c1, c2, c3, c4, c5⟩ := jRR_desc hL h.D (ω := ω) h.W (sw := sw) (ps := ps) (wy := wy) (x := x) x xFU 0 (S := S) (A := A) (H := H) (by omega) hx (by unfold xFU; omega) h.A h.K h.RC h.LC h.H h.HC
    have eM : jeqv jisM S S1 := c4.weak (fun c hc => jisM_RH hc)
    obtain ⟨fr, hHM⟩ := h.HM
    obtain ⟨S2, d1, d2, d3, d4, d5, d6, d7⟩ := jMo_desc hL h.D (ω := ω) h.W (sw := sw) (ps := ps) (wy := wy) (x := x) x xFU 0 (S := S1) (A := A) (H := H) (by omega) hx (by unfold xFU; omega) h.A (h.K.of c5) (h.RM.same eM) (h.LM.eqv eM) h.H ⟨fr, hHM.same eM⟩
    have hg := jit_good h.D h.W x h.A h.H
    refine ⟨nI (0 + (jit w L x A H).1), S1, S2, (jit w L x A H).2.1, (jit w L x A H).2.2, ?_, ?_, h.step hg.1 hg.2 c2 c3 c4 c5 d2 d3 d4 d5 d6 d7, h.K.of c5⟩
    · unfold f_RR_descend
      rw [if_neg (show ¬ nI x < 0 from fun q => (jneg (show x < 2 ^ 31 by omega)).mp q), if_pos (show nI x ≤ 3 from (nI_leI (b := 3) (by omega) (by omega)).mpr hx)]
      exact c1
    · unfold f_Mo_descend
      rw [if_neg (show ¬ nI x < 0 from fun q => (jneg (show x < 2 ^ 31 by omega)).mp q), if_pos (show nI x ≤ 3 from (nI_leI (b := 3) (by omega) (by omega)).mpr hx)]
      exact d1
  · refine jOp_no h (r := -1) ⟨?_, ?_⟩
    · unfold f_RR_descend
      simp (disch := first | omega | rfl | assumption | exact jokr (by decide) (by omega) | exact jokr4 (by omega) | exact jkt_r _ _ | exact jkt_l (by decide) | exact jfk_l (by decide) | exact jkt_t _ | exact jkt_r6 _ _ | exact jkt_t6 _ | (simp only [jok, jlen]; omega) | decide) only [jlit, Int32.lt_iff_toInt_lt, Int32.le_iff_toInt_le, nI_toInt]
      (repeat' split) <;> first | rfl | (exfalso; apply hv; omega)
    · unfold f_Mo_descend
      simp (disch := first | omega | rfl | assumption | exact jokr (by decide) (by omega) | exact jokr4 (by omega) | exact jkt_r _ _ | exact jkt_l (by decide) | exact jfk_l (by decide) | exact jkt_t _ | exact jkt_r6 _ _ | exact jkt_t6 _ | (simp only [jok, jlen]; omega) | decide) only [jlit, Int32.lt_iff_toInt_lt, Int32.le_iff_toInt_le, nI_toInt]
      (repeat' split) <;> first | rfl | (exfalso; apply hv; omega)
