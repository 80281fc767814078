/-! the reference's and the class's pattern of a law -/
theorem jxp_m {L : jL} (hL : jgood L) {ω : xS} {S : jSt} {q : Nat} {v : Int32} (hq : 34 ≤ q) (hq2 : q ≤ 44) (hn : q ≠ 38) : xp (jW L ω S) (jad L (jm 0)) 12 q (.int v) = some (jW L ω (jsI S (jm 0) q v)) := by
  have : q = 34 ∨ q = 35 ∨ q = 36 ∨ q = 37 ∨ q = 39 ∨ q = 40 ∨ q = 41 ∨ q = 42 ∨ q = 43 ∨ q = 44 := by omega
  rcases this with rfl | rfl | rfl | rfl | rfl | rfl | rfl | rfl | rfl | rfl <;> simp (disch := first | omega | rfl | assumption | exact jokr (by decide) (by omega) | exact jokr4 (by omega) | exact jkt_r _ _ | exact jkt_l (by decide) | exact jfk_l (by decide) | exact jkt_t _ | exact jkt_r6 _ _ | exact jkt_t6 _ | (simp only [jok, jlen]; omega) | decide) only [jm_pi hL]
theorem jxg_m {L : jL} (hL : jgood L) {ω : xS} {S : jSt} {q : Nat} {v : Int32} (hq : 34 ≤ q) (hq2 : q ≤ 44) (hn : q ≠ 38) (h : jgI S (jm 0) q = v) : xgi (jW L ω S) (jad L (jm 0)) 12 q = some v := by
  have : q = 34 ∨ q = 35 ∨ q = 36 ∨ q = 37 ∨ q = 39 ∨ q = 40 ∨ q = 41 ∨ q = 42 ∨ q = 43 ∨ q = 44 := by omega
  rcases this with rfl | rfl | rfl | rfl | rfl | rfl | rfl | rfl | rfl | rfl <;> simp (disch := first | omega | rfl | assumption | exact jokr (by decide) (by omega) | exact jokr4 (by omega) | exact jkt_r _ _ | exact jkt_l (by decide) | exact jfk_l (by decide) | exact jkt_t _ | exact jkt_r6 _ _ | exact jkt_t6 _ | (simp only [jok, jlen]; omega) | decide) only [jm_gi hL, h]
theorem jMp_86 {L : jL} (hL : jgood L) {ω : xS} {S : jSt} {sw ps wy : Nat} (hK : jLK S sw ps wy) {k x2 x3 : Nat} (hk : k < 16) : ∃ n U, f_Mo_pattern_86 xFU (jad L (jm 0)) (nI k) (nI x2) (nI x3) 0 (jW L ω S) = f_Mo_pattern_86 (n + 1) (jad L (jm 0)) (nI k) (nI x2) (nI x3) (nI 11) (jW L ω U) ∧ jfr (fun c => c = jm 18) S U ∧ ∀ i, jgA U (jm 18) i = if 11 * k ≤ i ∧ i < 11 * k + 11 then nI 0 else jgA S (jm 18) i := by
  refine jlpI (fun n p (T : jSt) => f_Mo_pattern_86 n (jad L (jm 0)) (nI k) (nI x2) (nI x3) (nI p) (jW L ω T)) (fun p T => jfr (fun c => c = jm 18) S T ∧ ∀ i, jgA T (jm 18) i = if 11 * k ≤ i ∧ i < 11 * k + p then nI 0 else jgA S (jm 18) i) (lo := 0) (hi := 11) (Nat.zero_le _) (by omega) (by
    intro n p T _ hp ⟨b1, b2⟩
    have hK := hK.of b1.2.2.1
    refine ⟨jsA T (jm 18) (11 * k + p) (nI 0), ?_, b1.trans (jfr.sA _ _ _ rfl), fun i => ?_⟩
    · show f_Mo_pattern_86 (n + 1) _ _ _ _ _ _ = f_Mo_pattern_86 n _ _ _ _ _ _
      rw [f_Mo_pattern_86]
      simp (disch := first | omega | rfl | assumption | exact jokr (by decide) (by omega) | exact jokr4 (by omega) | exact jkt_r _ _ | exact jkt_l (by decide) | exact jfk_l (by decide) | exact jkt_t _ | exact jkt_r6 _ _ | exact jkt_t6 _ | (simp only [jok, jlen]; omega) | decide) only [jm_k hL, jm_gi hL, jm_gr hL, jm_gl hL, jm_pi hL, jm_pl hL, jn_ai hL, jn_ab hL, jn_az hL, jn_al hL, jn_ar hL, jn_an hL, jn_si hL, jn_sb hL, jn_sz hL, jn_sl hL, Option.bind_some, xc, xl, jsA_X, jsI_X, jsG_X, hK _ _, jlk, jmx, jlit, jmul, nI_add, nI_leI, if_neg]
    · rw [jsA_c, b2 i]
      by_cases e : i = 11 * k + p
      · rw [if_pos e, if_pos (by omega)]
      · rw [if_neg e]
        by_cases c2 : 11 * k ≤ i ∧ i < 11 * k + p
        · rw [if_pos c2, if_pos (by omega)]
        · rw [if_neg c2, if_neg (by omega)]) S ⟨jfr.refl _ _, fun i => by rw [if_neg (by omega)]⟩
theorem jfO_lt {s : jPs} (hi : jPi s) (h1 : jPs.hs s = 1) (hz : jPs.sz s ≤ 10) (q : Nat) : jfO s q < 1024 := by
  obtain ⟨q1, q2, q3, q4, q5⟩ := jpU_ok hi h1
  unfold jfO
  by_cases c : q = 10
  · rw [if_pos c]; exact (q1.good hz).f
  · rw [if_neg c]
    have := jFr.lt (b := jPs.sz s) (fun i h => q4 q i h)
    have h3 : 2 ^ jPs.sz s ≤ 2 ^ 10 := Nat.pow_le_pow_right (by decide) hz
    omega
/-- built and made an automaton of, behind a check -/
theorem jMp_store {L : jL} (hL : jgood L) {ω : xS} {S : jSt} {sw ps wy : Nat} (hK : jLK S sw ps wy) {tp : Nat → Nat} {ts q t n k : Nat} {s : jPs} (hk : k < 16) (hT : jTm S tp ts) (hP : jPx tp ts q t) (h39 : jgI S (jm 0) 39 = nI 0) (h41 : jgI S (jm 0) 41 = nI 1) (htr : jTr tp ts t n (q + 1) jp00 t s) (hn : n ≤ t - (q + 1)) (hq : q + 1 ≤ t) (h1 : jPs.hs s = 1) (hd : jPs.d s = 0) (hz : jPs.sz s ≤ 10) : ∃ (T : jSt) (ns : Nat) (nx fe : Nat → Nat), f_Mo_pattern_50 (jad L (jm 0)) (nI k) (nI (q + 1)) (nI t) (nI (jPs.sz s)) (jW L ω S) = some (jW L ω T) ∧ jfV k S T ∧ jgI T (jm 0) 39 = nI 0 ∧ jgI T (jm 0) 34 = jgI S (jm 0) 34 ∧ jDP T k s ns nx fe := by
  have ht := hP.t
  have hs15 := hP.s
  -- places, own, used
  have v1 : jfV k S (jsI (jsI (jsA S (jm 21) k (nI (jPs.sz s))) (jm 0) 44 (nI k)) (jm 0) 43 (nI 0)) := ((jfV.sA S (nI (jPs.sz s)) (by omega)).trans (jfV.sI _ _ (by omega))).trans (jfV.sI _ _ (by omega))
  obtain ⟨m, U2, e2, a2, b2⟩ := jMp_86 hL (ω := ω) (hK.of v1.x) (x2 := q + 1) (x3 := t) hk
  have v2 := v1.trans (jfV.w18 (k := k) a2 (fun i hi => by rw [b2, if_neg (by omega)]))
  have v3 := v2.trans (jfV.sI U2 (q := 42) (nI (q + 1)) (by omega))
  have i2 : ∀ c, c ≠ 43 → c ≠ 44 → jgI U2 (jm 0) c = jgI S (jm 0) c := fun c h3 h4 => by rw [a2.1, jsI_c, if_neg h3, jsI_c, if_neg h4, jsA_I]
  have i43 : jgI U2 (jm 0) 43 = nI 0 := by rw [a2.1, jsI_c, if_pos rfl]
  have i44 : jgI U2 (jm 0) 44 = nI k := by rw [a2.1, jsI_c, if_neg (by decide), jsI_c, if_pos rfl]
  obtain ⟨U4, e4, a4, hi, b4⟩ := jMb_build hL (ω := ω) (hK.of v3.x) hk (hT.V v3) hP (by rw [jsI_c, if_pos rfl]) (by rw [jsI_c, if_neg (by decide), i2 _ (by decide) (by decide)]; exact h39) (by rw [jsI_c, if_neg (by decide)]; exact i43) (by rw [jsI_c, if_neg (by decide)]; exact i44) (fun p hp => by rw [jsI_A, b2, if_pos (by omega)]) htr hn hq h1 hd hz
  obtain ⟨q1, q2, q3, q4, q5⟩ := jpU_ok hi h1
  have hgU := q1.good hz
  have v4 := v3.trans a4.V
  have hK4 := hK.of v4.x
  have f5 : jfV k U4 (jsA (jsA (jsA U4 (jm 18) (11 * k + 10) (nI (jpU s).1)) (jm 19) k (nI (jpU s).2.1)) (jm 20) k (nI (jpU s).2.2)) := ((jfV.w18 (jfr.sA U4 (c := jm 18) _ _ rfl) (fun i hi => by rw [jsA_c, if_neg (by omega)])).trans (jfV.sA _ _ (by omega))).trans (jfV.sA _ _ (by omega))
  have v5 := v4.trans f5
  have u21 : jgA U4 (jm 21) = jgA U2 (jm 21) := by rw [a4.a _ (jisU_n (by omega)) (jmne (by decide)) (jmne (by decide))]; rfl
  have hPM : jPM (jsA (jsA (jsA U4 (jm 18) (11 * k + 10) (nI (jpU s).1)) (jm 19) k (nI (jpU s).2.1)) (jm 20) k (nI (jpU s).2.2)) k (jPs.sz s) (jPs.ls s) (jfO s) (jpU s).2.1 (jpU s).2.2 := by
    refine ⟨hk, hz, hi.ls, jfO_lt hi h1 hz, hgU.l, hgU.e, ?_, fun p hp => ?_, fun p hp => ?_, ?_, ?_⟩
    · rw [jsA_ne (jmne (by decide)), jsA_ne (jmne (by decide)), jsA_ne (jmne (by decide)), u21, a2.2.2.2 _ (jmne (by decide)), jsI_A, jsI_A, jsA_c, if_pos rfl]
    · rw [jsA_ne (jmne (by decide)), jsA_ne (jmne (by decide)), jsA_ne (jmne (by decide))]; exact b4.ls p hp
    · rw [jsA_ne (jmne (by decide)), jsA_ne (jmne (by decide)), jsA_c]
      unfold jfO
      by_cases c : p = 10
      · rw [if_pos (by omega), if_pos c]
      · rw [if_neg (by omega), if_neg c]; exact b4.fo p (by omega)
    · rw [jsA_ne (jmne (by decide)), jsA_c, if_pos rfl]
    · rw [jsA_c, if_pos rfl]
  obtain ⟨T, ns, nx, fe, e6, c1, c2, c3, c4, c5, c6, c7, c8, c9⟩ := jMr_auto hL (ω := ω) (hK.of v5.x) hPM
  have v6 := v5.trans (jfV.z c1 c2 c3 c4)
  have nz : ∀ q, q < 22 → ¬ jisZ (jm q) := fun q hq z => by
    rcases z with z | z | z | z
    · exact jisS_n (by omega) z
    · exact jmne (by omega) z
    · exact jmne (by omega) z
    · exact jmne (by omega) z
  refine ⟨T, ns, nx, fe, ?_, v6, ?_, ?_, ⟨?_, fun p hp => ?_, fun p hp => ?_, ?_, ?_, c5, c6, c7, c8, c9⟩⟩
  · unfold f_Mo_pattern_50
    have w1 : ((xgr (jW L ω S) (jad L (jm 0)) 12 25).bind fun t18 => (xsi (jW L ω S) t18 (nI k) (nI (jPs.sz s))).bind fun w19 => (xp w19 (jad L (jm 0)) 12 44 (.int (nI k))).bind fun w20 => (xp w20 (jad L (jm 0)) 12 43 (.int (nI 0)))) = some (jW L ω (jsI (jsI (jsA S (jm 21) k (nI (jPs.sz s))) (jm 0) 44 (nI k)) (jm 0) 43 (nI 0))) := by
      simp (disch := first | omega | rfl | assumption | exact jokr (by decide) (by omega) | exact jokr4 (by omega) | exact jkt_r _ _ | exact jkt_l (by decide) | exact jfk_l (by decide) | exact jkt_t _ | exact jkt_r6 _ _ | exact jkt_t6 _ | (simp only [jok, jlen]; omega) | decide) only [jm_k hL, jm_gi hL, jm_gr hL, jm_gl hL, jm_pi hL, jm_pl hL, jn_ai hL, jn_ab hL, jn_az hL, jn_al hL, jn_ar hL, jn_an hL, jn_si hL, jn_sb hL, jn_sz hL, jn_sl hL, Option.bind_some, xc, xl, jsA_X, jsI_X, jsG_X, hK _ _, jlk, jmx]
    rw [jxg_m hL (by omega) (by omega) (by omega) h39, Option.bind_some, if_pos (show nI 0 = (0 : Int32) from rfl), jxg_m hL (by omega) (by omega) (by omega) h41, Option.bind_some, if_neg (show ¬ nI 1 = (0 : Int32) by decide)]
    have w2 : ∀ {β : Type} (K : xS → Option β), ((xgr (jW L ω S) (jad L (jm 0)) 12 25).bind fun t18 => (xsi (jW L ω S) t18 (nI k) (nI (jPs.sz s))).bind fun w19 => (xp w19 (jad L (jm 0)) 12 44 (.int (nI k))).bind fun w20 => (xp w20 (jad L (jm 0)) 12 43 (.int (nI 0))).bind K) = K (jW L ω (jsI (jsI (jsA S (jm 21) k (nI (jPs.sz s))) (jm 0) 44 (nI k)) (jm 0) 43 (nI 0))) := fun K => by
      simp (disch := first | omega | rfl | assumption | exact jokr (by decide) (by omega) | exact jokr4 (by omega) | exact jkt_r _ _ | exact jkt_l (by decide) | exact jfk_l (by decide) | exact jkt_t _ | exact jkt_r6 _ _ | exact jkt_t6 _ | (simp only [jok, jlen]; omega) | decide) only [jm_k hL, jm_gi hL, jm_gr hL, jm_gl hL, jm_pi hL, jm_pl hL, jn_ai hL, jn_ab hL, jn_az hL, jn_al hL, jn_ar hL, jn_an hL, jn_si hL, jn_sb hL, jn_sz hL, jn_sl hL, Option.bind_some, xc, xl, jsA_X, jsI_X, jsG_X, hK _ _, jlk, jmx]
    refine (w2 _).trans ?_
    have hK5 := hK.of v5.x
    have tail : ∀ v : Nat, v = jeln (jpU s) → ((xgr (jW L ω U4) (jad L (jm 0)) 12 22).bind fun t27 => (f_Mo_firstOf (lN v) (jW L ω U4)).bind fun t29 => (xsi (jW L ω U4) t27 ((11 * nI k) + 10) t29).bind fun w30 => (xgr w30 (jad L (jm 0)) 12 23).bind fun t31 => (f_Mo_lastOf (lN v) w30).bind fun t33 => (xsi w30 t31 (nI k) t33).bind fun w34 => (xgr w34 (jad L (jm 0)) 12 24).bind fun t35 => (f_Mo_noneOf (lN v) w34).bind fun t37 => (xsz w34 t35 (nI k) t37).bind fun w38 => (xk w38 (jad L (jm 0)) 12 (f_Mo_automaton (jad L (jm 0)) (nI k) w38)).bind fun w41 => some w41) = some (jW L ω T) := by
      intro v hv
      have x1 : ∀ ω, f_Mo_firstOf (lN v) ω = some (nI (jpU s).1) := fun ω => by rw [hv]; exact jfirst hgU
      have x2 : ∀ ω, f_Mo_lastOf (lN v) ω = some (nI (jpU s).2.1) := fun ω => by rw [hv]; exact jlast hgU
      have x3 : ∀ ω, f_Mo_noneOf (lN v) ω = some (nI (jpU s).2.2) := fun ω => by rw [hv]; exact jnone hgU
      have hnb : vp_nar .boolean (nI (jpU s).2.2) = nI (jpU s).2.2 := jnab hgU.e
      have hK := hK4
      simp (disch := first | omega | rfl | assumption | exact jokr (by decide) (by omega) | exact jokr4 (by omega) | exact jkt_r _ _ | exact jkt_l (by decide) | exact jfk_l (by decide) | exact jkt_t _ | exact jkt_r6 _ _ | exact jkt_t6 _ | (simp only [jok, jlen]; omega) | decide) only [jm_k hL, jm_gi hL, jm_gr hL, jm_gl hL, jm_pi hL, jm_pl hL, jn_ai hL, jn_ab hL, jn_az hL, jn_al hL, jn_ar hL, jn_an hL, jn_si hL, jn_sb hL, jn_sz hL, jn_sl hL, Option.bind_some, xc, xl, jsA_X, jsI_X, jsG_X, hK _ _, jlk, jmx, jlit, jmul, nI_add, x1, x2, x3, hnb, e6]
    rw [e2, f_Mo_pattern_86, if_pos (show (11 : Int32) ≤ nI 11 by decide), jp42 hL, Option.bind_some, jkm hL, e4]
    exact tail _ rfl
  · rw [c1.1, jsA_I, jsA_I, jsA_I]; exact b4.f
  · rw [c1.1, jsA_I, jsA_I, jsA_I, a4.k 34 (by omega), jsI_c, if_neg (by decide)]; exact i2 _ (by decide) (by decide)
  · rw [c1.2.2.2 _ (nz _ (by omega))]; exact hPM.a
  · rw [c1.2.2.2 _ (nz _ (by omega))]; exact hPM.b p hp
  · rw [c1.2.2.2 _ (nz _ (by omega))]; exact hPM.c p hp
  · rw [c1.2.2.2 _ (nz _ (by omega))]; exact hPM.d
  · rw [c1.2.2.2 _ (nz _ (by omega))]; exact hPM.e
theorem jMp_pattern {L : jL} (hL : jgood L) {ω : xS} {S : jSt} {sw ps wy : Nat} (hK : jLK S sw ps wy) {tp : Nat → Nat} {ts e k σ : Nat} {s : jPs} {r : Nat × Nat × Nat} (hk : k < 16) (hT : jTm S tp ts) (hes : e ≤ ts) (hk4 : jtK tp ts e = 4) (hp : jPt tp ts e s r) (h36 : jgI S (jm 0) 36 = nI (jtB tp ts e)) (h37 : jgI S (jm 0) 37 = nI (jtE tp ts e)) (h34 : jgI S (jm 0) 34 = nI (jtE tp ts e)) (h39 : jgI S (jm 0) 39 = nI 0) (h41 : jgI S (jm 0) 41 = nI σ) (hσ : σ = 0 ∨ (σ = 1 ∧ r.1 = 0)) : ∃ T : jSt, f_Mo_pattern (jad L (jm 0)) (nI k) (jW L ω S) = some (jW L ω T) ∧ jfM σ k S T ∧ jRr T ts r ∧ (σ = 1 → ∃ (ns : Nat) (nx fe : Nat → Nat), jDP T k s ns nx fe) := by
  have hP := jPx.tok hT.s hT.b hes hk4
  have hE := (jtE_le (tp := tp) hes).2.1 (by omega)
  have hr4 := hp.f4
  have hq := hP.q
  have hts := hT.s
  have hp' := hp
  obtain ⟨n, x, f, p, g1, g2, g3, g4, g5, g6, g7⟩ := hp
  have f1 : jfU S (jsI S (jm 0) 42 (nI (jtB tp ts e + 1))) := jfU.sI _ _ (by omega)
  obtain ⟨T1, v, e1, a1, a2, a3, a4⟩ := jMc_check hL (ω := ω) (hK.of f1.x) (hT.fU f1) hP (by rw [jsI_c, if_pos rfl]) (by rw [jsI_c, if_neg (by decide)]; exact h39) g1 g2 g3 g4 g6
  have F1 := f1.trans a1
  have t34 : jgI T1 (jm 0) 34 = nI (jtE tp ts e) := by rw [F1.k 34 (by omega)]; exact h34
  have t36 : jgI T1 (jm 0) 36 = nI (jtB tp ts e) := by rw [F1.k 36 (by omega)]; exact h36
  have t41 : jgI T1 (jm 0) 41 = nI σ := by rw [F1.k 41 (by omega)]; exact h41
  have head : f_Mo_pattern (jad L (jm 0)) (nI k) (jW L ω S) = (if nI f = 0 then (if v ≤ 10 then f_Mo_pattern_50 (jad L (jm 0)) (nI k) (nI (jtB tp ts e + 1)) (nI (jtE tp ts e - 1)) v (jW L ω T1) else (xc (xk (jW L ω T1) (jad L (jm 0)) 12 (f_Mo_fails (jad L (jm 0)) 3 (nI (jtB tp ts e)) (jW L ω T1))) fun t12 w13 => f_Mo_pattern_50 (jad L (jm 0)) (nI k) (nI (jtB tp ts e + 1)) (nI (jtE tp ts e - 1)) v w13)) else f_Mo_pattern_50 (jad L (jm 0)) (nI k) (nI (jtB tp ts e + 1)) (nI (jtE tp ts e - 1)) v (jW L ω T1)) := by
    unfold f_Mo_pattern
    rw [jxg_m hL (by omega) (by omega) (by omega) h36, Option.bind_some, jxg_m hL (by omega) (by omega) (by omega) h37, Option.bind_some, jp42 hL, Option.bind_some, show nI (jtB tp ts e) + 1 = nI (jtB tp ts e + 1) by rw [jlit, nI_add], show nI (jtE tp ts e) - 1 = nI (jtE tp ts e - 1) by rw [jlit, jsub (by omega)], jkm hL, e1]
    simp only [xc]
    rw [jxg_m hL (by omega) (by omega) (by omega) a2, Option.bind_some, jxg_m hL (by omega) (by omega) (by omega) t36, Option.bind_some]
  have p50 : ∀ (U : jSt) (g : Nat) (y : Int32), g ≠ 0 → g ≤ 4 → jgI U (jm 0) 39 = nI g → f_Mo_pattern_50 (jad L (jm 0)) (nI k) (nI (jtB tp ts e + 1)) (nI (jtE tp ts e - 1)) y (jW L ω U) = some (jW L ω U) := fun U g y h0 h4 h => by
    unfold f_Mo_pattern_50
    rw [jxg_m hL (by omega) (by omega) (by omega) h, Option.bind_some, if_neg (show ¬ nI g = (0 : Int32) from fun z => by rw [jlit, nI_eq (by omega) (by omega)] at z; exact h0 z)]
  rw [head]
  by_cases cf : f ≠ 0
  · have hf4 := g6.f4
    rw [if_pos cf] at g7
    have hr1 : r.1 = f := by rw [g7]
    refine ⟨T1, ?_, F1.N.M σ k, ⟨by rw [hr1]; exact a2, by omega, fun z => absurd z (by omega), fun _ => by rw [g7]; exact a3 cf⟩, fun z => by omega⟩
    rw [if_neg (show ¬ nI f = (0 : Int32) from fun z => by rw [jlit, nI_eq (by omega) (by omega)] at z; exact cf z)]
    exact p50 T1 f v cf hf4 a2
  · have cf0 : f = 0 := by omega
    have hv := a4 cf0
    rw [if_neg cf] at g7
    rw [if_pos (show nI f = (0 : Int32) by rw [cf0]; rfl)]
    rw [cf0] at a2
    by_cases cz : jPs.sz s ≤ 10
    · have hcap : jcap (jPs.sz s) = jPs.sz s := if_pos (by omega)
      rw [hcap] at hv
      rw [if_pos cz] at g7
      have hr1 : r.1 = 0 := by rw [g7]
      obtain ⟨o1, o2, o3, o4, o5⟩ := hp'.ok hr1
      rw [if_pos (show v ≤ (10 : Int32) by rw [hv]; exact (nI_leI (b := 10) (by omega) (by omega)).mpr cz), hv]
      have hxt : x = jtE tp ts e - 1 := by
        rcases g6 with ⟨_, z, _⟩ | ⟨z, _⟩
        · exact absurd cf0 z
        · exact z
      rcases hσ with s0 | ⟨s1, _⟩
      · refine ⟨T1, ?_, F1.N.M σ k, ⟨by rw [hr1]; exact a2, by omega, fun _ => by rw [g7]; exact ⟨t34, hE⟩, fun z => absurd hr1 z⟩, fun z => by omega⟩
        unfold f_Mo_pattern_50
        rw [jxg_m hL (by omega) (by omega) (by omega) a2, Option.bind_some, if_pos (show nI 0 = (0 : Int32) from rfl), jxg_m hL (by omega) (by omega) (by omega) t41, Option.bind_some, if_pos (show nI σ = (0 : Int32) by rw [s0]; rfl)]
      · rw [hxt] at g1 g2 g3
        rw [s1] at t41
        obtain ⟨T, ns, nx, fe, c1, c2, c3, c4, c5⟩ := jMp_store hL (ω := ω) (hK.of F1.x) hk (hT.fU F1) hP a2 t41 g1 g2 g3 o3 o4 cz
        refine ⟨T, c1, ⟨fun z => by omega, (F1.N.V k).trans c2⟩, ⟨by rw [hr1]; exact c3, by omega, fun _ => by rw [g7, c4]; exact ⟨t34, hE⟩, fun z => absurd hr1 z⟩, fun _ => ⟨ns, nx, fe, c5⟩⟩
    · rw [if_neg cz] at g7
      have hr1 : r.1 = 3 := by rw [g7]
      have hcap : 10 < jcap (jPs.sz s) := by unfold jcap; split <;> omega
      have hcl := jcap_le (jPs.sz s)
      obtain ⟨T2, b1, b2, b3, b4, b5⟩ := jMp_fails hL (ω := ω) (hK.of F1.x) (x := 3) (v := jtB tp ts e) a2
      have b1 : f_Mo_fails (jad L (jm 0)) 3 (nI (jtB tp ts e)) (jW L ω T1) = some (0, jW L ω T2) := b1
      refine ⟨T2, ?_, (F1.trans b2.U).N.M σ k, ⟨by rw [hr1]; exact b3, by omega, fun z => absurd z (by omega), fun _ => by rw [g7]; exact b4⟩, fun z => by omega⟩
      rw [if_neg (show ¬ v ≤ (10 : Int32) from fun z => by rw [hv] at z; have := (nI_leI (b := 10) (by omega) (by omega)).mp z; omega), jkm hL, b1]
      simp only [xc]
      exact p50 T2 3 v (by decide) (by decide) b3
/-- the class's pattern -/
theorem jRd_pattern {L : jL} (hL : jgood L) {ω : xS} {S : jSt} {sw ps wy : Nat} (hK : jLK S sw ps wy) {tp : Nat → Nat} {ts d j e : Nat} {s : jPs} {r : Nat × Nat × Nat} (hj : j < 32) (hT : jTc S tp ts) (hr : jCr S d ts (0, 0, e)) (hk4 : jtK tp ts e = 4) (hp : jPt tp ts e s r) : ∃ T, f_LawReader_pattern (jad L (jo 29)) (jad L (jl j 1)) (jW L ω S) = some (jW L ω T) ∧ jfq (fun c => jis29 c ∨ jisPP j c) S T ∧ jCr T d ts r ∧ (r.1 = 0 → jPq T j s) := by
  have hes : e ≤ ts := (hr.z rfl).2.2
  have hP := jPx.tok hT.s hT.b hes hk4
  have hr4 := hp.f4
  have hE := (jtE_le (tp := tp) hes).2.1 (by omega)
  obtain ⟨T1, e1, a1, a2, a3⟩ := jRd_expect hL (ω := ω) hK hT hr (k := 4) (by decide) (by decide)
  obtain ⟨x1, x2, x3⟩ := a3 rfl
  rw [if_pos (show (0, 0, e).1 = 0 ∧ jtK tp ts (0, 0, e).2.2 = 4 from ⟨rfl, hk4⟩)] at e1
  rw [jEx_ok (r := (0, 0, e)) rfl hk4] at a2
  have e1 : f_LawReader_expect (jad L (jo 29)) 4 (jW L ω S) = some (nI 1, jW L ω T1) := e1
  obtain ⟨n, x, f, p, g1, g2, g3, g4, g5, g6, g7⟩ := hp
  have hK1 := hK.of a1.1
  obtain ⟨T2, e2, b1, b2, b3, b4⟩ := jPp_parse hL (ω := ω) hK1 (hT.fq a1 (jis29_o (by decide)) (jis29_o (by decide))) hP hj g1 g2 g3 g4 g6
  have F2 : jfq (fun c => jis29 c ∨ jisPP j c) S T2 := (a1.weak (fun c hc => Or.inl hc)).trans (b1.weak (fun c hc => Or.inr hc))
  have hK2 := hK.of F2.1
  have n29 : ∀ q, (q < 31 ∨ 34 < q) → ¬ jisPP j (jo q) := fun q hq z => by
    rcases z with z | z | z
    · rcases z with z | z | z | z | z | z | z <;> first | exact absurd z (jone (by omega)) | cases z
    · cases z
    · cases z
  have i29 : jgI T2 (jo 29) = jgI T1 (jo 29) := (b1.2.2 _ (n29 29 (by omega))).1
  have i30 : jgI T2 (jo 30) = jgI T1 (jo 30) := (b1.2.2 _ (n29 30 (by omega))).1
  have z1 := a2.z rfl
  have r31 : ∀ U : jSt, jLK U sw ps wy → xgr (jW L ω U) (jad L (jo 29)) 5 1 = some (jad L (jo 31)) := fun U hK => by simp (disch := first | omega | rfl | assumption | exact jokr (by decide) (by omega) | exact jokr4 (by omega) | exact jkt_r _ _ | exact jkt_l (by decide) | exact jfk_l (by decide) | exact jkt_t _ | exact jkt_r6 _ _ | exact jkt_t6 _ | (simp only [jok, jlen]; omega) | decide) only [jm_k hL, jm_gi hL, jm_gr hL, jm_gl hL, jm_pi hL, jm_pl hL, jn_ai hL, jn_ab hL, jn_az hL, jn_al hL, jn_ar hL, jn_an hL, jn_si hL, jn_sb hL, jn_sz hL, jn_sl hL, Option.bind_some, xc, xl, jsA_X, jsI_X, jsG_X, hK _ _, jlk, jmx]
  have gb : xgi (jW L ω T1) (jad L (jo 30)) 10 2 = some (nI (jtB tp ts e)) := by
    have x2 : jgI T1 (jo 30) 2 = nI (jtB tp ts e) := x2
    simp (disch := first | omega | rfl | assumption | exact jokr (by decide) (by omega) | exact jokr4 (by omega) | exact jkt_r _ _ | exact jkt_l (by decide) | exact jfk_l (by decide) | exact jkt_t _ | exact jkt_r6 _ _ | exact jkt_t6 _ | (simp only [jok, jlen]; omega) | decide) only [jm_gi hL, x2]
  have k31 : ∀ {α : Type} {U : jSt} {q : Option α}, xk (jW L ω U) (jad L (jo 31)) 6 q = q := fun {α U q} => jm_k hL (by simp only [jok]; omega) rfl
  have head : ∀ g : Nat, jgI T2 (jo 31) 10 = nI g → f_LawReader_pattern (jad L (jo 29)) (jad L (jl j 1)) (jW L ω S) = (if nI g = 0 then some (jW L ω T2) else (xgi (jW L ω T2) (jad L (jo 31)) 6 11).bind fun t17 => (xk (jW L ω T2) (jad L (jo 29)) 5 (f_LawReader_refuse (jad L (jo 29)) (nI g) t17 (jW L ω T2))).bind fun w20 => some w20) := by
    intro g hg
    have g10 : xgi (jW L ω T2) (jad L (jo 31)) 6 10 = some (nI g) := by simp (disch := first | omega | rfl | assumption | exact jokr (by decide) (by omega) | exact jokr4 (by omega) | exact jkt_r _ _ | exact jkt_l (by decide) | exact jfk_l (by decide) | exact jkt_t _ | exact jkt_r6 _ _ | exact jkt_t6 _ | (simp only [jok, jlen]; omega) | decide) only [jm_gi hL, hg]
    unfold f_LawReader_pattern
    rw [jk29 hL, e1]
    simp only [xc]
    rw [if_neg (show ¬ nI 1 = (0 : Int32) by decide), r31 T1 hK1, Option.bind_some, jr30 hL hK1, Option.bind_some, gb, Option.bind_some, k31, e2, Option.bind_some, r31 T2 hK2, Option.bind_some, g10, Option.bind_some]
    by_cases c : nI g = (0 : Int32)
    · rw [if_pos c, if_pos c]
    · rw [if_neg c, if_neg c, Option.bind_some, g10, Option.bind_some, Option.bind_some]
  -- refused
  have ref : ∀ g v : Nat, g ≠ 0 → g ≤ 4 → r = (g, v, jtE tp ts e) → jgI T2 (jo 31) 10 = nI g → jgI T2 (jo 31) 11 = nI v → ∃ T, f_LawReader_pattern (jad L (jo 29)) (jad L (jl j 1)) (jW L ω S) = some (jW L ω T) ∧ jfq (fun c => jis29 c ∨ jisPP j c) S T ∧ jCr T d ts r ∧ (r.1 = 0 → jPq T j s) := by
    intro g v h0 h4 hrr h10 h11
    obtain ⟨T, c1, c2, c3, _⟩ := jRd_refuse hL (ω := ω) hK2 (ts := ts) (d := d) (x := g) (v := v) (r := (0, 0, jtE tp ts e)) (by rw [i29]; exact a2.d) h0 h4
    refine ⟨T, ?_, F2.trans (c2.weak (fun c hc => Or.inl hc)), by rw [hrr]; exact c3, fun z => absurd z (by rw [hrr]; exact h0)⟩
    have g11 : xgi (jW L ω T2) (jad L (jo 31)) 6 11 = some (nI v) := by simp (disch := first | omega | rfl | assumption | exact jokr (by decide) (by omega) | exact jokr4 (by omega) | exact jkt_r _ _ | exact jkt_l (by decide) | exact jfk_l (by decide) | exact jkt_t _ | exact jkt_r6 _ _ | exact jkt_t6 _ | (simp only [jok, jlen]; omega) | decide) only [jm_gi hL, h11]
    rw [head g h10, if_neg (show ¬ nI g = (0 : Int32) from fun z => by rw [jlit, nI_eq (by omega) (by omega)] at z; exact h0 z), g11, Option.bind_some, jk29 hL, c1, Option.bind_some]
  by_cases cf : f ≠ 0
  · rw [if_pos cf] at g7
    obtain ⟨h10, h11⟩ := b2 cf
    exact ref f p cf g6.f4 g7 h10 h11
  · have cf0 : f = 0 := by omega
    rw [if_neg cf] at g7
    by_cases cz : jPs.sz s ≤ 10
    · rw [if_pos cz] at g7
      obtain ⟨h10, hq⟩ := b3 cf0 cz
      refine ⟨T2, ?_, F2, ?_, fun _ => hq⟩
      · rw [head 0 h10, if_pos (show nI 0 = (0 : Int32) from rfl)]
      · rw [g7]
        refine ⟨by rw [i29]; exact a2.d, by rw [i29]; exact a2.f, Nat.zero_le _, fun _ => ?_, fun z => absurd rfl z⟩
        rw [i29, i30]
        exact z1
    · rw [if_neg cz] at g7
      obtain ⟨h10, h11⟩ := b4 cf0 (by omega)
      exact ref 3 (jtB tp ts e) (by decide) (by decide) g7 h10 h11
theorem jRd_pattern0 {L : jL} (hL : jgood L) {ω : xS} {S : jSt} {sw ps wy : Nat} (hK : jLK S sw ps wy) {tp : Nat → Nat} {ts d e a1 : Nat} (hT : jTc S tp ts) (hr : jCr S d ts (0, 0, e)) (hk4 : jtK tp ts e ≠ 4) : ∃ T, f_LawReader_pattern (jad L (jo 29)) a1 (jW L ω S) = some (jW L ω T) ∧ jfq jis29 S T ∧ jCr T d ts (jEx tp ts 4 (0, 0, e)) := by
  obtain ⟨T1, e1, a1, a2, a3⟩ := jRd_expect hL (ω := ω) hK hT hr (k := 4) (by decide) (by decide)
  rw [if_neg (show ¬ ((0, 0, e).1 = 0 ∧ jtK tp ts (0, 0, e).2.2 = 4) from fun z => hk4 z.2)] at e1
  have e1 : f_LawReader_expect (jad L (jo 29)) 4 (jW L ω S) = some (nI 0, jW L ω T1) := e1
  refine ⟨T1, ?_, a1, a2⟩
  unfold f_LawReader_pattern
  rw [jk29 hL, e1]
  simp only [xc]
  rw [if_pos (show nI 0 = (0 : Int32) from rfl)]
