/-! the reference's build, unit by unit: openings, atoms, bars, closings, signs -/
theorem jSt1.grow {tp : Nat → Nat} {ts x y : Nat} {s s1 : jPs} (hi : jPi s) (hs : jSt1 tp ts x s y s1) : jPs.sz s ≤ jPs.sz s1 := by
  rcases hs with ⟨b, ha, rfl⟩ | ⟨c, rfl, rfl⟩ | ⟨h1, c, rfl, rfl⟩ | ⟨h1, c, hd, rfl, rfl⟩ | ⟨h1, r1, c, rfl, rfl⟩ | ⟨h1, r1, c, rfl, rfl⟩ | ⟨h1, r1, c, rfl, rfl⟩ | ⟨h1, r1, c, hb, rfl, rfl⟩
  · exact Nat.le_succ _
  · exact Nat.le_refl _
  · exact Nat.le_refl _
  · exact Nat.le_refl _
  · exact Nat.le_refl _
  · exact Nat.le_refl _
  · exact Nat.le_refl _
  · obtain ⟨d1, d2, d3, d4, d5⟩ := jbrF_ok hb
    obtain ⟨i1, i2, i3⟩ := hi.it h1
    show jPs.sz s ≤ jPs.ib s + (tp (x + 3) - 48) * jwd s
    have : 1 * jwd s ≤ (tp (x + 3) - 48) * jwd s := Nat.mul_le_mul_right _ (by omega)
    unfold jwd at *
    omega
theorem jTr.grow {tp : Nat → Nat} {ts q t : Nat} (hP : jPx tp ts q t) : ∀ n x (s : jPs) x' s', jTr tp ts t n x s x' s' → q < x → jPi s → jPs.sz s ≤ jPs.sz s'
  | 0, x, s, x', s', htr, _, _ => by
    obtain ⟨rfl, rfl⟩ := htr
    exact Nat.le_refl _
  | n + 1, x, s, x', s', htr, hq, hi => by
    obtain ⟨hxt, y, s1, hst, htr⟩ := htr
    obtain ⟨g1, g2, g3⟩ := hst.ok hP hq hxt hi
    exact Nat.le_trans (hst.grow hi) (jTr.grow hP n y s1 x' s' htr (by omega) g3)
theorem jBs.pos {T U : jSt} {k x y : Nat} {s : jPs} (h : jBs T k s x) (e : jfP T U) (h42 : jgI U (jm 0) 42 = nI y) (h39 : jgI U (jm 0) 39 = nI 0) : jBs U k s y := ⟨h42, by rw [e.k 43 (by omega)]; exact h.u, by rw [e.k 44 (by omega)]; exact h.w, h39, by rw [e.a]; exact h.ls, by rw [e.a]; exact h.fo, by rw [e.a, e.g]; exact h.en, by rw [e.a, e.g]; exact h.ro, by rw [e.a]; exact h.h, by rw [e.a, e.g]; exact h.it, by rw [e.a]; exact h.gf⟩
theorem jBs.go {T : jSt} {k x y : Nat} {s : jPs} (h : jBs T k s x) : jBs (jsI T (jm 0) 42 (nI y)) k s y := h.pos (jfP.sI _ _ (by omega)) (by rw [jsI_c, if_pos rfl]) (by rw [jsI_c, if_neg (by decide)]; exact h.f)
theorem jMb_begin {L : jL} (hL : jgood L) {ω : xS} {S : jSt} {sw ps wy : Nat} (hK : jLK S sw ps wy) {d z : Nat} (hd : d ≤ 40) (hu : jgI S (jm 0) 43 = nI z) : f_Mo_begin (jad L (jm 0)) (nI d) (jW L ω S) = some (jW L ω (jsA (jsA (jsA (jsA S (jm 34) d (nI 0)) (jm 35) d (nI 0)) (jm 30) d (nI 0)) (jm 37) d (nI z))) := by
  have hn : vp_nar .boolean (nI 0) = nI 0 := jnab (Nat.zero_le _)
  unfold f_Mo_begin
  simp (disch := first | omega | rfl | assumption | exact jokr (by decide) (by omega) | exact jokr4 (by omega) | exact jkt_r _ _ | exact jkt_l (by decide) | exact jfk_l (by decide) | exact jkt_t _ | exact jkt_r6 _ _ | exact jkt_t6 _ | (simp only [jok, jlen]; omega) | decide) only [jm_k hL, jm_gi hL, jm_gr hL, jm_gl hL, jm_pi hL, jm_pl hL, jn_ai hL, jn_ab hL, jn_az hL, jn_al hL, jn_ar hL, jn_an hL, jn_si hL, jn_sb hL, jn_sz hL, jn_sl hL, Option.bind_some, xc, xl, jsA_X, jsI_X, jsG_X, hK _ _, jlk, jmx, jlit, jsA_I, hn, hu]
theorem jfB_open {T : jSt} {k d : Nat} {v : Int32} : jfB k T (jsA (jsA (jsA (jsA T (jm 34) d (nI 0)) (jm 35) d (nI 0)) (jm 30) d (nI 0)) (jm 37) d v) := (((jfB.sA k T (q := 34) d (nI 0) (by omega) (by omega)).trans (jfB.sA _ _ (q := 35) d (nI 0) (by omega) (by omega))).trans (jfB.sA _ _ (q := 30) d (nI 0) (by omega) (by omega))).trans (jfB.sA _ _ (q := 37) d v (by omega) (by omega))
theorem jBs_open {T : jSt} {k x : Nat} {s : jPs} (h : jBs T k (jpT s) x) : jBs (jsA (jsA (jsA (jsA T (jm 34) (jPs.d s + 1) (nI 0)) (jm 35) (jPs.d s + 1) (nI 0)) (jm 30) (jPs.d s + 1) (nI 0)) (jm 37) (jPs.d s + 1) (nI (jPs.sz s))) k (jpO s) x := by
  refine ⟨h.x, h.u, h.w, h.f, fun p hp => ?_, fun p hp => ?_, fun e he => ?_, fun e he => ?_, ?_, fun z => absurd z (by show ¬ (0 = 1); decide), fun e he => ?_⟩
  · rw [jsA_ne (jmne (by decide)), jsA_ne (jmne (by decide)), jsA_ne (jmne (by decide)), jsA_ne (jmne (by decide))]; exact h.ls p hp
  · rw [jsA_ne (jmne (by decide)), jsA_ne (jmne (by decide)), jsA_ne (jmne (by decide)), jsA_ne (jmne (by decide))]; exact h.fo p hp
  · have he : e ≤ jPs.d s + 1 := he
    rw [jsA_ne (jmne (by decide)), jsA_ne (jmne (by decide)), jsA_ne (jmne (by decide)), jsA_c]
    show (_ ∧ (if e = jPs.d s + 1 then (0, 0, 0) else jPs.en s e) = (0, 0, 0)) ∨ (_ ∧ _ = lN (jeln (if e = jPs.d s + 1 then (0, 0, 0) else jPs.en s e)))
    by_cases c : e = jPs.d s + 1
    · left
      rw [if_pos c, if_pos c]
      exact ⟨rfl, rfl⟩
    · rw [if_neg c, if_neg c]
      exact h.en e (show e ≤ jPs.d s by omega)
  · have he : e ≤ jPs.d s + 1 := he
    rw [jsA_ne (jmne (by decide)), jsA_ne (jmne (by decide)), jsA_c, jsA_ne (jmne (by decide))]
    show (_ ∧ (if e = jPs.d s + 1 then (0, 0, 1) else jsR s e) = (0, 0, 1)) ∨ (_ ∧ _ = lN (jeln (if e = jPs.d s + 1 then (0, 0, 1) else jsR s e)))
    by_cases c : e = jPs.d s + 1
    · left
      rw [if_pos c, if_pos c]
      exact ⟨rfl, rfl⟩
    · rw [if_neg c, if_neg c]
      exact h.ro e (show e ≤ jPs.d s by omega)
  · show jgA _ (jm 30) (jPs.d s + 1) = nI 0
    rw [jsA_ne (jmne (by decide)), jsA_c, if_pos rfl]
  · have he : e ≤ jPs.d s + 1 := he
    show _ = nI (if e = jPs.d s + 1 then jPs.sz s else jPs.gf s e)
    rw [jsA_c]
    by_cases c : e = jPs.d s + 1
    · rw [if_pos c, if_pos c]
    · rw [if_neg c, if_neg c, jsA_ne (jmne (by decide)), jsA_ne (jmne (by decide)), jsA_ne (jmne (by decide))]
      exact h.gf e (show e ≤ jPs.d s by omega)
/-- an atom put down -/
def jbA (T : jSt) (k d z b : Nat) : jSt := jsI (jsA (jsG (jsA (jsA T (jm 17) (10 * k + z) (nI b)) (jm 36) d (nI z)) (jm 33) d (lN (jeln (2 ^ z, 2 ^ z, 0)))) (jm 30) d (nI 1)) (jm 0) 43 (nI (z + 1))
theorem jfB_atom {T : jSt} {k d z b : Nat} (hz : z < 10) : jfB k T (jbA T k d z b) := ((((jfB.sl k T (i := 10 * k + z) (nI b) (by omega)).trans (jfB.sA _ _ (q := 36) d (nI z) (by omega) (by omega))).trans (jfB.sG _ _ (jm 33) d _)).trans (jfB.sA _ _ (q := 30) d (nI 1) (by omega) (by omega))).trans (jfB.sI _ _ _ (by omega))
theorem jp1024 {z : Nat} (hz : z < 10) : 2 ^ z < 1024 := Nat.pow_lt_pow_right (a := 2) (n := 10) (by decide) hz
theorem jMb_204 {L : jL} (hL : jgood L) {ω : xS} {S : jSt} {sw ps wy : Nat} (hK : jLK S sw ps wy) {K7 : Nat → Int32 → Int32 → xS → Option (Int64 × xS)} {k t d z b : Nat} (hk : k < 16) (hd : d ≤ 40) (hz : z < 10) (h43 : jgI S (jm 0) 43 = nI z) (h44 : jgI S (jm 0) 44 = nI k) : f_Mo_build_204 K7 (jad L (jm 0)) (nI t) (nI d) (nI b) (jW L ω S) = K7 (jad L (jm 0)) (nI t) (nI d) (jW L ω (jbA S k d z b)) := by
  have hn : vp_nar .boolean (nI 1) = nI 1 := jnab (Nat.le_refl _)
  have hp := jp1024 hz
  have hs := jsh1 (p := z) (by omega)
  have pt : f_Mo_part (nI (2 ^ z)) (nI (2 ^ z)) (nI 0) (jW L ω (jsA (jsA S (jm 17) (10 * k + z) (nI b)) (jm 36) d (nI z))) = _ := jpart hp hp (Nat.zero_le _)
  unfold f_Mo_build_204 jbA
  generalize jeln (2 ^ z, 2 ^ z, 0) = v at pt ⊢
  generalize 2 ^ z = pz at hs pt hp
  simp (disch := first | omega | rfl | assumption | exact jokr (by decide) (by omega) | exact jokr4 (by omega) | exact jkt_r _ _ | exact jkt_l (by decide) | exact jfk_l (by decide) | exact jkt_t _ | exact jkt_r6 _ _ | exact jkt_t6 _ | (simp only [jok, jlen]; omega) | decide) only [jm_k hL, jm_gi hL, jm_gr hL, jm_gl hL, jm_pi hL, jm_pl hL, jn_ai hL, jn_ab hL, jn_az hL, jn_al hL, jn_ar hL, jn_an hL, jn_si hL, jn_sb hL, jn_sz hL, jn_sl hL, Option.bind_some, xc, xl, jsA_X, jsI_X, jsG_X, hK _ _, jlk, jmx, jlit, jmul, nI_add, jsA_I, jsG_I, h43, h44, hs, pt, hn]
theorem jBs_atom {T : jSt} {k x b : Nat} {s : jPs} (hz : jPs.sz s < 10) (h : jBs T k (jpT s) x) : jBs (jbA T k (jPs.d s) (jPs.sz s) b) k (jpA s b) x := by
  unfold jbA
  refine ⟨?_, ?_, ?_, ?_, fun p hp => ?_, fun p hp => ?_, fun e he => ?_, fun e he => ?_, ?_, fun _ => ⟨?_, ?_⟩, fun e he => ?_⟩
  · rw [jsI_c, if_neg (by decide), jsA_I, jsG_I, jsA_I, jsA_I]; exact h.x
  · rw [jsI_c, if_pos rfl]; rfl
  · rw [jsI_c, if_neg (by decide), jsA_I, jsG_I, jsA_I, jsA_I]; exact h.w
  · rw [jsI_c, if_neg (by decide), jsA_I, jsG_I, jsA_I, jsA_I]; exact h.f
  · have hp : p < jPs.sz s + 1 := hp
    rw [jsI_A, jsA_ne (jmne (by decide)), jsG_A, jsA_ne (jmne (by decide)), jsA_c]
    show _ = nI (if p = jPs.sz s then b else jPs.ls s p)
    by_cases c : p = jPs.sz s
    · rw [if_pos (by omega), if_pos c]
    · rw [if_neg (by omega), if_neg c]; exact h.ls p (show p < jPs.sz s by omega)
  · rw [jsI_A, jsA_ne (jmne (by decide)), jsG_A, jsA_ne (jmne (by decide)), jsA_ne (jmne (by decide))]; exact h.fo p hp
  · rw [jsI_A, jsA_ne (jmne (by decide)), jsG_A, jsA_ne (jmne (by decide)), jsA_ne (jmne (by decide)), jsI_G, jsA_G, jsG_o (jmne (by decide)), jsA_G, jsA_G]; exact h.en e he
  · rw [jsI_A, jsA_ne (jmne (by decide)), jsG_A, jsA_ne (jmne (by decide)), jsA_ne (jmne (by decide)), jsI_G, jsA_G, jsG_o (jmne (by decide)), jsA_G, jsA_G]; exact h.ro e he
  · show jgA _ (jm 30) (jPs.d s) = nI 1
    rw [jsI_A, jsA_c, if_pos rfl]
  · show jgG _ (jm 33) (jPs.d s) = lN (jeln (2 ^ jPs.sz s, 2 ^ jPs.sz s, 0))
    rw [jsI_G, jsA_G, jsG_c, if_pos rfl]
  · show jgA _ (jm 36) (jPs.d s) = nI (jPs.sz s)
    rw [jsI_A, jsA_ne (jmne (by decide)), jsG_A, jsA_c, if_pos rfl]
  · rw [jsI_A, jsA_ne (jmne (by decide)), jsG_A, jsA_ne (jmne (by decide)), jsA_ne (jmne (by decide))]; exact h.gf e he
/-- a group closed: from the end of its rows -/
def jbC (T : jSt) (d : Nat) (v : Int64) (g : Int32) : jSt := jsA (jsA (jsG T (jm 33) (d - 1) v) (jm 36) (d - 1) g) (jm 30) (d - 1) (nI 1)
theorem jfB_close {T : jSt} {k d : Nat} {v : Int64} {g : Int32} : jfB k T (jbC T d v g) := ((jfB.sG k T (jm 33) (d - 1) v).trans (jfB.sA _ _ (q := 36) (d - 1) g (by omega) (by omega))).trans (jfB.sA _ _ (q := 30) (d - 1) (nI 1) (by omega) (by omega))
theorem jBs_close {T : jSt} {k x : Nat} {s : jPs} (hd : 0 < jPs.d s) (h : jBs T k (jpB s) x) : jBs (jbC T (jPs.d s) (lN (jeln (jpU s))) (nI (jPs.gf s (jPs.d s)))) k (jpC s) x := by
  unfold jbC
  refine ⟨h.x, h.u, h.w, h.f, fun p hp => ?_, fun p hp => ?_, fun e he => ?_, fun e he => ?_, ?_, fun _ => ⟨?_, ?_⟩, fun e he => ?_⟩
  · rw [jsA_ne (jmne (by decide)), jsA_ne (jmne (by decide)), jsG_A]; exact h.ls p hp
  · rw [jsA_ne (jmne (by decide)), jsA_ne (jmne (by decide)), jsG_A]; exact h.fo p hp
  · have he : e ≤ jPs.d s - 1 := he
    rw [jsA_ne (jmne (by decide)), jsA_ne (jmne (by decide)), jsG_A, jsA_G, jsA_G, jsG_o (jmne (by decide))]
    have q := h.en e (show e ≤ jPs.d s by omega)
    have z : jPs.en (jpB s) e = jPs.en (jpC s) e := if_neg (show ¬ e = jPs.d s by omega)
    rw [z] at q
    exact q
  · have he : e ≤ jPs.d s - 1 := he
    rw [jsA_ne (jmne (by decide)), jsA_ne (jmne (by decide)), jsG_A, jsA_G, jsA_G, jsG_o (jmne (by decide))]
    have q := h.ro e (show e ≤ jPs.d s by omega)
    have z : jPs.ro (jpB s) e = jPs.ro (jpC s) e := if_neg (show ¬ e = jPs.d s by omega)
    rw [z] at q
    exact q
  · show jgA _ (jm 30) (jPs.d s - 1) = nI 1
    rw [jsA_c, if_pos rfl]
  · show jgG _ (jm 33) (jPs.d s - 1) = lN (jeln (jpU s))
    rw [jsA_G, jsA_G, jsG_c, if_pos rfl]
  · show jgA _ (jm 36) (jPs.d s - 1) = nI (jPs.gf s (jPs.d s))
    rw [jsA_ne (jmne (by decide)), jsA_c, if_pos rfl]
  · have he : e ≤ jPs.d s - 1 := he
    rw [jsA_ne (jmne (by decide)), jsA_ne (jmne (by decide)), jsG_A]; exact h.gf e (show e ≤ jPs.d s by omega)
/-- the item changed where it stands -/
theorem jfB_item {T : jSt} {k d : Nat} {v : Int64} : jfB k T (jsG T (jm 33) d v) := jfB.sG k T (jm 33) d v
theorem jMb_46 {x : jG} (h : jGg x) {c : Nat} (hc : c < 256) {ω : xS} : f_Mo_often_46 (lN (jeln x)) (nI c) ω = some (lN (jeln (x.1, x.2.1, if c = 43 then x.2.2 else 1)), ω) := by
  have he := h.e
  have p0 := jpart h.f h.l (Nat.zero_le 1) (ω := ω)
  have p1 := jpart h.f h.l (Nat.le_refl 1) (ω := ω)
  have p0 : f_Mo_part (nI x.1) (nI x.2.1) 0 ω = _ := p0
  have p1 : f_Mo_part (nI x.1) (nI x.2.1) 1 ω = _ := p1
  unfold f_Mo_often_46
  rw [jfirst h, Option.bind_some, jlast h, Option.bind_some, jnone h, Option.bind_some]
  by_cases e0 : x.2.2 = 0
  · rw [if_pos (show nI x.2.2 = (0 : Int32) by rw [e0]; rfl)]
    by_cases c1 : c = 43
    · rw [if_pos (show nI c = (43 : Int32) by rw [c1]; rfl), if_pos c1, p0, Option.bind_some, e0]
    · rw [if_neg (show ¬ nI c = (43 : Int32) from fun z => by rw [jlit, nI_eq (by omega) (by omega)] at z; exact c1 z), if_neg c1, p1, Option.bind_some]
  · have e1 : x.2.2 = 1 := by omega
    rw [if_neg (show ¬ nI x.2.2 = (0 : Int32) by rw [e1]; decide), p1, Option.bind_some, e1]
    by_cases c1 : c = 43
    · rw [if_pos c1]
    · rw [if_neg c1]
theorem jBs_item {T1 T : jSt} {k x : Nat} {s s1 : jPs} (h : jBs T1 k s x) (h1 : jPs.hs s = 1) (aI : jgI T = jgI T1) (aA : ∀ q, q ≠ 18 → jgA T (jm q) = jgA T1 (jm q)) (aG : jgG T = jgG T1) (hF : ∀ p, p < 10 → jgA T (jm 18) (11 * k + p) = nI (jPs.fo s1 p)) (e1 : jPs.d s1 = jPs.d s) (e2 : jPs.hs s1 = 1) (e3 : jPs.en s1 = jPs.en s) (e4 : jPs.ro s1 = jPs.ro s) (e5 : jPs.ib s1 = jPs.ib s) (e6 : jPs.gf s1 = jPs.gf s) (e7 : jPs.sz s1 = jPs.sz s) (e8 : jPs.ls s1 = jPs.ls s) : jBs (jsG T (jm 33) (jPs.d s) (lN (jeln (jPs.it s1)))) k s1 x := by
  have hh := h.h
  rw [h1] at hh
  refine ⟨?_, ?_, ?_, ?_, ?_, ?_, ?_, ?_, ?_, fun _ => ⟨?_, ?_⟩, ?_⟩
  · rw [jsG_I, aI]; exact h.x
  · rw [jsG_I, aI, e7]; exact h.u
  · rw [jsG_I, aI]; exact h.w
  · rw [jsG_I, aI]; exact h.f
  · rw [jsG_A, aA _ (by decide), e7, e8]; exact h.ls
  · rw [jsG_A]; exact hF
  · rw [jsG_A, aA _ (by decide), jsG_o (jmne (by decide)), aG, e1, e3]; exact h.en
  · rw [jsG_A, aA _ (by decide), jsG_o (jmne (by decide)), aG, e1, e4]; exact h.ro
  · rw [jsG_A, aA _ (by decide), e1, e2]; exact hh
  · rw [e1, jsG_c, if_pos rfl]
  · rw [jsG_A, aA _ (by decide), e1, e5]; exact (h.it h1).2
  · rw [jsG_A, aA _ (by decide), e1, e6]; exact h.gf
theorem jMb_look {L : jL} (hL : jgood L) {ω : xS} {S : jSt} {sw ps wy : Nat} (hK : jLK S sw ps wy) {tp : Nat → Nat} {ts x : Nat} (hT : jTm S tp ts) (hx : x < ts) : xk (jW L ω S) (jad L (jm 0)) 12 (f_Mo_look (jad L (jm 0)) (nI x) (jW L ω S)) = some (nI (tp x)) := by
  have hs := hT.s
  rw [jkm hL, jMo_look hL hK hT (by omega)]
  unfold jbv
  rw [if_pos hx]
theorem jMb_star {L : jL} (hL : jgood L) {ω : xS} {S : jSt} {sw ps wy : Nat} (hK : jLK S sw ps wy) {tp : Nat → Nat} {ts x k : Nat} {s : jPs} (hk : k < 16) (hT : jTm S tp ts) (hx : x < ts) (hi : jPi s) (h1 : jPs.hs s = 1) (hz : jPs.sz s ≤ 10) (h : jBs S k s x) (c : tp x = 42 ∨ tp x = 43) : ∃ T, f_Mo_often (jad L (jm 0)) (lN (jeln (jPs.it s))) (nI (jPs.ib s)) (jW L ω S) = some (lN (jeln (jPs.it (jpS s (if tp x = 43 then (jPs.it s).2.2 else 1)))), jW L ω T) ∧ jLK T sw ps wy ∧ jfB k S T ∧ jBs (jsG T (jm 33) (jPs.d s) (lN (jeln (jPs.it (jpS s (if tp x = 43 then (jPs.it s).2.2 else 1)))))) k (jpS s (if tp x = 43 then (jPs.it s).2.2 else 1)) (x + 1) := by
  have hgi := (hi.it h1).2.2.good hz
  have hp := h.go (y := x + 1)
  have f1 : jfB k S (jsI S (jm 0) 42 (nI (x + 1))) := jfB.sI _ _ _ (by omega)
  have hK1 := hK.of f1.x
  obtain ⟨T, a1, a2, aG, a3⟩ := jMb_join hL (ω := ω) hK1 hk hgi.l hgi.f hp.w
  have nq : ∀ q, q ≠ 18 → jgA T (jm q) = jgA (jsI S (jm 0) 42 (nI (x + 1))) (jm q) := fun q hq => a2.2.2.2 _ (fun z => jmne hq z)
  have fB : jfB k (jsI S (jm 0) 42 (nI (x + 1))) T := ⟨a2.2.2.1, a2.2.1, fun c _ _ h18 => a2.2.2.2 c h18, fun i _ => by rw [nq _ (by decide)], fun i hi => by rw [a3, if_neg (by omega)], fun c _ => by rw [a2.1], fun q _ => by rw [a2.1]⟩
  refine ⟨T, ?_, hK1.of a2.2.2.1, f1.trans fB, jBs_item hp h1 a2.1 nq aG (fun p hp' => ?_) rfl rfl rfl rfl rfl rfl rfl rfl⟩
  · have e46 := jMb_46 hgi (c := tp x) (by omega) (ω := jW L ω T)
    unfold f_Mo_often
    rw [jg42 hL h.x, Option.bind_some, jMb_look hL hK hT hx, Option.bind_some, if_neg (show ¬ nI (tp x) = (123 : Int32) from fun z => by rw [jlit, nI_eq (by omega) (by omega)] at z; omega), Option.bind_some, jp42 hL, Option.bind_some, show nI x + 1 = nI (x + 1) by rw [jlit, nI_add], if_neg (show ¬ nI (tp x) = (63 : Int32) from fun z => by rw [jlit, nI_eq (by omega) (by omega)] at z; omega), jlast hgi, Option.bind_some, jfirst hgi, Option.bind_some, jkm hL, a1, Option.bind_some]
    exact e46
  · rw [a3]; exact jfol_M (x := jPs.it s) (y := jPs.it s) hp.fo hp'
theorem jMb_once {L : jL} (hL : jgood L) {ω : xS} {S : jSt} {sw ps wy : Nat} (hK : jLK S sw ps wy) {tp : Nat → Nat} {ts x k : Nat} {s : jPs} (hT : jTm S tp ts) (hx : x < ts) (hi : jPi s) (h1 : jPs.hs s = 1) (hz : jPs.sz s ≤ 10) (h : jBs S k s x) (c : tp x = 63) : f_Mo_often (jad L (jm 0)) (lN (jeln (jPs.it s))) (nI (jPs.ib s)) (jW L ω S) = some (lN (jeln (jPs.it (jpQ s))), jW L ω (jsI S (jm 0) 42 (nI (x + 1)))) ∧ jBs (jsG (jsI S (jm 0) 42 (nI (x + 1))) (jm 33) (jPs.d s) (lN (jeln (jPs.it (jpQ s))))) k (jpQ s) (x + 1) := by
  have hgi := (hi.it h1).2.2.good hz
  have hp := h.go (y := x + 1)
  refine ⟨?_, jBs_item hp h1 rfl (fun _ _ => rfl) rfl hp.fo rfl rfl rfl rfl rfl rfl rfl rfl⟩
  have e46 := jMb_46 hgi (c := tp x) (by omega) (ω := jW L ω (jsI S (jm 0) 42 (nI (x + 1))))
  rw [if_neg (by omega)] at e46
  unfold f_Mo_often
  rw [jg42 hL h.x, Option.bind_some, jMb_look hL hK hT hx, Option.bind_some, if_neg (show ¬ nI (tp x) = (123 : Int32) from fun z => by rw [jlit, nI_eq (by omega) (by omega)] at z; omega), Option.bind_some, jp42 hL, Option.bind_some, show nI x + 1 = nI (x + 1) by rw [jlit, nI_add], if_pos (show nI (tp x) = (63 : Int32) by rw [c]; rfl)]
  exact e46
