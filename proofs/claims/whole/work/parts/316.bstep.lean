/-! the reference's build: braces as a whole, a unit, all units, the build -/
theorem jMb_braces {L : jL} (hL : jgood L) {ω : xS} {S : jSt} {sw ps wy : Nat} (hK : jLK S sw ps wy) {tp : Nat → Nat} {ts x k a b : Nat} {s : jPs} (hk : k < 16) (hT : jTm S tp ts) (hx : x + 4 < ts) (hi : jPi s) (h1 : jPs.hs s = 1) (ha : a ≤ 9) (hb1 : 1 ≤ b) (hb9 : b ≤ 9) (hfit : jPs.ib s + b * jwd s ≤ 10) (h : jBs S k s x) (c : tp x = 123) (ca : tp (x + 1) = a + 48) (cb : tp (x + 3) = b + 48) : ∃ T, f_Mo_often (jad L (jm 0)) (lN (jeln (jPs.it s))) (nI (jPs.ib s)) (jW L ω S) = some (lN (jeln (jWk s a (b - 1))), jW L ω T) ∧ jLK T sw ps wy ∧ jfB k S T ∧ jBs (jsG T (jm 33) (jPs.d s) (lN (jeln (jWk s a (b - 1))))) k (jpR s a b) (x + 5) := by
  obtain ⟨i1, i2, i3⟩ := hi.it h1
  have ew : jPs.ib s + jwd s = jPs.sz s := by unfold jwd; omega
  have hm3 : 1 * jwd s ≤ b * jwd s := Nat.mul_le_mul_right _ hb1
  have hsz : jPs.sz s ≤ 10 := by omega
  have hgi := i3.good hsz
  have hp := h.go (y := x + 5)
  have hts := hT.s
  have f1 : jfB k S (jsI S (jm 0) 42 (nI (x + 5))) := jfB.sI _ _ _ (by omega)
  have hK1 := hK.of f1.x
  have b0 : jBr (jsI S (jm 0) 42 (nI (x + 5))) (jsI S (jm 0) 42 (nI (x + 5))) k s a 1 := by
    refine ⟨jfB.refl _ _, ?_, fun _ _ => rfl, fun _ _ _ => rfl, rfl, fun p hp' => ?_, hp.fo⟩
    · rw [Nat.one_mul, ew]; exact hp.u
    · rw [Nat.one_mul, ew] at hp'
      unfold jLs
      rw [if_neg (by omega)]
      exact hp.ls p hp'
  obtain ⟨n, T, e1, a1⟩ := jlpI (fun n i (T : jSt) => f_Mo_often_170 n (jad L (jm 0)) (lN (jeln (jPs.it s))) (nI (jPs.ib s)) (nI a) (nI b) (nI (jwd s)) (nI (2 ^ jPs.sz s - 2 ^ jPs.ib s)) (lN (jeln (jWk s a (i - 1)))) (nI i) (jW L ω T)) (fun i T => jBr (jsI S (jm 0) 42 (nI (x + 5))) T k s a i) (lo := 1) (hi := b) hb1 (by omega) (fun n i T q1 q2 q3 => jMb_turn hL (ω := ω) (hK1.of q3.b.x) hk hi h1 ha hb9 q1 q2 hfit hp.w q3) _ b0
  have e1 : f_Mo_often_170 xFU (jad L (jm 0)) (lN (jeln (jPs.it s))) (nI (jPs.ib s)) (nI a) (nI b) (nI (jwd s)) (nI (2 ^ jPs.sz s - 2 ^ jPs.ib s)) (lN (jeln (jshx s a 0))) 1 (jW L ω (jsI S (jm 0) 42 (nI (x + 5)))) = f_Mo_often_170 (n + 1) (jad L (jm 0)) (lN (jeln (jPs.it s))) (nI (jPs.ib s)) (nI a) (nI b) (nI (jwd s)) (nI (2 ^ jPs.sz s - 2 ^ jPs.ib s)) (lN (jeln (jWk s a (b - 1)))) (nI b) (jW L ω T) := e1
  refine ⟨T, ?_, hK1.of a1.b.x, f1.trans a1.b, ?_⟩
  · have u43 := hp.u
    have g43 : xgi (jW L ω (jsI S (jm 0) 42 (nI (x + 5)))) (jad L (jm 0)) 12 43 = some (nI (jPs.sz s)) := by simp (disch := first | omega | rfl | assumption | exact jokr (by decide) (by omega) | exact jokr4 (by omega) | exact jkt_r _ _ | exact jkt_l (by decide) | exact jfk_l (by decide) | exact jkt_t _ | exact jkt_r6 _ _ | exact jkt_t6 _ | (simp only [jok, jlen]; omega) | decide) only [jm_gi hL, u43]
    have hes := hgi.e
    have z1 : 2 ^ jPs.ib s ≤ 2 ^ jPs.sz s := Nat.pow_le_pow_right (by decide) (by omega)
    have p0 : ∀ ω, f_Mo_part (nI (jPs.it s).1) (nI (jPs.it s).2.1) 0 ω = some (lN (jeln ((jPs.it s).1, (jPs.it s).2.1, 0))) := fun ω => jpart hgi.f hgi.l (Nat.zero_le _)
    have p1 : ∀ ω, f_Mo_part (nI (jPs.it s).1) (nI (jPs.it s).2.1) 1 ω = some (lN (jeln ((jPs.it s).1, (jPs.it s).2.1, 1))) := fun ω => jpart hgi.f hgi.l (Nat.le_refl _)
    have em : ((1 : Int32) <<< (nI (jPs.sz s) &&& 31)) - ((1 : Int32) <<< (nI (jPs.ib s) &&& 31)) = nI (2 ^ jPs.sz s - 2 ^ jPs.ib s) := by
      rw [show (1 : Int32) = nI 1 from rfl, show (31 : Int32) = nI 31 from rfl, jsh1 (by omega), jsh1 (by omega), jsub z1]
    have ew2 : nI (jPs.sz s) - nI (jPs.ib s) = nI (jwd s) := jsub (by omega)
    have ea : nI (tp (x + 1)) - 48 = nI a := by rw [ca, jlit, jsub (by omega), Nat.add_sub_cancel]
    have eb : nI (tp (x + 3)) - 48 = nI b := by rw [cb, jlit, jsub (by omega), Nat.add_sub_cancel]
    have fin : f_Mo_often_170 (n + 1) (jad L (jm 0)) (lN (jeln (jPs.it s))) (nI (jPs.ib s)) (nI a) (nI b) (nI (jwd s)) (nI (2 ^ jPs.sz s - 2 ^ jPs.ib s)) (lN (jeln (jWk s a (b - 1)))) (nI b) (jW L ω T) = some (lN (jeln (jWk s a (b - 1))), jW L ω T) := by
      rw [f_Mo_often_170, if_pos ((nI_leI (by omega) (by omega)).mpr (Nat.le_refl _))]
    rw [jshx0] at e1
    unfold f_Mo_often
    rw [jg42 hL h.x, Option.bind_some, jMb_look hL hK hT (by omega), Option.bind_some, if_pos (show nI (tp x) = (123 : Int32) by rw [c]; rfl), Option.bind_some, show nI x + 1 = nI (x + 1) by rw [jlit, nI_add], jMb_look hL hK hT (by omega), Option.bind_some, Option.bind_some, show nI x + 3 = nI (x + 3) by rw [jlit, nI_add], jMb_look hL hK hT (by omega), Option.bind_some, Option.bind_some, show nI x + 5 = nI (x + 5) by rw [jlit, nI_add], jp42 hL, Option.bind_some, g43, Option.bind_some, Option.bind_some, jfirst hgi, Option.bind_some, jlast hgi, Option.bind_some, jnone hgi, Option.bind_some, em, ew2, ea, eb]
    by_cases c0 : (jPs.it s).2.2 = 0
    · rw [if_pos (show nI (jPs.it s).2.2 = (0 : Int32) by rw [c0]; rfl)]
      by_cases cz : a = 0
      · rw [if_pos (show nI a = (0 : Int32) by rw [cz]; rfl), p1, Option.bind_some]
        rw [if_pos (Or.inr (by omega))] at e1
        exact e1.trans fin
      · rw [if_neg (show ¬ nI a = (0 : Int32) from fun z => by rw [jlit, nI_eq (by omega) (by omega)] at z; exact cz z), p0, Option.bind_some]
        rw [if_neg (by omega)] at e1
        exact e1.trans fin
    · rw [if_neg (show ¬ nI (jPs.it s).2.2 = (0 : Int32) by rw [show (jPs.it s).2.2 = 1 by omega]; decide), p1, Option.bind_some]
      rw [if_pos (Or.inl (by omega))] at e1
      exact e1.trans fin
  · have hh := hp.h
    rw [h1] at hh
    refine ⟨?_, ?_, ?_, ?_, ?_, ?_, ?_, ?_, ?_, fun _ => ⟨?_, ?_⟩, ?_⟩
    · rw [jsG_I, a1.I _ (by decide)]; exact hp.x
    · rw [jsG_I]; exact a1.u
    · rw [jsG_I, a1.I _ (by decide)]; exact hp.w
    · rw [jsG_I, a1.I _ (by decide)]; exact hp.f
    · rw [jsG_A]; exact a1.ls
    · rw [jsG_A]; exact a1.fo
    · rw [jsG_A, a1.A _ (by decide) (by decide), jsG_o (jmne (by decide)), a1.G]; exact hp.en
    · rw [jsG_A, a1.A _ (by decide) (by decide), jsG_o (jmne (by decide)), a1.G]; exact hp.ro
    · rw [jsG_A, a1.A _ (by decide) (by decide)]; exact hh
    · show jgG _ (jm 33) (jPs.d s) = lN (jeln (jWk s a (b - 1)))
      rw [jsG_c, if_pos rfl]
    · rw [jsG_A, a1.A _ (by decide) (by decide)]; exact (hp.it h1).2
    · rw [jsG_A, a1.A _ (by decide) (by decide)]; exact hp.gf
theorem jMb_closeW {L : jL} (hL : jgood L) {ω : xS} {S : jSt} {sw ps wy : Nat} (hK : jLK S sw ps wy) {t d : Nat} {v : Int64} {g : Int32} (K7 : Nat → Int32 → Int32 → xS → Option (Int64 × xS)) (hd0 : 0 < d) (hd : d ≤ 40) (hv : jgG S (jm 31) d = v) (hg : jgA S (jm 37) d = g) : ((xgr (jW L ω S) (jad L (jm 0)) 12 51).bind fun t53 =>
          (xgr (jW L ω S) (jad L (jm 0)) 12 49).bind fun t54 =>
          (xal (jW L ω S) t54 ((nI d + (-1)) + 1)).bind fun t55 =>
          (xsl (jW L ω S) t53 (nI d + (-1)) t55).bind fun w56 =>
          (xgr w56 (jad L (jm 0)) 12 54).bind fun t57 =>
          (xgr w56 (jad L (jm 0)) 12 55).bind fun t58 =>
          (xai w56 t58 ((nI d + (-1)) + 1)).bind fun t59 =>
          (xsi w56 t57 (nI d + (-1)) t59).bind fun w60 =>
          (xgr w60 (jad L (jm 0)) 12 48).bind fun t61 =>
          (xsz w60 t61 (nI d + (-1)) 1).bind fun w62 =>
          K7 (jad L (jm 0)) (nI t) (nI d + (-1)) w62) = K7 (jad L (jm 0)) (nI t) (nI (d - 1)) (jW L ω (jbC S d v g)) := by
  have em1 : nI d + -1 = nI (d - 1) := by
    rw [show (-1 : Int32) = -nI 1 from rfl]; exact jneg1 hd0
  have ep1 : nI (d - 1) + 1 = nI d := by rw [jlit, nI_add]; congr 1; omega
  have hn : vp_nar .boolean (nI 1) = nI 1 := jnab (Nat.le_refl _)
  have g2 : jgA (jsG S (jm 33) (d - 1) v) (jm 37) d = g := hg
  unfold jbC
  rw [em1, ep1, show (1 : Int32) = nI 1 from rfl]
  simp (disch := first | omega | rfl | assumption | exact jokr (by decide) (by omega) | exact jokr4 (by omega) | exact jkt_r _ _ | exact jkt_l (by decide) | exact jfk_l (by decide) | exact jkt_t _ | exact jkt_r6 _ _ | exact jkt_t6 _ | (simp only [jok, jlen]; omega) | decide) only [jm_k hL, jm_gi hL, jm_gr hL, jm_gl hL, jm_pi hL, jm_pl hL, jn_ai hL, jn_ab hL, jn_az hL, jn_al hL, jn_ar hL, jn_an hL, jn_si hL, jn_sb hL, jn_sz hL, jn_sl hL, Option.bind_some, xc, xl, jsA_X, jsI_X, jsG_X, hK _ _, jlk, jmx, hv, g2, hn]
theorem jMb_step {L : jL} (hL : jgood L) {ω : xS} {S : jSt} {sw ps wy : Nat} (hK : jLK S sw ps wy) {tp : Nat → Nat} {ts q t x y n k : Nat} {s s1 : jPs} (hk : k < 16) (hT : jTm S tp ts) (hP : jPx tp ts q t) (hq : q < x) (hx : x < t) (hi : jPi s) (hd : jPs.d s < 40) (hz1 : jPs.sz s1 ≤ 10) (h : jBs S k s x) (hst : jSt1 tp ts x s y s1) : ∃ T : jSt, f_Mo_build_7 (n + 1) (jad L (jm 0)) (nI t) (nI (jPs.d s)) (jW L ω S) = f_Mo_build_7 n (jad L (jm 0)) (nI t) (nI (jPs.d s1)) (jW L ω T) ∧ jfB k S T ∧ jBs T k s1 y := by
  have hb := hP.b
  have ht := hP.t
  have hs15 := hP.s
  have hbb := hb x
  have hgr := hst.grow hi
  have hz : jPs.sz s ≤ 10 := by omega
  have lk := jMb_look hL (ω := ω) hK hT (show x < ts by omega)
  have hle : ¬ nI t ≤ nI x := fun z => by rw [nI_leI (by omega) (by omega)] at z; omega
  have go1 := h.go (y := x + 1)
  have f1 : jfB k S (jsI S (jm 0) 42 (nI (x + 1))) := jfB.sI _ _ _ (by omega)
  have hK1 := hK.of f1.x
  have ex1 : nI x + 1 = nI (x + 1) := by rw [jlit, nI_add]
  have ed1 : nI (jPs.d s) + 1 = nI (jPs.d s + 1) := by rw [jlit, nI_add]
  have nb : ∀ v, tp x ≠ v → v < 256 → ¬ nI (tp x) = nI v := fun v hv hv2 z => by rw [nI_eq (by omega) (by omega)] at z; exact hv z
  -- an atom
  have pre : tp x ≠ 40 → tp x ≠ 41 → tp x ≠ 124 → (jltr (tp x) = true ∨ tp x = 46 ∨ tp x = 91) → ∃ T1, f_Mo_build_7 (n + 1) (jad L (jm 0)) (nI t) (nI (jPs.d s)) (jW L ω S) = (if nI (tp x) = 91 then (xc (xk (jW L ω T1) (jad L (jm 0)) 12 (f_Mo_set0 (jad L (jm 0)) (jW L ω T1))) fun t41 w42 => f_Mo_build_204 (f_Mo_build_7 n) (jad L (jm 0)) (nI t) (nI (jPs.d s)) t41 w42) else (if nI (tp x) = 46 then ((xgi (jW L ω T1) (jad L (jm 0)) 12 42).bind fun t38 => (xp (jW L ω T1) (jad L (jm 0)) 12 42 (.int (t38 + 1))).bind fun w39 => f_Mo_build_204 (f_Mo_build_7 n) (jad L (jm 0)) (nI t) (nI (jPs.d s)) 511 w39) else ((f_Mo_letterOf (nI (tp x)) (jW L ω T1)).bind fun t35 => (xgi (jW L ω T1) (jad L (jm 0)) 12 42).bind fun t36 => (xp (jW L ω T1) (jad L (jm 0)) 12 42 (.int (t36 + 1))).bind fun w37 => f_Mo_build_204 (f_Mo_build_7 n) (jad L (jm 0)) (nI t) (nI (jPs.d s)) ((1 : Int32) <<< (t35 &&& 31)) w37))) ∧ jfB k S T1 ∧ jBs T1 k (jpT s) x := by
    intro c1 c2 c3 ca
    obtain ⟨T1, a1, a2, a3, a4⟩ := jMb_settle hL (ω := ω) hK hk hi hz (by omega) h
    refine ⟨T1, ?_, a2, a3⟩
    have ca' : jltr (tp x) = true ∨ tp x = 46 ∨ tp x = 91 ∨ tp x = 40 := by
      rcases ca with z | z | z
      · exact Or.inl z
      · exact Or.inr (Or.inl z)
      · exact Or.inr (Or.inr (Or.inl z))
    rw [f_Mo_build_7, jg42 hL h.x, Option.bind_some, if_neg hle, Option.bind_some, lk, Option.bind_some, if_neg (show ¬ nI (tp x) = (40 : Int32) from nb 40 c1 (by omega)), if_neg (show ¬ nI (tp x) = (41 : Int32) from nb 41 c2 (by omega)), if_neg (show ¬ nI (tp x) = (124 : Int32) from nb 124 c3 (by omega)), jMc_begins hb (show x < ts by omega), Option.bind_some, if_pos ca', if_neg jz10, jkm hL, a1, Option.bind_some]
  -- a place put down
  have put : ∀ (T1 : jSt) (b y : Nat), jPs.sz s < 10 → jfB k S T1 → jBs T1 k (jpT s) y → f_Mo_build_204 (f_Mo_build_7 n) (jad L (jm 0)) (nI t) (nI (jPs.d s)) (nI b) (jW L ω T1) = f_Mo_build_7 n (jad L (jm 0)) (nI t) (nI (jPs.d (jpA s b))) (jW L ω (jbA T1 k (jPs.d s) (jPs.sz s) b)) ∧ jfB k S (jbA T1 k (jPs.d s) (jPs.sz s) b) ∧ jBs (jbA T1 k (jPs.d s) (jPs.sz s) b) k (jpA s b) y := by
    intro T1 b y hz9 b1 b2
    exact ⟨jMb_204 hL (hK.of b1.x) hk (by omega) hz9 b2.u b2.w, b1.trans (jfB_atom hz9), jBs_atom hz9 b2⟩
  -- a sign behind the item
  have sgn : jPs.hs s = 1 → (tp x = 42 ∨ tp x = 43 ∨ tp x = 63 ∨ tp x = 123) → ∀ (g : jG) (T : jSt), f_Mo_often (jad L (jm 0)) (lN (jeln (jPs.it s))) (nI (jPs.ib s)) (jW L ω S) = some (lN (jeln g), jW L ω T) → jLK T sw ps wy → f_Mo_build_7 (n + 1) (jad L (jm 0)) (nI t) (nI (jPs.d s)) (jW L ω S) = f_Mo_build_7 n (jad L (jm 0)) (nI t) (nI (jPs.d s)) (jW L ω (jsG T (jm 33) (jPs.d s) (lN (jeln g)))) := by
    intro h1 cs g T e1 hKT
    obtain ⟨it1, it2⟩ := h.it h1
    have g51 : xgr (jW L ω S) (jad L (jm 0)) 12 51 = some (jad L (jm 33)) := by simp (disch := first | omega | rfl | assumption | exact jokr (by decide) (by omega) | exact jokr4 (by omega) | exact jkt_r _ _ | exact jkt_l (by decide) | exact jfk_l (by decide) | exact jkt_t _ | exact jkt_r6 _ _ | exact jkt_t6 _ | (simp only [jok, jlen]; omega) | decide) only [jm_k hL, jm_gi hL, jm_gr hL, jm_gl hL, jm_pi hL, jm_pl hL, jn_ai hL, jn_ab hL, jn_az hL, jn_al hL, jn_ar hL, jn_an hL, jn_si hL, jn_sb hL, jn_sz hL, jn_sl hL, Option.bind_some, xc, xl, jsA_X, jsI_X, jsG_X, hK _ _, jlk, jmx]
    have g54 : xgr (jW L ω S) (jad L (jm 0)) 12 54 = some (jad L (jm 36)) := by simp (disch := first | omega | rfl | assumption | exact jokr (by decide) (by omega) | exact jokr4 (by omega) | exact jkt_r _ _ | exact jkt_l (by decide) | exact jfk_l (by decide) | exact jkt_t _ | exact jkt_r6 _ _ | exact jkt_t6 _ | (simp only [jok, jlen]; omega) | decide) only [jm_k hL, jm_gi hL, jm_gr hL, jm_gl hL, jm_pi hL, jm_pl hL, jn_ai hL, jn_ab hL, jn_az hL, jn_al hL, jn_ar hL, jn_an hL, jn_si hL, jn_sb hL, jn_sz hL, jn_sl hL, Option.bind_some, xc, xl, jsA_X, jsI_X, jsG_X, hK _ _, jlk, jmx]
    have cn : ¬ (jltr (tp x) = true ∨ tp x = 46 ∨ tp x = 91 ∨ tp x = 40) := fun z => by
      rcases z with z | z | z | z
      · have z : tp x = 45 ∨ (97 ≤ tp x ∧ tp x ≤ 104) := of_decide_eq_true z
        omega
      · omega
      · omega
      · omega
    have wr : xsl (jW L ω T) (jad L (jm 33)) (nI (jPs.d s)) (lN (jeln g)) = some (jW L ω (jsG T (jm 33) (jPs.d s) (lN (jeln g)))) := by
      have hK := hKT
      generalize lN (jeln g) = v
      simp (disch := first | omega | rfl | assumption | exact jokr (by decide) (by omega) | exact jokr4 (by omega) | exact jkt_r _ _ | exact jkt_l (by decide) | exact jfk_l (by decide) | exact jkt_t _ | exact jkt_r6 _ _ | exact jkt_t6 _ | (simp only [jok, jlen]; omega) | decide) only [jm_k hL, jm_gi hL, jm_gr hL, jm_gl hL, jm_pi hL, jm_pl hL, jn_ai hL, jn_ab hL, jn_az hL, jn_al hL, jn_ar hL, jn_an hL, jn_si hL, jn_sb hL, jn_sz hL, jn_sl hL, Option.bind_some, xc, xl, jsA_X, jsI_X, jsG_X, hK _ _, jlk, jmx]
    have v33 : xal (jW L ω S) (jad L (jm 33)) (nI (jPs.d s)) = some (lN (jeln (jPs.it s))) := by
      generalize lN (jeln (jPs.it s)) = v at it1 ⊢
      simp (disch := first | omega | rfl | assumption | exact jokr (by decide) (by omega) | exact jokr4 (by omega) | exact jkt_r _ _ | exact jkt_l (by decide) | exact jfk_l (by decide) | exact jkt_t _ | exact jkt_r6 _ _ | exact jkt_t6 _ | (simp only [jok, jlen]; omega) | decide) only [jm_k hL, jm_gi hL, jm_gr hL, jm_gl hL, jm_pi hL, jm_pl hL, jn_ai hL, jn_ab hL, jn_az hL, jn_al hL, jn_ar hL, jn_an hL, jn_si hL, jn_sb hL, jn_sz hL, jn_sl hL, Option.bind_some, xc, xl, jsA_X, jsI_X, jsG_X, hK _ _, jlk, jmx, it1]
    have v36 : xai (jW L ω S) (jad L (jm 36)) (nI (jPs.d s)) = some (nI (jPs.ib s)) := by simp (disch := first | omega | rfl | assumption | exact jokr (by decide) (by omega) | exact jokr4 (by omega) | exact jkt_r _ _ | exact jkt_l (by decide) | exact jfk_l (by decide) | exact jkt_t _ | exact jkt_r6 _ _ | exact jkt_t6 _ | (simp only [jok, jlen]; omega) | decide) only [jm_k hL, jm_gi hL, jm_gr hL, jm_gl hL, jm_pi hL, jm_pl hL, jn_ai hL, jn_ab hL, jn_az hL, jn_al hL, jn_ar hL, jn_an hL, jn_si hL, jn_sb hL, jn_sz hL, jn_sl hL, Option.bind_some, xc, xl, jsA_X, jsI_X, jsG_X, hK _ _, jlk, jmx, it2]
    rw [f_Mo_build_7, jg42 hL h.x, Option.bind_some, if_neg hle, Option.bind_some, lk, Option.bind_some, if_neg (show ¬ nI (tp x) = (40 : Int32) from nb 40 (by omega) (by omega)), if_neg (show ¬ nI (tp x) = (41 : Int32) from nb 41 (by omega) (by omega)), if_neg (show ¬ nI (tp x) = (124 : Int32) from nb 124 (by omega) (by omega)), jMc_begins hb (show x < ts by omega), Option.bind_some, if_neg cn, if_pos rfl, g51, Option.bind_some, Option.bind_some, v33, Option.bind_some, g54, Option.bind_some, v36, Option.bind_some, jkm hL, e1]
    simp only [xc]
    rw [wr, Option.bind_some]
  rcases hst with ⟨b, ha, rfl⟩ | ⟨c, rfl, rfl⟩ | ⟨h1, c, rfl, rfl⟩ | ⟨h1, c, hd0, rfl, rfl⟩ | ⟨h1, r1, c, rfl, rfl⟩ | ⟨h1, r1, c, rfl, rfl⟩ | ⟨h1, r1, c, rfl, rfl⟩ | ⟨h1, r1, c, hbr, rfl, rfl⟩
  · have hz9 : jPs.sz s < 10 := by
      have : jPs.sz s + 1 ≤ 10 := hz1
      omega
    rcases ha with ⟨c, ho, rfl, rfl⟩ | ⟨c, rfl, rfl⟩ | ⟨c, rfl, rfl⟩
    · obtain ⟨T1, e1, e2, e3⟩ := pre (by omega) (by omega) (by omega) (Or.inr (Or.inr c))
      obtain ⟨T2, v, b1, b2, b3, _⟩ := jMp_set hL (ω := ω) (hK.of e2.x) (hT.fB e2) hP hq hx e3.x e3.f
      obtain ⟨v1, v2, v3⟩ := b3 ho
      obtain ⟨p1, p2, p3⟩ := put T2 (jcL tp ts x) (jcE tp ts x + 1) hz9 (e2.trans b2.B) (e3.pos b2 v3 v2)
      refine ⟨_, ?_, p2, p3⟩
      rw [e1, if_pos (show nI (tp x) = (91 : Int32) by rw [c]; rfl), jkm hL, b1, v1]
      simp only [xc]
      exact p1
    · obtain ⟨T1, e1, e2, e3⟩ := pre (by omega) (by omega) (by omega) (Or.inr (Or.inl c))
      obtain ⟨p1, p2, p3⟩ := put (jsI T1 (jm 0) 42 (nI (x + 1))) 511 (x + 1) hz9 (e2.trans (jfB.sI _ _ _ (by omega))) e3.go
      refine ⟨_, ?_, p2, p3⟩
      rw [e1, if_neg (show ¬ nI (tp x) = (91 : Int32) from nb 91 (by omega) (by omega)), if_pos (show nI (tp x) = (46 : Int32) by rw [c]; rfl), jg42 hL e3.x, Option.bind_some, jp42 hL, Option.bind_some, ex1]
      exact p1
    · have c' : tp x = 45 ∨ (97 ≤ tp x ∧ tp x ≤ 104) := of_decide_eq_true c
      obtain ⟨T1, e1, e2, e3⟩ := pre (by omega) (by omega) (by omega) (Or.inl c)
      obtain ⟨p1, p2, p3⟩ := put (jsI T1 (jm 0) 42 (nI (x + 1))) (jlb (tp x)) (x + 1) hz9 (e2.trans (jfB.sI _ _ _ (by omega))) e3.go
      refine ⟨_, ?_, p2, p3⟩
      have hl := jMo_letterOf (tp := tp) (ts := ts) (i := x) hb (ω := jW L ω T1)
      have hbe : jbv tp ts x = nI (tp x) := by unfold jbv; rw [if_pos (by omega)]
      have ev : (1 : Int32) <<< ((if tp x = 45 then nI 0 else nI (tp x - 96)) &&& 31) = nI (jlb (tp x)) := by
        rw [show (1 : Int32) = nI 1 from rfl, show (31 : Int32) = nI 31 from rfl]
        unfold jlb
        by_cases c5 : tp x = 45
        · rw [if_pos c5, if_pos c5, jsh1 (by omega)]
        · rw [if_neg c5, if_neg c5, if_pos (by omega), jsh1 (by omega)]
      rw [hbe, if_pos (show x < ts ∧ jltr (tp x) = true from ⟨by omega, c⟩)] at hl
      rw [e1, if_neg (show ¬ nI (tp x) = (91 : Int32) from nb 91 (by omega) (by omega)), if_neg (show ¬ nI (tp x) = (46 : Int32) from nb 46 (by omega) (by omega)), hl, Option.bind_some, jg42 hL e3.x, Option.bind_some, jp42 hL, Option.bind_some, ex1, ev]
      exact p1
  · obtain ⟨T1, a1, a2, a3, a4⟩ := jMb_settle hL (ω := ω) hK1 hk hi hz (by omega) go1
    have e2 := jMb_begin hL (ω := ω) (hK1.of a2.x) (d := jPs.d s + 1) (by omega) a3.u
    refine ⟨_, ?_, (f1.trans a2).trans jfB_open, jBs_open a3⟩
    rw [f_Mo_build_7, jg42 hL h.x, Option.bind_some, if_neg hle, Option.bind_some, lk, Option.bind_some, if_pos (show nI (tp x) = (40 : Int32) by rw [c]; rfl), Option.bind_some, jp42 hL, Option.bind_some, ex1, jkm hL, a1, Option.bind_some, ed1, jkm hL, e2, Option.bind_some]
    rfl
  · obtain ⟨T1, a1, a2, a3, a4⟩ := jMb_finish hL (ω := ω) hK1 hk hi hz (by omega) h1 go1
    refine ⟨T1, ?_, f1.trans a2, a3⟩
    rw [f_Mo_build_7, jg42 hL h.x, Option.bind_some, if_neg hle, Option.bind_some, lk, Option.bind_some, if_neg (show ¬ nI (tp x) = (40 : Int32) from nb 40 (by omega) (by omega)), if_neg (show ¬ nI (tp x) = (41 : Int32) from nb 41 (by omega) (by omega)), if_pos (show nI (tp x) = (124 : Int32) by rw [c]; rfl), Option.bind_some, jp42 hL, Option.bind_some, ex1, jkm hL, a1, Option.bind_some]
    rfl
  · obtain ⟨T1, a1, a2, a3, a4⟩ := jMb_finish hL (ω := ω) hK1 hk hi hz (by omega) h1 go1
    have e2 := jMb_closeW hL (ω := ω) (S := T1) (hK1.of a2.x) (t := t) (f_Mo_build_7 n) hd0 (by omega) a4 (a3.gf (jPs.d s) (Nat.le_refl _))
    refine ⟨_, ?_, (f1.trans a2).trans jfB_close, jBs_close hd0 a3⟩
    rw [f_Mo_build_7, jg42 hL h.x, Option.bind_some, if_neg hle, Option.bind_some, lk, Option.bind_some, if_neg (show ¬ nI (tp x) = (40 : Int32) from nb 40 (by omega) (by omega)), if_pos (show nI (tp x) = (41 : Int32) by rw [c]; rfl), Option.bind_some, jp42 hL, Option.bind_some, ex1, jkm hL, a1, Option.bind_some]
    exact e2
  · obtain ⟨T, e1, e2, e3, e4⟩ := jMb_star hL (ω := ω) hK hk hT (show x < ts by omega) hi h1 hz h (Or.inl c)
    rw [if_neg (show ¬ tp x = 43 by omega)] at e1 e4
    exact ⟨_, sgn h1 (Or.inl c) _ T e1 e2, e3.trans jfB_item, e4⟩
  · obtain ⟨T, e1, e2, e3, e4⟩ := jMb_star hL (ω := ω) hK hk hT (show x < ts by omega) hi h1 hz h (Or.inr c)
    rw [if_pos c] at e1 e4
    exact ⟨_, sgn h1 (Or.inr (Or.inl c)) _ T e1 e2, e3.trans jfB_item, e4⟩
  · obtain ⟨e1, e4⟩ := jMb_once hL (ω := ω) hK hT (show x < ts by omega) hi h1 hz h c
    exact ⟨_, sgn h1 (Or.inr (Or.inr (Or.inl c))) _ _ e1 hK1, f1.trans jfB_item, e4⟩
  · obtain ⟨d1, d2, d3, d4, d5⟩ := jbrF_ok hbr
    have x1 : x + 1 < t := hP.in (by omega) (by omega) (by omega)
    have x2 : x + 2 < t := hP.in (by omega) (by omega) (by omega)
    have x3 : x + 3 < t := hP.in (by omega) (by omega) (by omega)
    have x4 : x + 4 < t := hP.in (by omega) (by omega) (by omega)
    obtain ⟨T, e1, e2, e3, e4⟩ := jMb_braces hL (ω := ω) hK (a := tp (x + 1) - 48) (b := tp (x + 3) - 48) hk hT (by omega) hi h1 (by omega) (by omega) (by omega) hz1 h c (by omega) (by omega)
    exact ⟨_, sgn h1 (Or.inr (Or.inr (Or.inr c))) _ T e1 e2, e3.trans jfB_item, e4⟩
theorem jMb_units {L : jL} (hL : jgood L) {ω : xS} {S : jSt} {sw ps wy : Nat} (hK : jLK S sw ps wy) {tp : Nat → Nat} {ts q t k : Nat} (hk : k < 16) (hP : jPx tp ts q t) : ∀ n m x (S1 : jSt) (s : jPs) x' s', jTr tp ts t n x s x' s' → q < x → jPs.d s + q + 1 ≤ x → jfB k S S1 → jTm S1 tp ts → jPi s → jPs.sz s' ≤ 10 → jBs S1 k s x → ∃ T : jSt, f_Mo_build_7 (m + n) (jad L (jm 0)) (nI t) (nI (jPs.d s)) (jW L ω S1) = f_Mo_build_7 m (jad L (jm 0)) (nI t) (nI (jPs.d s')) (jW L ω T) ∧ jfB k S T ∧ jTm T tp ts ∧ jPi s' ∧ jBs T k s' x'
  | 0, m, x, S1, s, x', s', htr, hq, hd, hfr, hT, hi, hz, hc => by
    obtain ⟨rfl, rfl⟩ := htr
    exact ⟨S1, rfl, hfr, hT, hi, hc⟩
  | n + 1, m, x, S1, s, x', s', htr, hq, hd, hfr, hT, hi, hz, hc => by
    obtain ⟨hxt, y, s1, hst, htr⟩ := htr
    have hl := hP.l
    obtain ⟨g1, g2, g3⟩ := hst.ok hP hq hxt hi
    have gd := hst.dep hP hq hxt hi
    have gz := jTr.grow hP n y s1 x' s' htr (by omega) g3
    obtain ⟨T1, a1, a2, a3⟩ := jMb_step hL (ω := ω) (hK.of hfr.x) (n := m + n) hk hT hP hq hxt hi (by omega) (by omega) hc hst
    obtain ⟨T, e1, e2⟩ := jMb_units hL (ω := ω) (S := S) hK hk hP n m y T1 s1 x' s' htr (by omega) (by omega) (hfr.trans a2) (hT.fB a2) g3 hz a3
    refine ⟨T, ?_, e2⟩
    rw [show m + (n + 1) = m + n + 1 by omega, a1]
    exact e1
/-- THE BUILD of a pattern that was checked and has room -/
theorem jMb_build {L : jL} (hL : jgood L) {ω : xS} {S : jSt} {sw ps wy : Nat} (hK : jLK S sw ps wy) {tp : Nat → Nat} {ts q t n k : Nat} {s : jPs} (hk : k < 16) (hT : jTm S tp ts) (hP : jPx tp ts q t) (h42 : jgI S (jm 0) 42 = nI (q + 1)) (h39 : jgI S (jm 0) 39 = nI 0) (h43 : jgI S (jm 0) 43 = nI 0) (h44 : jgI S (jm 0) 44 = nI k) (hfo : ∀ p, p < 10 → jgA S (jm 18) (11 * k + p) = nI 0) (htr : jTr tp ts t n (q + 1) jp00 t s) (hn : n ≤ t - (q + 1)) (hq : q + 1 ≤ t) (h1 : jPs.hs s = 1) (hd : jPs.d s = 0) (hz : jPs.sz s ≤ 10) : ∃ T : jSt, f_Mo_build (jad L (jm 0)) (nI t) (jW L ω S) = some (lN (jeln (jpU s)), jW L ω T) ∧ jfB k S T ∧ jPi s ∧ jBs T k (jpB s) t := by
  have ht := hP.t
  have hs15 := hP.s
  have hl := hP.l
  have eop := jMb_begin hL (ω := ω) hK (d := 0) (by omega) h43
  have f0 : jfB k S (jsA (jsA (jsA (jsA S (jm 34) 0 (nI 0)) (jm 35) 0 (nI 0)) (jm 30) 0 (nI 0)) (jm 37) 0 (nI 0)) := jfB_open
  have c0 : jBs (jsA (jsA (jsA (jsA S (jm 34) 0 (nI 0)) (jm 35) 0 (nI 0)) (jm 30) 0 (nI 0)) (jm 37) 0 (nI 0)) k jp00 (q + 1) := by
    refine ⟨h42, h43, h44, h39, fun p hp => absurd hp (Nat.not_lt_zero p), fun p hp => ?_, fun e he => ?_, fun e he => ?_, ?_, fun z => absurd z (by show ¬ (0 = 1); decide), fun e he => ?_⟩
    · rw [jsA_ne (jmne (by decide)), jsA_ne (jmne (by decide)), jsA_ne (jmne (by decide)), jsA_ne (jmne (by decide))]; exact hfo p hp
    · have he : e ≤ 0 := he
      obtain rfl : e = 0 := by omega
      left
      rw [jsA_ne (jmne (by decide)), jsA_ne (jmne (by decide)), jsA_ne (jmne (by decide)), jsA_c, if_pos rfl]
      exact ⟨rfl, rfl⟩
    · have he : e ≤ 0 := he
      obtain rfl : e = 0 := by omega
      left
      rw [jsA_ne (jmne (by decide)), jsA_ne (jmne (by decide)), jsA_c, if_pos rfl]
      exact ⟨rfl, rfl⟩
    · show jgA _ (jm 30) 0 = nI 0
      rw [jsA_ne (jmne (by decide)), jsA_c, if_pos rfl]
    · have he : e ≤ 0 := he
      obtain rfl : e = 0 := by omega
      rw [jsA_c, if_pos rfl]; rfl
  obtain ⟨m, hm⟩ : ∃ m, xFU = (m + 1) + n := ⟨xFU - 1 - n, by unfold xFU; omega⟩
  obtain ⟨T, e1, e2, e3, e4, e5⟩ := jMb_units hL (ω := ω) (S := S) hK hk hP n (m + 1) (q + 1) _ jp00 t s htr (by omega) (by show 0 + q + 1 ≤ q + 1; omega) f0 (hT.fB f0) jp00_ok hz c0
  obtain ⟨T1, a1, a2, a3, a4⟩ := jMb_finish hL (ω := ω) (hK.of e2.x) hk e4 hz (by omega) h1 e5
  refine ⟨T1, ?_, e2.trans a2, e4, a3⟩
  have hK1 := hK.of (e2.trans a2).x
  rw [hd] at a1 a4 e1
  have g49 : xgr (jW L ω T1) (jad L (jm 0)) 12 49 = some (jad L (jm 31)) := by
    have hK := hK1
    simp (disch := first | omega | rfl | assumption | exact jokr (by decide) (by omega) | exact jokr4 (by omega) | exact jkt_r _ _ | exact jkt_l (by decide) | exact jfk_l (by decide) | exact jkt_t _ | exact jkt_r6 _ _ | exact jkt_t6 _ | (simp only [jok, jlen]; omega) | decide) only [jm_k hL, jm_gi hL, jm_gr hL, jm_gl hL, jm_pi hL, jm_pl hL, jn_ai hL, jn_ab hL, jn_az hL, jn_al hL, jn_ar hL, jn_an hL, jn_si hL, jn_sb hL, jn_sz hL, jn_sl hL, Option.bind_some, xc, xl, jsA_X, jsI_X, jsG_X, hK _ _, jlk, jmx]
  have v49 : xal (jW L ω T1) (jad L (jm 31)) (nI 0) = some (lN (jeln (jpU s))) := by
    have hK := hK1
    generalize lN (jeln (jpU s)) = v at a4 ⊢
    simp (disch := first | omega | rfl | assumption | exact jokr (by decide) (by omega) | exact jokr4 (by omega) | exact jkt_r _ _ | exact jkt_l (by decide) | exact jfk_l (by decide) | exact jkt_t _ | exact jkt_r6 _ _ | exact jkt_t6 _ | (simp only [jok, jlen]; omega) | decide) only [jm_k hL, jm_gi hL, jm_gr hL, jm_gl hL, jm_pi hL, jm_pl hL, jn_ai hL, jn_ab hL, jn_az hL, jn_al hL, jn_ar hL, jn_an hL, jn_si hL, jn_sb hL, jn_sz hL, jn_sl hL, Option.bind_some, xc, xl, jsA_X, jsI_X, jsG_X, hK _ _, jlk, jmx, a4]
  have eop : f_Mo_begin (jad L (jm 0)) 0 (jW L ω S) = _ := eop
  have e1 : f_Mo_build_7 xFU (jad L (jm 0)) (nI t) 0 (jW L ω (jsA (jsA (jsA (jsA S (jm 34) 0 (nI 0)) (jm 35) 0 (nI 0)) (jm 30) 0 (nI 0)) (jm 37) 0 (nI 0))) = f_Mo_build_7 (m + 1) (jad L (jm 0)) (nI t) (nI 0) (jW L ω T) := by rw [hm]; exact e1
  unfold f_Mo_build
  rw [jkm hL, eop, Option.bind_some, e1, f_Mo_build_7, jg42 hL e5.x, Option.bind_some, if_pos ((nI_leI (by omega) (by omega)).mpr (Nat.le_refl _)), jkm hL]
  rw [show f_Mo_finish (jad L (jm 0)) 0 (jW L ω T) = _ from a1, Option.bind_some, g49, Option.bind_some, show xal (jW L ω T1) (jad L (jm 31)) 0 = _ from v49, Option.bind_some]
