/-! the reference's check: faults, the end, the whole -/
theorem jMc_out {L : jL} (hL : jgood L) {ω : xS} {S : jSt} {sw ps wy : Nat} (hK : jLK S sw ps wy) {f n : Nat} {x1 x2 x3 : Int32} (h39 : jgI S (jm 0) 39 = nI f) (hf : f ≠ 0) (hf4 : f ≤ 4) : ∃ v, f_Mo_check_9 (n + 1) (jad L (jm 0)) x1 x2 x3 (jW L ω S) = some (v, jW L ω S) := by
  obtain ⟨v, hv⟩ := jMc_415 hL (ω := ω) hK (x2 := x2) h39 hf hf4
  refine ⟨v, ?_⟩
  rw [f_Mo_check_9, jg39 hL h39, Option.bind_some, if_neg (show ¬ nI f = (0 : Int32) from fun z => by rw [jlit, nI_eq (by omega) (by omega)] at z; exact hf z)]
  exact hv
theorem jMc_bad {L : jL} (hL : jgood L) {ω : xS} {S : jSt} {sw ps wy : Nat} (hK : jLK S sw ps wy) {tp : Nat → Nat} {ts q t x n f p : Nat} {s : jPs} {ov ir ii : Nat → Nat} (hT : jTm S tp ts) (hP : jPx tp ts q t) (hq : q < x) (hx : x < t) (hi : jPi s) (hd : jPs.d s ≤ 40) (h : jKs S s x ov ir ii) (hft : jFt1 tp ts x s f p) : ∃ (T : jSt) (v : Int32), f_Mo_check_9 (n + 2) (jad L (jm 0)) (nI t) (nI (jPs.d s)) (nI (jmay s)) (jW L ω S) = some (v, jW L ω T) ∧ jfU S T ∧ jgI T (jm 0) 39 = nI f ∧ jgI T (jm 0) 40 = nI p := by
  have hb := hP.b
  have ht := hP.t
  have hs15 := hP.s
  have hbb := hb x
  have hh := hi.h1
  have hr1 := hi.r1
  have hmay : jmay s ≤ 1 := by unfold jmay; split <;> omega
  have lk : xk (jW L ω S) (jad L (jm 0)) 12 (f_Mo_look (jad L (jm 0)) (nI x) (jW L ω S)) = some (nI (tp x)) := by
    rw [jkm hL, jMo_look hL hK hT (by omega)]
    unfold jbv
    rw [if_pos (by omega)]
  have dle : jPs.d s ≤ jPs.d s := Nat.le_refl _
  have hr := h.r _ dle
  have hit := h.i _ dle
  have hhs := h.h
  have out : ∀ (U : jSt) (f : Nat) (x2 x3 : Int32), jfU S U → f ≠ 0 → f ≤ 4 → jgI U (jm 0) 39 = nI f → ∃ v, f_Mo_check_9 (n + 1) (jad L (jm 0)) (nI t) x2 x3 (jW L ω U) = some (v, jW L ω U) := fun U f x2 x3 hU h0 h4 h39 => jMc_out hL (ω := ω) (hK.of hU.x) h39 h0 h4
  have head : f_Mo_check_9 (n + 2) (jad L (jm 0)) (nI t) (nI (jPs.d s)) (nI (jmay s)) (jW L ω S) = (if nI (tp x) = 40 then ((xgi (jW L ω S) (jad L (jm 0)) 12 42).bind fun t37 => (xp (jW L ω S) (jad L (jm 0)) 12 42 (.int (t37 + 1))).bind fun w38 => (xk w38 (jad L (jm 0)) 12 (f_Mo_open (jad L (jm 0)) (nI (jPs.d s) + 1) w38)).bind fun w41 => f_Mo_check_9 (n + 1) (jad L (jm 0)) (nI t) (nI (jPs.d s) + 1) 0 w41) else ((f_Mo_beginsAtom (nI (tp x)) (jW L ω S)).bind fun t13 => if t13 = 0 then (if nI (jmay s) = 0 then f_Mo_check_148 (f_Mo_check_9 (n + 1)) (jad L (jm 0)) (nI t) (nI (jPs.d s)) (nI (jmay s)) (nI (tp x)) (jW L ω S) else (if nI (tp x) = 42 then ((xgi (jW L ω S) (jad L (jm 0)) 12 42).bind fun t17 => (xp (jW L ω S) (jad L (jm 0)) 12 42 (.int (t17 + 1))).bind fun w18 => f_Mo_check_9 (n + 1) (jad L (jm 0)) (nI t) (nI (jPs.d s)) 0 w18) else (if nI (tp x) = 43 then ((xgi (jW L ω S) (jad L (jm 0)) 12 42).bind fun t20 => (xp (jW L ω S) (jad L (jm 0)) 12 42 (.int (t20 + 1))).bind fun w21 => f_Mo_check_9 (n + 1) (jad L (jm 0)) (nI t) (nI (jPs.d s)) 0 w21) else (if nI (tp x) = 63 then ((xgi (jW L ω S) (jad L (jm 0)) 12 42).bind fun t23 => (xp (jW L ω S) (jad L (jm 0)) 12 42 (.int (t23 + 1))).bind fun w24 => f_Mo_check_9 (n + 1) (jad L (jm 0)) (nI t) (nI (jPs.d s)) 0 w24) else f_Mo_check_148 (f_Mo_check_9 (n + 1)) (jad L (jm 0)) (nI t) (nI (jPs.d s)) (nI (jmay s)) (nI (tp x)) (jW L ω S))))) else (if nI (tp x) = 91 then (xc (xk (jW L ω S) (jad L (jm 0)) 12 (f_Mo_set0 (jad L (jm 0)) (jW L ω S))) fun _ w33 => (xk w33 (jad L (jm 0)) 12 (f_Mo_item (jad L (jm 0)) (nI (jPs.d s)) 1 w33)).bind fun w36 => f_Mo_check_9 (n + 1) (jad L (jm 0)) (nI t) (nI (jPs.d s)) 1 w36) else ((xgi (jW L ω S) (jad L (jm 0)) 12 42).bind fun t26 => (xp (jW L ω S) (jad L (jm 0)) 12 42 (.int (t26 + 1))).bind fun w27 => (xk w27 (jad L (jm 0)) 12 (f_Mo_item (jad L (jm 0)) (nI (jPs.d s)) 1 w27)).bind fun w30 => f_Mo_check_9 (n + 1) (jad L (jm 0)) (nI t) (nI (jPs.d s)) 1 w30)))) := by
    rw [f_Mo_check_9, jg39 hL h.f, Option.bind_some, if_pos (show nI 0 = (0 : Int32) from rfl), jg42 hL h.x, Option.bind_some, if_neg (fun z => by rw [nI_leI (by omega) (by omega)] at z; omega), Option.bind_some, lk, Option.bind_some]
  -- fails(2, pp), then out
  obtain ⟨Tf, a1, a2, a3, a4, a5⟩ := jMp_fails hL (ω := ω) hK (x := 2) (v := x) h.f
  have a1 : f_Mo_fails (jad L (jm 0)) 2 (nI x) (jW L ω S) = some (0, jW L ω Tf) := a1
  have fl : ∀ x3 : Int32, ∃ v, ((xgi (jW L ω S) (jad L (jm 0)) 12 42).bind fun t113 => xc (xk (jW L ω S) (jad L (jm 0)) 12 (f_Mo_fails (jad L (jm 0)) 2 t113 (jW L ω S))) fun _ w116 => f_Mo_check_9 (n + 1) (jad L (jm 0)) (nI t) (nI (jPs.d s)) x3 w116) = some (v, jW L ω Tf) := fun x3 => by
    obtain ⟨v, hv⟩ := out Tf 2 (nI (jPs.d s)) x3 a2.U (by decide) (by decide) a3
    refine ⟨v, ?_⟩
    rw [jg42 hL h.x, Option.bind_some, jkm hL, a1]
    exact hv
  have hasX : ∀ {β : Type} (k : Int32 → Option β), ((xgr (jW L ω S) (jad L (jm 0)) 12 48).bind fun t => (xaz (jW L ω S) t (nI (jPs.d s))).bind k) = k (nI (jPs.hs s)) := fun {β} k => by
    simp (disch := first | omega | rfl | assumption | exact jokr (by decide) (by omega) | exact jokr4 (by omega) | exact jkt_r _ _ | exact jkt_l (by decide) | exact jfk_l (by decide) | exact jkt_t _ | exact jkt_r6 _ _ | exact jkt_t6 _ | (simp only [jok, jlen]; omega) | decide) only [jm_k hL, jm_gi hL, jm_gr hL, jm_gl hL, jm_pi hL, jm_pl hL, jn_ai hL, jn_ab hL, jn_az hL, jn_al hL, jn_ar hL, jn_an hL, jn_si hL, jn_sb hL, jn_sz hL, jn_sl hL, Option.bind_some, xc, xl, jsA_X, jsI_X, jsG_X, hK _ _, jlk, jmx, hhs]
  rcases hft with ⟨c, hO, rfl, rfl⟩ | ⟨h1, r1, c, hbr, rfl, rfl⟩ | ⟨c3, c1, c2, c4, hno, hf2, hpx⟩
  · obtain ⟨T1, v, b1, b2, _, b3⟩ := jMp_set hL (ω := ω) hK hT hP hq hx h.x h.f
    obtain ⟨d1, d2⟩ := b3 hO
    have eit : f_Mo_item (jad L (jm 0)) (nI (jPs.d s)) 1 (jW L ω T1) = some (jW L ω (jsA (jsA (jsA T1 (jm 28) (jPs.d s) (nI (jcap (ir (jPs.d s) + ii (jPs.d s))))) (jm 29) (jPs.d s) (nI 1)) (jm 30) (jPs.d s) (nI 1))) := jMc_item hL (ω := ω) (hK.of b2.x) (n := 1) (by omega) (by rw [b2.a]; exact hr) (by rw [b2.a]; exact hit)
    have fr := ((b2.U.trans (jfU.sA T1 (q := 28) (jPs.d s) (nI (jcap (ir (jPs.d s) + ii (jPs.d s)))) (by omega) (by omega))).trans (jfU.sA _ (q := 29) (jPs.d s) (nI 1) (by omega) (by omega))).trans (jfU.sA _ (q := 30) (jPs.d s) (nI 1) (by omega) (by omega))
    obtain ⟨w, hw⟩ := out _ 2 (nI (jPs.d s)) 1 fr (by decide) (by decide) d1
    refine ⟨_, w, ?_, fr, d1, d2⟩
    rw [head, if_neg (by intro z; rw [jlit, nI_eq (by omega) (by omega)] at z; omega), jMc_begins hb (show x < ts by omega), Option.bind_some, if_pos (Or.inr (Or.inr (Or.inl c))), if_neg jz10, if_pos (show nI (tp x) = (91 : Int32) by rw [c]; rfl), jkm hL, b1]
    simp only [xc]
    rw [jkm hL, eit, Option.bind_some]
    exact hw
  · -- braces
    have em : jmay s = 1 := by unfold jmay; rw [if_pos h1, r1]
    have i1 : ∀ (U : jSt) (v : Int32), jgI (jsI U (jm 0) 42 v) (jm 0) 39 = jgI U (jm 0) 39 := fun U v => by rw [jsI_c, if_neg (by decide)]
    have i2 : ∀ (U : jSt) (v : Int32), jgI (jsI U (jm 0) 42 v) (jm 0) 42 = v := fun U v => by rw [jsI_c, if_pos rfl]
    -- after '}' with a fault: out
    have e220 : ∀ (U : jSt) (f p : Nat) (x7 : Int32), jfU S U → f ≠ 0 → f ≤ 4 → jgI U (jm 0) 39 = nI f → jgI U (jm 0) 40 = nI p → ∃ (T : jSt) (v : Int32), f_Mo_check_220 (f_Mo_check_9 (n + 1)) (jad L (jm 0)) (nI t) (nI (jPs.d s)) x7 (jW L ω U) = some (v, jW L ω T) ∧ jfU S T ∧ jgI T (jm 0) 39 = nI f ∧ jgI T (jm 0) 40 = nI p := by
      intro U f p x7 hU h0 h4 h39 h40
      obtain ⟨V, g1, g2, g3, g4⟩ := jMc_sign0 hL (ω := ω) (hK.of hU.x) (y := 0) (c := 125) h39 h0 h4
      have hV := hU.trans g2.U
      have hKV := hK.of hV.x
      have hfew : ∃ r, f_Mo_few (jgA V (jm 29) (jPs.d s) * x7) (jW L ω V) = some r := by
        unfold f_Mo_few
        by_cases cc : jgA V (jm 29) (jPs.d s) * x7 ≤ 1000
        · rw [if_pos cc]; exact ⟨_, rfl⟩
        · rw [if_neg cc]; exact ⟨_, rfl⟩
      obtain ⟨r, hrr⟩ := hfew
      have fr := hV.trans (jfU.sA V (q := 29) (jPs.d s) r (by omega) (by omega))
      obtain ⟨w, hw⟩ := out (jsA V (jm 29) (jPs.d s) r) f (nI (jPs.d s)) 0 fr h0 h4 g3
      refine ⟨jsA V (jm 29) (jPs.d s) r, w, ?_, fr, g3, by rw [jsA_I, g4]; exact h40⟩
      unfold f_Mo_check_220
      rw [jkm hL, g1, Option.bind_some]
      have hK := hKV
      simp (disch := first | omega | rfl | assumption | exact jokr (by decide) (by omega) | exact jokr4 (by omega) | exact jkt_r _ _ | exact jkt_l (by decide) | exact jfk_l (by decide) | exact jkt_t _ | exact jkt_r6 _ _ | exact jkt_t6 _ | (simp only [jok, jlen]; omega) | decide) only [jm_k hL, jm_gi hL, jm_gr hL, jm_gl hL, jm_pi hL, jm_pl hL, jn_ai hL, jn_ab hL, jn_az hL, jn_al hL, jn_ar hL, jn_an hL, jn_si hL, jn_sb hL, jn_sz hL, jn_sl hL, Option.bind_some, xc, xl, jsA_X, jsI_X, jsG_X, hK _ _, jlk, jmx, hrr]
      exact hw
    have e148 : ∀ X, f_Mo_check_148 (f_Mo_check_9 (n + 1)) (jad L (jm 0)) (nI t) (nI (jPs.d s)) (nI 1) (nI (tp x)) (jW L ω S) = X → f_Mo_check_9 (n + 2) (jad L (jm 0)) (nI t) (nI (jPs.d s)) (nI (jmay s)) (jW L ω S) = X := by
      intro X hX
      rw [head, if_neg (by intro z; rw [jlit, nI_eq (by omega) (by omega)] at z; omega), jMc_begins hb (show x < ts by omega), Option.bind_some, if_neg (show ¬ (jltr (tp x) = true ∨ tp x = 46 ∨ tp x = 91 ∨ tp x = 40) from fun z => by rcases z with z | z | z | z <;> first | omega | (rw [c] at z; cases z)), if_pos rfl, em, if_neg (show ¬ nI 1 = (0 : Int32) by decide), if_neg (by intro z; rw [jlit, nI_eq (by omega) (by omega)] at z; omega), if_neg (by intro z; rw [jlit, nI_eq (by omega) (by omega)] at z; omega), if_neg (by intro z; rw [jlit, nI_eq (by omega) (by omega)] at z; omega)]
      exact hX
    have f1 : jfU S (jsI S (jm 0) 42 (nI (x + 1))) := jfU.sI _ _ (by omega)
    have s39 : jgI (jsI S (jm 0) 42 (nI (x + 1))) (jm 0) 39 = nI 0 := by rw [i1]; exact h.f
    obtain ⟨dg1, dg1'⟩ := jMc_digit hL (ω := ω) (hK.of f1.x) (hT.fU f1) (y := x + 1) (by omega) (i2 _ _) s39
    have dgt : ∀ y, jdig (tp y) = true ↔ 48 ≤ tp y ∧ tp y ≤ 57 := fun y => decide_eq_true_iff
    have dgf : ∀ y, jdig (tp y) = false → ¬ jdig (tp y) = true := fun y z w => by rw [z] at w; cases w
    have pre : ∀ X, (xc (xk (jW L ω (jsI S (jm 0) 42 (nI (x + 1)))) (jad L (jm 0)) 12 (f_Mo_digit (jad L (jm 0)) (jW L ω (jsI S (jm 0) 42 (nI (x + 1)))))) fun t69 w70 => (xk w70 (jad L (jm 0)) 12 (f_Mo_sign (jad L (jm 0)) 44 w70)).bind fun w73 => (xgi w73 (jad L (jm 0)) 12 42).bind fun t74 => xc (xk w73 (jad L (jm 0)) 12 (f_Mo_digit (jad L (jm 0)) w73)) fun t76 w77 => (xgi w77 (jad L (jm 0)) 12 39).bind fun t78 => if t78 = 0 then (if t76 = 0 then (xc (xk w77 (jad L (jm 0)) 12 (f_Mo_fails (jad L (jm 0)) 4 t74 w77)) fun _ w83 => f_Mo_check_220 (f_Mo_check_9 (n + 1)) (jad L (jm 0)) (nI t) (nI (jPs.d s)) t76 w83) else (if t69 ≤ t76 then f_Mo_check_220 (f_Mo_check_9 (n + 1)) (jad L (jm 0)) (nI t) (nI (jPs.d s)) t76 w77 else (xc (xk w77 (jad L (jm 0)) 12 (f_Mo_fails (jad L (jm 0)) 4 t74 w77)) fun _ w87 => f_Mo_check_220 (f_Mo_check_9 (n + 1)) (jad L (jm 0)) (nI t) (nI (jPs.d s)) t76 w87))) else f_Mo_check_220 (f_Mo_check_9 (n + 1)) (jad L (jm 0)) (nI t) (nI (jPs.d s)) t76 w77) = X → f_Mo_check_9 (n + 2) (jad L (jm 0)) (nI t) (nI (jPs.d s)) (nI (jmay s)) (jW L ω S) = X := by
      intro X hX
      refine e148 X ?_
      unfold f_Mo_check_148
      rw [if_neg (show ¬ nI 1 = (0 : Int32) by decide), if_pos (show nI (tp x) = (123 : Int32) by rw [c]; rfl), jg42 hL h.x, Option.bind_some, jp42 hL, Option.bind_some, show nI x + 1 = nI (x + 1) by rw [jlit, nI_add]]
      exact hX
    have hng : ∀ (f : Nat), f ≠ 0 → f ≤ 4 → ¬ nI f = (0 : Int32) := fun f h0 h4 z => by rw [jlit, nI_eq (by omega) (by omega)] at z; exact h0 z
    -- from a fault on, with the fault standing
    have go1 : ∀ (U : jSt) (p : Nat) (a : Int32), jfU S U → jgI U (jm 0) 39 = nI 2 → jgI U (jm 0) 40 = nI p → ∃ (T : jSt) (v : Int32), ((xk (jW L ω U) (jad L (jm 0)) 12 (f_Mo_sign (jad L (jm 0)) 44 (jW L ω U))).bind fun w73 => (xgi w73 (jad L (jm 0)) 12 42).bind fun t74 => xc (xk w73 (jad L (jm 0)) 12 (f_Mo_digit (jad L (jm 0)) w73)) fun t76 w77 => (xgi w77 (jad L (jm 0)) 12 39).bind fun t78 => if t78 = 0 then (if t76 = 0 then (xc (xk w77 (jad L (jm 0)) 12 (f_Mo_fails (jad L (jm 0)) 4 t74 w77)) fun _ w83 => f_Mo_check_220 (f_Mo_check_9 (n + 1)) (jad L (jm 0)) (nI t) (nI (jPs.d s)) t76 w83) else (if a ≤ t76 then f_Mo_check_220 (f_Mo_check_9 (n + 1)) (jad L (jm 0)) (nI t) (nI (jPs.d s)) t76 w77 else (xc (xk w77 (jad L (jm 0)) 12 (f_Mo_fails (jad L (jm 0)) 4 t74 w77)) fun _ w87 => f_Mo_check_220 (f_Mo_check_9 (n + 1)) (jad L (jm 0)) (nI t) (nI (jPs.d s)) t76 w87))) else f_Mo_check_220 (f_Mo_check_9 (n + 1)) (jad L (jm 0)) (nI t) (nI (jPs.d s)) t76 w77) = some (v, jW L ω T) ∧ jfU S T ∧ jgI T (jm 0) 39 = nI 2 ∧ jgI T (jm 0) 40 = nI p := by
      intro U p a hU h39 h40
      obtain ⟨V, g1, g2, g3, g4⟩ := jMc_sign0 hL (ω := ω) (hK.of hU.x) (y := 0) (c := 44) h39 (by decide) (by decide)
      have hV := hU.trans g2.U
      have g42 : xgi (jW L ω V) (jad L (jm 0)) 12 42 = some (jgI V (jm 0) 42) := by simp (disch := first | omega | rfl | assumption | exact jokr (by decide) (by omega) | exact jokr4 (by omega) | exact jkt_r _ _ | exact jkt_l (by decide) | exact jfk_l (by decide) | exact jkt_t _ | exact jkt_r6 _ _ | exact jkt_t6 _ | (simp only [jok, jlen]; omega) | decide) only [jm_gi hL]
      obtain ⟨T, v, k1, k2⟩ := e220 V 2 p 0 hV (by decide) (by decide) g3 (by rw [g4]; exact h40)
      refine ⟨T, v, ?_, k2⟩
      rw [jkm hL, g1, Option.bind_some, g42, Option.bind_some, jkm hL, jMc_digit0 hL (hK.of hV.x) g3 (by decide) (by decide)]
      simp only [xc]
      rw [jg39 hL g3, Option.bind_some, if_neg (hng 2 (by decide) (by decide))]
      exact k1
    by_cases k1 : jdig (tp (x + 1)) = false
    · have hbr2 : jbrF tp x = (2, x + 1) := by unfold jbrF; rw [if_pos k1]
      obtain ⟨U, u1, u2, u3, u4, u5⟩ := dg1' (fun z => dgf _ k1 z.2)
      obtain ⟨T, v, w1, w2⟩ := go1 U (x + 1) 0 (f1.trans u2.U) u3 u4
      rw [hbr2]
      refine ⟨T, v, pre _ ?_, w2⟩
      rw [jkm hL, u1]
      exact w1
    · have k1' : jdig (tp (x + 1)) = true := by
        cases z : jdig (tp (x + 1))
        · exact absurd z k1
        · rfl
      have d1 := (dgt _).mp k1'
      have x1 : x + 1 < t := hP.in (by omega) (by omega) (by omega)
      have e1 := dg1 ⟨by omega, k1'⟩
      have f2 := f1.trans (jfU.sI (jsI S (jm 0) 42 (nI (x + 1))) (k := 42) (nI (x + 1 + 1)) (by omega))
      obtain ⟨sg, sg'⟩ := jMc_sign hL (ω := ω) (hK.of f2.x) (hT.fU f2) (y := x + 2) (c := 44) (by omega) (by omega) (i2 _ _) (by rw [i1, i1]; exact h.f)
      by_cases k2 : tp (x + 2) = 44
      · have x2 : x + 2 < t := hP.in (by omega) (by omega) (by omega)
        have e2 : f_Mo_sign (jad L (jm 0)) 44 _ = _ := sg ⟨by omega, k2⟩
        have f3 := f2.trans (jfU.sI (jsI (jsI S (jm 0) 42 (nI (x + 1))) (jm 0) 42 (nI (x + 1 + 1))) (k := 42) (nI (x + 2 + 1)) (by omega))
        obtain ⟨dg3, dg3'⟩ := jMc_digit hL (ω := ω) (hK.of f3.x) (hT.fU f3) (y := x + 3) (by omega) (i2 _ _) (by rw [i1, i1, i1]; exact h.f)
        by_cases k3 : jdig (tp (x + 3)) = false
        · have hbr2 : jbrF tp x = (2, x + 3) := by unfold jbrF; rw [if_neg k1, if_neg (fun z => z k2), if_pos k3]
          obtain ⟨U, u1, u2, u3, u4, u5⟩ := dg3' (fun z => dgf _ k3 z.2)
          obtain ⟨T, v, w1, w2⟩ := e220 U 2 (x + 3) 0 (f3.trans u2.U) (by decide) (by decide) u3 u4
          rw [hbr2]
          refine ⟨T, v, pre _ ?_, w2⟩
          rw [jkm hL, e1]
          simp only [xc]
          rw [jkm hL, e2, Option.bind_some, jg42 hL (i2 _ _), Option.bind_some, jkm hL, u1]
          simp only [xc]
          rw [jg39 hL u3, Option.bind_some, if_neg (hng 2 (by decide) (by decide))]
          exact w1
        · have k3' : jdig (tp (x + 3)) = true := by
            cases z : jdig (tp (x + 3))
            · exact absurd z k3
            · rfl
          have d3 := (dgt _).mp k3'
          have x3 : x + 3 < t := hP.in (by omega) (by omega) (by omega)
          have e3 := dg3 ⟨by omega, k3'⟩
          have f4 := f3.trans (jfU.sI (jsI (jsI (jsI S (jm 0) 42 (nI (x + 1))) (jm 0) 42 (nI (x + 1 + 1))) (jm 0) 42 (nI (x + 2 + 1))) (k := 42) (nI (x + 3 + 1)) (by omega))
          have s4 : jgI (jsI (jsI (jsI (jsI S (jm 0) 42 (nI (x + 1))) (jm 0) 42 (nI (x + 1 + 1))) (jm 0) 42 (nI (x + 2 + 1))) (jm 0) 42 (nI (x + 3 + 1))) (jm 0) 39 = nI 0 := by rw [i1, i1, i1, i1]; exact h.f
          by_cases k4 : tp (x + 3) = 48 ∨ tp (x + 3) < tp (x + 1)
          · have hbr2 : jbrF tp x = (4, x + 3) := by unfold jbrF; rw [if_neg k1, if_neg (fun z => z k2), if_neg k3, if_pos k4]
            obtain ⟨U, u1, u2, u3, u4, u5⟩ := jMp_fails hL (ω := ω) (hK.of f4.x) (x := 4) (v := x + 2 + 1) s4
            have u1 : f_Mo_fails (jad L (jm 0)) 4 (nI (x + 2 + 1)) _ = some (0, jW L ω U) := u1
            obtain ⟨T, v, w1, w2⟩ := e220 U 4 (x + 3) (nI (tp (x + 3) - 48)) (f4.trans u2.U) (by decide) (by decide) u3 u4
            rw [hbr2]
            refine ⟨T, v, pre _ ?_, w2⟩
            rw [jkm hL, e1]
            simp only [xc]
            rw [jkm hL, e2, Option.bind_some, jg42 hL (i2 _ _), Option.bind_some, jkm hL, e3]
            simp only [xc]
            rw [jg39 hL s4, Option.bind_some, if_pos (show nI 0 = (0 : Int32) from rfl)]
            by_cases z : tp (x + 3) = 48
            · rw [if_pos (show nI (tp (x + 3) - 48) = (0 : Int32) by rw [z]; rfl), jkm hL, u1]
              exact w1
            · rw [if_neg (show ¬ nI (tp (x + 3) - 48) = (0 : Int32) from fun y => by rw [jlit, nI_eq (by omega) (by omega)] at y; omega), if_neg (fun y => by rw [nI_leI (by omega) (by omega)] at y; omega), jkm hL, u1]
              exact w1
          · have k5 : ¬ tp (x + 4) = 125 := fun z => hbr (by unfold jbrF; rw [if_neg k1, if_neg (fun z => z k2), if_neg k3, if_neg k4, if_neg (fun y => y z)])
            have hbr2 : jbrF tp x = (2, x + 4) := by unfold jbrF; rw [if_neg k1, if_neg (fun z => z k2), if_neg k3, if_neg k4, if_pos k5]
            obtain ⟨U, u1, u2, u3, u4⟩ := (jMc_sign hL (ω := ω) (hK.of f4.x) (hT.fU f4) (y := x + 4) (c := 125) (by omega) (by omega) (i2 _ _) s4).2 (fun z => k5 z.2)
            have u1 : f_Mo_sign (jad L (jm 0)) 125 _ = some (jW L ω U) := u1
            have hU := f4.trans u2.U
            have hfew : ∃ r, f_Mo_few (jgA U (jm 29) (jPs.d s) * nI (tp (x + 3) - 48)) (jW L ω U) = some r := by
              unfold f_Mo_few
              by_cases cc : jgA U (jm 29) (jPs.d s) * nI (tp (x + 3) - 48) ≤ 1000
              · rw [if_pos cc]; exact ⟨_, rfl⟩
              · rw [if_neg cc]; exact ⟨_, rfl⟩
            obtain ⟨r, hrr⟩ := hfew
            have fr := hU.trans (jfU.sA U (q := 29) (jPs.d s) r (by omega) (by omega))
            obtain ⟨w, hw⟩ := out (jsA U (jm 29) (jPs.d s) r) 2 (nI (jPs.d s)) 0 fr (by decide) (by decide) u3
            rw [hbr2]
            refine ⟨jsA U (jm 29) (jPs.d s) r, w, pre _ ?_, fr, u3, u4⟩
            rw [jkm hL, e1]
            simp only [xc]
            rw [jkm hL, e2, Option.bind_some, jg42 hL (i2 _ _), Option.bind_some, jkm hL, e3]
            simp only [xc]
            rw [jg39 hL s4, Option.bind_some, if_pos (show nI 0 = (0 : Int32) from rfl), if_neg (show ¬ nI (tp (x + 3) - 48) = (0 : Int32) from fun y => by rw [jlit, nI_eq (by omega) (by omega)] at y; omega), if_pos ((nI_leI (by omega) (by omega)).mpr (by omega))]
            unfold f_Mo_check_220
            rw [jkm hL, u1, Option.bind_some]
            have hK := hK.of hU.x
            simp (disch := first | omega | rfl | assumption | exact jokr (by decide) (by omega) | exact jokr4 (by omega) | exact jkt_r _ _ | exact jkt_l (by decide) | exact jfk_l (by decide) | exact jkt_t _ | exact jkt_r6 _ _ | exact jkt_t6 _ | (simp only [jok, jlen]; omega) | decide) only [jm_k hL, jm_gi hL, jm_gr hL, jm_gl hL, jm_pi hL, jm_pl hL, jn_ai hL, jn_ab hL, jn_az hL, jn_al hL, jn_ar hL, jn_an hL, jn_si hL, jn_sb hL, jn_sz hL, jn_sl hL, Option.bind_some, xc, xl, jsA_X, jsI_X, jsG_X, hK _ _, jlk, jmx, hrr]
            exact hw
      · have hbr2 : jbrF tp x = (2, x + 2) := by unfold jbrF; rw [if_neg k1, if_pos k2]
        obtain ⟨U, u1, u2, u3, u4⟩ := sg' (fun z => k2 z.2)
        have u1 : f_Mo_sign (jad L (jm 0)) 44 _ = some (jW L ω U) := u1
        have hU := f2.trans u2.U
        have g42 : xgi (jW L ω U) (jad L (jm 0)) 12 42 = some (jgI U (jm 0) 42) := by simp (disch := first | omega | rfl | assumption | exact jokr (by decide) (by omega) | exact jokr4 (by omega) | exact jkt_r _ _ | exact jkt_l (by decide) | exact jfk_l (by decide) | exact jkt_t _ | exact jkt_r6 _ _ | exact jkt_t6 _ | (simp only [jok, jlen]; omega) | decide) only [jm_gi hL]
        obtain ⟨T, v, w1, w2⟩ := e220 U 2 (x + 2) 0 hU (by decide) (by decide) u3 u4
        rw [hbr2]
        refine ⟨T, v, pre _ ?_, w2⟩
        rw [jkm hL, e1]
        simp only [xc]
        rw [jkm hL, u1, Option.bind_some, g42, Option.bind_some, jkm hL, jMc_digit0 hL (hK.of hU.x) u3 (by decide) (by decide)]
        simp only [xc]
        rw [jg39 hL u3, Option.bind_some, if_neg (hng 2 (by decide) (by decide))]
        exact w1
  · have cb : ¬ (jltr (tp x) = true ∨ tp x = 46 ∨ tp x = 91 ∨ tp x = 40) := fun z => by
      rcases z with z | z | z | z
      · rw [c3] at z; cases z
      · exact c2 z
      · exact c1 z
      · exact c4 z
    -- check_249 on: nothing fits
    have e249 : ∃ v, f_Mo_check_249 (f_Mo_check_9 (n + 1)) (jad L (jm 0)) (nI t) (nI (jPs.d s)) (nI (jmay s)) (nI (tp x)) (jW L ω S) = some (v, jW L ω Tf) := by
      obtain ⟨v, hv⟩ := fl (nI (jmay s))
      refine ⟨v, ?_⟩
      unfold f_Mo_check_249
      rw [hasX]
      have e330 : f_Mo_check_330 (f_Mo_check_9 (n + 1)) (jad L (jm 0)) (nI t) (nI (jPs.d s)) (nI (jmay s)) (nI (tp x)) (jW L ω S) = some (v, jW L ω Tf) := by
        unfold f_Mo_check_330
        rw [hasX]
        by_cases h0 : jPs.hs s = 0
        · rw [if_pos (show nI (jPs.hs s) = (0 : Int32) by rw [h0]; rfl)]
          exact hv
        · have h1 : jPs.hs s = 1 := by omega
          rw [if_neg (show ¬ nI (jPs.hs s) = (0 : Int32) by rw [h1]; decide)]
          by_cases k41 : tp x = 41
          · have hd0 : jPs.d s = 0 := by
              rcases Nat.eq_zero_or_pos (jPs.d s) with z | z
              · exact z
              · exact absurd ⟨h1, Or.inr (Or.inl ⟨k41, z⟩)⟩ hno
            rw [if_pos (show nI (tp x) = (41 : Int32) by rw [k41]; rfl), if_pos (show nI (jPs.d s) ≤ (0 : Int32) by rw [hd0]; decide)]
            exact hv
          · rw [if_neg (by intro z; rw [jlit, nI_eq (by omega) (by omega)] at z; omega)]
            exact hv
      by_cases h0 : jPs.hs s = 0
      · rw [if_pos (show nI (jPs.hs s) = (0 : Int32) by rw [h0]; rfl)]
        exact e330
      · have h1 : jPs.hs s = 1 := by omega
        rw [if_neg (show ¬ nI (jPs.hs s) = (0 : Int32) by rw [h1]; decide), if_neg (by intro z; rw [jlit, nI_eq (by omega) (by omega)] at z; omega)]
        exact e330
    obtain ⟨v, hv⟩ := e249
    refine ⟨Tf, v, ?_, a2.U, by rw [hf2]; exact a3, by rw [hpx]; exact a4⟩
    rw [head, if_neg (by intro z; rw [jlit, nI_eq (by omega) (by omega)] at z; omega), jMc_begins hb (show x < ts by omega), Option.bind_some, if_neg cb, if_pos rfl]
    by_cases em : jmay s = 0
    · rw [if_pos (show nI (jmay s) = (0 : Int32) by rw [em]; rfl)]
      unfold f_Mo_check_148
      rw [if_pos (show nI (jmay s) = (0 : Int32) by rw [em]; rfl)]
      exact hv
    · have nem : ¬ nI (jmay s) = (0 : Int32) := fun z => by rw [jlit, nI_eq (by omega) (by omega)] at z; exact em z
      have hr2 : jPs.hs s = 1 ∧ jPs.rp s = 1 := by
        unfold jmay at em
        by_cases h1 : jPs.hs s = 1
        · rw [if_pos h1] at em; exact ⟨h1, by omega⟩
        · rw [if_neg h1] at em; exact absurd rfl em
      have nc : ¬ (tp x = 42 ∨ tp x = 43 ∨ tp x = 63 ∨ tp x = 123) := fun z => hno ⟨hr2.1, Or.inr (Or.inr ⟨hr2.2, z⟩)⟩
      rw [if_neg nem, if_neg (by intro z; rw [jlit, nI_eq (by omega) (by omega)] at z; omega), if_neg (by intro z; rw [jlit, nI_eq (by omega) (by omega)] at z; omega), if_neg (by intro z; rw [jlit, nI_eq (by omega) (by omega)] at z; omega)]
      unfold f_Mo_check_148
      rw [if_neg nem, if_neg (by intro z; rw [jlit, nI_eq (by omega) (by omega)] at z; omega)]
      exact hv
theorem jMc_units {L : jL} (hL : jgood L) {ω : xS} {S : jSt} {sw ps wy : Nat} (hK : jLK S sw ps wy) {tp : Nat → Nat} {ts q t : Nat} (hP : jPx tp ts q t) : ∀ n m x (S1 : jSt) (s : jPs) (ov ir ii : Nat → Nat) x' s', jTr tp ts t n x s x' s' → q < x → jPs.d s + q + 1 ≤ x → jfU S S1 → jTm S1 tp ts → jPi s → jKs S1 s x ov ir ii → ∃ (T : jSt) (ov' ir' ii' : Nat → Nat), f_Mo_check_9 (m + n) (jad L (jm 0)) (nI t) (nI (jPs.d s)) (nI (jmay s)) (jW L ω S1) = f_Mo_check_9 m (jad L (jm 0)) (nI t) (nI (jPs.d s')) (nI (jmay s')) (jW L ω T) ∧ jfU S T ∧ jTm T tp ts ∧ jPi s' ∧ jKs T s' x' ov' ir' ii' ∧ jPs.d s' + q + 1 ≤ x'
  | 0, m, x, S1, s, ov, ir, ii, x', s', htr, hq, hd, hfr, hT, hi, hc => by
    obtain ⟨rfl, rfl⟩ := htr
    exact ⟨S1, ov, ir, ii, rfl, hfr, hT, hi, hc, hd⟩
  | n + 1, m, x, S1, s, ov, ir, ii, x', s', htr, hq, hd, hfr, hT, hi, hc => by
    obtain ⟨hxt, y, s1, hst, htr⟩ := htr
    have hl := hP.l
    obtain ⟨g1, g2, g3⟩ := hst.ok hP hq hxt hi
    have gd := hst.dep hP hq hxt hi
    obtain ⟨T1, ov1, ir1, ii1, a1, a2, a3⟩ := jMc_step hL (ω := ω) (hK.of hfr.x) (n := m + n) hT hP hq hxt hi (by omega) hc hst
    obtain ⟨T, ov', ir', ii', e1, e2⟩ := jMc_units hL (ω := ω) (S := S) hK hP n m y T1 s1 ov1 ir1 ii1 x' s' htr (by omega) (by omega) (hfr.trans a2) (hT.fU a2) g3 a3
    refine ⟨T, ov', ir', ii', ?_, e2⟩
    rw [show m + (n + 1) = m + n + 1 by omega, a1]
    exact e1
/-- THE CHECK: its fault, or its count -/
theorem jMc_check {L : jL} (hL : jgood L) {ω : xS} {S : jSt} {sw ps wy : Nat} (hK : jLK S sw ps wy) {tp : Nat → Nat} {ts q t n x f p : Nat} {s : jPs} (hT : jTm S tp ts) (hP : jPx tp ts q t) (h42 : jgI S (jm 0) 42 = nI (q + 1)) (h39 : jgI S (jm 0) 39 = nI 0) (htr : jTr tp ts t n (q + 1) jp00 x s) (hn : n ≤ x - (q + 1)) (hx : q + 1 ≤ x) (hxt : x ≤ t) (he : jEnd tp ts t x s f p) : ∃ (T : jSt) (v : Int32), f_Mo_check (jad L (jm 0)) (nI t) (jW L ω S) = some (v, jW L ω T) ∧ jfU S T ∧ jgI T (jm 0) 39 = nI f ∧ (f ≠ 0 → jgI T (jm 0) 40 = nI p) ∧ (f = 0 → v = nI (jcap (jPs.sz s))) := by
  have ht := hP.t
  have hs15 := hP.s
  have hl := hP.l
  have eop := jMc_open hL (ω := ω) (S := S) hK (d := 0) (by omega)
  have f0 : jfU S (jsA (jsA (jsA (jsA S (jm 27) 0 (nI 0)) (jm 28) 0 (nI 0)) (jm 29) 0 (nI 0)) (jm 30) 0 (nI 0)) := (((jfU.sA _ _ _ (by omega) (by omega)).trans (jfU.sA _ _ _ (by omega) (by omega))).trans (jfU.sA _ _ _ (by omega) (by omega))).trans (jfU.sA _ _ _ (by omega) (by omega))
  have c0 : jKs (jsA (jsA (jsA (jsA S (jm 27) 0 (nI 0)) (jm 28) 0 (nI 0)) (jm 29) 0 (nI 0)) (jm 30) 0 (nI 0)) jp00 (q + 1) (fun _ => 0) (fun _ => 0) (fun _ => 0) := by
    refine ⟨h42, h39, fun e he => ?_, fun e he => ?_, fun e he => ?_, ?_, fun e he => absurd he (Nat.not_lt_zero e), rfl, fun z => absurd z (by show ¬ (0 = 1); decide)⟩
    · have he : e ≤ 0 := he
      obtain rfl : e = 0 := by omega
      rw [jsA_ne (jmne (by decide)), jsA_ne (jmne (by decide)), jsA_ne (jmne (by decide)), jsA_c, if_pos rfl]; rfl
    · have he : e ≤ 0 := he
      obtain rfl : e = 0 := by omega
      rw [jsA_ne (jmne (by decide)), jsA_ne (jmne (by decide)), jsA_c, if_pos rfl]; rfl
    · have he : e ≤ 0 := he
      obtain rfl : e = 0 := by omega
      rw [jsA_ne (jmne (by decide)), jsA_c, if_pos rfl]; rfl
    · show jgA _ (jm 30) 0 = nI 0
      rw [jsA_c, if_pos rfl]
  obtain ⟨m, hm⟩ : ∃ m, xFU = (m + 2) + n := ⟨xFU - 2 - n, by unfold xFU; omega⟩
  obtain ⟨T, ov', ir', ii', e1, e2, e3, e4, e5, e6⟩ := jMc_units hL (ω := ω) (S := S) hK hP n (m + 2) (q + 1) _ jp00 _ _ _ x s htr (by omega) (by show 0 + q + 1 ≤ q + 1; omega) f0 (hT.fU f0) jp00_ok c0
  have hKT := hK.of e2.x
  have start : f_Mo_check (jad L (jm 0)) (nI t) (jW L ω S) = f_Mo_check_9 (m + 2) (jad L (jm 0)) (nI t) (nI (jPs.d s)) (nI (jmay s)) (jW L ω T) := by
    unfold f_Mo_check
    have eop : f_Mo_open (jad L (jm 0)) 0 (jW L ω S) = _ := eop
    rw [jkm hL, eop, Option.bind_some, hm]
    exact e1
  rw [start]
  rcases he with ⟨hxt', hf0, hft⟩ | ⟨rfl, he⟩
  · obtain ⟨T2, v, b1, b2, b3, b4⟩ := jMc_bad hL (ω := ω) hKT (n := m) e3 hP (by omega) hxt' e4 (by omega) e5 hft
    exact ⟨T2, v, b1, e2.trans b2, b3, fun _ => b4, fun z => absurd z hf0⟩
  · have hh := e4.h1
    have hsz := e5.t
    have h415 : f_Mo_check_9 (m + 2) (jad L (jm 0)) (nI x) (nI (jPs.d s)) (nI (jmay s)) (jW L ω T) = f_Mo_check_415 (jad L (jm 0)) (nI (jPs.d s)) (jW L ω T) := by
      rw [f_Mo_check_9, jg39 hL e5.f, Option.bind_some, if_pos (show nI 0 = (0 : Int32) from rfl), jg42 hL e5.x, Option.bind_some, if_pos ((nI_leI (by omega) (by omega)).mpr (Nat.le_refl _))]
    rw [h415]
    unfold f_Mo_check_415
    rw [jg39 hL e5.f, Option.bind_some, if_pos (show nI 0 = (0 : Int32) from rfl)]
    obtain ⟨Tf, a1, a2, a3, a4, a5⟩ := jMp_fails hL (ω := ω) hKT (x := 2) (v := x) e5.f
    have a1 : f_Mo_fails (jad L (jm 0)) 2 (nI x) (jW L ω T) = some (0, jW L ω Tf) := a1
    have e445 : ∀ U : jSt, jLK U sw ps wy → ∃ v, f_Mo_check_445 (jad L (jm 0)) (jW L ω U) = some (v, jW L ω U) := by
      intro U hK
      have hfew : ∃ r, f_Mo_few (jgA U (jm 27) 0 + jgA U (jm 28) 0 + jgA U (jm 29) 0) (jW L ω U) = some r := by
        unfold f_Mo_few
        by_cases cc : jgA U (jm 27) 0 + jgA U (jm 28) 0 + jgA U (jm 29) 0 ≤ 1000
        · rw [if_pos cc]; exact ⟨_, rfl⟩
        · rw [if_neg cc]; exact ⟨_, rfl⟩
      obtain ⟨r, hr⟩ := hfew
      refine ⟨r, ?_⟩
      unfold f_Mo_check_445
      rw [show (0 : Int32) = nI 0 from rfl]
      simp (disch := first | omega | rfl | assumption | exact jokr (by decide) (by omega) | exact jokr4 (by omega) | exact jkt_r _ _ | exact jkt_l (by decide) | exact jfk_l (by decide) | exact jkt_t _ | exact jkt_r6 _ _ | exact jkt_t6 _ | (simp only [jok, jlen]; omega) | decide) only [jm_k hL, jm_gi hL, jm_gr hL, jm_gl hL, jm_pi hL, jm_pl hL, jn_ai hL, jn_ab hL, jn_az hL, jn_al hL, jn_ar hL, jn_an hL, jn_si hL, jn_sb hL, jn_sz hL, jn_sl hL, Option.bind_some, xc, xl, jsA_X, jsI_X, jsG_X, hK _ _, jlk, jmx, hr]
    rcases he with ⟨h1, hd0, rfl⟩ | ⟨hno, rfl, rfl⟩
    · have hhs := e5.h
      rw [h1, hd0] at hhs
      rw [hd0] at hsz
      have g0 := e4.g0
      have ho := e5.o 0 (Nat.zero_le _)
      have hr := e5.r 0 (Nat.zero_le _)
      have hi' := e5.i 0 (Nat.zero_le _)
      have c1 := jcap_le (ov' 0)
      have c2 := jcap_le (ir' 0)
      have c3 := jcap_le (ii' 0)
      have hf := jMo_few (v := jcap (ov' 0) + jcap (ir' 0) + jcap (ii' 0)) (by omega) (ω := jW L ω T)
      rw [jcap_add3, show ov' 0 + ir' 0 + ii' 0 = jPs.sz s by omega] at hf
      refine ⟨T, nI (jcap (jPs.sz s)), ?_, e2, e5.f, fun z => absurd rfl z, fun _ => rfl⟩
      rw [hd0, if_neg (show ¬ (0 : Int32) < nI 0 by decide), show (0 : Int32) = nI 0 from rfl]
      have hK := hKT
      simp (disch := first | omega | rfl | assumption | exact jokr (by decide) (by omega) | exact jokr4 (by omega) | exact jkt_r _ _ | exact jkt_l (by decide) | exact jfk_l (by decide) | exact jkt_t _ | exact jkt_r6 _ _ | exact jkt_t6 _ | (simp only [jok, jlen]; omega) | decide) only [jm_k hL, jm_gi hL, jm_gr hL, jm_gl hL, jm_pi hL, jm_pl hL, jn_ai hL, jn_ab hL, jn_az hL, jn_al hL, jn_ar hL, jn_an hL, jn_si hL, jn_sb hL, jn_sz hL, jn_sl hL, Option.bind_some, xc, xl, jsA_X, jsI_X, jsG_X, hK _ _, jlk, jmx, hhs]
      rw [if_neg (show ¬ nI 1 = nI 0 by decide)]
      unfold f_Mo_check_445
      rw [show (0 : Int32) = nI 0 from rfl]
      simp (disch := first | omega | rfl | assumption | exact jokr (by decide) (by omega) | exact jokr4 (by omega) | exact jkt_r _ _ | exact jkt_l (by decide) | exact jfk_l (by decide) | exact jkt_t _ | exact jkt_r6 _ _ | exact jkt_t6 _ | (simp only [jok, jlen]; omega) | decide) only [jm_k hL, jm_gi hL, jm_gr hL, jm_gl hL, jm_pi hL, jm_pl hL, jn_ai hL, jn_ab hL, jn_az hL, jn_al hL, jn_ar hL, jn_an hL, jn_si hL, jn_sb hL, jn_sz hL, jn_sl hL, Option.bind_some, xc, xl, jsA_X, jsI_X, jsG_X, hK _ _, jlk, jmx, nI_add, ho, hr, hi', hf]
    · obtain ⟨v, hv⟩ := e445 Tf (hKT.of a2.x)
      refine ⟨Tf, v, ?_, e2.trans a2.U, a3, fun _ => a4, fun z => absurd z (by decide)⟩
      by_cases hd0 : jPs.d s = 0
      · have h0 : jPs.hs s = 0 := by
          have : ¬ jPs.hs s = 1 := fun z => hno ⟨z, hd0⟩
          omega
        have hhs := e5.h
        rw [h0, hd0] at hhs
        rw [hd0, if_neg (show ¬ (0 : Int32) < nI 0 by decide), show (0 : Int32) = nI 0 from rfl]
        have hK := hKT
        have x42 := e5.x
        simp (disch := first | omega | rfl | assumption | exact jokr (by decide) (by omega) | exact jokr4 (by omega) | exact jkt_r _ _ | exact jkt_l (by decide) | exact jfk_l (by decide) | exact jkt_t _ | exact jkt_r6 _ _ | exact jkt_t6 _ | (simp only [jok, jlen]; omega) | decide) only [jm_k hL, jm_gi hL, jm_gr hL, jm_gl hL, jm_pi hL, jm_pl hL, jn_ai hL, jn_ab hL, jn_az hL, jn_al hL, jn_ar hL, jn_an hL, jn_si hL, jn_sb hL, jn_sz hL, jn_sl hL, Option.bind_some, xc, xl, jsA_X, jsI_X, jsG_X, hK _ _, jlk, jmx, hhs, if_true, x42]
        rw [a1]
        exact hv
      · rw [if_pos (show (0 : Int32) < nI (jPs.d s) from (nI_ltI (a := 0) (by omega) (by omega)).mpr (by omega)), jg42 hL e5.x, Option.bind_some, jkm hL, a1]
        exact hv
