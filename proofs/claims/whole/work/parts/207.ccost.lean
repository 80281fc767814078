/-! the class's ways to what is broken -/
theorem jRo_letterOf {L : jL} (hL : jgood L) (hD : jdim L) {ω : xS} {S : jSt} {A : jR} (hA : jRg A) {sw ps wy : Nat} (hK : jLK S sw ps wy) (h : jRC L S A) {p t : Nat} (hp : p < jn L) (ht : t < jd L) : f_Roster_letterOf (jad L (jo 18)) (nI p) (nI t) (jW L ω S) = some (nI (jR.row A p (7 + t))) := by
  have h1 := hD.n8
  have h2 := hD.d21
  unfold f_Roster_letterOf
  simp (disch := first | omega | rfl | assumption | exact jokr (by decide) (by omega) | exact jokr4 (by omega) | exact jkt_r _ _ | exact jkt_l (by decide) | exact jfk_l (by decide) | exact jkt_t _ | exact jkt_r6 _ _ | exact jkt_t6 _ | (simp only [jok, jlen]; omega) | decide) only [jm_k hL, jm_gi hL, jm_gr hL, jm_gl hL, jm_pi hL, jm_pl hL, jn_ai hL, jn_ab hL, jn_az hL, jn_al hL, jn_ar hL, jn_an hL, jn_si hL, jn_sb hL, jn_sz hL, jn_sl hL, Option.bind_some, xc, xl, jsA_X, jsI_X, jsG_X, hK _ _, jlk, jmx, jlit, jlitl, jmul, nI_add, lN_add, nI_leI, nI_ltI, nI_eq, jm1, jm1g, jm1e, jm1c, h.row]
theorem jRo_minutes {L : jL} (hL : jgood L) (hD : jdim L) {ω : xS} {S : jSt} {A : jR} (hA : jRg A) {sw ps wy : Nat} (hK : jLK S sw ps wy) (h : jRC L S A) {p f g : Nat} (hp : p < jn L) (hf : f ≤ g + 1) (hg : g < jd L) : f_Roster_minutesBetween (jad L (jo 18)) (nI p) (nI f) (nI g) (jW L ω S) = some (lN (jsm (fun q => jmn A p (f + q)) (g + 1 - f))) := by
  have h1 := hD.n8
  have h2 := hD.d21
  unfold f_Roster_minutesBetween
  refine jlpx (fun n i x => f_Roster_minutesBetween_6 n (jad L (jo 18)) (nI p) (nI g) x (nI (f + i)) (jW L ω S)) (fun i => lN (jsm (fun q => jmn A p (f + q)) i)) (lo := 0) (hi := g + 1 - f) (Nat.zero_le _) (by omega) ?_ ?_
  · intro n i _ hi
    have hr := hA.row p (7 + (f + i))
    have hl := hA.ln (jR.row A p (7 + (f + i)))
    rw [f_Roster_minutesBetween_6]
    simp (disch := first | omega | rfl | assumption | exact jokr (by decide) (by omega) | exact jokr4 (by omega) | exact jkt_r _ _ | exact jkt_l (by decide) | exact jfk_l (by decide) | exact jkt_t _ | exact jkt_r6 _ _ | exact jkt_t6 _ | (simp only [jok, jlen]; omega) | decide) only [jm_k hL, jm_gi hL, jm_gr hL, jm_gl hL, jm_pi hL, jm_pl hL, jn_ai hL, jn_ab hL, jn_az hL, jn_al hL, jn_ar hL, jn_an hL, jn_si hL, jn_sb hL, jn_sz hL, jn_sl hL, Option.bind_some, xc, xl, jsA_X, jsI_X, jsG_X, hK _ _, jlk, jmx, jlit, jlitl, jmul, nI_add, lN_add, nI_leI, nI_ltI, nI_eq, jm1, jm1g, jm1e, jm1c, if_neg, jRo_letterOf hL hD hA hK h, h.ln, nI_l]
    rw [jsm]
    try rfl
  · intro n
    rw [f_Roster_minutesBetween_6]
    simp (disch := first | omega | rfl | assumption | exact jokr (by decide) (by omega) | exact jokr4 (by omega) | exact jkt_r _ _ | exact jkt_l (by decide) | exact jfk_l (by decide) | exact jkt_t _ | exact jkt_r6 _ _ | exact jkt_t6 _ | (simp only [jok, jlen]; omega) | decide) only [jlit, jlitl, jmul, nI_add, lN_add, nI_leI, nI_ltI, nI_eq, jm1, jm1g, jm1e, jm1c]
    rw [if_pos (by omega)]
theorem jJu_unskilled {L : jL} (hL : jgood L) (hD : jdim L) {ω : xS} {S : jSt} {A : jR} (hA : jRg A) {sw ps wy : Nat} (hK : jLK S sw ps wy) (h : jRC L S A) {p f g : Nat} (hp : p < jn L) (hf : f ≤ g + 1) (hg : g < jd L) : f_Judge_unskilled (jad L (jo 28)) (nI p) (nI f) (nI g) (jW L ω S) = some (lN (jsm (fun q => jun A p (f + q)) (g + 1 - f))) := by
  have h1 := hD.n8
  have h2 := hD.d21
  unfold f_Judge_unskilled
  refine jlpx (fun n i x => f_Judge_unskilled_6 n (jad L (jo 28)) (nI p) (nI g) x (nI (f + i)) (jW L ω S)) (fun i => lN (jsm (fun q => jun A p (f + q)) i)) (lo := 0) (hi := g + 1 - f) (Nat.zero_le _) (by omega) ?_ ?_
  · intro n i _ hi
    have hr := hA.row p (7 + (f + i))
    have hk := hA.sk p
    have hn := hA.nd (jR.row A p (7 + (f + i)))
    rw [f_Judge_unskilled_6]
    simp (disch := first | omega | rfl | assumption | exact jokr (by decide) (by omega) | exact jokr4 (by omega) | exact jkt_r _ _ | exact jkt_l (by decide) | exact jfk_l (by decide) | exact jkt_t _ | exact jkt_r6 _ _ | exact jkt_t6 _ | (simp only [jok, jlen]; omega) | decide) only [jm_k hL, jm_gi hL, jm_gr hL, jm_gl hL, jm_pi hL, jm_pl hL, jn_ai hL, jn_ab hL, jn_az hL, jn_al hL, jn_ar hL, jn_an hL, jn_si hL, jn_sb hL, jn_sz hL, jn_sl hL, Option.bind_some, xc, xl, jsA_X, jsI_X, jsG_X, hK _ _, jlk, jmx, jlit, jlitl, jmul, nI_add, lN_add, nI_leI, nI_ltI, nI_eq, jm1, jm1g, jm1e, jm1c, if_neg, jRo_letterOf hL hD hA hK h]
    rw [jsm]
    by_cases h0 : jR.row A p (7 + (f + i)) = 0
    · rw [if_pos h0]
      have e : jun A p (f + i) = 0 := by unfold jun; rw [if_pos h0]
      rw [e]
      try rfl
    · rw [if_neg h0]
      simp (disch := first | omega | rfl | assumption | exact jokr (by decide) (by omega) | exact jokr4 (by omega) | exact jkt_r _ _ | exact jkt_l (by decide) | exact jfk_l (by decide) | exact jkt_t _ | exact jkt_r6 _ _ | exact jkt_t6 _ | (simp only [jok, jlen]; omega) | decide) only [jm_k hL, jm_gi hL, jm_gr hL, jm_gl hL, jm_pi hL, jm_pl hL, jn_ai hL, jn_ab hL, jn_az hL, jn_al hL, jn_ar hL, jn_an hL, jn_si hL, jn_sb hL, jn_sz hL, jn_sl hL, Option.bind_some, xc, xl, jsA_X, jsI_X, jsG_X, hK _ _, jlk, jmx, h.sk, h.nd, jlit, jbt0]
      have e : jun A p (f + i) = 1 - jbit (jR.sk A p) (jR.nd A (jR.row A p (7 + (f + i)))) := by unfold jun; rw [if_neg h0]
      have hb := jbit_lt (jR.sk A p) (jR.nd A (jR.row A p (7 + (f + i))))
      rw [e]
      by_cases h3 : jbit (jR.sk A p) (jR.nd A (jR.row A p (7 + (f + i)))) = 0
      · rw [if_pos h3, h3]; try rfl
      · rw [if_neg h3, show jbit (jR.sk A p) (jR.nd A (jR.row A p (7 + (f + i)))) = 1 by omega]; try rfl
  · intro n
    rw [f_Judge_unskilled_6]
    simp (disch := first | omega | rfl | assumption | exact jokr (by decide) (by omega) | exact jokr4 (by omega) | exact jkt_r _ _ | exact jkt_l (by decide) | exact jfk_l (by decide) | exact jkt_t _ | exact jkt_r6 _ _ | exact jkt_t6 _ | (simp only [jok, jlen]; omega) | decide) only [jlit, jlitl, jmul, nI_add, lN_add, nI_leI, nI_ltI, nI_eq, jm1, jm1g, jm1e, jm1c]
    rw [if_pos (by omega)]
theorem jJu_rests {L : jL} (hL : jgood L) (hD : jdim L) {ω : xS} {S : jSt} {A : jR} (hA : jRg A) {sw ps wy : Nat} (hK : jLK S sw ps wy) (h : jRC L S A) {p lo : Nat} (hp : p < jn L) (hlo : lo ≤ 99999) : f_Judge_shortRests (jad L (jo 28)) (nI lo) (nI p) (jW L ω S) = some (lN (jsm (jsr A p lo) (7 + jd L))) := by
  have h1 := hD.n8
  have h2 := hD.d21
  unfold f_Judge_shortRests
  simp (disch := first | omega | rfl | assumption | exact jokr (by decide) (by omega) | exact jokr4 (by omega) | exact jkt_r _ _ | exact jkt_l (by decide) | exact jfk_l (by decide) | exact jkt_t _ | exact jkt_r6 _ _ | exact jkt_t6 _ | (simp only [jok, jlen]; omega) | decide) only [jm_k hL, jm_gi hL, jm_gr hL, jm_gl hL, jm_pi hL, jm_pl hL, jn_ai hL, jn_ab hL, jn_az hL, jn_al hL, jn_ar hL, jn_an hL, jn_si hL, jn_sb hL, jn_sz hL, jn_sl hL, Option.bind_some, xc, xl, jsA_X, jsI_X, jsG_X, hK _ _, jlk, jmx]
  refine jlpx (fun n i (x : Int64 × Int32) => f_Judge_shortRests_19 n (jad L (jo 28)) (nI lo) (jad L (jr 0 p)) x.1 x.2 (nI i) (jW L ω S)) (fun i => (lN (jsm (jsr A p lo) i), nI (jrf (jR.row A p) i) - nI 1)) (lo := 0) (hi := 7 + jd L) (Nat.zero_le _) (by omega) ?_ ?_
  · intro n i _ hi
    have hr := hA.row p i
    have hf := jrf_le (jR.row A p) i
    show f_Judge_shortRests_19 (n + 1) _ _ _ _ _ _ _ = f_Judge_shortRests_19 n _ _ _ _ _ _ _
    rw [f_Judge_shortRests_19]
    simp (disch := first | omega | rfl | assumption | exact jokr (by decide) (by omega) | exact jokr4 (by omega) | exact jkt_r _ _ | exact jkt_l (by decide) | exact jfk_l (by decide) | exact jkt_t _ | exact jkt_r6 _ _ | exact jkt_t6 _ | (simp only [jok, jlen]; omega) | decide) only [jm_k hL, jm_gi hL, jm_gr hL, jm_gl hL, jm_pi hL, jm_pl hL, jn_ai hL, jn_ab hL, jn_az hL, jn_al hL, jn_ar hL, jn_an hL, jn_si hL, jn_sb hL, jn_sz hL, jn_sl hL, Option.bind_some, xc, xl, jsA_X, jsI_X, jsG_X, hK _ _, jlk, jmx, jlit, jlitl, jmul, nI_add, lN_add, nI_leI, nI_ltI, nI_eq, jm1, jm1g, jm1e, jm1c, jlen, if_neg, h.row]
    by_cases h0 : jR.row A p i = 0
    · rw [if_pos h0]
      have a1 : jsr A p lo i = 0 := by unfold jsr; rw [if_neg (fun q => q.2.1 h0)]
      have a2 : jrf (jR.row A p) (i + 1) = jrf (jR.row A p) i := by rw [jrf, if_pos h0]
      rw [jsm, a1, a2]
      try rfl
    · rw [if_neg h0]
      have a2 : jrf (jR.row A p) (i + 1) = i + 1 := by rw [jrf, if_neg h0]
      have a3 : nI (i + 1) - nI 1 = nI i := by rw [jsub (by omega), Nat.add_sub_cancel]
      rw [jsm, a2, a3]
      by_cases h4 : i < 7
      · rw [if_pos h4]
        have a1 : jsr A p lo i = 0 := by unfold jsr; rw [if_neg (fun q => by omega)]
        rw [a1]
        try rfl
      · rw [if_neg h4]
        by_cases h3 : jrf (jR.row A p) i = 0
        · rw [if_pos h3]
          have a1 : jsr A p lo i = 0 := by unfold jsr; rw [if_neg (fun q => q.2.2.1 h3)]
          rw [a1]
          try rfl
        · rw [if_neg h3]
          have hb := jrf_nz (jR.row A p) i h3
          have hr2 := hA.row p (jrf (jR.row A p) i - 1)
          have g1 := hA.bg (jR.row A p i)
          have g2 := hA.bg (jR.row A p (jrf (jR.row A p) i - 1))
          have g3 := hA.ln (jR.row A p (jrf (jR.row A p) i - 1))
          simp (disch := first | omega | rfl | assumption | exact jokr (by decide) (by omega) | exact jokr4 (by omega) | exact jkt_r _ _ | exact jkt_l (by decide) | exact jfk_l (by decide) | exact jkt_t _ | exact jkt_r6 _ _ | exact jkt_t6 _ | (simp only [jok, jlen]; omega) | decide) only [jm_k hL, jm_gi hL, jm_gr hL, jm_gl hL, jm_pi hL, jm_pl hL, jn_ai hL, jn_ab hL, jn_az hL, jn_al hL, jn_ar hL, jn_an hL, jn_si hL, jn_sb hL, jn_sz hL, jn_sl hL, Option.bind_some, xc, xl, jsA_X, jsI_X, jsG_X, hK _ _, jlk, jmx, jm1s, h.row, f_Roster_gap, jsub, h.bg, h.ln, jlit, jmul, nI_add, jss, jsle]
          by_cases h5 : lo + (jR.bg A (jR.row A p (jrf (jR.row A p) i - 1)) + jR.ln A (jR.row A p (jrf (jR.row A p) i - 1))) ≤ (i - (jrf (jR.row A p) i - 1)) * 1440 + jR.bg A (jR.row A p i)
          · rw [if_pos (by omega)]
            have a1 : jsr A p lo i = 0 := by unfold jsr; rw [if_neg (fun q => by omega)]
            rw [a1]
            try rfl
          · rw [if_neg (by omega)]
            have a1 : jsr A p lo i = 1 := by unfold jsr; rw [if_pos ⟨by omega, h0, h3, by omega⟩]
            rw [a1]
            try rfl
  · intro n
    show f_Judge_shortRests_19 (n + 1) _ _ _ _ _ _ _ = _
    rw [f_Judge_shortRests_19]
    simp (disch := first | omega | rfl | assumption | exact jokr (by decide) (by omega) | exact jokr4 (by omega) | exact jkt_r _ _ | exact jkt_l (by decide) | exact jfk_l (by decide) | exact jkt_t _ | exact jkt_r6 _ _ | exact jkt_t6 _ | (simp only [jok, jlen]; omega) | decide) only [jm_k hL, jm_gi hL, jm_gr hL, jm_gl hL, jm_pi hL, jm_pl hL, jn_ai hL, jn_ab hL, jn_az hL, jn_al hL, jn_ar hL, jn_an hL, jn_si hL, jn_sb hL, jn_sz hL, jn_sl hL, Option.bind_some, xc, xl, jlit, jlitl, jmul, nI_add, lN_add, nI_leI, nI_ltI, nI_eq, jm1, jm1g, jm1e, jm1c, jlen]
    rw [if_pos (by omega)]
