/-! the reference's step of a pattern, its runs over rows -/
theorem jMo_lead_56 {L : jL} (hL : jgood L) {ω : xS} {S : jSt} {sw ps wy : Nat} (hK : jLK S sw ps wy) {w : jLw} (hw : jLg L w) (hM : jLM S w) {k to l : Nat} (hk : k < jLw.n w) (hp : jLw.pt w k) (ht : to < 1024) (hl : l < 9) : f_Mo_lead_56 xFU (jad L (jm 0)) (nI k) (nI l) (nI to) (nI 0) (nI 0) (jW L ω S) = some (nI (jtk to (jLw.ls w k) l (jLw.sz w k))) := by
  have h16 := hw.n16
  have hz := hw.sz k hk hp
  refine jlpx (fun n i x => f_Mo_lead_56 n (jad L (jm 0)) (nI k) (nI l) (nI to) x (nI i) (jW L ω S)) (fun i => nI (jtk to (jLw.ls w k) l i)) (lo := 0) (hi := jLw.sz w k) (Nat.zero_le _) (by omega) ?_ ?_
  · intro n i _ hi
    have hb : jtk to (jLw.ls w k) l i < 2 ^ 10 := jtk_lt i (by omega)
    have hls := hw.ls k i hk hp
    rw [f_Mo_lead_56]
    simp (disch := first | omega | rfl | assumption | exact jokr (by decide) (by omega) | exact jokr4 (by omega) | exact jkt_r _ _ | exact jkt_l (by decide) | exact jfk_l (by decide) | exact jkt_t _ | exact jkt_r6 _ _ | exact jkt_t6 _ | (simp only [jok, jlen]; omega) | decide) only [jm_k hL, jm_gi hL, jm_gr hL, jm_gl hL, jm_pi hL, jm_pl hL, jn_ai hL, jn_ab hL, jn_az hL, jn_al hL, jn_ar hL, jn_an hL, jn_si hL, jn_sb hL, jn_sz hL, jn_sl hL, Option.bind_some, xc, xl, jsA_X, jsI_X, jsG_X, hK _ _, jlk, jmx, jlit, jlitl, jmul, nI_add, lN_add, nI_leI, nI_ltI, nI_eq, jm1, jm1g, jm1e, jm1c, hM.sz, if_neg, jbt1]
    rw [jtk]
    by_cases h0 : jbit to i = 1
    · rw [if_pos h0]
      simp (disch := first | omega | rfl | assumption | exact jokr (by decide) (by omega) | exact jokr4 (by omega) | exact jkt_r _ _ | exact jkt_l (by decide) | exact jfk_l (by decide) | exact jkt_t _ | exact jkt_r6 _ _ | exact jkt_t6 _ | (simp only [jok, jlen]; omega) | decide) only [jm_k hL, jm_gi hL, jm_gr hL, jm_gl hL, jm_pi hL, jm_pl hL, jn_ai hL, jn_ab hL, jn_az hL, jn_al hL, jn_ar hL, jn_an hL, jn_si hL, jn_sb hL, jn_sz hL, jn_sl hL, Option.bind_some, xc, xl, jsA_X, jsI_X, jsG_X, hK _ _, jlk, jmx, jlit, jlitl, jmul, nI_add, lN_add, nI_leI, nI_ltI, nI_eq, jm1, jm1g, jm1e, jm1c, hM.ls, jbt1]
      have h2 : 2 ^ i < 2 ^ 10 := Nat.pow_lt_pow_right (by decide) (by omega)
      by_cases h1 : jbit (jLw.ls w k i) l = 1
      · rw [if_pos h1, if_pos ⟨h0, h1⟩, jshl (by omega) (by omega), Nat.one_mul, jor (by omega) (by omega)]
      · rw [if_neg h1, if_neg (fun q => h1 q.2), jor (by omega) (by omega)]
    · rw [if_neg h0, if_neg (fun q => h0 q.1)]
      rw [jor (by omega) (by omega)]
  · intro n
    rw [f_Mo_lead_56]
    simp (disch := first | omega | rfl | assumption | exact jokr (by decide) (by omega) | exact jokr4 (by omega) | exact jkt_r _ _ | exact jkt_l (by decide) | exact jfk_l (by decide) | exact jkt_t _ | exact jkt_r6 _ _ | exact jkt_t6 _ | (simp only [jok, jlen]; omega) | decide) only [jm_k hL, jm_gi hL, jm_gr hL, jm_gl hL, jm_pi hL, jm_pl hL, jn_ai hL, jn_ab hL, jn_az hL, jn_al hL, jn_ar hL, jn_an hL, jn_si hL, jn_sb hL, jn_sz hL, jn_sl hL, Option.bind_some, xc, xl, jsA_X, jsI_X, jsG_X, hK _ _, jlk, jmx, jlit, jlitl, jmul, nI_add, lN_add, nI_leI, nI_ltI, nI_eq, jm1, jm1g, jm1e, jm1c, hM.sz]
    rw [if_pos (Nat.le_refl _)]
theorem jMo_lead {L : jL} (hL : jgood L) {ω : xS} {S : jSt} {sw ps wy : Nat} (hK : jLK S sw ps wy) {w : jLw} (hw : jLg L w) (hM : jLM S w) {k s l : Nat} (hk : k < jLw.n w) (hp : jLw.pt w k) (hs : s < 2048) (hl : l < 9) : f_Mo_lead (jad L (jm 0)) (nI k) (nI s) (nI l) (jW L ω S) = some (nI (jLw.dl w k s l)) := by
  have h16 := hw.n16
  unfold f_Mo_lead
  refine jlpx (fun n i x => f_Mo_lead_6 n (jad L (jm 0)) (nI k) (nI s) (nI l) x (nI i) (jW L ω S)) (fun i => nI (jos (jLw.fo w k) s i)) (lo := 0) (hi := 11) (Nat.zero_le _) (by omega) ?_ ?_
  · intro n i _ hi
    have hb : jos (jLw.fo w k) s i < 2 ^ 10 := jos_lt i (fun q _ => hw.fo k q hk hp)
    have hfo := hw.fo k i hk hp
    rw [f_Mo_lead_6]
    simp (disch := first | omega | rfl | assumption | exact jokr (by decide) (by omega) | exact jokr4 (by omega) | exact jkt_r _ _ | exact jkt_l (by decide) | exact jfk_l (by decide) | exact jkt_t _ | exact jkt_r6 _ _ | exact jkt_t6 _ | (simp only [jok, jlen]; omega) | decide) only [jlit, jlitl, jmul, nI_add, lN_add, nI_leI, nI_ltI, nI_eq, jm1, jm1g, jm1e, jm1c, if_neg, jbt1]
    rw [jos]
    by_cases h0 : jbit s i = 1
    · rw [if_pos h0, if_pos h0]
      simp (disch := first | omega | rfl | assumption | exact jokr (by decide) (by omega) | exact jokr4 (by omega) | exact jkt_r _ _ | exact jkt_l (by decide) | exact jfk_l (by decide) | exact jkt_t _ | exact jkt_r6 _ _ | exact jkt_t6 _ | (simp only [jok, jlen]; omega) | decide) only [jm_k hL, jm_gi hL, jm_gr hL, jm_gl hL, jm_pi hL, jm_pl hL, jn_ai hL, jn_ab hL, jn_az hL, jn_al hL, jn_ar hL, jn_an hL, jn_si hL, jn_sb hL, jn_sz hL, jn_sl hL, Option.bind_some, xc, xl, jsA_X, jsI_X, jsG_X, hK _ _, jlk, jmx, jlit, jlitl, jmul, nI_add, lN_add, nI_leI, nI_ltI, nI_eq, jm1, jm1g, jm1e, jm1c, hM.fo]
      rw [jor (by omega) (by omega)]
    · rw [if_neg h0, if_neg h0]
      rw [jor (by omega) (by omega)]
  · intro n
    have hb : jos (jLw.fo w k) s 11 < 2 ^ 10 := jos_lt 11 (fun q _ => hw.fo k q hk hp)
    rw [f_Mo_lead_6]
    simp (disch := first | omega | rfl | assumption | exact jokr (by decide) (by omega) | exact jokr4 (by omega) | exact jkt_r _ _ | exact jkt_l (by decide) | exact jfk_l (by decide) | exact jkt_t _ | exact jkt_r6 _ _ | exact jkt_t6 _ | (simp only [jok, jlen]; omega) | decide) only [jlit, jlitl, jmul, nI_add, lN_add, nI_leI, nI_ltI, nI_eq, jm1, jm1g, jm1e, jm1c]
    rw [if_pos (Nat.le_refl _)]
    exact jMo_lead_56 hL hK hw hM hk hp (by omega) hl
