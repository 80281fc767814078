/-! broken, for all that may be asked -/
theorem jRR_isLaw {L : jL} (hL : jgood L) (hD : jdim L) {ω : xS} {S : jSt} {A : jR} (hA : jRg A) {sw ps wy : Nat} (hK : jLK S sw ps wy) {w : jLw} (hC : jLC L S w sw) {x : Int32} : f_RR_isLaw (jad L (jo 0)) x (jW L ω S) = some (if jbel (jLw.n w) x then 1 else 0) := by
  unfold f_RR_isLaw
  simp (disch := first | omega | rfl | assumption | exact jokr (by decide) (by omega) | exact jokr4 (by omega) | exact jkt_r _ _ | exact jkt_l (by decide) | exact jfk_l (by decide) | exact jkt_t _ | exact jkt_r6 _ _ | exact jkt_t6 _ | (simp only [jok, jlen]; omega) | decide) only [jm_gi hL, Option.bind_some, hC.n]
  exact jite2
theorem jeq_broken {L : jL} (hL : jgood L) (hD : jdim L) {ω : xS} {S : jSt} {A : jR} (hA : jRg A) {sw ps wy : Nat} (hK : jLK S sw ps wy) {w : jLw} (hw : jLg L w) (h : jRC L S A) (h' : jRM L S A) (hC : jLC L S w sw) (hM : jLM S w) (x y : Int32) : ∃ r, f_RR_broken (jad L (jo 0)) x y (jW L ω S) = some r ∧ f_Mo_broken (jad L (jm 0)) x y (jW L ω S) = some r := by
  have h8 := hD.n8
  have h2 := hD.d21
  have h16 := hw.n16
  have hs1 := hC.s1
  cases c1 : jbel (jLw.n w) x
  · refine ⟨-1, ?_, ?_⟩
    · unfold f_RR_broken; simp (disch := first | omega | rfl | assumption | exact jokr (by decide) (by omega) | exact jokr4 (by omega) | exact jkt_r _ _ | exact jkt_l (by decide) | exact jfk_l (by decide) | exact jkt_t _ | exact jkt_r6 _ _ | exact jkt_t6 _ | (simp only [jok, jlen]; omega) | decide) only [jm_k hL, jm_gi hL, jm_gr hL, jm_gl hL, jm_pi hL, jm_pl hL, jn_ai hL, jn_ab hL, jn_az hL, jn_al hL, jn_ar hL, jn_an hL, jn_si hL, jn_sb hL, jn_sz hL, jn_sl hL, Option.bind_some, xc, xl, jRR_isLaw hL hD hA hK hC, c1]; rfl
    · unfold f_Mo_broken
      simp (disch := first | omega | rfl | assumption | exact jokr (by decide) (by omega) | exact jokr4 (by omega) | exact jkt_r _ _ | exact jkt_l (by decide) | exact jfk_l (by decide) | exact jkt_t _ | exact jkt_r6 _ _ | exact jkt_t6 _ | (simp only [jok, jlen]; omega) | decide) only [jm_k hL, jm_gi hL, jm_gr hL, jm_gl hL, jm_pi hL, jm_pl hL, jn_ai hL, jn_ab hL, jn_az hL, jn_al hL, jn_ar hL, jn_an hL, jn_si hL, jn_sb hL, jn_sz hL, jn_sl hL, Option.bind_some, xc, xl, hM.n]
      have c1 : ¬ (¬ x < 0 ∧ ¬ nI (jLw.n w) ≤ x) := of_decide_eq_false c1
      by_cases c2 : x < 0
      · rw [if_pos c2]
      · rw [if_neg c2, if_pos (Classical.byContradiction fun q => c1 ⟨c2, q⟩)]
  · obtain ⟨k, hk, rfl⟩ := (jbel_iff (by omega)).mp c1
    have hs6 := hw.so k hk
    have hlo := hw.lo k hk
    have hhi := hw.hi k hk
    have hj : 2 * k + sw < 32 := by omega
    by_cases cy : y = -1
    · subst cy
      refine ⟨lN (jev w k A L), ?_, jMo_brokenAll hL hD hA hK hw h' hM hk⟩
      unfold f_RR_broken
      simp (disch := first | omega | rfl | assumption | exact jokr (by decide) (by omega) | exact jokr4 (by omega) | exact jkt_r _ _ | exact jkt_l (by decide) | exact jfk_l (by decide) | exact jkt_t _ | exact jkt_r6 _ _ | exact jkt_t6 _ | (simp only [jok, jlen]; omega) | decide) only [jm_k hL, jm_gi hL, jm_gr hL, jm_gl hL, jm_pi hL, jm_pl hL, jn_ai hL, jn_ab hL, jn_az hL, jn_al hL, jn_ar hL, jn_an hL, jn_si hL, jn_sb hL, jn_sz hL, jn_sl hL, Option.bind_some, xc, xl, jRR_isLaw hL hD hA hK hC, c1, if_true, jlit, nI_eq, if_neg, jsA_X, jsI_X, jsG_X, hK _ _, jlk, jmx, jlawref hL hK hs1 (show k < 16 by omega), jJu_every hL hD hA hK hw h hC hk]
    · -- below -1, or a number
      by_cases cn : y.toInt < -1
      · have b1 : jbel (jn L) y = false := by
          unfold jbel
          rw [decide_eq_false_iff_not]
          intro q
          rw [Int32.lt_iff_toInt_lt, Int32.toInt_zero] at q
          omega
        have b2 : jbel (jd L) y = false := by
          unfold jbel
          rw [decide_eq_false_iff_not]
          intro q
          rw [Int32.lt_iff_toInt_lt, Int32.toInt_zero] at q
          omega
        refine ⟨-1, ?_, ?_⟩
        · unfold f_RR_broken
          have g4 : ¬ y = -nI 1 := cy
          simp (disch := first | omega | rfl | assumption | exact jokr (by decide) (by omega) | exact jokr4 (by omega) | exact jkt_r _ _ | exact jkt_l (by decide) | exact jfk_l (by decide) | exact jkt_t _ | exact jkt_r6 _ _ | exact jkt_t6 _ | (simp only [jok, jlen]; omega) | decide) only [jm_k hL, jm_gi hL, jm_gr hL, jm_gl hL, jm_pi hL, jm_pl hL, jn_ai hL, jn_ab hL, jn_az hL, jn_al hL, jn_ar hL, jn_an hL, jn_si hL, jn_sb hL, jn_sz hL, jn_sl hL, Option.bind_some, xc, xl, jRR_isLaw hL hD hA hK hC, jRR_isDay hL hD hA hK h, jRR_isPerson hL hD hA hK h, c1, b1, b2, if_true, Bool.false_eq_true, if_false, jlit, nI_eq, if_neg, if_neg g4, jsA_X, jsI_X, jsG_X, hK _ _, jlk, jmx, jlawref hL hK hs1 (show k < 16 by omega), hC.so]
          (repeat' split) <;> rfl
        · unfold f_Mo_broken
          simp (disch := first | omega | rfl | assumption | exact jokr (by decide) (by omega) | exact jokr4 (by omega) | exact jkt_r _ _ | exact jkt_l (by decide) | exact jfk_l (by decide) | exact jkt_t _ | exact jkt_r6 _ _ | exact jkt_t6 _ | (simp only [jok, jlen]; omega) | decide) only [jm_k hL, jm_gi hL, jm_gr hL, jm_gl hL, jm_pi hL, jm_pl hL, jn_ai hL, jn_ab hL, jn_az hL, jn_al hL, jn_ar hL, jn_an hL, jn_si hL, jn_sb hL, jn_sz hL, jn_sl hL, Option.bind_some, xc, xl, hM.n, hM.so, jsA_X, jsI_X, jsG_X, hK _ _, jlk, jmx]
          have g1 : ¬ nI k < 0 := fun q => (jneg (show k < 2 ^ 31 by omega)).mp q
          have g2 : ¬ nI (jLw.n w) ≤ nI k := fun q => by have := (nI_leI (by omega) (by omega)).mp q; omega
          rw [if_neg g1, if_neg g2, if_neg]
          rw [Int32.le_iff_toInt_le, show (-1 : Int32).toInt = -1 by decide]
          omega
      · have hy0 : 0 ≤ y := by
          rw [Int32.le_iff_toInt_le, Int32.toInt_zero]
          have h3 : y.toInt ≠ -1 := fun q => cy (Int32.toInt_inj.mp (by rw [q]; decide))
          omega
        obtain ⟨q, hq, rfl⟩ := jofI hy0
        have g3 : (-nI 1 : Int32) ≤ nI q := by
          rw [Int32.le_iff_toInt_le, nI_toInt hq, show (-nI 1 : Int32).toInt = -1 by decide]
          omega
        have g4 : ¬ nI q = -nI 1 := fun z => cy z
        by_cases c5 : jLw.so w k = 5
        · refine ⟨-1, ?_, ?_⟩
          · unfold f_RR_broken
            simp (disch := first | omega | rfl | assumption | exact jokr (by decide) (by omega) | exact jokr4 (by omega) | exact jkt_r _ _ | exact jkt_l (by decide) | exact jfk_l (by decide) | exact jkt_t _ | exact jkt_r6 _ _ | exact jkt_t6 _ | (simp only [jok, jlen]; omega) | decide) only [jm_k hL, jm_gi hL, jm_gr hL, jm_gl hL, jm_pi hL, jm_pl hL, jn_ai hL, jn_ab hL, jn_az hL, jn_al hL, jn_ar hL, jn_an hL, jn_si hL, jn_sb hL, jn_sz hL, jn_sl hL, Option.bind_some, xc, xl, jRR_isLaw hL hD hA hK hC, c1, if_true, jlit, nI_eq, if_neg, if_neg g4, jsA_X, jsI_X, jsG_X, hK _ _, jlk, jmx, jlawref hL hK hs1 (show k < 16 by omega), hC.so, if_pos c5]
            try rfl
          · unfold f_Mo_broken f_Mo_broken_55
            simp (disch := first | omega | rfl | assumption | exact jokr (by decide) (by omega) | exact jokr4 (by omega) | exact jkt_r _ _ | exact jkt_l (by decide) | exact jfk_l (by decide) | exact jkt_t _ | exact jkt_r6 _ _ | exact jkt_t6 _ | (simp only [jok, jlen]; omega) | decide) only [jm_k hL, jm_gi hL, jm_gr hL, jm_gl hL, jm_pi hL, jm_pl hL, jn_ai hL, jn_ab hL, jn_az hL, jn_al hL, jn_ar hL, jn_an hL, jn_si hL, jn_sb hL, jn_sz hL, jn_sl hL, Option.bind_some, xc, xl, jsA_X, jsI_X, jsG_X, hK _ _, jlk, jmx, jlit, jlitl, jmul, nI_add, lN_add, nI_leI, nI_ltI, nI_eq, jm1, jm1g, jm1e, jm1c, hM.n, hM.so, if_neg, jneg, if_false, if_pos g3, if_pos c5, h'.n, h'.d]
            try rfl
        · by_cases c6 : jLw.so w k = 6
          · have hlt := hw.lt k hk (Or.inr c6)
            have e8 := hC.lt k hk (Or.inr c6)
            have e5 := hC.lo k hk (Or.inr (Or.inr c6))
            have e6 := hC.hi k hk (Or.inr c6)
            by_cases cd : q < jd L
            · refine ⟨lN (jout (jLw.lo w k) (jLw.hi w k) (jcv A L (jLw.lt w k) q)), ?_, ?_⟩
              · unfold f_RR_broken
                simp (disch := first | omega | rfl | assumption | exact jokr (by decide) (by omega) | exact jokr4 (by omega) | exact jkt_r _ _ | exact jkt_l (by decide) | exact jfk_l (by decide) | exact jkt_t _ | exact jkt_r6 _ _ | exact jkt_t6 _ | (simp only [jok, jlen]; omega) | decide) only [jm_k hL, jm_gi hL, jm_gr hL, jm_gl hL, jm_pi hL, jm_pl hL, jn_ai hL, jn_ab hL, jn_az hL, jn_al hL, jn_ar hL, jn_an hL, jn_si hL, jn_sb hL, jn_sz hL, jn_sl hL, Option.bind_some, xc, xl, jRR_isLaw hL hD hA hK hC, jRR_isDay hL hD hA hK h, jbel_n, c1, if_true, jlit, nI_eq, if_neg, if_neg g4, jsA_X, jsI_X, jsG_X, hK _ _, jlk, jmx, jlawref hL hK hs1 (show k < 16 by omega), hC.so, if_pos c6, jJu_cover hL hD hA hK h cd hj hlt.2 e5 e6 e8 hlo hhi]
              · unfold f_Mo_broken f_Mo_broken_55
                simp (disch := first | omega | rfl | assumption | exact jokr (by decide) (by omega) | exact jokr4 (by omega) | exact jkt_r _ _ | exact jkt_l (by decide) | exact jfk_l (by decide) | exact jkt_t _ | exact jkt_r6 _ _ | exact jkt_t6 _ | (simp only [jok, jlen]; omega) | decide) only [jm_k hL, jm_gi hL, jm_gr hL, jm_gl hL, jm_pi hL, jm_pl hL, jn_ai hL, jn_ab hL, jn_az hL, jn_al hL, jn_ar hL, jn_an hL, jn_si hL, jn_sb hL, jn_sz hL, jn_sl hL, Option.bind_some, xc, xl, jsA_X, jsI_X, jsG_X, hK _ _, jlk, jmx, jlit, jlitl, jmul, nI_add, lN_add, nI_leI, nI_ltI, nI_eq, jm1, jm1g, jm1e, jm1c, hM.n, hM.so, if_neg, jneg, if_false, if_pos g3, if_neg c5, if_pos c6, h'.n, h'.d, if_pos, jMo_byDay hL hD hA hK h' cd (show k < 16 by omega) hlo hhi (hw.lh k hk (Or.inr c6)) hlt.2 (hM.lo k hk) (hM.hi k hk) (hM.lt k hk (Or.inr c6))]
            · have b2 : jbel (jd L) (nI q) = false := by
                rw [← Bool.not_eq_true, jbel_iff (by omega)]
                rintro ⟨z, hz, e⟩
                have := (nI_eq hq (by omega)).mp e
                omega
              refine ⟨-1, ?_, ?_⟩
              · unfold f_RR_broken
                simp (disch := first | omega | rfl | assumption | exact jokr (by decide) (by omega) | exact jokr4 (by omega) | exact jkt_r _ _ | exact jkt_l (by decide) | exact jfk_l (by decide) | exact jkt_t _ | exact jkt_r6 _ _ | exact jkt_t6 _ | (simp only [jok, jlen]; omega) | decide) only [jm_k hL, jm_gi hL, jm_gr hL, jm_gl hL, jm_pi hL, jm_pl hL, jn_ai hL, jn_ab hL, jn_az hL, jn_al hL, jn_ar hL, jn_an hL, jn_si hL, jn_sb hL, jn_sz hL, jn_sl hL, Option.bind_some, xc, xl, jRR_isLaw hL hD hA hK hC, jRR_isDay hL hD hA hK h, c1, b2, if_true, jlit, nI_eq, if_neg, if_neg g4, jsA_X, jsI_X, jsG_X, hK _ _, jlk, jmx, jlawref hL hK hs1 (show k < 16 by omega), hC.so, if_pos c6]
                try rfl
              · unfold f_Mo_broken f_Mo_broken_55
                simp (disch := first | omega | rfl | assumption | exact jokr (by decide) (by omega) | exact jokr4 (by omega) | exact jkt_r _ _ | exact jkt_l (by decide) | exact jfk_l (by decide) | exact jkt_t _ | exact jkt_r6 _ _ | exact jkt_t6 _ | (simp only [jok, jlen]; omega) | decide) only [jm_k hL, jm_gi hL, jm_gr hL, jm_gl hL, jm_pi hL, jm_pl hL, jn_ai hL, jn_ab hL, jn_az hL, jn_al hL, jn_ar hL, jn_an hL, jn_si hL, jn_sb hL, jn_sz hL, jn_sl hL, Option.bind_some, xc, xl, jsA_X, jsI_X, jsG_X, hK _ _, jlk, jmx, jlit, jlitl, jmul, nI_add, lN_add, nI_leI, nI_ltI, nI_eq, jm1, jm1g, jm1e, jm1c, hM.n, hM.so, if_neg, jneg, if_false, if_pos g3, if_neg c5, if_pos c6, h'.n, h'.d]
                try rfl
          · by_cases cd : q < jn L
            · refine ⟨lN (jpc w k A L q), ?_, ?_⟩
              · unfold f_RR_broken
                simp (disch := first | omega | rfl | assumption | exact jokr (by decide) (by omega) | exact jokr4 (by omega) | exact jkt_r _ _ | exact jkt_l (by decide) | exact jfk_l (by decide) | exact jkt_t _ | exact jkt_r6 _ _ | exact jkt_t6 _ | (simp only [jok, jlen]; omega) | decide) only [jm_k hL, jm_gi hL, jm_gr hL, jm_gl hL, jm_pi hL, jm_pl hL, jn_ai hL, jn_ab hL, jn_az hL, jn_al hL, jn_ar hL, jn_an hL, jn_si hL, jn_sb hL, jn_sz hL, jn_sl hL, Option.bind_some, xc, xl, jRR_isLaw hL hD hA hK hC, jRR_isPerson hL hD hA hK h, jbel_n, c1, if_true, jlit, nI_eq, if_neg, if_neg g4, jsA_X, jsI_X, jsG_X, hK _ _, jlk, jmx, jlawref hL hK hs1 (show k < 16 by omega), hC.so, if_neg c5, if_neg c6, jJu_ofPerson hL hD hA hK hw h hC hk (show jLw.so w k ≤ 4 by omega) cd]
              · unfold f_Mo_broken f_Mo_broken_55
                simp (disch := first | omega | rfl | assumption | exact jokr (by decide) (by omega) | exact jokr4 (by omega) | exact jkt_r _ _ | exact jkt_l (by decide) | exact jfk_l (by decide) | exact jkt_t _ | exact jkt_r6 _ _ | exact jkt_t6 _ | (simp only [jok, jlen]; omega) | decide) only [jm_k hL, jm_gi hL, jm_gr hL, jm_gl hL, jm_pi hL, jm_pl hL, jn_ai hL, jn_ab hL, jn_az hL, jn_al hL, jn_ar hL, jn_an hL, jn_si hL, jn_sb hL, jn_sz hL, jn_sl hL, Option.bind_some, xc, xl, jsA_X, jsI_X, jsG_X, hK _ _, jlk, jmx, jlit, jlitl, jmul, nI_add, lN_add, nI_leI, nI_ltI, nI_eq, jm1, jm1g, jm1e, jm1c, hM.n, hM.so, if_neg, jneg, if_false, if_pos g3, if_neg c5, if_neg c6, h'.n, h'.d, if_pos, jMo_byPerson hL hD hA hK hw h' hM hk (show jLw.so w k ≤ 4 by omega) cd]
            · have b2 : jbel (jn L) (nI q) = false := by
                rw [← Bool.not_eq_true, jbel_iff (by omega)]
                rintro ⟨z, hz, e⟩
                have := (nI_eq hq (by omega)).mp e
                omega
              refine ⟨-1, ?_, ?_⟩
              · unfold f_RR_broken
                simp (disch := first | omega | rfl | assumption | exact jokr (by decide) (by omega) | exact jokr4 (by omega) | exact jkt_r _ _ | exact jkt_l (by decide) | exact jfk_l (by decide) | exact jkt_t _ | exact jkt_r6 _ _ | exact jkt_t6 _ | (simp only [jok, jlen]; omega) | decide) only [jm_k hL, jm_gi hL, jm_gr hL, jm_gl hL, jm_pi hL, jm_pl hL, jn_ai hL, jn_ab hL, jn_az hL, jn_al hL, jn_ar hL, jn_an hL, jn_si hL, jn_sb hL, jn_sz hL, jn_sl hL, Option.bind_some, xc, xl, jRR_isLaw hL hD hA hK hC, jRR_isPerson hL hD hA hK h, c1, b2, if_true, jlit, nI_eq, if_neg, if_neg g4, jsA_X, jsI_X, jsG_X, hK _ _, jlk, jmx, jlawref hL hK hs1 (show k < 16 by omega), hC.so, if_neg c5, if_neg c6]
                try rfl
              · unfold f_Mo_broken f_Mo_broken_55
                simp (disch := first | omega | rfl | assumption | exact jokr (by decide) (by omega) | exact jokr4 (by omega) | exact jkt_r _ _ | exact jkt_l (by decide) | exact jfk_l (by decide) | exact jkt_t _ | exact jkt_r6 _ _ | exact jkt_t6 _ | (simp only [jok, jlen]; omega) | decide) only [jm_k hL, jm_gi hL, jm_gr hL, jm_gl hL, jm_pi hL, jm_pl hL, jn_ai hL, jn_ab hL, jn_az hL, jn_al hL, jn_ar hL, jn_an hL, jn_si hL, jn_sb hL, jn_sz hL, jn_sl hL, Option.bind_some, xc, xl, jsA_X, jsI_X, jsG_X, hK _ _, jlk, jmx, jlit, jlitl, jmul, nI_add, lN_add, nI_leI, nI_ltI, nI_eq, jm1, jm1g, jm1e, jm1c, hM.n, hM.so, if_neg, jneg, if_false, if_pos g3, if_neg c5, if_neg c6, h'.n, h'.d]
                try rfl
