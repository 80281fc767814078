/-! a law's whole, the score -/
def jev (w : jLw) (k : Nat) (A : jR) (L : jL) : Nat := if jLw.so w k = 5 then jfc w k A L else if jLw.so w k = 6 then jsm (jdc w k A L) (jd L) else jsm (jpc w k A L) (jn L)
theorem jJu_every {L : jL} (hL : jgood L) (hD : jdim L) {ω : xS} {S : jSt} {A : jR} (hA : jRg A) {sw ps wy : Nat} (hK : jLK S sw ps wy) {w : jLw} (hw : jLg L w) (h : jRC L S A) (hC : jLC L S w sw) {k : Nat} (hk : k < jLw.n w) : f_Judge_everywhere (jad L (jo 28)) (jad L (jl (2 * k + sw) 0)) (jW L ω S) = some (lN (jev w k A L)) := by
  have h1 := hD.n8
  have h2 := hD.d21
  have h16 := hw.n16
  have hs1 := hC.s1
  have hs6 := hw.so k hk
  have hlo := hw.lo k hk
  have hhi := hw.hi k hk
  have hj : 2 * k + sw < 32 := by omega
  unfold f_Judge_everywhere jev
  simp (disch := first | omega | rfl | assumption | exact jokr (by decide) (by omega) | exact jokr4 (by omega) | exact jkt_r _ _ | exact jkt_l (by decide) | exact jfk_l (by decide) | exact jkt_t _ | exact jkt_r6 _ _ | exact jkt_t6 _ | (simp only [jok, jlen]; omega) | decide) only [jm_k hL, jm_gi hL, jm_gr hL, jm_gl hL, jm_pi hL, jm_pl hL, jn_ai hL, jn_ab hL, jn_az hL, jn_al hL, jn_ar hL, jn_an hL, jn_si hL, jn_sb hL, jn_sz hL, jn_sl hL, Option.bind_some, xc, xl, jsA_X, jsI_X, jsG_X, hK _ _, jlk, jmx, jlit, jlitl, jmul, nI_add, lN_add, nI_leI, nI_ltI, nI_eq, jm1, jm1g, jm1e, jm1c, hC.so]
  by_cases c5 : jLw.so w k = 5
  · rw [if_pos c5, if_pos c5]
    have hlt := hw.lt k hk (Or.inl c5)
    have e8 := hC.lt k hk (Or.inl c5)
    simp (disch := first | omega | rfl | assumption | exact jokr (by decide) (by omega) | exact jokr4 (by omega) | exact jkt_r _ _ | exact jkt_l (by decide) | exact jfk_l (by decide) | exact jkt_t _ | exact jkt_r6 _ _ | exact jkt_t6 _ | (simp only [jok, jlen]; omega) | decide) only [jm_k hL, jm_gi hL, jm_gr hL, jm_gl hL, jm_pi hL, jm_pl hL, jn_ai hL, jn_ab hL, jn_az hL, jn_al hL, jn_ar hL, jn_an hL, jn_si hL, jn_sb hL, jn_sz hL, jn_sl hL, Option.bind_some, xc, xl, e8, jJu_fair hL hD hA hK h]
    rfl
  rw [if_neg c5, if_neg c5]
  by_cases c6 : jLw.so w k = 6
  · rw [if_pos c6, if_pos c6]
    have hlt := hw.lt k hk (Or.inr c6)
    have e8 := hC.lt k hk (Or.inr c6)
    have e5 := hC.lo k hk (Or.inr (Or.inr c6))
    have e6 := hC.hi k hk (Or.inr c6)
    refine jlpx (fun n i x => f_Judge_everywhere_31 n (jad L (jo 28)) (jad L (jl (2 * k + sw) 0)) x (nI i) (jW L ω S)) (fun i => lN (jsm (jdc w k A L) i)) (lo := 0) (hi := jd L) (Nat.zero_le _) (by omega) ?_ ?_
    · intro n i _ hi
      rw [f_Judge_everywhere_31]
      simp (disch := first | omega | rfl | assumption | exact jokr (by decide) (by omega) | exact jokr4 (by omega) | exact jkt_r _ _ | exact jkt_l (by decide) | exact jfk_l (by decide) | exact jkt_t _ | exact jkt_r6 _ _ | exact jkt_t6 _ | (simp only [jok, jlen]; omega) | decide) only [jm_k hL, jm_gi hL, jm_gr hL, jm_gl hL, jm_pi hL, jm_pl hL, jn_ai hL, jn_ab hL, jn_az hL, jn_al hL, jn_ar hL, jn_an hL, jn_si hL, jn_sb hL, jn_sz hL, jn_sl hL, Option.bind_some, xc, xl, jsA_X, jsI_X, jsG_X, hK _ _, jlk, jmx, jlit, jlitl, jmul, nI_add, lN_add, nI_leI, nI_ltI, nI_eq, jm1, jm1g, jm1e, jm1c, h.d, if_neg, jJu_cover hL hD hA hK h hi hj hlt.2 e5 e6 e8 hlo hhi]
      rw [jsm]
      try rfl
    · intro n
      rw [f_Judge_everywhere_31]
      simp (disch := first | omega | rfl | assumption | exact jokr (by decide) (by omega) | exact jokr4 (by omega) | exact jkt_r _ _ | exact jkt_l (by decide) | exact jfk_l (by decide) | exact jkt_t _ | exact jkt_r6 _ _ | exact jkt_t6 _ | (simp only [jok, jlen]; omega) | decide) only [jm_k hL, jm_gi hL, jm_gr hL, jm_gl hL, jm_pi hL, jm_pl hL, jn_ai hL, jn_ab hL, jn_az hL, jn_al hL, jn_ar hL, jn_an hL, jn_si hL, jn_sb hL, jn_sz hL, jn_sl hL, Option.bind_some, xc, xl, jsA_X, jsI_X, jsG_X, hK _ _, jlk, jmx, jlit, jlitl, jmul, nI_add, lN_add, nI_leI, nI_ltI, nI_eq, jm1, jm1g, jm1e, jm1c, h.d]
      rw [if_pos (Nat.le_refl _)]
  · rw [if_neg c6, if_neg c6]
    refine jlpx (fun n i x => f_Judge_everywhere_64 n (jad L (jo 28)) (jad L (jl (2 * k + sw) 0)) x (nI i) (jW L ω S)) (fun i => lN (jsm (jpc w k A L) i)) (lo := 0) (hi := jn L) (Nat.zero_le _) (by omega) ?_ ?_
    · intro n i _ hi
      rw [f_Judge_everywhere_64]
      simp (disch := first | omega | rfl | assumption | exact jokr (by decide) (by omega) | exact jokr4 (by omega) | exact jkt_r _ _ | exact jkt_l (by decide) | exact jfk_l (by decide) | exact jkt_t _ | exact jkt_r6 _ _ | exact jkt_t6 _ | (simp only [jok, jlen]; omega) | decide) only [jm_k hL, jm_gi hL, jm_gr hL, jm_gl hL, jm_pi hL, jm_pl hL, jn_ai hL, jn_ab hL, jn_az hL, jn_al hL, jn_ar hL, jn_an hL, jn_si hL, jn_sb hL, jn_sz hL, jn_sl hL, Option.bind_some, xc, xl, jsA_X, jsI_X, jsG_X, hK _ _, jlk, jmx, jlit, jlitl, jmul, nI_add, lN_add, nI_leI, nI_ltI, nI_eq, jm1, jm1g, jm1e, jm1c, h.n, if_neg, jJu_ofPerson hL hD hA hK hw h hC hk (show jLw.so w k ≤ 4 by omega) hi]
      rw [jsm]
      try rfl
    · intro n
      rw [f_Judge_everywhere_64]
      simp (disch := first | omega | rfl | assumption | exact jokr (by decide) (by omega) | exact jokr4 (by omega) | exact jkt_r _ _ | exact jkt_l (by decide) | exact jfk_l (by decide) | exact jkt_t _ | exact jkt_r6 _ _ | exact jkt_t6 _ | (simp only [jok, jlen]; omega) | decide) only [jm_k hL, jm_gi hL, jm_gr hL, jm_gl hL, jm_pi hL, jm_pl hL, jn_ai hL, jn_ab hL, jn_az hL, jn_al hL, jn_ar hL, jn_an hL, jn_si hL, jn_sb hL, jn_sz hL, jn_sl hL, Option.bind_some, xc, xl, jsA_X, jsI_X, jsG_X, hK _ _, jlk, jmx, jlit, jlitl, jmul, nI_add, lN_add, nI_leI, nI_ltI, nI_eq, jm1, jm1g, jm1e, jm1c, h.n]
      rw [if_pos (Nat.le_refl _)]
theorem jMo_all {L : jL} (hL : jgood L) (hD : jdim L) {ω : xS} {S : jSt} {A : jR} (hA : jRg A) {sw ps wy : Nat} (hK : jLK S sw ps wy) {w : jLw} (hw : jLg L w) (h : jRM L S A) (hM : jLM S w) {k : Nat} (hk : k < jLw.n w) (c5 : jLw.so w k ≠ 5) : f_Mo_broken_105 xFU (jad L (jm 0)) (nI k) (nI (jLw.so w k)) (lN 0) (nI 0) (jW L ω S) = some (lN (jev w k A L)) := by
  have h1 := hD.n8
  have h2 := hD.d21
  have h16 := hw.n16
  have hs6 := hw.so k hk
  have hlo := hw.lo k hk
  have hhi := hw.hi k hk
  unfold jev
  rw [if_neg c5]
  by_cases c6 : jLw.so w k = 6
  · rw [if_pos c6]
    have hlt := hw.lt k hk (Or.inr c6)
    refine jlpx (fun n i x => f_Mo_broken_105 n (jad L (jm 0)) (nI k) (nI (jLw.so w k)) x (nI i) (jW L ω S)) (fun i => lN (jsm (jdc w k A L) i)) (lo := 0) (hi := jd L) (Nat.zero_le _) (by omega) ?_ ?_
    · intro n i _ hi
      rw [f_Mo_broken_105]
      simp (disch := first | omega | rfl | assumption | exact jokr (by decide) (by omega) | exact jokr4 (by omega) | exact jkt_r _ _ | exact jkt_l (by decide) | exact jfk_l (by decide) | exact jkt_t _ | exact jkt_r6 _ _ | exact jkt_t6 _ | (simp only [jok, jlen]; omega) | decide) only [jm_k hL, jm_gi hL, jm_gr hL, jm_gl hL, jm_pi hL, jm_pl hL, jn_ai hL, jn_ab hL, jn_az hL, jn_al hL, jn_ar hL, jn_an hL, jn_si hL, jn_sb hL, jn_sz hL, jn_sl hL, Option.bind_some, xc, xl, jlit, jlitl, jmul, nI_add, lN_add, nI_leI, nI_ltI, nI_eq, jm1, jm1g, jm1e, jm1c, h.d, if_pos, f_Mo_broken_124, if_neg, jMo_byDay hL hD hA hK h hi (show k < 16 by omega) hlo hhi (hw.lh k hk (Or.inr c6)) hlt.2 (hM.lo k hk) (hM.hi k hk) (hM.lt k hk (Or.inr c6))]
      rw [jsm]
      try rfl
    · intro n
      rw [f_Mo_broken_105]
      simp (disch := first | omega | rfl | assumption | exact jokr (by decide) (by omega) | exact jokr4 (by omega) | exact jkt_r _ _ | exact jkt_l (by decide) | exact jfk_l (by decide) | exact jkt_t _ | exact jkt_r6 _ _ | exact jkt_t6 _ | (simp only [jok, jlen]; omega) | decide) only [jm_k hL, jm_gi hL, jm_gr hL, jm_gl hL, jm_pi hL, jm_pl hL, jn_ai hL, jn_ab hL, jn_az hL, jn_al hL, jn_ar hL, jn_an hL, jn_si hL, jn_sb hL, jn_sz hL, jn_sl hL, Option.bind_some, xc, xl, jlit, jlitl, jmul, nI_add, lN_add, nI_leI, nI_ltI, nI_eq, jm1, jm1g, jm1e, jm1c, h.d, if_pos, f_Mo_broken_124]
  · rw [if_neg c6]
    refine jlpx (fun n i x => f_Mo_broken_105 n (jad L (jm 0)) (nI k) (nI (jLw.so w k)) x (nI i) (jW L ω S)) (fun i => lN (jsm (jpc w k A L) i)) (lo := 0) (hi := jn L) (Nat.zero_le _) (by omega) ?_ ?_
    · intro n i _ hi
      rw [f_Mo_broken_105]
      simp (disch := first | omega | rfl | assumption | exact jokr (by decide) (by omega) | exact jokr4 (by omega) | exact jkt_r _ _ | exact jkt_l (by decide) | exact jfk_l (by decide) | exact jkt_t _ | exact jkt_r6 _ _ | exact jkt_t6 _ | (simp only [jok, jlen]; omega) | decide) only [jm_k hL, jm_gi hL, jm_gr hL, jm_gl hL, jm_pi hL, jm_pl hL, jn_ai hL, jn_ab hL, jn_az hL, jn_al hL, jn_ar hL, jn_an hL, jn_si hL, jn_sb hL, jn_sz hL, jn_sl hL, Option.bind_some, xc, xl, jlit, jlitl, jmul, nI_add, lN_add, nI_leI, nI_ltI, nI_eq, jm1, jm1g, jm1e, jm1c, h.n, if_neg, f_Mo_broken_124, jMo_byPerson hL hD hA hK hw h hM hk (show jLw.so w k ≤ 4 by omega) hi]
      rw [jsm]
      try rfl
    · intro n
      rw [f_Mo_broken_105]
      simp (disch := first | omega | rfl | assumption | exact jokr (by decide) (by omega) | exact jokr4 (by omega) | exact jkt_r _ _ | exact jkt_l (by decide) | exact jfk_l (by decide) | exact jkt_t _ | exact jkt_r6 _ _ | exact jkt_t6 _ | (simp only [jok, jlen]; omega) | decide) only [jm_k hL, jm_gi hL, jm_gr hL, jm_gl hL, jm_pi hL, jm_pl hL, jn_ai hL, jn_ab hL, jn_az hL, jn_al hL, jn_ar hL, jn_an hL, jn_si hL, jn_sb hL, jn_sz hL, jn_sl hL, Option.bind_some, xc, xl, jlit, jlitl, jmul, nI_add, lN_add, nI_leI, nI_ltI, nI_eq, jm1, jm1g, jm1e, jm1c, h.n, if_neg, f_Mo_broken_124, if_pos]
theorem jlawref {L : jL} (hL : jgood L) {ω : xS} {S : jSt} {k : Nat} {sw ps wy : Nat} (hK : jLK S sw ps wy) (hs : sw ≤ 1) (hk : k < 16) : xar (jW L ω S) 3 (jad L (jo (16 + sw))) (nI k) = some (jad L (jl (2 * k + sw) 0)) := by
  rcases (show sw = 0 ∨ sw = 1 by omega) with rfl | rfl
  · have e := jn_ar (t := 3) (k := k) (ω := ω) (S := S) hL (c := jo 16) (by simp only [jok]; omega) rfl (by omega) (by simp only [jlen]; omega) (by omega)
    rw [hK] at e
    exact e
  · have e := jn_ar (t := 3) (k := k) (ω := ω) (S := S) hL (c := jo 17) (by simp only [jok]; omega) rfl (by omega) (by simp only [jlen]; omega) (by omega)
    rw [hK] at e
    exact e
/-- the wishes that are not kept -/
def jws (A : jR) (L : jL) : Nat := jsm (fun p => jsm (jwc A p) (jd L)) (jn L)
def jscl (w : jLw) (A : jR) (L : jL) : Nat → Nat := jsm (fun k => jLw.wt w k * jev w k A L)
theorem jRo_wishCost {L : jL} (hL : jgood L) (hD : jdim L) {ω : xS} {S : jSt} {A : jR} (hA : jRg A) {sw ps wy : Nat} (hK : jLK S sw ps wy) (h : jRC L S A) {p t : Nat} (hp : p < jn L) (ht : t < jd L) : f_Roster_wishCost (jad L (jo 18)) (nI p) (nI t) (jW L ω S) = some (lN (jwc A p t)) := by
  have h1 := hD.n8
  have h2 := hD.d21
  have h3 := hA.ww p t
  have h4 := hA.wl p t
  have h5 := hA.row p (7 + t)
  unfold f_Roster_wishCost jwc
  simp (disch := first | omega | rfl | assumption | exact jokr (by decide) (by omega) | exact jokr4 (by omega) | exact jkt_r _ _ | exact jkt_l (by decide) | exact jfk_l (by decide) | exact jkt_t _ | exact jkt_r6 _ _ | exact jkt_t6 _ | (simp only [jok, jlen]; omega) | decide) only [jm_k hL, jm_gi hL, jm_gr hL, jm_gl hL, jm_pi hL, jm_pl hL, jn_ai hL, jn_ab hL, jn_az hL, jn_al hL, jn_ar hL, jn_an hL, jn_si hL, jn_sb hL, jn_sz hL, jn_sl hL, Option.bind_some, xc, xl, jsA_X, jsI_X, jsG_X, hK _ _, jlk, jmx, jlit, jlitl, jmul, nI_add, lN_add, nI_leI, nI_ltI, nI_eq, jm1, jm1g, jm1e, jm1c, jRo_letterOf hL hD hA hK h, h.ww]
  by_cases h0 : jR.ww A p t = 0
  · rw [h0]
    split <;> split <;> rfl
  · have h6 := h.wl p t hp ht h0
    simp (disch := first | omega | rfl | assumption | exact jokr (by decide) (by omega) | exact jokr4 (by omega) | exact jkt_r _ _ | exact jkt_l (by decide) | exact jfk_l (by decide) | exact jkt_t _ | exact jkt_r6 _ _ | exact jkt_t6 _ | (simp only [jok, jlen]; omega) | decide) only [h6, nI_eq, nI_l]
    by_cases c : jR.wl A p t = jR.row A p (7 + t)
    · rw [if_pos c, if_pos c.symm]
    · rw [if_neg c, if_neg (fun q => c q.symm)]
theorem jRo_wishes_15 {L : jL} (hL : jgood L) (hD : jdim L) {ω : xS} {S : jSt} {A : jR} (hA : jRg A) {sw ps wy : Nat} (hK : jLK S sw ps wy) (h : jRC L S A) {p v : Nat} {k4 : Nat → Int64 → Int32 → xS → Option Int64} (hp : p < jn L) : f_Roster_allWishesCost_15 k4 xFU (jad L (jo 18)) (lN v) (nI p) (nI 0) (jW L ω S) = k4 (jad L (jo 18)) (lN (v + jsm (jwc A p) (jd L))) (nI (p + 1)) (jW L ω S) := by
  have h1 := hD.n8
  have h2 := hD.d21
  refine jlpx (fun n i x => f_Roster_allWishesCost_15 k4 n (jad L (jo 18)) x (nI p) (nI i) (jW L ω S)) (fun i => lN (v + jsm (jwc A p) i)) (lo := 0) (hi := jd L) (Nat.zero_le _) (by omega) ?_ ?_
  · intro n i _ hi
    rw [f_Roster_allWishesCost_15]
    simp (disch := first | omega | rfl | assumption | exact jokr (by decide) (by omega) | exact jokr4 (by omega) | exact jkt_r _ _ | exact jkt_l (by decide) | exact jfk_l (by decide) | exact jkt_t _ | exact jkt_r6 _ _ | exact jkt_t6 _ | (simp only [jok, jlen]; omega) | decide) only [jm_k hL, jm_gi hL, jm_gr hL, jm_gl hL, jm_pi hL, jm_pl hL, jn_ai hL, jn_ab hL, jn_az hL, jn_al hL, jn_ar hL, jn_an hL, jn_si hL, jn_sb hL, jn_sz hL, jn_sl hL, Option.bind_some, xc, xl, jlit, jlitl, jmul, nI_add, lN_add, nI_leI, nI_ltI, nI_eq, jm1, jm1g, jm1e, jm1c, h.d, if_neg, jRo_wishCost hL hD hA hK h]
    rw [jsm, Nat.add_assoc]
  · intro n
    rw [f_Roster_allWishesCost_15]
    simp (disch := first | omega | rfl | assumption | exact jokr (by decide) (by omega) | exact jokr4 (by omega) | exact jkt_r _ _ | exact jkt_l (by decide) | exact jfk_l (by decide) | exact jkt_t _ | exact jkt_r6 _ _ | exact jkt_t6 _ | (simp only [jok, jlen]; omega) | decide) only [jm_k hL, jm_gi hL, jm_gr hL, jm_gl hL, jm_pi hL, jm_pl hL, jn_ai hL, jn_ab hL, jn_az hL, jn_al hL, jn_ar hL, jn_an hL, jn_si hL, jn_sb hL, jn_sz hL, jn_sl hL, Option.bind_some, xc, xl, jlit, jlitl, jmul, nI_add, lN_add, nI_leI, nI_ltI, nI_eq, jm1, jm1g, jm1e, jm1c, h.d, if_pos]
theorem jRo_wishes {L : jL} (hL : jgood L) (hD : jdim L) {ω : xS} {S : jSt} {A : jR} (hA : jRg A) {sw ps wy : Nat} (hK : jLK S sw ps wy) (h : jRC L S A) : f_Roster_allWishesCost (jad L (jo 18)) (jW L ω S) = some (lN (jws A L)) := by
  have h1 := hD.n8
  unfold f_Roster_allWishesCost
  refine jlpx (fun n i x => f_Roster_allWishesCost_4 n (jad L (jo 18)) x (nI i) (jW L ω S)) (fun i => lN (jsm (fun p => jsm (jwc A p) (jd L)) i)) (lo := 0) (hi := jn L) (Nat.zero_le _) (by omega) ?_ ?_
  · intro n i _ hi
    rw [f_Roster_allWishesCost_4]
    simp (disch := first | omega | rfl | assumption | exact jokr (by decide) (by omega) | exact jokr4 (by omega) | exact jkt_r _ _ | exact jkt_l (by decide) | exact jfk_l (by decide) | exact jkt_t _ | exact jkt_r6 _ _ | exact jkt_t6 _ | (simp only [jok, jlen]; omega) | decide) only [jm_k hL, jm_gi hL, jm_gr hL, jm_gl hL, jm_pi hL, jm_pl hL, jn_ai hL, jn_ab hL, jn_az hL, jn_al hL, jn_ar hL, jn_an hL, jn_si hL, jn_sb hL, jn_sz hL, jn_sl hL, Option.bind_some, xc, xl, jlit, jlitl, jmul, nI_add, lN_add, nI_leI, nI_ltI, nI_eq, jm1, jm1g, jm1e, jm1c, h.n, if_neg]
    rw [jRo_wishes_15 hL hD hA hK h hi, jsm]
  · intro n
    rw [f_Roster_allWishesCost_4]
    simp (disch := first | omega | rfl | assumption | exact jokr (by decide) (by omega) | exact jokr4 (by omega) | exact jkt_r _ _ | exact jkt_l (by decide) | exact jfk_l (by decide) | exact jkt_t _ | exact jkt_r6 _ _ | exact jkt_t6 _ | (simp only [jok, jlen]; omega) | decide) only [jm_k hL, jm_gi hL, jm_gr hL, jm_gl hL, jm_pi hL, jm_pl hL, jn_ai hL, jn_ab hL, jn_az hL, jn_al hL, jn_ar hL, jn_an hL, jn_si hL, jn_sb hL, jn_sz hL, jn_sl hL, Option.bind_some, xc, xl, jlit, jlitl, jmul, nI_add, lN_add, nI_leI, nI_ltI, nI_eq, jm1, jm1g, jm1e, jm1c, h.n, if_pos]
    rfl
theorem jRR_score {L : jL} (hL : jgood L) (hD : jdim L) {ω : xS} {S : jSt} {A : jR} (hA : jRg A) {sw ps wy : Nat} (hK : jLK S sw ps wy) {w : jLw} (hw : jLg L w) (h : jRC L S A) (hC : jLC L S w sw) : f_RR_score (jad L (jo 0)) (jW L ω S) = some (lN (jws A L + jscl w A L (jLw.n w))) := by
  have h16 := hw.n16
  have hs1 := hC.s1
  unfold f_RR_score
  simp (disch := first | omega | rfl | assumption | exact jokr (by decide) (by omega) | exact jokr4 (by omega) | exact jkt_r _ _ | exact jkt_l (by decide) | exact jfk_l (by decide) | exact jkt_t _ | exact jkt_r6 _ _ | exact jkt_t6 _ | (simp only [jok, jlen]; omega) | decide) only [jm_k hL, jm_gi hL, jm_gr hL, jm_gl hL, jm_pi hL, jm_pl hL, jn_ai hL, jn_ab hL, jn_az hL, jn_al hL, jn_ar hL, jn_an hL, jn_si hL, jn_sb hL, jn_sz hL, jn_sl hL, Option.bind_some, xc, xl, jsA_X, jsI_X, jsG_X, hK _ _, jlk, jmx, jRo_wishes hL hD hA hK h]
  refine jlpx (fun n i x => f_RR_score_10 n (jad L (jo 0)) x (nI i) (jW L ω S)) (fun i => lN (jws A L + jscl w A L i)) (lo := 0) (hi := jLw.n w) (Nat.zero_le _) (by omega) ?_ ?_
  · intro n i _ hi
    have hwt := hw.wt i hi
    rw [f_RR_score_10]
    simp (disch := first | omega | rfl | assumption | exact jokr (by decide) (by omega) | exact jokr4 (by omega) | exact jkt_r _ _ | exact jkt_l (by decide) | exact jfk_l (by decide) | exact jkt_t _ | exact jkt_r6 _ _ | exact jkt_t6 _ | (simp only [jok, jlen]; omega) | decide) only [jm_k hL, jm_gi hL, jm_gr hL, jm_gl hL, jm_pi hL, jm_pl hL, jn_ai hL, jn_ab hL, jn_az hL, jn_al hL, jn_ar hL, jn_an hL, jn_si hL, jn_sb hL, jn_sz hL, jn_sl hL, Option.bind_some, xc, xl, jsA_X, jsI_X, jsG_X, hK _ _, jlk, jmx, jlit, jlitl, jmul, nI_add, lN_add, nI_leI, nI_ltI, nI_eq, jm1, jm1g, jm1e, jm1c, hC.n, if_neg, jlawref hL hK hs1 (show i < 16 by omega), hC.wt, nI_l, jJu_every hL hD hA hK hw h hC hi, lN_mul]
    unfold jscl
    rw [jsm, Nat.add_assoc]
  · intro n
    rw [f_RR_score_10]
    simp (disch := first | omega | rfl | assumption | exact jokr (by decide) (by omega) | exact jokr4 (by omega) | exact jkt_r _ _ | exact jkt_l (by decide) | exact jfk_l (by decide) | exact jkt_t _ | exact jkt_r6 _ _ | exact jkt_t6 _ | (simp only [jok, jlen]; omega) | decide) only [jm_k hL, jm_gi hL, jm_gr hL, jm_gl hL, jm_pi hL, jm_pl hL, jn_ai hL, jn_ab hL, jn_az hL, jn_al hL, jn_ar hL, jn_an hL, jn_si hL, jn_sb hL, jn_sz hL, jn_sl hL, Option.bind_some, xc, xl, jlit, jlitl, jmul, nI_add, lN_add, nI_leI, nI_ltI, nI_eq, jm1, jm1g, jm1e, jm1c, hC.n, if_pos]
