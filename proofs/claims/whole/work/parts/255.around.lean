/-! what lies around a cell: the reference's near, the class's costAround -/
def jnk (w : jLw) (k : Nat) (A : jR) (L : jL) (p t : Nat) : Nat := if jLw.so w k = 5 then jfc w k A L else if jLw.so w k = 6 then jdc w k A L t else jpc w k A L p
def jnr (w : jLw) (A : jR) (L : jL) (p t : Nat) : Nat := jwc A p t + jsm (fun k => jLw.wt w k * jnk w k A L p t) (jLw.n w)
def jak (w : jLw) (k : Nat) (A : jR) (L : jL) (p t : Nat) : Nat := if jLw.so w k = 0 then jun A p t else if jLw.so w k = 2 then jhrs A p (jLw.lo w k) (jLw.hi w k) (jLw.sp w k) (t + 1 - jLw.sp w k) (min t (jd L - jLw.sp w k) + 1 - (t + 1 - jLw.sp w k)) else jnk w k A L p t
def jar (w : jLw) (A : jR) (L : jL) (p t : Nat) : Nat := jwc A p t + jsm (fun k => jLw.wt w k * jak w k A L p t) (jLw.n w)
theorem jMo_near {L : jL} (hL : jgood L) (hD : jdim L) {ω : xS} {S : jSt} {A : jR} (hA : jRg A) {sw ps wy : Nat} (hK : jLK S sw ps wy) {w : jLw} (hw : jLg L w) (h : jRM L S A) (hM : jLM S w) {p t : Nat} (hp : p < jn L) (ht : t < jd L) : f_Mo_near (jad L (jm 0)) (nI p) (nI t) (jW L ω S) = some (lN (jnr w A L p t)) := by
  have h1 := hD.n8
  have h2 := hD.d21
  have h16 := hw.n16
  unfold f_Mo_near
  simp (disch := first | omega | rfl | assumption | exact jokr (by decide) (by omega) | exact jokr4 (by omega) | exact jkt_r _ _ | exact jkt_l (by decide) | exact jfk_l (by decide) | exact jkt_t _ | exact jkt_r6 _ _ | exact jkt_t6 _ | (simp only [jok, jlen]; omega) | decide) only [jm_k hL, jm_gi hL, jm_gr hL, jm_gl hL, jm_pi hL, jm_pl hL, jn_ai hL, jn_ab hL, jn_az hL, jn_al hL, jn_ar hL, jn_an hL, jn_si hL, jn_sb hL, jn_sz hL, jn_sl hL, Option.bind_some, xc, xl, jMo_wishOf hL hD hA hK h]
  refine (jlpx (fun n i x => f_Mo_near_10 n (jad L (jm 0)) (nI p) (nI t) x (nI i) (jW L ω S)) (fun i => lN (jwc A p t + jsm (fun k => jLw.wt w k * jnk w k A L p t) i)) (lo := 0) (hi := jLw.n w) (r := some (lN (jnr w A L p t))) (Nat.zero_le _) (by omega) ?_ ?_ : _)
  · intro n i _ hi
    have hwt := hw.wt i hi
    have hs6 := hw.so i hi
    have hlo := hw.lo i hi
    have hhi := hw.hi i hi
    rw [f_Mo_near_10, jsm]
    simp (disch := first | omega | rfl | assumption | exact jokr (by decide) (by omega) | exact jokr4 (by omega) | exact jkt_r _ _ | exact jkt_l (by decide) | exact jfk_l (by decide) | exact jkt_t _ | exact jkt_r6 _ _ | exact jkt_t6 _ | (simp only [jok, jlen]; omega) | decide) only [jm_k hL, jm_gi hL, jm_gr hL, jm_gl hL, jm_pi hL, jm_pl hL, jn_ai hL, jn_ab hL, jn_az hL, jn_al hL, jn_ar hL, jn_an hL, jn_si hL, jn_sb hL, jn_sz hL, jn_sl hL, Option.bind_some, xc, xl, jsA_X, jsI_X, jsG_X, hK _ _, jlk, jmx, jlit, jlitl, jmul, nI_add, lN_add, nI_leI, nI_ltI, nI_eq, jm1, jm1g, jm1e, jm1c, hM.n, if_neg, hM.wt, hM.so, nI_l]
    unfold jnk
    by_cases c5 : jLw.so w i = 5
    · rw [if_pos c5, if_pos c5]
      have hlt := hw.lt i hi (Or.inl c5)
      simp (disch := first | omega | rfl | assumption | exact jokr (by decide) (by omega) | exact jokr4 (by omega) | exact jkt_r _ _ | exact jkt_l (by decide) | exact jfk_l (by decide) | exact jkt_t _ | exact jkt_r6 _ _ | exact jkt_t6 _ | (simp only [jok, jlen]; omega) | decide) only [jm_k hL, jm_gi hL, jm_gr hL, jm_gl hL, jm_pi hL, jm_pl hL, jn_ai hL, jn_ab hL, jn_az hL, jn_al hL, jn_ar hL, jn_an hL, jn_si hL, jn_sb hL, jn_sz hL, jn_sl hL, Option.bind_some, xc, xl, jMo_spread hL hD hA hK h (show i < 16 by omega) hlt.2 (hM.lt i hi (Or.inl c5)), lN_mul, lN_add]
      rw [Nat.add_assoc]
      rfl
    · rw [if_neg c5, if_neg c5]
      by_cases c6 : jLw.so w i = 6
      · rw [if_pos c6, if_pos c6]
        have hlt := hw.lt i hi (Or.inr c6)
        simp (disch := first | omega | rfl | assumption | exact jokr (by decide) (by omega) | exact jokr4 (by omega) | exact jkt_r _ _ | exact jkt_l (by decide) | exact jfk_l (by decide) | exact jkt_t _ | exact jkt_r6 _ _ | exact jkt_t6 _ | (simp only [jok, jlen]; omega) | decide) only [jm_k hL, jm_gi hL, jm_gr hL, jm_gl hL, jm_pi hL, jm_pl hL, jn_ai hL, jn_ab hL, jn_az hL, jn_al hL, jn_ar hL, jn_an hL, jn_si hL, jn_sb hL, jn_sz hL, jn_sl hL, Option.bind_some, xc, xl, jMo_byDay hL hD hA hK h ht (show i < 16 by omega) hlo hhi (hw.lh i hi (Or.inr c6)) hlt.2 (hM.lo i hi) (hM.hi i hi) (hM.lt i hi (Or.inr c6)), lN_mul, lN_add]
        rw [Nat.add_assoc]
        rfl
      · rw [if_neg c6, if_neg c6]
        simp (disch := first | omega | rfl | assumption | exact jokr (by decide) (by omega) | exact jokr4 (by omega) | exact jkt_r _ _ | exact jkt_l (by decide) | exact jfk_l (by decide) | exact jkt_t _ | exact jkt_r6 _ _ | exact jkt_t6 _ | (simp only [jok, jlen]; omega) | decide) only [jm_k hL, jm_gi hL, jm_gr hL, jm_gl hL, jm_pi hL, jm_pl hL, jn_ai hL, jn_ab hL, jn_az hL, jn_al hL, jn_ar hL, jn_an hL, jn_si hL, jn_sb hL, jn_sz hL, jn_sl hL, Option.bind_some, xc, xl, jMo_byPerson hL hD hA hK hw h hM hi (show jLw.so w i ≤ 4 by omega) hp, lN_mul, lN_add]
        rw [Nat.add_assoc]
  · intro n
    rw [f_Mo_near_10]
    simp (disch := first | omega | rfl | assumption | exact jokr (by decide) (by omega) | exact jokr4 (by omega) | exact jkt_r _ _ | exact jkt_l (by decide) | exact jfk_l (by decide) | exact jkt_t _ | exact jkt_r6 _ _ | exact jkt_t6 _ | (simp only [jok, jlen]; omega) | decide) only [jm_k hL, jm_gi hL, jm_gr hL, jm_gl hL, jm_pi hL, jm_pl hL, jn_ai hL, jn_ab hL, jn_az hL, jn_al hL, jn_ar hL, jn_an hL, jn_si hL, jn_sb hL, jn_sz hL, jn_sl hL, Option.bind_some, xc, xl, jlit, jlitl, jmul, nI_add, lN_add, nI_leI, nI_ltI, nI_eq, jm1, jm1g, jm1e, jm1c, hM.n, if_pos]
    rfl
theorem jmax0 {a b : Nat} (ha : a < 2 ^ 30) (hb : b < 2 ^ 30) : xmax (nI 0) (nI a - nI b) = nI (a - b) := by
  unfold xmax
  have h0 : (nI 0).toInt = 0 := nI_toInt (by omega)
  by_cases h : nI 0 < nI a - nI b
  · rw [if_pos h]
    rw [Int32.lt_iff_toInt_lt, jsT ha hb, h0] at h
    exact jsub (by omega)
  · rw [if_neg h]
    rw [Int32.lt_iff_toInt_lt, jsT ha hb, h0] at h
    congr 1
    omega
theorem jJu_around {L : jL} (hL : jgood L) (hD : jdim L) {ω : xS} {S : jSt} {A : jR} (hA : jRg A) {sw ps wy : Nat} (hK : jLK S sw ps wy) {w : jLw} (hw : jLg L w) (h : jRC L S A) (hC : jLC L S w sw) {k p t : Nat} (hk : k < jLw.n w) (hp : p < jn L) (ht : t < jd L) : f_Judge_aroundCell (jad L (jo 28)) (jad L (jl (2 * k + sw) 0)) (nI p) (nI t) (jW L ω S) = some (lN (jak w k A L p t)) := by
  have h0 := hD.d1
  have h1 := hD.n8
  have h2 := hD.d21
  have h16 := hw.n16
  have hs1 := hC.s1
  have hs6 := hw.so k hk
  have hlo := hw.lo k hk
  have hhi := hw.hi k hk
  have hj : 2 * k + sw < 32 := by omega
  unfold f_Judge_aroundCell jak jnk
  simp (disch := first | omega | rfl | assumption | exact jokr (by decide) (by omega) | exact jokr4 (by omega) | exact jkt_r _ _ | exact jkt_l (by decide) | exact jfk_l (by decide) | exact jkt_t _ | exact jkt_r6 _ _ | exact jkt_t6 _ | (simp only [jok, jlen]; omega) | decide) only [jm_k hL, jm_gi hL, jm_gr hL, jm_gl hL, jm_pi hL, jm_pl hL, jn_ai hL, jn_ab hL, jn_az hL, jn_al hL, jn_ar hL, jn_an hL, jn_si hL, jn_sb hL, jn_sz hL, jn_sl hL, Option.bind_some, xc, xl, jsA_X, jsI_X, jsG_X, hK _ _, jlk, jmx, jlit, jlitl, jmul, nI_add, lN_add, nI_leI, nI_ltI, nI_eq, jm1, jm1g, jm1e, jm1c, hC.so]
  by_cases c0 : jLw.so w k = 0
  · rw [if_pos c0, if_pos c0]
    simp (disch := first | omega | rfl | assumption | exact jokr (by decide) (by omega) | exact jokr4 (by omega) | exact jkt_r _ _ | exact jkt_l (by decide) | exact jfk_l (by decide) | exact jkt_t _ | exact jkt_r6 _ _ | exact jkt_t6 _ | (simp only [jok, jlen]; omega) | decide) only [jm_k hL, jm_gi hL, jm_gr hL, jm_gl hL, jm_pi hL, jm_pl hL, jn_ai hL, jn_ab hL, jn_az hL, jn_al hL, jn_ar hL, jn_an hL, jn_si hL, jn_sb hL, jn_sz hL, jn_sl hL, Option.bind_some, xc, xl, jJu_unskilled hL hD hA hK h hp (show t ≤ t + 1 by omega) ht]
    rw [show t + 1 - t = 1 by omega, jsm, jsm, Nat.zero_add, Nat.add_zero]
  rw [if_neg c0, if_neg c0]
  by_cases c1 : jLw.so w k = 1
  · rw [if_pos c1, if_neg (show ¬ jLw.so w k = 2 by omega), if_neg (show ¬ jLw.so w k = 5 by omega), if_neg (show ¬ jLw.so w k = 6 by omega)]
    unfold jpc
    rw [if_neg c0, if_pos c1]
    have e5 := hC.lo k hk (Or.inl c1)
    simp (disch := first | omega | rfl | assumption | exact jokr (by decide) (by omega) | exact jokr4 (by omega) | exact jkt_r _ _ | exact jkt_l (by decide) | exact jfk_l (by decide) | exact jkt_t _ | exact jkt_r6 _ _ | exact jkt_t6 _ | (simp only [jok, jlen]; omega) | decide) only [jm_k hL, jm_gi hL, jm_gr hL, jm_gl hL, jm_pi hL, jm_pl hL, jn_ai hL, jn_ab hL, jn_az hL, jn_al hL, jn_ar hL, jn_an hL, jn_si hL, jn_sb hL, jn_sz hL, jn_sl hL, Option.bind_some, xc, xl, e5, jJu_rests hL hD hA hK h hp hlo]
  rw [if_neg c1]
  by_cases c2 : jLw.so w k = 2
  · rw [if_pos c2, if_pos c2]
    have hsp := hw.sp k hk c2
    have e5 := hC.lo k hk (Or.inr (Or.inl c2))
    have e6 := hC.hi k hk (Or.inl c2)
    have e7 := hC.sp k hk c2
    have e8 : nI (jd L) - nI (jLw.sp w k) = nI (jd L - jLw.sp w k) := jsub hsp.2
    have e9 : nI t - nI (jLw.sp w k) + nI 1 = nI (t + 1) - nI (jLw.sp w k) := by
      rw [← nI_add]
      generalize nI t = a
      generalize nI (jLw.sp w k) = b
      generalize nI 1 = c
      grind
    simp (disch := first | omega | rfl | assumption | exact jokr (by decide) (by omega) | exact jokr4 (by omega) | exact jkt_r _ _ | exact jkt_l (by decide) | exact jfk_l (by decide) | exact jkt_t _ | exact jkt_r6 _ _ | exact jkt_t6 _ | (simp only [jok, jlen]; omega) | decide) only [jm_k hL, jm_gi hL, jm_gr hL, jm_gl hL, jm_pi hL, jm_pl hL, jn_ai hL, jn_ab hL, jn_az hL, jn_al hL, jn_ar hL, jn_an hL, jn_si hL, jn_sb hL, jn_sz hL, jn_sl hL, Option.bind_some, xc, xl, jsA_X, jsI_X, jsG_X, hK _ _, jlk, jmx, h.d, e7, e8, e9, jmax0, jmin, jJu_hours hL hD hA hK h hp hj e5 e6 e7 hlo hhi hsp.1 (f := t + 1 - jLw.sp w k) (g := min t (jd L - jLw.sp w k)) (by omega) (by omega)]
  rw [if_neg c2, if_neg c2]
  by_cases c3 : jLw.so w k = 3
  · rw [if_pos c3, if_neg (show ¬ jLw.so w k = 5 by omega), if_neg (show ¬ jLw.so w k = 6 by omega)]
    unfold jpc
    rw [if_neg c0, if_neg c1, if_neg c2, if_pos c3]
    simp (disch := first | omega | rfl | assumption | exact jokr (by decide) (by omega) | exact jokr4 (by omega) | exact jkt_r _ _ | exact jkt_l (by decide) | exact jfk_l (by decide) | exact jkt_t _ | exact jkt_r6 _ _ | exact jkt_t6 _ | (simp only [jok, jlen]; omega) | decide) only [jm_k hL, jm_gi hL, jm_gr hL, jm_gl hL, jm_pi hL, jm_pl hL, jn_ai hL, jn_ab hL, jn_az hL, jn_al hL, jn_ar hL, jn_an hL, jn_si hL, jn_sb hL, jn_sz hL, jn_sl hL, Option.bind_some, xc, xl, jsA_X, jsI_X, jsG_X, hK _ _, jlk, jmx, jJu_matches hL hD hA hK hw h hC hk (Or.inl c3) hp]
  rw [if_neg c3]
  by_cases c4 : jLw.so w k = 4
  · rw [if_pos c4, if_neg (show ¬ jLw.so w k = 5 by omega), if_neg (show ¬ jLw.so w k = 6 by omega)]
    unfold jpc
    rw [if_neg c0, if_neg c1, if_neg c2, if_neg c3]
    simp (disch := first | omega | rfl | assumption | exact jokr (by decide) (by omega) | exact jokr4 (by omega) | exact jkt_r _ _ | exact jkt_l (by decide) | exact jfk_l (by decide) | exact jkt_t _ | exact jkt_r6 _ _ | exact jkt_t6 _ | (simp only [jok, jlen]; omega) | decide) only [jm_k hL, jm_gi hL, jm_gr hL, jm_gl hL, jm_pi hL, jm_pl hL, jn_ai hL, jn_ab hL, jn_az hL, jn_al hL, jn_ar hL, jn_an hL, jn_si hL, jn_sb hL, jn_sz hL, jn_sl hL, Option.bind_some, xc, xl, jsA_X, jsI_X, jsG_X, hK _ _, jlk, jmx, jJu_noWord hL hD hA hK hw h hC hk (Or.inr c4) hp]
  rw [if_neg c4]
  by_cases c5 : jLw.so w k = 5
  · rw [if_pos c5, if_pos c5]
    have hlt := hw.lt k hk (Or.inl c5)
    have e8 := hC.lt k hk (Or.inl c5)
    simp (disch := first | omega | rfl | assumption | exact jokr (by decide) (by omega) | exact jokr4 (by omega) | exact jkt_r _ _ | exact jkt_l (by decide) | exact jfk_l (by decide) | exact jkt_t _ | exact jkt_r6 _ _ | exact jkt_t6 _ | (simp only [jok, jlen]; omega) | decide) only [jm_k hL, jm_gi hL, jm_gr hL, jm_gl hL, jm_pi hL, jm_pl hL, jn_ai hL, jn_ab hL, jn_az hL, jn_al hL, jn_ar hL, jn_an hL, jn_si hL, jn_sb hL, jn_sz hL, jn_sl hL, Option.bind_some, xc, xl, e8, jJu_fair hL hD hA hK h hlt.2]
    rfl
  · rw [if_neg c5, if_neg c5]
    have c6 : jLw.so w k = 6 := by omega
    rw [if_pos c6]
    have hlt := hw.lt k hk (Or.inr c6)
    have e8 := hC.lt k hk (Or.inr c6)
    have e5 := hC.lo k hk (Or.inr (Or.inr c6))
    have e6 := hC.hi k hk (Or.inr c6)
    simp (disch := first | omega | rfl | assumption | exact jokr (by decide) (by omega) | exact jokr4 (by omega) | exact jkt_r _ _ | exact jkt_l (by decide) | exact jfk_l (by decide) | exact jkt_t _ | exact jkt_r6 _ _ | exact jkt_t6 _ | (simp only [jok, jlen]; omega) | decide) only [jm_k hL, jm_gi hL, jm_gr hL, jm_gl hL, jm_pi hL, jm_pl hL, jn_ai hL, jn_ab hL, jn_az hL, jn_al hL, jn_ar hL, jn_an hL, jn_si hL, jn_sb hL, jn_sz hL, jn_sl hL, Option.bind_some, xc, xl, jJu_cover hL hD hA hK h ht hj hlt.2 e5 e6 e8 hlo hhi]
    rfl
theorem jRR_around {L : jL} (hL : jgood L) (hD : jdim L) {ω : xS} {S : jSt} {A : jR} (hA : jRg A) {sw ps wy : Nat} (hK : jLK S sw ps wy) {w : jLw} (hw : jLg L w) (h : jRC L S A) (hC : jLC L S w sw) {p t : Nat} (hp : p < jn L) (ht : t < jd L) : f_RR_costAround (jad L (jo 0)) (nI p) (nI t) (jW L ω S) = some (lN (jar w A L p t)) := by
  have h16 := hw.n16
  have hs1 := hC.s1
  unfold f_RR_costAround
  simp (disch := first | omega | rfl | assumption | exact jokr (by decide) (by omega) | exact jokr4 (by omega) | exact jkt_r _ _ | exact jkt_l (by decide) | exact jfk_l (by decide) | exact jkt_t _ | exact jkt_r6 _ _ | exact jkt_t6 _ | (simp only [jok, jlen]; omega) | decide) only [jm_k hL, jm_gi hL, jm_gr hL, jm_gl hL, jm_pi hL, jm_pl hL, jn_ai hL, jn_ab hL, jn_az hL, jn_al hL, jn_ar hL, jn_an hL, jn_si hL, jn_sb hL, jn_sz hL, jn_sl hL, Option.bind_some, xc, xl, jsA_X, jsI_X, jsG_X, hK _ _, jlk, jmx, jRo_wishCost hL hD hA hK h hp ht]
  refine (jlpx (fun n i x => f_RR_costAround_13 n (jad L (jo 0)) (nI p) (nI t) x (nI i) (jW L ω S)) (fun i => lN (jwc A p t + jsm (fun k => jLw.wt w k * jak w k A L p t) i)) (lo := 0) (hi := jLw.n w) (r := some (lN (jar w A L p t))) (Nat.zero_le _) (by omega) ?_ ?_ : _)
  · intro n i _ hi
    have hwt := hw.wt i hi
    rw [f_RR_costAround_13, jsm]
    simp (disch := first | omega | rfl | assumption | exact jokr (by decide) (by omega) | exact jokr4 (by omega) | exact jkt_r _ _ | exact jkt_l (by decide) | exact jfk_l (by decide) | exact jkt_t _ | exact jkt_r6 _ _ | exact jkt_t6 _ | (simp only [jok, jlen]; omega) | decide) only [jm_k hL, jm_gi hL, jm_gr hL, jm_gl hL, jm_pi hL, jm_pl hL, jn_ai hL, jn_ab hL, jn_az hL, jn_al hL, jn_ar hL, jn_an hL, jn_si hL, jn_sb hL, jn_sz hL, jn_sl hL, Option.bind_some, xc, xl, jsA_X, jsI_X, jsG_X, hK _ _, jlk, jmx, jlit, jlitl, jmul, nI_add, lN_add, nI_leI, nI_ltI, nI_eq, jm1, jm1g, jm1e, jm1c, hC.n, if_neg, jlawref hL hK hs1 (show i < 16 by omega), hC.wt, nI_l, jJu_around hL hD hA hK hw h hC hi hp ht, lN_mul]
    rw [Nat.add_assoc]
  · intro n
    rw [f_RR_costAround_13]
    simp (disch := first | omega | rfl | assumption | exact jokr (by decide) (by omega) | exact jokr4 (by omega) | exact jkt_r _ _ | exact jkt_l (by decide) | exact jfk_l (by decide) | exact jkt_t _ | exact jkt_r6 _ _ | exact jkt_t6 _ | (simp only [jok, jlen]; omega) | decide) only [jm_k hL, jm_gi hL, jm_gr hL, jm_gl hL, jm_pi hL, jm_pl hL, jn_ai hL, jn_ab hL, jn_az hL, jn_al hL, jn_ar hL, jn_an hL, jn_si hL, jn_sb hL, jn_sz hL, jn_sl hL, Option.bind_some, xc, xl, jlit, jlitl, jmul, nI_add, lN_add, nI_leI, nI_ltI, nI_eq, jm1, jm1g, jm1e, jm1c, hC.n, if_pos]
    rfl
