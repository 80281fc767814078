/-! what is broken of a law: of a person, of a day, of all -/
def jpc (w : jLw) (k : Nat) (A : jR) (L : jL) (p : Nat) : Nat := if jLw.so w k = 0 then jsm (jun A p) (jd L) else if jLw.so w k = 1 then jsm (jsr A p (jLw.lo w k)) (7 + jd L) else if jLw.so w k = 2 then jhrs A p (jLw.lo w k) (jLw.hi w k) (jLw.sp w k) 0 (jd L + 1 - jLw.sp w k) else if jLw.so w k = 3 then jsm (jmt w k (jR.row A p)) (7 + jd L) else jwo w k A L p
def jdc (w : jLw) (k : Nat) (A : jR) (L : jL) (t : Nat) : Nat := jout (jLw.lo w k) (jLw.hi w k) (jcv A L (jLw.lt w k) t)
def jfc (w : jLw) (k : Nat) (A : jR) (L : jL) : Nat := jmxs (jtm A L (jLw.lt w k)) (jn L - 1) - jmns (jtm A L (jLw.lt w k)) (jn L - 1)
theorem jMo_byPerson {L : jL} (hL : jgood L) (hD : jdim L) {ω : xS} {S : jSt} {A : jR} (hA : jRg A) {sw ps wy : Nat} (hK : jLK S sw ps wy) {w : jLw} (hw : jLg L w) (h : jRM L S A) (hM : jLM S w) {k p : Nat} (hk : k < jLw.n w) (hs : jLw.so w k ≤ 4) (hp : p < jn L) : f_Mo_byPerson (jad L (jm 0)) (nI k) (nI p) (jW L ω S) = some (lN (jpc w k A L p)) := by
  have h1 := hD.n8
  have h2 := hD.d21
  have h16 := hw.n16
  have hlo := hw.lo k hk
  have hhi := hw.hi k hk
  unfold f_Mo_byPerson jpc
  simp (disch := first | omega | rfl | assumption | exact jokr (by decide) (by omega) | exact jokr4 (by omega) | exact jkt_r _ _ | exact jkt_l (by decide) | exact jfk_l (by decide) | exact jkt_t _ | exact jkt_r6 _ _ | exact jkt_t6 _ | (simp only [jok, jlen]; omega) | decide) only [jm_k hL, jm_gi hL, jm_gr hL, jm_gl hL, jm_pi hL, jm_pl hL, jn_ai hL, jn_ab hL, jn_az hL, jn_al hL, jn_ar hL, jn_an hL, jn_si hL, jn_sb hL, jn_sz hL, jn_sl hL, Option.bind_some, xc, xl, jsA_X, jsI_X, jsG_X, hK _ _, jlk, jmx, jlit, jlitl, jmul, nI_add, lN_add, nI_leI, nI_ltI, nI_eq, jm1, jm1g, jm1e, jm1c, hM.so]
  by_cases c0 : jLw.so w k = 0
  · rw [if_pos c0, if_pos c0]
    exact jMo_skill hL hD hA hK h hp
  rw [if_neg c0, if_neg c0]
  by_cases c1 : jLw.so w k = 1
  · rw [if_pos c1, if_pos c1, jMo_restOf hL hD hA hK h hp (by omega) hlo (hM.lo k hk)]
    rfl
  rw [if_neg c1, if_neg c1]
  by_cases c2 : jLw.so w k = 2
  · rw [if_pos c2, if_pos c2]
    have hsp := hw.sp k hk c2
    exact jMo_hours hL hD hA hK h hp (by omega) hlo hhi (hw.lh k hk (Or.inl c2)) hsp.1 hsp.2 (hM.lo k hk) (hM.hi k hk) (hM.sp k hk)
  rw [if_neg c2, if_neg c2]
  by_cases c3 : jLw.so w k = 3
  · rw [if_pos c3, if_pos c3, jMo_never hL hD hA hK hw h hM hk (Or.inl c3) hp]
    rfl
  rw [if_neg c3, if_neg c3]
  exact jMo_whole hL hD hA hK hw h hM hk (Or.inr (by omega)) hp
theorem jJu_ofPerson {L : jL} (hL : jgood L) (hD : jdim L) {ω : xS} {S : jSt} {A : jR} (hA : jRg A) {sw ps wy : Nat} (hK : jLK S sw ps wy) {w : jLw} (hw : jLg L w) (h : jRC L S A) (hC : jLC L S w sw) {k p : Nat} (hk : k < jLw.n w) (hs : jLw.so w k ≤ 4) (hp : p < jn L) : f_Judge_ofPerson (jad L (jo 28)) (jad L (jl (2 * k + sw) 0)) (nI p) (jW L ω S) = some (lN (jpc w k A L p)) := by
  have h0 := hD.d1
  have h1 := hD.n8
  have h2 := hD.d21
  have h16 := hw.n16
  have hs1 := hC.s1
  have hlo := hw.lo k hk
  have hhi := hw.hi k hk
  have hj : 2 * k + sw < 32 := by omega
  unfold f_Judge_ofPerson jpc
  simp (disch := first | omega | rfl | assumption | exact jokr (by decide) (by omega) | exact jokr4 (by omega) | exact jkt_r _ _ | exact jkt_l (by decide) | exact jfk_l (by decide) | exact jkt_t _ | exact jkt_r6 _ _ | exact jkt_t6 _ | (simp only [jok, jlen]; omega) | decide) only [jm_k hL, jm_gi hL, jm_gr hL, jm_gl hL, jm_pi hL, jm_pl hL, jn_ai hL, jn_ab hL, jn_az hL, jn_al hL, jn_ar hL, jn_an hL, jn_si hL, jn_sb hL, jn_sz hL, jn_sl hL, Option.bind_some, xc, xl, jsA_X, jsI_X, jsG_X, hK _ _, jlk, jmx, jlit, jlitl, jmul, nI_add, lN_add, nI_leI, nI_ltI, nI_eq, jm1, jm1g, jm1e, jm1c, hC.so]
  by_cases c0 : jLw.so w k = 0
  · rw [if_pos c0, if_pos c0]
    have e1 : nI (jd L) - nI 1 = nI (jd L - 1) := jsub h0
    simp (disch := first | omega | rfl | assumption | exact jokr (by decide) (by omega) | exact jokr4 (by omega) | exact jkt_r _ _ | exact jkt_l (by decide) | exact jfk_l (by decide) | exact jkt_t _ | exact jkt_r6 _ _ | exact jkt_t6 _ | (simp only [jok, jlen]; omega) | decide) only [jm_k hL, jm_gi hL, jm_gr hL, jm_gl hL, jm_pi hL, jm_pl hL, jn_ai hL, jn_ab hL, jn_az hL, jn_al hL, jn_ar hL, jn_an hL, jn_si hL, jn_sb hL, jn_sz hL, jn_sl hL, Option.bind_some, xc, xl, jsA_X, jsI_X, jsG_X, hK _ _, jlk, jmx, h.d, e1, jJu_unskilled hL hD hA hK h]
    congr 2
    rw [show jd L - 1 + 1 - 0 = jd L by omega]
    exact jsm_ext (fun i _ => by rw [Nat.zero_add])
  rw [if_neg c0, if_neg c0]
  by_cases c1 : jLw.so w k = 1
  · rw [if_pos c1, if_pos c1]
    have e5 := hC.lo k hk (Or.inl c1)
    simp (disch := first | omega | rfl | assumption | exact jokr (by decide) (by omega) | exact jokr4 (by omega) | exact jkt_r _ _ | exact jkt_l (by decide) | exact jfk_l (by decide) | exact jkt_t _ | exact jkt_r6 _ _ | exact jkt_t6 _ | (simp only [jok, jlen]; omega) | decide) only [jm_k hL, jm_gi hL, jm_gr hL, jm_gl hL, jm_pi hL, jm_pl hL, jn_ai hL, jn_ab hL, jn_az hL, jn_al hL, jn_ar hL, jn_an hL, jn_si hL, jn_sb hL, jn_sz hL, jn_sl hL, Option.bind_some, xc, xl, e5, jJu_rests hL hD hA hK h hp hlo]
  rw [if_neg c1, if_neg c1]
  by_cases c2 : jLw.so w k = 2
  · rw [if_pos c2, if_pos c2]
    have hsp := hw.sp k hk c2
    have e5 := hC.lo k hk (Or.inr (Or.inl c2))
    have e6 := hC.hi k hk (Or.inl c2)
    have e7 := hC.sp k hk c2
    have e8 : nI (jd L) - nI (jLw.sp w k) = nI (jd L - jLw.sp w k) := jsub hsp.2
    simp (disch := first | omega | rfl | assumption | exact jokr (by decide) (by omega) | exact jokr4 (by omega) | exact jkt_r _ _ | exact jkt_l (by decide) | exact jfk_l (by decide) | exact jkt_t _ | exact jkt_r6 _ _ | exact jkt_t6 _ | (simp only [jok, jlen]; omega) | decide) only [jm_k hL, jm_gi hL, jm_gr hL, jm_gl hL, jm_pi hL, jm_pl hL, jn_ai hL, jn_ab hL, jn_az hL, jn_al hL, jn_ar hL, jn_an hL, jn_si hL, jn_sb hL, jn_sz hL, jn_sl hL, Option.bind_some, xc, xl, jsA_X, jsI_X, jsG_X, hK _ _, jlk, jmx, h.d, e7, e8, jJu_hours hL hD hA hK h hp hj e5 e6 e7 hlo hhi hsp.1 (f := 0) (g := jd L - jLw.sp w k) (Nat.zero_le _) (by omega)]
    congr 3
    omega
  rw [if_neg c2, if_neg c2]
  by_cases c3 : jLw.so w k = 3
  · rw [if_pos c3, if_pos c3]
    simp (disch := first | omega | rfl | assumption | exact jokr (by decide) (by omega) | exact jokr4 (by omega) | exact jkt_r _ _ | exact jkt_l (by decide) | exact jfk_l (by decide) | exact jkt_t _ | exact jkt_r6 _ _ | exact jkt_t6 _ | (simp only [jok, jlen]; omega) | decide) only [jm_k hL, jm_gi hL, jm_gr hL, jm_gl hL, jm_pi hL, jm_pl hL, jn_ai hL, jn_ab hL, jn_az hL, jn_al hL, jn_ar hL, jn_an hL, jn_si hL, jn_sb hL, jn_sz hL, jn_sl hL, Option.bind_some, xc, xl, jsA_X, jsI_X, jsG_X, hK _ _, jlk, jmx, jJu_matches hL hD hA hK hw h hC hk (Or.inl c3) hp]
  rw [if_neg c3, if_neg c3]
  have c4 : jLw.so w k = 4 := by omega
  rw [if_pos c4]
  simp (disch := first | omega | rfl | assumption | exact jokr (by decide) (by omega) | exact jokr4 (by omega) | exact jkt_r _ _ | exact jkt_l (by decide) | exact jfk_l (by decide) | exact jkt_t _ | exact jkt_r6 _ _ | exact jkt_t6 _ | (simp only [jok, jlen]; omega) | decide) only [jm_k hL, jm_gi hL, jm_gr hL, jm_gl hL, jm_pi hL, jm_pl hL, jn_ai hL, jn_ab hL, jn_az hL, jn_al hL, jn_ar hL, jn_an hL, jn_si hL, jn_sb hL, jn_sz hL, jn_sl hL, Option.bind_some, xc, xl, jsA_X, jsI_X, jsG_X, hK _ _, jlk, jmx, jJu_noWord hL hD hA hK hw h hC hk (Or.inr c4) hp]
