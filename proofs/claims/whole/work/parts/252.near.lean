/-! the reference's score; what lies around a cell -/
theorem jMo_brokenAll {L : jL} (hL : jgood L) (hD : jdim L) {ω : xS} {S : jSt} {A : jR} (hA : jRg A) {sw ps wy : Nat} (hK : jLK S sw ps wy) {w : jLw} (hw : jLg L w) (h : jRM L S A) (hM : jLM S w) {k : Nat} (hk : k < jLw.n w) : f_Mo_broken (jad L (jm 0)) (nI k) (-nI 1) (jW L ω S) = some (lN (jev w k A L)) := by
  have h1 := hD.n8
  have h2 := hD.d21
  have h16 := hw.n16
  have hs6 := hw.so k hk
  have e1 : (-nI 1 : Int32) < nI 0 := by decide
  have e2 : (-nI 1 : Int32) ≤ -nI 1 := by decide
  have e3 : ∀ n, n < 2 ^ 31 → (-nI 1 : Int32) < nI n := fun n hn => by
    rw [Int32.lt_iff_toInt_lt, nI_toInt hn, show (-nI 1 : Int32).toInt = -1 by decide]
    omega
  unfold f_Mo_broken
  simp (disch := first | omega | rfl | assumption | exact jokr (by decide) (by omega) | exact jokr4 (by omega) | exact jkt_r _ _ | exact jkt_l (by decide) | exact jfk_l (by decide) | exact jkt_t _ | exact jkt_r6 _ _ | exact jkt_t6 _ | (simp only [jok, jlen]; omega) | decide) only [jm_k hL, jm_gi hL, jm_gr hL, jm_gl hL, jm_pi hL, jm_pl hL, jn_ai hL, jn_ab hL, jn_az hL, jn_al hL, jn_ar hL, jn_an hL, jn_si hL, jn_sb hL, jn_sz hL, jn_sl hL, Option.bind_some, xc, xl, jsA_X, jsI_X, jsG_X, hK _ _, jlk, jmx, jlit, jlitl, jmul, nI_add, lN_add, nI_leI, nI_ltI, nI_eq, jm1, jm1g, jm1e, jm1c, hM.n, hM.so, if_neg, jneg, if_false, if_pos e2, h.n, h.d]
  by_cases c5 : jLw.so w k = 5
  · rw [if_pos c5]
    have hlt := hw.lt k hk (Or.inl c5)
    unfold f_Mo_broken_55
    simp (disch := first | omega | rfl | assumption | exact jokr (by decide) (by omega) | exact jokr4 (by omega) | exact jkt_r _ _ | exact jkt_l (by decide) | exact jfk_l (by decide) | exact jkt_t _ | exact jkt_r6 _ _ | exact jkt_t6 _ | (simp only [jok, jlen]; omega) | decide) only [jm_k hL, jm_gi hL, jm_gr hL, jm_gl hL, jm_pi hL, jm_pl hL, jn_ai hL, jn_ab hL, jn_az hL, jn_al hL, jn_ar hL, jn_an hL, jn_si hL, jn_sb hL, jn_sz hL, jn_sl hL, Option.bind_some, xc, xl, jlit, jlitl, jmul, nI_add, lN_add, nI_leI, nI_ltI, nI_eq, jm1, jm1g, jm1e, jm1c, if_pos e1, if_pos c5, jMo_spread hL hD hA hK h (show k < 16 by omega) hlt.2 (hM.lt k hk (Or.inl c5))]
    unfold jev jfc
    rw [if_pos c5]
  · rw [if_neg c5]
    by_cases c6 : jLw.so w k = 6
    · rw [if_pos c6]
      unfold f_Mo_broken_55
      simp (disch := first | omega | rfl | assumption | exact jokr (by decide) (by omega) | exact jokr4 (by omega) | exact jkt_r _ _ | exact jkt_l (by decide) | exact jfk_l (by decide) | exact jkt_t _ | exact jkt_r6 _ _ | exact jkt_t6 _ | (simp only [jok, jlen]; omega) | decide) only [jlit, jlitl, jmul, nI_add, lN_add, nI_leI, nI_ltI, nI_eq, jm1, jm1g, jm1e, jm1c, if_pos e1, if_pos (e3 (jd L) (by omega)), if_neg c5]
      exact jMo_all hL hD hA hK hw h hM hk c5
    · rw [if_neg c6]
      unfold f_Mo_broken_55
      simp (disch := first | omega | rfl | assumption | exact jokr (by decide) (by omega) | exact jokr4 (by omega) | exact jkt_r _ _ | exact jkt_l (by decide) | exact jfk_l (by decide) | exact jkt_t _ | exact jkt_r6 _ _ | exact jkt_t6 _ | (simp only [jok, jlen]; omega) | decide) only [jlit, jlitl, jmul, nI_add, lN_add, nI_leI, nI_ltI, nI_eq, jm1, jm1g, jm1e, jm1c, if_pos e1, if_pos (e3 (jn L) (by omega)), if_neg c5]
      exact jMo_all hL hD hA hK hw h hM hk c5
theorem jMo_score_48 {L : jL} (hL : jgood L) (hD : jdim L) {ω : xS} {S : jSt} {A : jR} (hA : jRg A) {sw ps wy : Nat} (hK : jLK S sw ps wy) (h : jRM L S A) {p v : Nat} {k37 : Nat → Int64 → Int32 → xS → Option Int64} (hp : p < jn L) : f_Mo_score_48 k37 xFU (jad L (jm 0)) (lN v) (nI p) (nI 0) (jW L ω S) = k37 (jad L (jm 0)) (lN (v + jsm (jwc A p) (jd L))) (nI (p + 1)) (jW L ω S) := by
  have h1 := hD.n8
  have h2 := hD.d21
  refine jlpx (fun n i x => f_Mo_score_48 k37 n (jad L (jm 0)) x (nI p) (nI i) (jW L ω S)) (fun i => lN (v + jsm (jwc A p) i)) (lo := 0) (hi := jd L) (Nat.zero_le _) (by omega) ?_ ?_
  · intro n i _ hi
    rw [f_Mo_score_48]
    simp (disch := first | omega | rfl | assumption | exact jokr (by decide) (by omega) | exact jokr4 (by omega) | exact jkt_r _ _ | exact jkt_l (by decide) | exact jfk_l (by decide) | exact jkt_t _ | exact jkt_r6 _ _ | exact jkt_t6 _ | (simp only [jok, jlen]; omega) | decide) only [jm_k hL, jm_gi hL, jm_gr hL, jm_gl hL, jm_pi hL, jm_pl hL, jn_ai hL, jn_ab hL, jn_az hL, jn_al hL, jn_ar hL, jn_an hL, jn_si hL, jn_sb hL, jn_sz hL, jn_sl hL, Option.bind_some, xc, xl, jlit, jlitl, jmul, nI_add, lN_add, nI_leI, nI_ltI, nI_eq, jm1, jm1g, jm1e, jm1c, h.d, if_neg, jMo_wishOf hL hD hA hK h]
    rw [jsm, Nat.add_assoc]
  · intro n
    rw [f_Mo_score_48]
    simp (disch := first | omega | rfl | assumption | exact jokr (by decide) (by omega) | exact jokr4 (by omega) | exact jkt_r _ _ | exact jkt_l (by decide) | exact jfk_l (by decide) | exact jkt_t _ | exact jkt_r6 _ _ | exact jkt_t6 _ | (simp only [jok, jlen]; omega) | decide) only [jm_k hL, jm_gi hL, jm_gr hL, jm_gl hL, jm_pi hL, jm_pl hL, jn_ai hL, jn_ab hL, jn_az hL, jn_al hL, jn_ar hL, jn_an hL, jn_si hL, jn_sb hL, jn_sz hL, jn_sl hL, Option.bind_some, xc, xl, jlit, jlitl, jmul, nI_add, lN_add, nI_leI, nI_ltI, nI_eq, jm1, jm1g, jm1e, jm1c, h.d, if_pos]
theorem jMo_score_37 {L : jL} (hL : jgood L) (hD : jdim L) {ω : xS} {S : jSt} {A : jR} (hA : jRg A) {sw ps wy : Nat} (hK : jLK S sw ps wy) (h : jRM L S A) {v : Nat} : f_Mo_score_37 xFU (jad L (jm 0)) (lN v) (nI 0) (jW L ω S) = some (lN (v + jws A L)) := by
  have h1 := hD.n8
  refine jlpx (fun n i x => f_Mo_score_37 n (jad L (jm 0)) x (nI i) (jW L ω S)) (fun i => lN (v + jsm (fun p => jsm (jwc A p) (jd L)) i)) (lo := 0) (hi := jn L) (Nat.zero_le _) (by omega) ?_ ?_
  · intro n i _ hi
    rw [f_Mo_score_37]
    simp (disch := first | omega | rfl | assumption | exact jokr (by decide) (by omega) | exact jokr4 (by omega) | exact jkt_r _ _ | exact jkt_l (by decide) | exact jfk_l (by decide) | exact jkt_t _ | exact jkt_r6 _ _ | exact jkt_t6 _ | (simp only [jok, jlen]; omega) | decide) only [jm_k hL, jm_gi hL, jm_gr hL, jm_gl hL, jm_pi hL, jm_pl hL, jn_ai hL, jn_ab hL, jn_az hL, jn_al hL, jn_ar hL, jn_an hL, jn_si hL, jn_sb hL, jn_sz hL, jn_sl hL, Option.bind_some, xc, xl, jlit, jlitl, jmul, nI_add, lN_add, nI_leI, nI_ltI, nI_eq, jm1, jm1g, jm1e, jm1c, h.n, if_neg]
    rw [jMo_score_48 hL hD hA hK h hi, jsm, Nat.add_assoc]
  · intro n
    rw [f_Mo_score_37]
    simp (disch := first | omega | rfl | assumption | exact jokr (by decide) (by omega) | exact jokr4 (by omega) | exact jkt_r _ _ | exact jkt_l (by decide) | exact jfk_l (by decide) | exact jkt_t _ | exact jkt_r6 _ _ | exact jkt_t6 _ | (simp only [jok, jlen]; omega) | decide) only [jm_k hL, jm_gi hL, jm_gr hL, jm_gl hL, jm_pi hL, jm_pl hL, jn_ai hL, jn_ab hL, jn_az hL, jn_al hL, jn_ar hL, jn_an hL, jn_si hL, jn_sb hL, jn_sz hL, jn_sl hL, Option.bind_some, xc, xl, jlit, jlitl, jmul, nI_add, lN_add, nI_leI, nI_ltI, nI_eq, jm1, jm1g, jm1e, jm1c, h.n, if_pos]
    rfl
theorem jMo_score {L : jL} (hL : jgood L) (hD : jdim L) {ω : xS} {S : jSt} {A : jR} (hA : jRg A) {sw ps wy : Nat} (hK : jLK S sw ps wy) {w : jLw} (hw : jLg L w) (h : jRM L S A) (hM : jLM S w) : f_Mo_score (jad L (jm 0)) (jW L ω S) = some (lN (jws A L + jscl w A L (jLw.n w))) := by
  have h16 := hw.n16
  unfold f_Mo_score
  refine jlpx (fun n i x => f_Mo_score_4 n (jad L (jm 0)) x (nI i) (jW L ω S)) (fun i => lN (jscl w A L i)) (lo := 0) (hi := jLw.n w) (Nat.zero_le _) (by omega) ?_ ?_
  · intro n i _ hi
    have hwt := hw.wt i hi
    rw [f_Mo_score_4]
    simp (disch := first | omega | rfl | assumption | exact jokr (by decide) (by omega) | exact jokr4 (by omega) | exact jkt_r _ _ | exact jkt_l (by decide) | exact jfk_l (by decide) | exact jkt_t _ | exact jkt_r6 _ _ | exact jkt_t6 _ | (simp only [jok, jlen]; omega) | decide) only [jm_k hL, jm_gi hL, jm_gr hL, jm_gl hL, jm_pi hL, jm_pl hL, jn_ai hL, jn_ab hL, jn_az hL, jn_al hL, jn_ar hL, jn_an hL, jn_si hL, jn_sb hL, jn_sz hL, jn_sl hL, Option.bind_some, xc, xl, jsA_X, jsI_X, jsG_X, hK _ _, jlk, jmx, jlit, jlitl, jmul, nI_add, lN_add, nI_leI, nI_ltI, nI_eq, jm1, jm1g, jm1e, jm1c, hM.n, if_neg, jMo_brokenAll hL hD hA hK hw h hM hi, hM.wt, nI_l, lN_mul]
    unfold jscl
    rw [jsm, Nat.mul_comm (jev w i A L)]
  · intro n
    rw [f_Mo_score_4]
    simp (disch := first | omega | rfl | assumption | exact jokr (by decide) (by omega) | exact jokr4 (by omega) | exact jkt_r _ _ | exact jkt_l (by decide) | exact jfk_l (by decide) | exact jkt_t _ | exact jkt_r6 _ _ | exact jkt_t6 _ | (simp only [jok, jlen]; omega) | decide) only [jm_k hL, jm_gi hL, jm_gr hL, jm_gl hL, jm_pi hL, jm_pl hL, jn_ai hL, jn_ab hL, jn_az hL, jn_al hL, jn_ar hL, jn_an hL, jn_si hL, jn_sb hL, jn_sz hL, jn_sl hL, Option.bind_some, xc, xl, jlit, jlitl, jmul, nI_add, lN_add, nI_leI, nI_ltI, nI_eq, jm1, jm1g, jm1e, jm1c, hM.n, if_pos]
    rw [jMo_score_37 hL hD hA hK h, Nat.add_comm]
