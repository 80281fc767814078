/-! hours in windows -/
theorem jwin_step {A : jR} {p sp b : Nat} (hsp : 1 ≤ sp) : jwin A p sp (b + 1) + jmn A p b = jwin A p sp b + jmn A p (b + sp) := by
  have key : ∀ k, jsm (fun q => jmn A p (b + 1 + q)) k + jmn A p b = jsm (fun q => jmn A p (b + q)) k + jmn A p (b + k) := by
    intro k
    induction k with
    | zero => rfl
    | succ k ih =>
      rw [jsm, jsm, show b + 1 + k = b + (k + 1) by omega]
      omega
  exact key sp
theorem jhrs_step (A : jR) (p lo hi sp f k : Nat) : jhrs A p lo hi sp f (k + 1) = jhrs A p lo hi sp f k + jout lo hi (jwin A p sp (f + k)) := rfl
/-- the reference's windows -/
theorem jMo_hours {L : jL} (hL : jgood L) (hD : jdim L) {ω : xS} {S : jSt} {A : jR} (hA : jRg A) {sw ps wy : Nat} (hK : jLK S sw ps wy) (h : jRM L S A) {k p lo hi sp : Nat} (hp : p < jn L) (hk : k < 16) (hlo : lo ≤ 99999) (hhi : hi ≤ 99999) (hlh : lo ≤ hi) (h1p : 1 ≤ sp) (hsp : sp ≤ jd L) (hl : jgA S (jm 13) k = nI lo) (hh : jgA S (jm 14) k = nI hi) (hs : jgA S (jm 15) k = nI sp) : f_Mo_byPerson_116 xFU (jad L (jm 0)) (nI k) (nI p) (lN 0) (nI 0) (jW L ω S) = some (lN (jhrs A p lo hi sp 0 (jd L + 1 - sp))) := by
  have h1 := hD.n8
  have h2 := hD.d21
  refine jlpx (fun n i x => f_Mo_byPerson_116 n (jad L (jm 0)) (nI k) (nI p) x (nI i) (jW L ω S)) (fun i => lN (jhrs A p lo hi sp 0 i)) (lo := 0) (hi := jd L + 1 - sp) (Nat.zero_le _) (by omega) ?_ ?_
  · intro n i _ hi2
    have hwl := jwin_le hA p i (sp := sp) (by omega)
    have e1 : jsm (fun q => jmn A p (i + q)) (i + sp - 1 + 1 - i) = jwin A p sp i := by unfold jwin; congr 1; omega
    have e2 : nI (i + sp) - nI 1 = nI (i + sp - 1) := jsub (by omega)
    rw [f_Mo_byPerson_116]
    simp (disch := first | omega | rfl | assumption | exact jokr (by decide) (by omega) | exact jokr4 (by omega) | exact jkt_r _ _ | exact jkt_l (by decide) | exact jfk_l (by decide) | exact jkt_t _ | exact jkt_r6 _ _ | exact jkt_t6 _ | (simp only [jok, jlen]; omega) | decide) only [jm_k hL, jm_gi hL, jm_gr hL, jm_gl hL, jm_pi hL, jm_pl hL, jn_ai hL, jn_ab hL, jn_az hL, jn_al hL, jn_ar hL, jn_an hL, jn_si hL, jn_sb hL, jn_sz hL, jn_sl hL, Option.bind_some, xc, xl, jsA_X, jsI_X, jsG_X, hK _ _, jlk, jmx, jlit, jlitl, jmul, nI_add, lN_add, nI_leI, nI_ltI, nI_eq, jm1, jm1g, jm1e, jm1c, hs, h.d, if_neg, e2, jMo_minutes hL hD hA hK h, e1, hl, hh, nI_l, jcge, jcle, jlLE]
    rw [jhrs_step, Nat.zero_add]
    unfold jout
    by_cases c1 : lo ≤ jwin A p sp i
    · rw [if_pos c1]
      by_cases c2 : jwin A p sp i ≤ hi
      · rw [if_pos c2, show lo - jwin A p sp i + (jwin A p sp i - hi) = 0 by omega]
        try rfl
      · rw [if_neg c2, lN_sub (by omega), lN_add, show lo - jwin A p sp i + (jwin A p sp i - hi) = jwin A p sp i - hi by omega]
    · rw [if_neg c1, lN_sub (by omega), lN_add]
      rw [show lo - jwin A p sp i + (jwin A p sp i - hi) = lo - jwin A p sp i by omega]
  · intro n
    rw [f_Mo_byPerson_116]
    simp (disch := first | omega | rfl | assumption | exact jokr (by decide) (by omega) | exact jokr4 (by omega) | exact jkt_r _ _ | exact jkt_l (by decide) | exact jfk_l (by decide) | exact jkt_t _ | exact jkt_r6 _ _ | exact jkt_t6 _ | (simp only [jok, jlen]; omega) | decide) only [jm_k hL, jm_gi hL, jm_gr hL, jm_gl hL, jm_pi hL, jm_pl hL, jn_ai hL, jn_ab hL, jn_az hL, jn_al hL, jn_ar hL, jn_an hL, jn_si hL, jn_sb hL, jn_sz hL, jn_sl hL, Option.bind_some, xc, xl, jsA_X, jsI_X, jsG_X, hK _ _, jlk, jmx, jlit, jlitl, jmul, nI_add, lN_add, nI_leI, nI_ltI, nI_eq, jm1, jm1g, jm1e, jm1c, hs, h.d]
    rw [if_pos (by omega)]
/-! the class's windows -/
theorem jdif {a b : Nat} (ha : a < 2 ^ 30) (hb : b < 2 ^ 30) : (nI a - nI b).toInt64 = lN a - lN b := by
  apply jlEq
  rw [Int32.toInt_toInt64, jsT ha hb, jlS (by omega) (by omega)]
theorem jladd {w w' a b : Nat} (h : w' + b = w + a) : lN w + (lN a - lN b) = lN w' := by
  have e : lN w' + lN b = lN w + lN a := by rw [lN_add, lN_add, h]
  generalize lN w' = x at e ⊢
  generalize lN w = y at e ⊢
  generalize lN a = z at e ⊢
  generalize lN b = u at e ⊢
  grind
theorem jJu_outside {L : jL} (hL : jgood L) (hD : jdim L) {ω : xS} {S : jSt} {A : jR} (hA : jRg A) {sw ps wy : Nat} (hK : jLK S sw ps wy) {j lo hi v : Nat} (hj : j < 32) (h5 : jgI S (jl j 0) 5 = nI lo) (h6 : jgI S (jl j 0) 6 = nI hi) (hlo : lo ≤ 99999) (hhi : hi ≤ 99999) (hv : v < 2 ^ 31) : f_Judge_outside (jad L (jo 28)) (lN v) (jad L (jl j 0)) (jW L ω S) = some (lN (jout lo hi v)) := by
  unfold f_Judge_outside jout
  simp (disch := first | omega | rfl | assumption | exact jokr (by decide) (by omega) | exact jokr4 (by omega) | exact jkt_r _ _ | exact jkt_l (by decide) | exact jfk_l (by decide) | exact jkt_t _ | exact jkt_r6 _ _ | exact jkt_t6 _ | (simp only [jok, jlen]; omega) | decide) only [jm_k hL, jm_gi hL, jm_gr hL, jm_gl hL, jm_pi hL, jm_pl hL, jn_ai hL, jn_ab hL, jn_az hL, jn_al hL, jn_ar hL, jn_an hL, jn_si hL, jn_sb hL, jn_sz hL, jn_sl hL, Option.bind_some, xc, xl, h5, h6, nI_l, jlitl, jmaxl, lN_add]
theorem jJu_hours {L : jL} (hL : jgood L) (hD : jdim L) {ω : xS} {S : jSt} {A : jR} (hA : jRg A) {sw ps wy : Nat} (hK : jLK S sw ps wy) (h : jRC L S A) {j p lo hi sp f g : Nat} (hp : p < jn L) (hj : j < 32) (h5 : jgI S (jl j 0) 5 = nI lo) (h6 : jgI S (jl j 0) 6 = nI hi) (h7 : jgI S (jl j 0) 7 = nI sp) (hlo : lo ≤ 99999) (hhi : hi ≤ 99999) (h1p : 1 ≤ sp) (hfg : f ≤ g) (hg : g + sp ≤ jd L) : f_Judge_hoursAmiss (jad L (jo 28)) (jad L (jl j 0)) (nI p) (nI f) (nI g) (jW L ω S) = some (lN (jhrs A p lo hi sp f (g + 1 - f))) := by
  have h1 := hD.n8
  have h2 := hD.d21
  have e0 : jsm (fun q => jmn A p (f + q)) (f + sp - 1 + 1 - f) = jwin A p sp f := by unfold jwin; congr 1; omega
  have e1 : nI (f + sp) - nI 1 = nI (f + sp - 1) := jsub (by omega)
  have w0 := jwin_le hA p f (sp := sp) (by omega)
  unfold f_Judge_hoursAmiss
  simp (disch := first | omega | rfl | assumption | exact jokr (by decide) (by omega) | exact jokr4 (by omega) | exact jkt_r _ _ | exact jkt_l (by decide) | exact jfk_l (by decide) | exact jkt_t _ | exact jkt_r6 _ _ | exact jkt_t6 _ | (simp only [jok, jlen]; omega) | decide) only [jm_k hL, jm_gi hL, jm_gr hL, jm_gl hL, jm_pi hL, jm_pl hL, jn_ai hL, jn_ab hL, jn_az hL, jn_al hL, jn_ar hL, jn_an hL, jn_si hL, jn_sb hL, jn_sz hL, jn_sl hL, Option.bind_some, xc, xl, jsA_X, jsI_X, jsG_X, hK _ _, jlk, jmx, jlit, jlitl, jmul, nI_add, lN_add, nI_leI, nI_ltI, nI_eq, jm1, jm1g, jm1e, jm1c, h7, e1, jRo_minutes hL hD hA hK h, e0, jJu_outside hL hD hA hK hj h5 h6 hlo hhi]
  have e9 : jout lo hi (jwin A p sp f) = jhrs A p lo hi sp f (0 + 1) := by
    unfold jhrs
    rw [jsm, jsm, Nat.zero_add]
    rfl
  rw [e9]
  refine (jlpx (fun n i (x : Int64 × Int64) => f_Judge_hoursAmiss_33 n (jad L (jo 28)) (jad L (jl j 0)) (nI p) (nI g) x.1 x.2 (nI (f + 1 + i)) (jW L ω S)) (fun i => (lN (jwin A p sp (f + i)), lN (jhrs A p lo hi sp f (i + 1)))) (lo := 0) (hi := g - f) (r := some (lN (jhrs A p lo hi sp f (g + 1 - f)))) (Nat.zero_le _) (by omega) ?_ ?_ : _)
  · intro n i _ hi2
    have hr1 := hA.row p (7 + (f + 1 + i + sp - 1))
    have hr2 := hA.row p (7 + (f + i))
    have hl1 := jmn_le hA p (f + 1 + i + sp - 1)
    have hl2 := jmn_le hA p (f + i)
    have w1 := jwin_le hA p (f + (i + 1)) (sp := sp) (by omega)
    have e2 : nI (f + 1 + i + sp) - nI 1 = nI (f + 1 + i + sp - 1) := jsub (by omega)
    have e3 : nI (f + 1 + i) - nI 1 = nI (f + i) := by rw [jsub (by omega)]; congr 1; omega
    have e4 : lN (jwin A p sp (f + i)) + (lN (jmn A p (f + 1 + i + sp - 1)) - lN (jmn A p (f + i))) = lN (jwin A p sp (f + (i + 1))) := by
      refine jladd ?_
      have := jwin_step (A := A) (p := p) (sp := sp) (b := f + i) h1p
      rw [show f + 1 + i + sp - 1 = f + i + sp by omega]
      exact this
    show f_Judge_hoursAmiss_33 (n + 1) _ _ _ _ _ _ _ _ = f_Judge_hoursAmiss_33 n _ _ _ _ _ _ _ _
    rw [f_Judge_hoursAmiss_33]
    simp (disch := first | omega | rfl | assumption | exact jokr (by decide) (by omega) | exact jokr4 (by omega) | exact jkt_r _ _ | exact jkt_l (by decide) | exact jfk_l (by decide) | exact jkt_t _ | exact jkt_r6 _ _ | exact jkt_t6 _ | (simp only [jok, jlen]; omega) | decide) only [jm_k hL, jm_gi hL, jm_gr hL, jm_gl hL, jm_pi hL, jm_pl hL, jn_ai hL, jn_ab hL, jn_az hL, jn_al hL, jn_ar hL, jn_an hL, jn_si hL, jn_sb hL, jn_sz hL, jn_sl hL, Option.bind_some, xc, xl, jsA_X, jsI_X, jsG_X, hK _ _, jlk, jmx, jlit, jlitl, jmul, nI_add, lN_add, nI_leI, nI_ltI, nI_eq, jm1, jm1g, jm1e, jm1c, h7, if_neg, e2, e3, jRo_letterOf hL hD hA hK h, h.ln]
    rw [show jR.ln A (jR.row A p (7 + (f + 1 + i + sp - 1))) = jmn A p (f + 1 + i + sp - 1) from rfl, show jR.ln A (jR.row A p (7 + (f + i))) = jmn A p (f + i) from rfl, jdif (by omega) (by omega), e4]
    simp (disch := first | omega | rfl | assumption | exact jokr (by decide) (by omega) | exact jokr4 (by omega) | exact jkt_r _ _ | exact jkt_l (by decide) | exact jfk_l (by decide) | exact jkt_t _ | exact jkt_r6 _ _ | exact jkt_t6 _ | (simp only [jok, jlen]; omega) | decide) only [jm_k hL, jm_gi hL, jm_gr hL, jm_gl hL, jm_pi hL, jm_pl hL, jn_ai hL, jn_ab hL, jn_az hL, jn_al hL, jn_ar hL, jn_an hL, jn_si hL, jn_sb hL, jn_sz hL, jn_sl hL, Option.bind_some, xc, xl, jJu_outside hL hD hA hK hj h5 h6 hlo hhi, lN_add]
    try rfl
  · intro n
    show f_Judge_hoursAmiss_33 (n + 1) _ _ _ _ _ _ _ _ = _
    rw [f_Judge_hoursAmiss_33]
    simp (disch := first | omega | rfl | assumption | exact jokr (by decide) (by omega) | exact jokr4 (by omega) | exact jkt_r _ _ | exact jkt_l (by decide) | exact jfk_l (by decide) | exact jkt_t _ | exact jkt_r6 _ _ | exact jkt_t6 _ | (simp only [jok, jlen]; omega) | decide) only [jlit, jlitl, jmul, nI_add, lN_add, nI_leI, nI_ltI, nI_eq, jm1, jm1g, jm1e, jm1c]
    rw [if_pos (by omega), show g - f + 1 = g + 1 - f by omega]
