/-! what is broken, as numbers; the reference's ways to it -/
def jmn (A : jR) (p t : Nat) : Nat := jR.ln A (jR.row A p (7 + t))
def jun (A : jR) (p t : Nat) : Nat := if jR.row A p (7 + t) = 0 then 0 else 1 - jbit (jR.sk A p) (jR.nd A (jR.row A p (7 + t)))
def jout (lo hi v : Nat) : Nat := (lo - v) + (v - hi)
def jwin (A : jR) (p sp b : Nat) : Nat := jsm (fun q => jmn A p (b + q)) sp
def jhrs (A : jR) (p lo hi sp f k : Nat) : Nat := jsm (fun i => jout lo hi (jwin A p sp (f + i))) k
def jwc (A : jR) (p t : Nat) : Nat := if jR.wl A p t = jR.row A p (7 + t) then 0 else jR.ww A p t
theorem jmn_le {A : jR} (hA : jRg A) (p t : Nat) : jmn A p t ≤ 1440 := hA.ln _
theorem jun_le (A : jR) (p t : Nat) : jun A p t ≤ 1 := by unfold jun; split <;> omega
theorem jwin_le {A : jR} (hA : jRg A) (p b : Nat) {sp : Nat} (h : sp ≤ 21) : jwin A p sp b ≤ 30240 := by
  have := jsm_le (f := fun q => jmn A p (b + q)) (m := 1440) (fun q => jmn_le hA p _) sp
  unfold jwin
  omega
theorem jMo_wishOf {L : jL} (hL : jgood L) (hD : jdim L) {ω : xS} {S : jSt} {A : jR} (hA : jRg A) {sw ps wy : Nat} (hK : jLK S sw ps wy) (h : jRM L S A) {p t : Nat} (hp : p < jn L) (ht : t < jd L) : f_Mo_wishOf (jad L (jm 0)) (nI p) (nI t) (jW L ω S) = some (lN (jwc A p t)) := by
  have h1 := hD.n8
  have h2 := hD.d21
  have h3 := hA.ww p t
  have h4 := hA.wl p t
  have h5 := hA.row p (7 + t)
  unfold f_Mo_wishOf jwc
  simp (disch := first | omega | rfl | assumption | exact jokr (by decide) (by omega) | exact jokr4 (by omega) | exact jkt_r _ _ | exact jkt_l (by decide) | exact jfk_l (by decide) | exact jkt_t _ | exact jkt_r6 _ _ | exact jkt_t6 _ | (simp only [jok, jlen]; omega) | decide) only [jm_k hL, jm_gi hL, jm_gr hL, jm_gl hL, jm_pi hL, jm_pl hL, jn_ai hL, jn_ab hL, jn_az hL, jn_al hL, jn_ar hL, jn_an hL, jn_si hL, jn_sb hL, jn_sz hL, jn_sl hL, Option.bind_some, xc, xl, jsA_X, jsI_X, jsG_X, hK _ _, jlk, jmx, jlit, jlitl, jmul, nI_add, lN_add, nI_leI, nI_ltI, nI_eq, jm1, jm1g, jm1e, jm1c, h.ww, h.cell]
  by_cases h0 : jR.ww A p t ≤ 0
  · rw [if_pos h0]
    have : jR.ww A p t = 0 := by omega
    rw [this]
    split <;> rfl
  · rw [if_neg h0]
    have h6 := h.wl p t hp ht (by omega)
    simp (disch := first | omega | rfl | assumption | exact jokr (by decide) (by omega) | exact jokr4 (by omega) | exact jkt_r _ _ | exact jkt_l (by decide) | exact jfk_l (by decide) | exact jkt_t _ | exact jkt_r6 _ _ | exact jkt_t6 _ | (simp only [jok, jlen]; omega) | decide) only [jm_k hL, jm_gi hL, jm_gr hL, jm_gl hL, jm_pi hL, jm_pl hL, jn_ai hL, jn_ab hL, jn_az hL, jn_al hL, jn_ar hL, jn_an hL, jn_si hL, jn_sb hL, jn_sz hL, jn_sl hL, Option.bind_some, xc, xl, jsA_X, jsI_X, jsG_X, hK _ _, jlk, jmx, jlit, jlitl, jmul, nI_add, lN_add, nI_leI, nI_ltI, nI_eq, jm1, jm1g, jm1e, jm1c, h6]
    by_cases h7 : jR.wl A p t = jR.row A p (7 + t)
    · rw [if_pos h7, if_pos h7]; try rfl
    · rw [if_neg h7, if_neg h7, nI_l (by omega)]
theorem jMo_minutes_33 {L : jL} (hL : jgood L) (hD : jdim L) {ω : xS} {S : jSt} {A : jR} (hA : jRg A) {sw ps wy : Nat} (hK : jLK S sw ps wy) (h : jRM L S A) {p f g : Nat} (hp : p < jn L) (hf : f ≤ g + 1) (hg : g < jd L) : f_Mo_minutes_33 xFU (jad L (jm 0)) (nI p) (nI g) (lN 0) (nI f) (jW L ω S) = some (lN (jsm (fun q => jmn A p (f + q)) (g + 1 - f))) := by
  have h1 := hD.n8
  have h2 := hD.d21
  refine jlpx (fun n i x => f_Mo_minutes_33 n (jad L (jm 0)) (nI p) (nI g) x (nI (f + i)) (jW L ω S)) (fun i => lN (jsm (fun q => jmn A p (f + q)) i)) (lo := 0) (hi := g + 1 - f) (Nat.zero_le _) (by omega) ?_ ?_
  · intro n i _ hi
    have hr := hA.row p (7 + (f + i))
    have hl := hA.ln (jR.row A p (7 + (f + i)))
    rw [f_Mo_minutes_33]
    simp (disch := first | omega | rfl | assumption | exact jokr (by decide) (by omega) | exact jokr4 (by omega) | exact jkt_r _ _ | exact jkt_l (by decide) | exact jfk_l (by decide) | exact jkt_t _ | exact jkt_r6 _ _ | exact jkt_t6 _ | (simp only [jok, jlen]; omega) | decide) only [jm_k hL, jm_gi hL, jm_gr hL, jm_gl hL, jm_pi hL, jm_pl hL, jn_ai hL, jn_ab hL, jn_az hL, jn_al hL, jn_ar hL, jn_an hL, jn_si hL, jn_sb hL, jn_sz hL, jn_sl hL, Option.bind_some, xc, xl, jsA_X, jsI_X, jsG_X, hK _ _, jlk, jmx, jlit, jlitl, jmul, nI_add, lN_add, nI_leI, nI_ltI, nI_eq, jm1, jm1g, jm1e, jm1c, h.cell, if_neg]
    rw [jsm]
    by_cases h0 : jR.row A p (7 + (f + i)) = 0
    · rw [if_pos h0]
      have e : jmn A p (f + i) = 0 := by unfold jmn; rw [h0]; exact hA.ln0
      rw [e]
      try rfl
    · rw [if_neg h0]
      have e1 : jR.row A p (7 + (f + i)) - 1 + 1 = jR.row A p (7 + (f + i)) := by omega
      simp (disch := first | omega | rfl | assumption | exact jokr (by decide) (by omega) | exact jokr4 (by omega) | exact jkt_r _ _ | exact jkt_l (by decide) | exact jfk_l (by decide) | exact jkt_t _ | exact jkt_r6 _ _ | exact jkt_t6 _ | (simp only [jok, jlen]; omega) | decide) only [jm1s, jm_k hL, jm_gi hL, jm_gr hL, jm_gl hL, jm_pi hL, jm_pl hL, jn_ai hL, jn_ab hL, jn_az hL, jn_al hL, jn_ar hL, jn_an hL, jn_si hL, jn_sb hL, jn_sz hL, jn_sl hL, Option.bind_some, xc, xl, jsA_X, jsI_X, jsG_X, hK _ _, jlk, jmx, h.ln, e1, nI_l, lN_add]
      try rfl
  · intro n
    rw [f_Mo_minutes_33]
    simp (disch := first | omega | rfl | assumption | exact jokr (by decide) (by omega) | exact jokr4 (by omega) | exact jkt_r _ _ | exact jkt_l (by decide) | exact jfk_l (by decide) | exact jkt_t _ | exact jkt_r6 _ _ | exact jkt_t6 _ | (simp only [jok, jlen]; omega) | decide) only [jlit, jlitl, jmul, nI_add, lN_add, nI_leI, nI_ltI, nI_eq, jm1, jm1g, jm1e, jm1c]
    rw [if_pos (by omega)]
theorem jMo_minutes {L : jL} (hL : jgood L) (hD : jdim L) {ω : xS} {S : jSt} {A : jR} (hA : jRg A) {sw ps wy : Nat} (hK : jLK S sw ps wy) (h : jRM L S A) {p f g : Nat} (hp : p < jn L) (hf : f ≤ g) (hg : g < jd L) : f_Mo_minutes (jad L (jm 0)) (nI p) (nI f) (nI g) (jW L ω S) = some (lN (jsm (fun q => jmn A p (f + q)) (g + 1 - f))) := by
  have h1 := hD.n8
  have h2 := hD.d21
  unfold f_Mo_minutes
  simp (disch := first | omega | rfl | assumption | exact jokr (by decide) (by omega) | exact jokr4 (by omega) | exact jkt_r _ _ | exact jkt_l (by decide) | exact jfk_l (by decide) | exact jkt_t _ | exact jkt_r6 _ _ | exact jkt_t6 _ | (simp only [jok, jlen]; omega) | decide) only [jm_k hL, jm_gi hL, jm_gr hL, jm_gl hL, jm_pi hL, jm_pl hL, jn_ai hL, jn_ab hL, jn_az hL, jn_al hL, jn_ar hL, jn_an hL, jn_si hL, jn_sb hL, jn_sz hL, jn_sl hL, Option.bind_some, xc, xl, jMo_isCell hL hD hA hK h, jbel_n, Bool.and_self, if_true]
  rw [if_neg (by decide), if_neg (by decide), if_pos ((nI_leI (by omega) (by omega)).mpr hf)]
  exact jMo_minutes_33 hL hD hA hK h hp (by omega) hg
theorem jMo_skill {L : jL} (hL : jgood L) (hD : jdim L) {ω : xS} {S : jSt} {A : jR} (hA : jRg A) {sw ps wy : Nat} (hK : jLK S sw ps wy) (h : jRM L S A) {p : Nat} (hp : p < jn L) : f_Mo_byPerson_43 xFU (jad L (jm 0)) (nI p) (lN 0) (nI 0) (jW L ω S) = some (lN (jsm (jun A p) (jd L))) := by
  have h1 := hD.n8
  have h2 := hD.d21
  refine jlpx (fun n i x => f_Mo_byPerson_43 n (jad L (jm 0)) (nI p) x (nI i) (jW L ω S)) (fun i => lN (jsm (jun A p) i)) (lo := 0) (hi := jd L) (Nat.zero_le _) (by omega) ?_ ?_
  · intro n i _ hi
    have hr := hA.row p (7 + i)
    have hk := hA.sk p
    have hn := hA.nd (jR.row A p (7 + i))
    rw [f_Mo_byPerson_43]
    simp (disch := first | omega | rfl | assumption | exact jokr (by decide) (by omega) | exact jokr4 (by omega) | exact jkt_r _ _ | exact jkt_l (by decide) | exact jfk_l (by decide) | exact jkt_t _ | exact jkt_r6 _ _ | exact jkt_t6 _ | (simp only [jok, jlen]; omega) | decide) only [jm_k hL, jm_gi hL, jm_gr hL, jm_gl hL, jm_pi hL, jm_pl hL, jn_ai hL, jn_ab hL, jn_az hL, jn_al hL, jn_ar hL, jn_an hL, jn_si hL, jn_sb hL, jn_sz hL, jn_sl hL, Option.bind_some, xc, xl, jsA_X, jsI_X, jsG_X, hK _ _, jlk, jmx, jlit, jlitl, jmul, nI_add, lN_add, nI_leI, nI_ltI, nI_eq, jm1, jm1g, jm1e, jm1c, h.d, h.cell, if_neg]
    rw [jsm]
    by_cases h0 : jR.row A p (7 + i) = 0
    · rw [if_pos h0]
      have e : jun A p i = 0 := by unfold jun; rw [if_pos h0]
      rw [e]
      try rfl
    · rw [if_neg h0]
      have e1 : jR.row A p (7 + i) - 1 + 1 = jR.row A p (7 + i) := by omega
      simp (disch := first | omega | rfl | assumption | exact jokr (by decide) (by omega) | exact jokr4 (by omega) | exact jkt_r _ _ | exact jkt_l (by decide) | exact jfk_l (by decide) | exact jkt_t _ | exact jkt_r6 _ _ | exact jkt_t6 _ | (simp only [jok, jlen]; omega) | decide) only [jm1s, jm_k hL, jm_gi hL, jm_gr hL, jm_gl hL, jm_pi hL, jm_pl hL, jn_ai hL, jn_ab hL, jn_az hL, jn_al hL, jn_ar hL, jn_an hL, jn_si hL, jn_sb hL, jn_sz hL, jn_sl hL, Option.bind_some, xc, xl, jsA_X, jsI_X, jsG_X, hK _ _, jlk, jmx, h.sk, h.nd, e1, jbt0]
      have e : jun A p i = 1 - jbit (jR.sk A p) (jR.nd A (jR.row A p (7 + i))) := by unfold jun; rw [if_neg h0]
      have hb := jbit_lt (jR.sk A p) (jR.nd A (jR.row A p (7 + i)))
      rw [e]
      by_cases h3 : jbit (jR.sk A p) (jR.nd A (jR.row A p (7 + i))) = 0
      · rw [if_pos h3, h3]; try rfl
      · rw [if_neg h3, show jbit (jR.sk A p) (jR.nd A (jR.row A p (7 + i))) = 1 by omega]; try rfl
  · intro n
    rw [f_Mo_byPerson_43]
    simp (disch := first | omega | rfl | assumption | exact jokr (by decide) (by omega) | exact jokr4 (by omega) | exact jkt_r _ _ | exact jkt_l (by decide) | exact jfk_l (by decide) | exact jkt_t _ | exact jkt_r6 _ _ | exact jkt_t6 _ | (simp only [jok, jlen]; omega) | decide) only [jm_k hL, jm_gi hL, jm_gr hL, jm_gl hL, jm_pi hL, jm_pl hL, jn_ai hL, jn_ab hL, jn_az hL, jn_al hL, jn_ar hL, jn_an hL, jn_si hL, jn_sb hL, jn_sz hL, jn_sl hL, Option.bind_some, xc, xl, jlit, jlitl, jmul, nI_add, lN_add, nI_leI, nI_ltI, nI_eq, jm1, jm1g, jm1e, jm1c, h.d]
    rw [if_pos (Nat.le_refl _)]
