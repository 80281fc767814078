/-! cover and fairness -/
def jcv (A : jR) (L : jL) (l t : Nat) : Nat := jsm (fun p => jis (jR.row A p (7 + t)) l) (jn L)
def jtm (A : jR) (L : jL) (l p : Nat) : Nat := jsm (fun t => jis (jR.row A p (7 + t)) l) (jd L)
theorem jis_le (a b : Nat) : jis a b ≤ 1 := by unfold jis; split <;> omega
theorem jcv_le {L : jL} (A : jR) (l t : Nat) : jcv A L l t ≤ jn L := by
  have := jsm_le (f := fun p => jis (jR.row A p (7 + t)) l) (m := 1) (fun p => jis_le _ _) (jn L)
  unfold jcv
  omega
theorem jtm_le {L : jL} (A : jR) (l p : Nat) : jtm A L l p ≤ jd L := by
  have := jsm_le (f := fun t => jis (jR.row A p (7 + t)) l) (m := 1) (fun p => jis_le _ _) (jd L)
  unfold jtm
  omega
theorem jMo_byDay {L : jL} (hL : jgood L) (hD : jdim L) {ω : xS} {S : jSt} {A : jR} (hA : jRg A) {sw ps wy : Nat} (hK : jLK S sw ps wy) (h : jRM L S A) {k t lo hi l : Nat} (ht : t < jd L) (hk : k < 16) (hlo : lo ≤ 99999) (hhi : hi ≤ 99999) (hlh : lo ≤ hi) (hl8 : l ≤ 8) (hl : jgA S (jm 13) k = nI lo) (hh : jgA S (jm 14) k = nI hi) (hlt : jgA S (jm 16) k = nI l - nI 1) : f_Mo_byDay (jad L (jm 0)) (nI k) (nI t) (jW L ω S) = some (lN (jout lo hi (jcv A L l t))) := by
  have h1 := hD.n8
  have h2 := hD.d21
  have hc := jcv_le (L := L) A l t
  unfold f_Mo_byDay
  refine jlpx (fun n i x => f_Mo_byDay_5 n (jad L (jm 0)) (nI k) (nI t) x (nI i) (jW L ω S)) (fun i => nI (jsm (fun p => jis (jR.row A p (7 + t)) l) i)) (lo := 0) (hi := jn L) (Nat.zero_le _) (by omega) ?_ ?_
  · intro n i _ hi2
    have hr := hA.row i (7 + t)
    rw [f_Mo_byDay_5]
    simp (disch := first | omega | rfl | assumption | exact jokr (by decide) (by omega) | exact jokr4 (by omega) | exact jkt_r _ _ | exact jkt_l (by decide) | exact jfk_l (by decide) | exact jkt_t _ | exact jkt_r6 _ _ | exact jkt_t6 _ | (simp only [jok, jlen]; omega) | decide) only [jm_k hL, jm_gi hL, jm_gr hL, jm_gl hL, jm_pi hL, jm_pl hL, jn_ai hL, jn_ab hL, jn_az hL, jn_al hL, jn_ar hL, jn_an hL, jn_si hL, jn_sb hL, jn_sz hL, jn_sl hL, Option.bind_some, xc, xl, jsA_X, jsI_X, jsG_X, hK _ _, jlk, jmx, jlit, jlitl, jmul, nI_add, lN_add, nI_leI, nI_ltI, nI_eq, jm1, jm1g, jm1e, jm1c, h.n, if_neg, h.cell, hlt]
    rw [jsm]
    unfold jis
    by_cases c : jR.row A i (7 + t) = l
    · rw [if_pos c, if_pos c]
    · rw [if_neg c, if_neg c]
  · intro n
    show f_Mo_byDay_5 (n + 1) _ _ _ (nI (jcv A L l t)) _ _ = _
    rw [f_Mo_byDay_5]
    simp (disch := first | omega | rfl | assumption | exact jokr (by decide) (by omega) | exact jokr4 (by omega) | exact jkt_r _ _ | exact jkt_l (by decide) | exact jfk_l (by decide) | exact jkt_t _ | exact jkt_r6 _ _ | exact jkt_t6 _ | (simp only [jok, jlen]; omega) | decide) only [jm_k hL, jm_gi hL, jm_gr hL, jm_gl hL, jm_pi hL, jm_pl hL, jn_ai hL, jn_ab hL, jn_az hL, jn_al hL, jn_ar hL, jn_an hL, jn_si hL, jn_sb hL, jn_sz hL, jn_sl hL, Option.bind_some, xc, xl, jsA_X, jsI_X, jsG_X, hK _ _, jlk, jmx, jlit, jlitl, jmul, nI_add, lN_add, nI_leI, nI_ltI, nI_eq, jm1, jm1g, jm1e, jm1c, h.n, hl, hh]
    rw [if_pos (Nat.le_refl _)]
    unfold jout
    by_cases c1 : lo ≤ jcv A L l t
    · rw [if_pos c1]
      by_cases c2 : jcv A L l t ≤ hi
      · rw [if_pos c2, show lo - jcv A L l t + (jcv A L l t - hi) = 0 by omega]
      · rw [if_neg c2, jsub (by omega), nI_l (by omega), show lo - jcv A L l t + (jcv A L l t - hi) = jcv A L l t - hi by omega]
    · rw [if_neg c1, jsub (by omega), nI_l (by omega), show lo - jcv A L l t + (jcv A L l t - hi) = lo - jcv A L l t by omega]
theorem jJu_cover {L : jL} (hL : jgood L) (hD : jdim L) {ω : xS} {S : jSt} {A : jR} (hA : jRg A) {sw ps wy : Nat} (hK : jLK S sw ps wy) (h : jRC L S A) {j t lo hi l : Nat} (ht : t < jd L) (hj : j < 32) (hl8 : l ≤ 8) (h5 : jgI S (jl j 0) 5 = nI lo) (h6 : jgI S (jl j 0) 6 = nI hi) (h8 : jgI S (jl j 0) 8 = nI l) (hlo : lo ≤ 99999) (hhi : hi ≤ 99999) : f_Judge_coverAmiss (jad L (jo 28)) (jad L (jl j 0)) (nI t) (jW L ω S) = some (lN (jout lo hi (jcv A L l t))) := by
  have h1 := hD.n8
  have h2 := hD.d21
  have hc := jcv_le (L := L) A l t
  unfold f_Judge_coverAmiss
  simp (disch := first | omega | rfl | assumption | exact jokr (by decide) (by omega) | exact jokr4 (by omega) | exact jkt_r _ _ | exact jkt_l (by decide) | exact jfk_l (by decide) | exact jkt_t _ | exact jkt_r6 _ _ | exact jkt_t6 _ | (simp only [jok, jlen]; omega) | decide) only [jm_k hL, jm_gi hL, jm_gr hL, jm_gl hL, jm_pi hL, jm_pl hL, jn_ai hL, jn_ab hL, jn_az hL, jn_al hL, jn_ar hL, jn_an hL, jn_si hL, jn_sb hL, jn_sz hL, jn_sl hL, Option.bind_some, xc, xl, jsA_X, jsI_X, jsG_X, hK _ _, jlk, jmx, h8, h.tn]
  rw [show jsm (fun p => jis (jR.row A p (7 + t)) l) (jn L) = jcv A L l t from rfl, nI_l (by omega)]
  simp (disch := first | omega | rfl | assumption | exact jokr (by decide) (by omega) | exact jokr4 (by omega) | exact jkt_r _ _ | exact jkt_l (by decide) | exact jfk_l (by decide) | exact jkt_t _ | exact jkt_r6 _ _ | exact jkt_t6 _ | (simp only [jok, jlen]; omega) | decide) only [jm_k hL, jm_gi hL, jm_gr hL, jm_gl hL, jm_pi hL, jm_pl hL, jn_ai hL, jn_ab hL, jn_az hL, jn_al hL, jn_ar hL, jn_an hL, jn_si hL, jn_sb hL, jn_sz hL, jn_sl hL, Option.bind_some, xc, xl, jJu_outside hL hD hA hK hj h5 h6 hlo hhi]
/-- the most and the least of the first k + 1 -/
def jmxs (f : Nat → Nat) : Nat → Nat
  | 0 => f 0
  | k + 1 => max (jmxs f k) (f (k + 1))
def jmns (f : Nat → Nat) : Nat → Nat
  | 0 => f 0
  | k + 1 => min (jmns f k) (f (k + 1))
theorem jmxs_le {f : Nat → Nat} {b : Nat} (h : ∀ i, f i ≤ b) : ∀ k, jmxs f k ≤ b
  | 0 => h 0
  | k + 1 => by rw [jmxs]; have := jmxs_le h k; have := h (k + 1); omega
theorem jmns_le {f : Nat → Nat} {b : Nat} (h : ∀ i, f i ≤ b) : ∀ k, jmns f k ≤ b
  | 0 => h 0
  | k + 1 => by rw [jmns]; have := jmns_le h k; omega
theorem jmnmx (f : Nat → Nat) : ∀ k, jmns f k ≤ jmxs f k
  | 0 => Nat.le_refl _
  | k + 1 => by rw [jmns, jmxs]; have := jmnmx f k; omega
theorem jJu_fair {L : jL} (hL : jgood L) (hD : jdim L) {ω : xS} {S : jSt} {A : jR} (hA : jRg A) {sw ps wy : Nat} (hK : jLK S sw ps wy) (h : jRC L S A) {l : Nat} (hl : l ≤ 8) : f_Judge_unfairness (jad L (jo 28)) (nI l) (jW L ω S) = some (lN (jmxs (jtm A L l) (jn L - 1) - jmns (jtm A L l) (jn L - 1))) := by
  have h0 := hD.n1
  have h1 := hD.n8
  have h2 := hD.d21
  have hb := fun k => jmxs_le (fun i => jtm_le (L := L) A l i) k
  have hc := fun k => jmns_le (fun i => jtm_le (L := L) A l i) k
  unfold f_Judge_unfairness
  simp (disch := first | omega | rfl | assumption | exact jokr (by decide) (by omega) | exact jokr4 (by omega) | exact jkt_r _ _ | exact jkt_l (by decide) | exact jfk_l (by decide) | exact jkt_t _ | exact jkt_r6 _ _ | exact jkt_t6 _ | (simp only [jok, jlen]; omega) | decide) only [jm_k hL, jm_gi hL, jm_gr hL, jm_gl hL, jm_pi hL, jm_pl hL, jn_ai hL, jn_ab hL, jn_az hL, jn_al hL, jn_ar hL, jn_an hL, jn_si hL, jn_sb hL, jn_sz hL, jn_sl hL, Option.bind_some, xc, xl, jsA_X, jsI_X, jsG_X, hK _ _, jlk, jmx, jlit, jlitl, jmul, nI_add, lN_add, nI_leI, nI_ltI, nI_eq, jm1, jm1g, jm1e, jm1c, h.tf]
  refine (jlpx (fun n i (x : Int32 × Int32) => f_Judge_unfairness_17 n (jad L (jo 28)) (nI l) x.1 x.2 (nI (1 + i)) (jW L ω S)) (fun i => (nI (jmxs (jtm A L l) i), nI (jmns (jtm A L l) i))) (lo := 0) (hi := jn L - 1) (r := some (lN (jmxs (jtm A L l) (jn L - 1) - jmns (jtm A L l) (jn L - 1)))) (Nat.zero_le _) (by omega) ?_ ?_ : _)
  · intro n i _ hi
    have g1 := hb i
    have g2 := hc i
    have g3 := jtm_le (L := L) A l (1 + i)
    show f_Judge_unfairness_17 (n + 1) _ _ _ _ _ _ = f_Judge_unfairness_17 n _ _ _ _ _ _
    rw [f_Judge_unfairness_17]
    simp (disch := first | omega | rfl | assumption | exact jokr (by decide) (by omega) | exact jokr4 (by omega) | exact jkt_r _ _ | exact jkt_l (by decide) | exact jfk_l (by decide) | exact jkt_t _ | exact jkt_r6 _ _ | exact jkt_t6 _ | (simp only [jok, jlen]; omega) | decide) only [jm_k hL, jm_gi hL, jm_gr hL, jm_gl hL, jm_pi hL, jm_pl hL, jn_ai hL, jn_ab hL, jn_az hL, jn_al hL, jn_ar hL, jn_an hL, jn_si hL, jn_sb hL, jn_sz hL, jn_sl hL, Option.bind_some, xc, xl, jsA_X, jsI_X, jsG_X, hK _ _, jlk, jmx, jlit, jlitl, jmul, nI_add, lN_add, nI_leI, nI_ltI, nI_eq, jm1, jm1g, jm1e, jm1c, h.n, if_neg, h.tf]
    rw [show jsm (fun t => jis (jR.row A (1 + i) (7 + t)) l) (jd L) = jtm A L l (1 + i) from rfl, jmax (by omega) (by omega), jmin (by omega) (by omega), jmxs, jmns, Nat.add_comm i 1, show 1 + i + 1 = 1 + (1 + i) by omega]
  · intro n
    have g1 := hb (jn L - 1)
    have g2 := jmnmx (jtm A L l) (jn L - 1)
    show f_Judge_unfairness_17 (n + 1) _ _ _ _ _ _ = _
    rw [f_Judge_unfairness_17]
    simp (disch := first | omega | rfl | assumption | exact jokr (by decide) (by omega) | exact jokr4 (by omega) | exact jkt_r _ _ | exact jkt_l (by decide) | exact jfk_l (by decide) | exact jkt_t _ | exact jkt_r6 _ _ | exact jkt_t6 _ | (simp only [jok, jlen]; omega) | decide) only [jm_k hL, jm_gi hL, jm_gr hL, jm_gl hL, jm_pi hL, jm_pl hL, jn_ai hL, jn_ab hL, jn_az hL, jn_al hL, jn_ar hL, jn_an hL, jn_si hL, jn_sb hL, jn_sz hL, jn_sl hL, Option.bind_some, xc, xl, jsA_X, jsI_X, jsG_X, hK _ _, jlk, jmx, jlit, jlitl, jmul, nI_add, lN_add, nI_leI, nI_ltI, nI_eq, jm1, jm1g, jm1e, jm1c, h.n]
    rw [if_pos (by omega), jsub g2, nI_l (by omega)]
def jls (f : Nat → Nat) : Nat → Nat
  | 0 => 99
  | k + 1 => min (jls f k) (f k)
def jms (f : Nat → Nat) : Nat → Nat
  | 0 => 0
  | k + 1 => max (jms f k) (f k)
theorem jls_is {f : Nat → Nat} (h : ∀ i, f i ≤ 99) : ∀ k, jls f (k + 1) = jmns f k
  | 0 => by have := h 0; rw [jls, jls, jmns]; omega
  | k + 1 => by rw [jls, jls_is h k, jmns]
theorem jms_is (f : Nat → Nat) : ∀ k, jms f (k + 1) = jmxs f k
  | 0 => by rw [jms, jms, jmxs]; omega
  | k + 1 => by rw [jms, jms_is f k, jmxs]
theorem jls_le (f : Nat → Nat) : ∀ k, jls f k ≤ 99
  | 0 => Nat.le_refl _
  | k + 1 => by rw [jls]; have := jls_le f k; omega
theorem jms_le {f : Nat → Nat} {b : Nat} (h : ∀ i, f i ≤ b) : ∀ k, jms f k ≤ b
  | 0 => Nat.zero_le _
  | k + 1 => by rw [jms]; have := jms_le h k; have := h k; omega
theorem jMo_spread_23 {L : jL} (hL : jgood L) (hD : jdim L) {ω : xS} {S : jSt} {A : jR} (hA : jRg A) {sw ps wy : Nat} (hK : jLK S sw ps wy) (h : jRM L S A) {k p l le mo : Nat} {k8 : Nat → Int32 → Int32 → Int32 → Int32 → xS → Option Int64} (hp : p < jn L) (hk : k < 16) (hl8 : l ≤ 8) (hlt : jgA S (jm 16) k = nI l - nI 1) (hle : le ≤ 99) (hmo : mo ≤ 99) : f_Mo_spread_23 k8 xFU (jad L (jm 0)) (nI k) (nI le) (nI mo) (nI p) (nI 0) (nI 0) (jW L ω S) = k8 (jad L (jm 0)) (nI k) (nI (min le (jtm A L l p))) (nI (max mo (jtm A L l p))) (nI (p + 1)) (jW L ω S) := by
  have h1 := hD.n8
  have h2 := hD.d21
  have hc := jtm_le (L := L) A l p
  refine jlpx (fun n i x => f_Mo_spread_23 k8 n (jad L (jm 0)) (nI k) (nI le) (nI mo) (nI p) x (nI i) (jW L ω S)) (fun i => nI (jsm (fun t => jis (jR.row A p (7 + t)) l) i)) (lo := 0) (hi := jd L) (Nat.zero_le _) (by omega) ?_ ?_
  · intro n i _ hi2
    have hr := hA.row p (7 + i)
    rw [f_Mo_spread_23]
    simp (disch := first | omega | rfl | assumption | exact jokr (by decide) (by omega) | exact jokr4 (by omega) | exact jkt_r _ _ | exact jkt_l (by decide) | exact jfk_l (by decide) | exact jkt_t _ | exact jkt_r6 _ _ | exact jkt_t6 _ | (simp only [jok, jlen]; omega) | decide) only [jm_k hL, jm_gi hL, jm_gr hL, jm_gl hL, jm_pi hL, jm_pl hL, jn_ai hL, jn_ab hL, jn_az hL, jn_al hL, jn_ar hL, jn_an hL, jn_si hL, jn_sb hL, jn_sz hL, jn_sl hL, Option.bind_some, xc, xl, jsA_X, jsI_X, jsG_X, hK _ _, jlk, jmx, jlit, jlitl, jmul, nI_add, lN_add, nI_leI, nI_ltI, nI_eq, jm1, jm1g, jm1e, jm1c, h.d, if_neg, h.cell, hlt]
    rw [jsm]
    unfold jis
    by_cases c : jR.row A p (7 + i) = l
    · rw [if_pos c, if_pos c]
    · rw [if_neg c, if_neg c]
  · intro n
    show f_Mo_spread_23 k8 (n + 1) _ _ _ _ _ (nI (jtm A L l p)) _ _ = _
    rw [f_Mo_spread_23]
    simp (disch := first | omega | rfl | assumption | exact jokr (by decide) (by omega) | exact jokr4 (by omega) | exact jkt_r _ _ | exact jkt_l (by decide) | exact jfk_l (by decide) | exact jkt_t _ | exact jkt_r6 _ _ | exact jkt_t6 _ | (simp only [jok, jlen]; omega) | decide) only [jm_k hL, jm_gi hL, jm_gr hL, jm_gl hL, jm_pi hL, jm_pl hL, jn_ai hL, jn_ab hL, jn_az hL, jn_al hL, jn_ar hL, jn_an hL, jn_si hL, jn_sb hL, jn_sz hL, jn_sl hL, Option.bind_some, xc, xl, jsA_X, jsI_X, jsG_X, hK _ _, jlk, jmx, jlit, jlitl, jmul, nI_add, lN_add, nI_leI, nI_ltI, nI_eq, jm1, jm1g, jm1e, jm1c, h.d]
    rw [if_pos (Nat.le_refl _)]
    by_cases c1 : le ≤ jtm A L l p
    · rw [if_pos c1, Nat.min_eq_left c1]
      by_cases c2 : jtm A L l p ≤ mo
      · rw [if_pos c2, Nat.max_eq_left c2]
      · rw [if_neg c2, Nat.max_eq_right (by omega)]
    · rw [if_neg c1, Nat.min_eq_right (by omega)]
      by_cases c2 : jtm A L l p ≤ mo
      · rw [if_pos c2, Nat.max_eq_left c2]
      · rw [if_neg c2, Nat.max_eq_right (by omega)]
theorem jMo_spread {L : jL} (hL : jgood L) (hD : jdim L) {ω : xS} {S : jSt} {A : jR} (hA : jRg A) {sw ps wy : Nat} (hK : jLK S sw ps wy) (h : jRM L S A) {k l : Nat} (hk : k < 16) (hl8 : l ≤ 8) (hlt : jgA S (jm 16) k = nI l - nI 1) : f_Mo_spread (jad L (jm 0)) (nI k) (jW L ω S) = some (lN (jmxs (jtm A L l) (jn L - 1) - jmns (jtm A L l) (jn L - 1))) := by
  have h0 := hD.n1
  have h1 := hD.n8
  have h2 := hD.d21
  have hb : ∀ i, jtm A L l i ≤ 99 := fun i => by have := jtm_le (L := L) A l i; omega
  unfold f_Mo_spread
  refine jlpx (fun n i (x : Int32 × Int32) => f_Mo_spread_8 n (jad L (jm 0)) (nI k) x.1 x.2 (nI i) (jW L ω S)) (fun i => (nI (jls (jtm A L l) i), nI (jms (jtm A L l) i))) (lo := 0) (hi := jn L) (Nat.zero_le _) (by omega) ?_ ?_
  · intro n i _ hi2
    show f_Mo_spread_8 (n + 1) _ _ _ _ _ _ = f_Mo_spread_8 n _ _ _ _ _ _
    rw [f_Mo_spread_8]
    simp (disch := first | omega | rfl | assumption | exact jokr (by decide) (by omega) | exact jokr4 (by omega) | exact jkt_r _ _ | exact jkt_l (by decide) | exact jfk_l (by decide) | exact jkt_t _ | exact jkt_r6 _ _ | exact jkt_t6 _ | (simp only [jok, jlen]; omega) | decide) only [jm_k hL, jm_gi hL, jm_gr hL, jm_gl hL, jm_pi hL, jm_pl hL, jn_ai hL, jn_ab hL, jn_az hL, jn_al hL, jn_ar hL, jn_an hL, jn_si hL, jn_sb hL, jn_sz hL, jn_sl hL, Option.bind_some, xc, xl, jlit, jlitl, jmul, nI_add, lN_add, nI_leI, nI_ltI, nI_eq, jm1, jm1g, jm1e, jm1c, h.n, if_neg]
    rw [jMo_spread_23 hL hD hA hK h hi2 hk hl8 hlt (jls_le _ i) (jms_le hb i), jls, jms]
  · intro n
    show f_Mo_spread_8 (n + 1) _ _ _ _ _ _ = _
    rw [f_Mo_spread_8]
    simp (disch := first | omega | rfl | assumption | exact jokr (by decide) (by omega) | exact jokr4 (by omega) | exact jkt_r _ _ | exact jkt_l (by decide) | exact jfk_l (by decide) | exact jkt_t _ | exact jkt_r6 _ _ | exact jkt_t6 _ | (simp only [jok, jlen]; omega) | decide) only [jm_k hL, jm_gi hL, jm_gr hL, jm_gl hL, jm_pi hL, jm_pl hL, jn_ai hL, jn_ab hL, jn_az hL, jn_al hL, jn_ar hL, jn_an hL, jn_si hL, jn_sb hL, jn_sz hL, jn_sl hL, Option.bind_some, xc, xl, jlit, jlitl, jmul, nI_add, lN_add, nI_leI, nI_ltI, nI_eq, jm1, jm1g, jm1e, jm1c, h.n]
    rw [if_pos (Nat.le_refl _)]
    have e : jn L = jn L - 1 + 1 := by omega
    have e1 : jls (jtm A L l) (jn L) = jmns (jtm A L l) (jn L - 1) := by rw [← jls_is hb (jn L - 1), ← e]
    have e2 : jms (jtm A L l) (jn L) = jmxs (jtm A L l) (jn L - 1) := by rw [← jms_is (jtm A L l) (jn L - 1), ← e]
    have g2 := jmnmx (jtm A L l) (jn L - 1)
    have g3 := jmxs_le hb (jn L - 1)
    rw [e1, e2, jsub g2, nI_l (by omega)]
