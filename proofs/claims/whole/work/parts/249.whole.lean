/-! rows that are words -/
theorem jrs_lt {L : jL} {w : jLw} (hw : jLg L w) {k : Nat} (hk : k < jLw.n w) (hp : jLw.pt w k) (x : Nat → Nat) : ∀ n, 1 ≤ n → jrs (jLw.dl w k) x n < 1024
  | 0, h => by omega
  | n + 1, _ => by rw [jrs]; exact jdl_lt (hw.sz k hk hp)
theorem jrn_lt {L : jL} {w : jLw} (hw : jLg L w) {k : Nat} (hk : k < jLw.n w) (hp : jLw.pt w k) {x : Nat → Nat} {m : Nat} (hx : ∀ i, i < m → x i < 9) : ∀ n, n ≤ m → jrn (jLw.nx w k) x n < jLw.ns w k
  | 0, _ => (hw.ns k hk hp).1
  | n + 1, h => by
    rw [jrn]
    have h1 := jrn_lt hw hk hp hx n (by omega)
    have h2 := hx n (by omega)
    exact hw.nx k _ hk hp (by omega)
/-- broken or not: whether the days' row is a word -/
def jwo (w : jLw) (k : Nat) (A : jR) (L : jL) (p : Nat) : Nat := 1 - jLw.ac w k (jrs (jLw.dl w k) (fun t => jR.row A p (7 + t)) (jd L))
theorem jMo_whole {L : jL} (hL : jgood L) (hD : jdim L) {ω : xS} {S : jSt} {A : jR} (hA : jRg A) {sw ps wy : Nat} (hK : jLK S sw ps wy) {w : jLw} (hw : jLg L w) (h : jRM L S A) (hM : jLM S w) {k p : Nat} (hk : k < jLw.n w) (hpt : jLw.pt w k) (hp : p < jn L) : f_Mo_byPerson_229 xFU (jad L (jm 0)) (nI k) (nI p) (nI 0) (nI 0) (jW L ω S) = some (lN (jwo w k A L p)) := by
  have h1 := hD.n8
  have h2 := hD.d21
  have h16 := hw.n16
  have hns := hw.ns k hk hpt
  have hx : ∀ i, i < jd L → (fun t => jR.row A p (7 + t)) i < 9 := fun i _ => by have := hA.row p (7 + i); show jR.row A p (7 + i) < 9; omega
  refine jlpx (fun n i x => f_Mo_byPerson_229 n (jad L (jm 0)) (nI k) (nI p) x (nI i) (jW L ω S)) (fun i => nI (jrn (jLw.nx w k) (fun t => jR.row A p (7 + t)) i)) (lo := 0) (hi := jd L) (Nat.zero_le _) (by omega) ?_ ?_
  · intro n i _ hi
    have hr := hA.row p (7 + i)
    have hs := jrn_lt hw hk hpt hx i (by omega)
    have e1 : nI (9 * (1025 * k + jrn (jLw.nx w k) (fun t => jR.row A p (7 + t)) i)) + (nI (jR.row A p (7 + i)) - nI 1) + nI 1 = nI (9225 * k + (9 * jrn (jLw.nx w k) (fun t => jR.row A p (7 + t)) i + jR.row A p (7 + i))) := by
      rw [Int32.add_assoc, jm1c, nI_add]
      congr 1
      omega
    rw [f_Mo_byPerson_229]
    simp (disch := first | omega | rfl | assumption | exact jokr (by decide) (by omega) | exact jokr4 (by omega) | exact jkt_r _ _ | exact jkt_l (by decide) | exact jfk_l (by decide) | exact jkt_t _ | exact jkt_r6 _ _ | exact jkt_t6 _ | (simp only [jok, jlen]; omega) | decide) only [jm_k hL, jm_gi hL, jm_gr hL, jm_gl hL, jm_pi hL, jm_pl hL, jn_ai hL, jn_ab hL, jn_az hL, jn_al hL, jn_ar hL, jn_an hL, jn_si hL, jn_sb hL, jn_sz hL, jn_sl hL, Option.bind_some, xc, xl, jsA_X, jsI_X, jsG_X, hK _ _, jlk, jmx, jlit, jmul, nI_add, nI_leI, h.d, if_neg, h.cell, e1, hM.nx]
    try rfl
  · intro n
    have hs := jrn_lt hw hk hpt hx (jd L) (Nat.le_refl _)
    have hfe := hw.fe k (jrn (jLw.nx w k) (fun t => jR.row A p (7 + t)) (jd L)) hk hpt
    rw [f_Mo_byPerson_229]
    simp (disch := first | omega | rfl | assumption | exact jokr (by decide) (by omega) | exact jokr4 (by omega) | exact jkt_r _ _ | exact jkt_l (by decide) | exact jfk_l (by decide) | exact jkt_t _ | exact jkt_r6 _ _ | exact jkt_t6 _ | (simp only [jok, jlen]; omega) | decide) only [jm_k hL, jm_gi hL, jm_gr hL, jm_gl hL, jm_pi hL, jm_pl hL, jn_ai hL, jn_ab hL, jn_az hL, jn_al hL, jn_ar hL, jn_an hL, jn_si hL, jn_sb hL, jn_sz hL, jn_sl hL, Option.bind_some, xc, xl, jsA_X, jsI_X, jsG_X, hK _ _, jlk, jmx, jlit, jlitl, jmul, nI_add, lN_add, nI_leI, nI_ltI, nI_eq, jm1, jm1g, jm1e, jm1c, h.d, hM.fe]
    rw [if_pos (Nat.le_refl _)]
    unfold jwo
    rw [← hw.run k _ (jd L) hk hpt hx]
    by_cases c : jLw.fe w k (jrn (jLw.nx w k) (fun t => jR.row A p (7 + t)) (jd L)) = 0
    · rw [if_pos c, c]
    · rw [if_neg c, show jLw.fe w k (jrn (jLw.nx w k) (fun t => jR.row A p (7 + t)) (jd L)) = 1 by omega]
/-- what may follow: the class's look ahead -/
def jah (w : jLw) (k : Nat) (s : Nat) : Nat := if s = 1024 then jLw.fo w k 10 else jos (jLw.fo w k) (s % 32) 5 ||| jos (fun i => jLw.fo w k (5 + i)) (s / 32 % 32) 5
theorem jah_lt {L : jL} {w : jLw} (hw : jLg L w) {k : Nat} (hk : k < jLw.n w) (hp : jLw.pt w k) (s : Nat) : jah w k s < 1024 := by
  unfold jah
  split
  · exact hw.fo k 10 hk hp
  · exact Nat.or_lt_two_pow (n := 10) (jos_lt 5 (fun q _ => hw.fo k q hk hp)) (jos_lt 5 (fun q _ => hw.fo k (5 + q) hk hp))
theorem jah_st {L : jL} (hL : jgood L) {ω : xS} {S : jSt} {sw ps wy : Nat} (hK : jLK S sw ps wy) {w : jLw} (hw : jLg L w) (hC : jLC L S w sw) {k s l t : Nat} (hk : k < jLw.n w) (hp : jLw.pt w k) (hs : s ≤ 1024) (ht : ∀ q, t.testBit q = true ↔ q < jLw.sz w k ∧ jbit (jLw.ls w k q) l = 1) : jah w k s &&& t = jLw.dl w k s l := by
  unfold jah
  by_cases c : s = 1024
  · rw [if_pos c, c]
    exact (jstepC hL (ω := ω) hK hw hC (s := 0) hk hp (by omega) ht).2.1
  · rw [if_neg c]
    exact (jstepC hL (ω := ω) hK hw hC hk hp (by omega) ht).1
theorem jrs_le {L : jL} {w : jLw} (hw : jLg L w) {k : Nat} (hk : k < jLw.n w) (hp : jLw.pt w k) (x : Nat → Nat) (n : Nat) : jrs (jLw.dl w k) x n ≤ 1024 := by
  rcases n with _ | n
  · exact Nat.le_refl _
  · have := jrs_lt hw hk hp x (n + 1) (by omega); omega
theorem jJu_noWord {L : jL} (hL : jgood L) (hD : jdim L) {ω : xS} {S : jSt} {A : jR} (hA : jRg A) {sw ps wy : Nat} (hK : jLK S sw ps wy) {w : jLw} (hw : jLg L w) (h : jRC L S A) (hC : jLC L S w sw) {k p : Nat} (hk : k < jLw.n w) (hpt : jLw.pt w k) (hp : p < jn L) : f_Judge_noWord (jad L (jo 28)) (jad L (jl (2 * k + sw) 1)) (nI p) (jW L ω S) = some (lN (jwo w k A L p)) := by
  have h0 := hD.d1
  have h1 := hD.n8
  have h2 := hD.d21
  have h16 := hw.n16
  have hs1 := hC.s1
  have hla := hw.la k hk hpt
  unfold f_Judge_noWord
  simp (disch := first | omega | rfl | assumption | exact jokr (by decide) (by omega) | exact jokr4 (by omega) | exact jkt_r _ _ | exact jkt_l (by decide) | exact jfk_l (by decide) | exact jkt_t _ | exact jkt_r6 _ _ | exact jkt_t6 _ | (simp only [jok, jlen]; omega) | decide) only [jm_k hL, jm_gi hL, jm_gr hL, jm_gl hL, jm_pi hL, jm_pl hL, jn_ai hL, jn_ab hL, jn_az hL, jn_al hL, jn_ar hL, jn_an hL, jn_si hL, jn_sb hL, jn_sz hL, jn_sl hL, Option.bind_some, xc, xl, jsA_X, jsI_X, jsG_X, hK _ _, jlk, jmx, jlit, jlitl, jmul, nI_add, lN_add, nI_leI, nI_ltI, nI_eq, jm1, jm1g, jm1e, jm1c, hC.fi]
  refine (jlpx (fun n i (x : Int32 × Int32) => f_Judge_noWord_23 n (jad L (jl (2 * k + sw) 1)) (jad L (jr 0 p)) x.1 x.2 (nI (7 + i)) (jW L ω S)) (fun i => (nI (jah w k (jrs (jLw.dl w k) (fun t => jR.row A p (7 + t)) i)), nI (if i = 0 then 0 else jrs (jLw.dl w k) (fun t => jR.row A p (7 + t)) i))) (lo := 0) (hi := jd L) (r := some (lN (jwo w k A L p))) (Nat.zero_le _) (by omega) ?_ ?_ : _)
  · intro n i _ hi
    have hr := hA.row p (7 + i)
    have ha := jah_lt hw hk hpt (jrs (jLw.dl w k) (fun t => jR.row A p (7 + t)) i)
    obtain ⟨t, ht, e0, htb⟩ := hC.tk k (jR.row A p (7 + i)) hk hpt (by omega)
    have e4 := jah_st hL (ω := ω) hK hw hC hk hpt (jrs_le hw hk hpt (fun t => jR.row A p (7 + t)) i) htb
    have hs2 := jrs_lt hw hk hpt (fun t => jR.row A p (7 + t)) (i + 1) (by omega)
    show f_Judge_noWord_23 (n + 1) _ _ _ _ _ _ = f_Judge_noWord_23 n _ _ _ _ _ _
    rw [f_Judge_noWord_23]
    simp (disch := first | omega | rfl | assumption | exact jokr (by decide) (by omega) | exact jokr4 (by omega) | exact jkt_r _ _ | exact jkt_l (by decide) | exact jfk_l (by decide) | exact jkt_t _ | exact jkt_r6 _ _ | exact jkt_t6 _ | (simp only [jok, jlen]; omega) | decide) only [jm_k hL, jm_gi hL, jm_gr hL, jm_gl hL, jm_pi hL, jm_pl hL, jn_ai hL, jn_ab hL, jn_az hL, jn_al hL, jn_ar hL, jn_an hL, jn_si hL, jn_sb hL, jn_sz hL, jn_sl hL, Option.bind_some, xc, xl, jsA_X, jsI_X, jsG_X, hK _ _, jlk, jmx, jlit, jlitl, jmul, nI_add, lN_add, nI_leI, nI_ltI, nI_eq, jm1, jm1g, jm1e, jm1c, jlen, if_neg, h.row, e0]
    rw [jand (by omega) (by omega), e4, show jLw.dl w k (jrs (jLw.dl w k) (fun t => jR.row A p (7 + t)) i) (jR.row A p (7 + i)) = jrs (jLw.dl w k) (fun t => jR.row A p (7 + t)) (i + 1) from rfl]
    simp (disch := first | omega | rfl | assumption | exact jokr (by decide) (by omega) | exact jokr4 (by omega) | exact jkt_r _ _ | exact jkt_l (by decide) | exact jfk_l (by decide) | exact jkt_t _ | exact jkt_r6 _ _ | exact jkt_t6 _ | (simp only [jok, jlen]; omega) | decide) only [jm_k hL, jm_gi hL, jm_gr hL, jm_gl hL, jm_pi hL, jm_pl hL, jn_ai hL, jn_ab hL, jn_az hL, jn_al hL, jn_ar hL, jn_an hL, jn_si hL, jn_sb hL, jn_sz hL, jn_sl hL, Option.bind_some, xc, xl, jPo_after hL hK hw hC hk hpt hs2]
    try rw [if_neg (show i + 1 ≠ 0 by omega)]
    have e5 : jah w k (jrs (jLw.dl w k) (fun t => jR.row A p (7 + t)) (i + 1)) = jos (jLw.fo w k) (jrs (jLw.dl w k) (fun t => jR.row A p (7 + t)) (i + 1) % 32) 5 ||| jos (fun q => jLw.fo w k (5 + q)) (jrs (jLw.dl w k) (fun t => jR.row A p (7 + t)) (i + 1) / 32 % 32) 5 := by
      unfold jah
      rw [if_neg (by omega)]
    rw [e5]
    try rfl
  · intro n
    have hs2 := jrs_lt hw hk hpt (fun t => jR.row A p (7 + t)) (jd L) h0
    show f_Judge_noWord_23 (n + 1) _ _ _ _ _ _ = _
    rw [f_Judge_noWord_23]
    simp (disch := first | omega | rfl | assumption | exact jokr (by decide) (by omega) | exact jokr4 (by omega) | exact jkt_r _ _ | exact jkt_l (by decide) | exact jfk_l (by decide) | exact jkt_t _ | exact jkt_r6 _ _ | exact jkt_t6 _ | (simp only [jok, jlen]; omega) | decide) only [jm_k hL, jm_gi hL, jm_gr hL, jm_gl hL, jm_pi hL, jm_pl hL, jn_ai hL, jn_ab hL, jn_az hL, jn_al hL, jn_ar hL, jn_an hL, jn_si hL, jn_sb hL, jn_sz hL, jn_sl hL, Option.bind_some, xc, xl, jlit, jlitl, jmul, nI_add, lN_add, nI_leI, nI_ltI, nI_eq, jm1, jm1g, jm1e, jm1c, jlen, hC.la]
    have hq : jrs (jLw.dl w k) (fun t => jR.row A p (7 + t)) (jd L) &&& jLw.la w k ≤ jrs (jLw.dl w k) (fun t => jR.row A p (7 + t)) (jd L) := Nat.and_le_left
    rw [if_pos (Nat.le_refl _), if_neg (show ¬ jd L = 0 by omega), jand (by omega) (by omega)]
    simp (disch := first | omega | rfl | assumption | exact jokr (by decide) (by omega) | exact jokr4 (by omega) | exact jkt_r _ _ | exact jkt_l (by decide) | exact jfk_l (by decide) | exact jkt_t _ | exact jkt_r6 _ _ | exact jkt_t6 _ | (simp only [jok, jlen]; omega) | decide) only [nI_eq]
    unfold jwo jLw.ac
    by_cases c : jrs (jLw.dl w k) (fun t => jR.row A p (7 + t)) (jd L) &&& jLw.la w k = 0
    · have hno : ¬ (jrs (jLw.dl w k) (fun t => jR.row A p (7 + t)) (jd L) &&& jLw.la w k ≠ 0 ∨ jrs (jLw.dl w k) (fun t => jR.row A p (7 + t)) (jd L) = 1024 ∧ jLw.no w k = 1) := fun q => q.elim (fun z => z c) (fun z => by omega)
      rw [if_pos c, if_neg hno]
      try rfl
    · rw [if_neg c, if_pos (Or.inl c)]
      try rfl
