/-! the class's step of a pattern; rows that match -/
theorem jm31 {s : Nat} (h : s < 2 ^ 31) : nI s &&& nI 31 = nI (s % 32) := by
  rw [jand (by omega) (by omega), show 31 = 2 ^ 5 - 1 from rfl, Nat.and_two_pow_sub_one_eq_mod]
theorem jshr5 {s : Nat} (h : s < 2 ^ 31) : nI s >>> (nI 5 &&& nI 31) = nI (s / 32) := jshr h (by omega)
theorem jPo_after {L : jL} (hL : jgood L) {ω : xS} {S : jSt} {sw ps wy : Nat} (hK : jLK S sw ps wy) {w : jLw} (hw : jLg L w) (hC : jLC L S w sw) {k s : Nat} (hk : k < jLw.n w) (hp : jLw.pt w k) (hs : s < 1024) : f_Positions_after (jad L (jl (2 * k + sw) 1)) (nI s) (jW L ω S) = some (nI (jos (jLw.fo w k) (s % 32) 5 ||| jos (fun i => jLw.fo w k (5 + i)) (s / 32 % 32) 5)) := by
  have h16 := hw.n16
  have h1 := hC.s1
  have b1 : jos (jLw.fo w k) (s % 32) 5 < 2 ^ 10 := jos_lt 5 (fun q _ => hw.fo k q hk hp)
  have b2 : jos (fun i => jLw.fo w k (5 + i)) (s / 32 % 32) 5 < 2 ^ 10 := jos_lt 5 (fun q _ => hw.fo k (5 + q) hk hp)
  unfold f_Positions_after
  rw [show (31 : Int32) = nI 31 from rfl, show (5 : Int32) = nI 5 from rfl, jshr5 (by omega), jm31 (by omega), jm31 (by omega)]
  simp (disch := first | omega | rfl | assumption | exact jokr (by decide) (by omega) | exact jokr4 (by omega) | exact jkt_r _ _ | exact jkt_l (by decide) | exact jfk_l (by decide) | exact jkt_t _ | exact jkt_r6 _ _ | exact jkt_t6 _ | (simp only [jok, jlen]; omega) | decide) only [jm_k hL, jm_gi hL, jm_gr hL, jm_gl hL, jm_pi hL, jm_pl hL, jn_ai hL, jn_ab hL, jn_az hL, jn_al hL, jn_ar hL, jn_an hL, jn_si hL, jn_sb hL, jn_sz hL, jn_sl hL, Option.bind_some, xc, xl, jsA_X, jsI_X, jsG_X, hK _ _, jlk, jmx, hC.al, hC.au]
  rw [jor (by omega) (by omega)]
/-- one step over a letter, from a set of places, from the begin, from both -/
theorem jstepC {L : jL} (hL : jgood L) {ω : xS} {S : jSt} {sw ps wy : Nat} (hK : jLK S sw ps wy) {w : jLw} (hw : jLg L w) (hC : jLC L S w sw) {k s l t : Nat} (hk : k < jLw.n w) (hp : jLw.pt w k) (hs : s < 1024) (ht : ∀ q, t.testBit q = true ↔ q < jLw.sz w k ∧ jbit (jLw.ls w k q) l = 1) : (jos (jLw.fo w k) (s % 32) 5 ||| jos (fun i => jLw.fo w k (5 + i)) (s / 32 % 32) 5) &&& t = jLw.dl w k s l ∧ jLw.fo w k 10 &&& t = jLw.dl w k 1024 l ∧ ((jos (jLw.fo w k) (s % 32) 5 ||| jos (fun i => jLw.fo w k (5 + i)) (s / 32 % 32) 5) ||| jLw.fo w k 10) &&& t = jLw.dl w k (s ||| 1024) l := by
  have h1 : (jos (jLw.fo w k) (s % 32) 5 ||| jos (fun i => jLw.fo w k (5 + i)) (s / 32 % 32) 5) &&& t = jLw.dl w k s l := jaft (tk := fun _ => t) (al := fun u => jos (jLw.fo w k) u 5) (au := fun u => jos (fun i => jLw.fo w k (5 + i)) u 5) hs ht rfl rfl
  have h2 : jLw.fo w k 10 &&& t = jLw.dl w k 1024 l := jaft0 (tk := fun _ => t) ht
  refine ⟨h1, h2, ?_⟩
  rw [Nat.and_or_distrib_right, h1, h2]
  exact (jaft1 hs).symm
/-- the places on which a match may stand after i letters -/
def jnv (dl : Nat → Nat → Nat) (row : Nat → Nat) : Nat → Nat
  | 0 => 0
  | i + 1 => dl (jnv dl row i ||| 1024) (row i)
def jmt (w : jLw) (k : Nat) (row : Nat → Nat) (i : Nat) : Nat := if 7 ≤ i ∧ jnv (jLw.dl w k) row (i + 1) &&& jLw.la w k ≠ 0 then 1 else 0
theorem jnv_lt {L : jL} {w : jLw} (hw : jLg L w) {k : Nat} (hk : k < jLw.n w) (hp : jLw.pt w k) (row : Nat → Nat) : ∀ i, jnv (jLw.dl w k) row i < 1024
  | 0 => by rw [jnv]; omega
  | i + 1 => by rw [jnv]; exact jdl_lt (hw.sz k hk hp)
theorem jor1024 {s : Nat} (h : s < 1024) : s ||| 1024 < 2048 := Nat.or_lt_two_pow (n := 11) (by omega) (by omega)
theorem jMo_never {L : jL} (hL : jgood L) (hD : jdim L) {ω : xS} {S : jSt} {A : jR} (hA : jRg A) {sw ps wy : Nat} (hK : jLK S sw ps wy) {w : jLw} (hw : jLg L w) (h : jRM L S A) (hM : jLM S w) {k p : Nat} (hk : k < jLw.n w) (hpt : jLw.pt w k) (hp : p < jn L) : f_Mo_neverOf (jad L (jm 0)) (nI k) (nI p) (jW L ω S) = some (lN (jsm (jmt w k (jR.row A p)) (7 + jd L))) := by
  have h1 := hD.n8
  have h2 := hD.d21
  have h16 := hw.n16
  have hla := hw.la k hk hpt
  unfold f_Mo_neverOf
  refine jlpx (fun n i (x : Int64 × Int32) => f_Mo_neverOf_9 n (jad L (jm 0)) (nI k) (nI p) x.1 x.2 (nI i - nI 7) (jW L ω S)) (fun i => (lN (jsm (jmt w k (jR.row A p)) i), nI (jnv (jLw.dl w k) (jR.row A p) i))) (lo := 0) (hi := 7 + jd L) (Nat.zero_le _) (by omega) ?_ ?_
  · intro n i _ hi
    have hr := hA.row p i
    have hs := jnv_lt hw hk hpt (jR.row A p) i
    have hs2 := jnv_lt hw hk hpt (jR.row A p) (i + 1)
    have e1 : nI i - nI 7 + nI 1 = nI (i + 1) - nI 7 := by
      rw [← nI_add]
      generalize nI i = a
      generalize nI 7 = b
      generalize nI 1 = c
      grind
    show f_Mo_neverOf_9 (n + 1) _ _ _ _ _ _ _ = f_Mo_neverOf_9 n _ _ _ _ _ _ _
    rw [f_Mo_neverOf_9]
    have e2 : nI (jnv (jLw.dl w k) (jR.row A p) i) ||| nI 1024 = nI (jnv (jLw.dl w k) (jR.row A p) i ||| 1024) := jor (by omega) (by omega)
    have e3 := jMo_lead hL (ω := ω) hK hw hM hk hpt (s := jnv (jLw.dl w k) (jR.row A p) i ||| 1024) (l := jR.row A p i) (jor1024 hs) (by omega)
    simp (disch := first | omega | rfl | assumption | exact jokr (by decide) (by omega) | exact jokr4 (by omega) | exact jkt_r _ _ | exact jkt_l (by decide) | exact jfk_l (by decide) | exact jkt_t _ | exact jkt_r6 _ _ | exact jkt_t6 _ | (simp only [jok, jlen]; omega) | decide) only [jm_k hL, jm_gi hL, jm_gr hL, jm_gl hL, jm_pi hL, jm_pl hL, jn_ai hL, jn_ab hL, jn_az hL, jn_al hL, jn_ar hL, jn_an hL, jn_si hL, jn_sb hL, jn_sz hL, jn_sl hL, Option.bind_some, xc, xl, h.d, jsle, jslt, if_neg, jMo_rowAt hL hD hA hK h, jlit, jlitl, lN_add, jm1c, e1, e2, e3]
    rw [show jLw.dl w k (jnv (jLw.dl w k) (jR.row A p) i ||| 1024) (jR.row A p i) = jnv (jLw.dl w k) (jR.row A p) (i + 1) from rfl, jsm]
    by_cases c1 : i < 7
    · rw [if_pos c1]
      have a1 : jmt w k (jR.row A p) i = 0 := by unfold jmt; rw [if_neg (fun q => by omega)]
      rw [a1]
      try rfl
    · rw [if_neg c1]
      simp (disch := first | omega | rfl | assumption | exact jokr (by decide) (by omega) | exact jokr4 (by omega) | exact jkt_r _ _ | exact jkt_l (by decide) | exact jfk_l (by decide) | exact jkt_t _ | exact jkt_r6 _ _ | exact jkt_t6 _ | (simp only [jok, jlen]; omega) | decide) only [jm_k hL, jm_gi hL, jm_gr hL, jm_gl hL, jm_pi hL, jm_pl hL, jn_ai hL, jn_ab hL, jn_az hL, jn_al hL, jn_ar hL, jn_an hL, jn_si hL, jn_sb hL, jn_sz hL, jn_sl hL, Option.bind_some, xc, xl, jsA_X, jsI_X, jsG_X, hK _ _, jlk, jmx, hM.la]
      have hq : jnv (jLw.dl w k) (jR.row A p) (i + 1) &&& jLw.la w k ≤ jnv (jLw.dl w k) (jR.row A p) (i + 1) := Nat.and_le_left
      rw [jand (by omega) (by omega)]
      simp (disch := first | omega | rfl | assumption | exact jokr (by decide) (by omega) | exact jokr4 (by omega) | exact jkt_r _ _ | exact jkt_l (by decide) | exact jfk_l (by decide) | exact jkt_t _ | exact jkt_r6 _ _ | exact jkt_t6 _ | (simp only [jok, jlen]; omega) | decide) only [nI_eq]
      by_cases c2 : jnv (jLw.dl w k) (jR.row A p) (i + 1) &&& jLw.la w k = 0
      · rw [if_pos c2]
        have a1 : jmt w k (jR.row A p) i = 0 := by unfold jmt; rw [if_neg (fun q => q.2 c2)]
        rw [a1]
        try rfl
      · rw [if_neg c2]
        have a1 : jmt w k (jR.row A p) i = 1 := by unfold jmt; rw [if_pos ⟨by omega, c2⟩]
        rw [a1]
        try rfl
  · intro n
    show f_Mo_neverOf_9 (n + 1) _ _ _ _ _ _ _ = _
    rw [f_Mo_neverOf_9]
    simp (disch := first | omega | rfl | assumption | exact jokr (by decide) (by omega) | exact jokr4 (by omega) | exact jkt_r _ _ | exact jkt_l (by decide) | exact jfk_l (by decide) | exact jkt_t _ | exact jkt_r6 _ _ | exact jkt_t6 _ | (simp only [jok, jlen]; omega) | decide) only [jm_k hL, jm_gi hL, jm_gr hL, jm_gl hL, jm_pi hL, jm_pl hL, jn_ai hL, jn_ab hL, jn_az hL, jn_al hL, jn_ar hL, jn_an hL, jn_si hL, jn_sb hL, jn_sz hL, jn_sl hL, Option.bind_some, xc, xl, h.d, jsle]
    rw [if_pos (by omega)]
theorem jJu_matches {L : jL} (hL : jgood L) (hD : jdim L) {ω : xS} {S : jSt} {A : jR} (hA : jRg A) {sw ps wy : Nat} (hK : jLK S sw ps wy) {w : jLw} (hw : jLg L w) (h : jRC L S A) (hC : jLC L S w sw) {k p : Nat} (hk : k < jLw.n w) (hpt : jLw.pt w k) (hp : p < jn L) : f_Judge_matches (jad L (jo 28)) (jad L (jl (2 * k + sw) 1)) (nI p) (jW L ω S) = some (lN (jsm (jmt w k (jR.row A p)) (7 + jd L))) := by
  have h1 := hD.n8
  have h2 := hD.d21
  have h16 := hw.n16
  have hs1 := hC.s1
  have hla := hw.la k hk hpt
  have hfo := hw.fo k 10 hk hpt
  unfold f_Judge_matches
  simp (disch := first | omega | rfl | assumption | exact jokr (by decide) (by omega) | exact jokr4 (by omega) | exact jkt_r _ _ | exact jkt_l (by decide) | exact jfk_l (by decide) | exact jkt_t _ | exact jkt_r6 _ _ | exact jkt_t6 _ | (simp only [jok, jlen]; omega) | decide) only [jm_k hL, jm_gi hL, jm_gr hL, jm_gl hL, jm_pi hL, jm_pl hL, jn_ai hL, jn_ab hL, jn_az hL, jn_al hL, jn_ar hL, jn_an hL, jn_si hL, jn_sb hL, jn_sz hL, jn_sl hL, Option.bind_some, xc, xl, jsA_X, jsI_X, jsG_X, hK _ _, jlk, jmx]
  refine jlpx (fun n i (x : Int64 × Int32) => f_Judge_matches_19 n (jad L (jl (2 * k + sw) 1)) (jad L (jr 0 p)) x.1 x.2 (nI i) (jW L ω S)) (fun i => (lN (jsm (jmt w k (jR.row A p)) i), nI (jnv (jLw.dl w k) (jR.row A p) i))) (lo := 0) (hi := 7 + jd L) (Nat.zero_le _) (by omega) ?_ ?_
  · intro n i _ hi
    have hr := hA.row p i
    have hs := jnv_lt hw hk hpt (jR.row A p) i
    have hs2 := jnv_lt hw hk hpt (jR.row A p) (i + 1)
    obtain ⟨t, ht, e0, htb⟩ := hC.tk k (jR.row A p i) hk hpt (by omega)
    have e4 := (jstepC hL (ω := ω) hK hw hC hk hpt hs htb).2.2
    have b1 : jos (jLw.fo w k) (jnv (jLw.dl w k) (jR.row A p) i % 32) 5 < 2 ^ 10 := jos_lt 5 (fun q _ => hw.fo k q hk hpt)
    have b2 : jos (fun i => jLw.fo w k (5 + i)) (jnv (jLw.dl w k) (jR.row A p) i / 32 % 32) 5 < 2 ^ 10 := jos_lt 5 (fun q _ => hw.fo k (5 + q) hk hpt)
    have b3 := Nat.or_lt_two_pow b1 b2
    have b4 := Nat.or_lt_two_pow b3 (show jLw.fo w k 10 < 2 ^ 10 from hfo)
    show f_Judge_matches_19 (n + 1) _ _ _ _ _ _ = f_Judge_matches_19 n _ _ _ _ _ _
    rw [f_Judge_matches_19]
    simp (disch := first | omega | rfl | assumption | exact jokr (by decide) (by omega) | exact jokr4 (by omega) | exact jkt_r _ _ | exact jkt_l (by decide) | exact jfk_l (by decide) | exact jkt_t _ | exact jkt_r6 _ _ | exact jkt_t6 _ | (simp only [jok, jlen]; omega) | decide) only [jm_k hL, jm_gi hL, jm_gr hL, jm_gl hL, jm_pi hL, jm_pl hL, jn_ai hL, jn_ab hL, jn_az hL, jn_al hL, jn_ar hL, jn_an hL, jn_si hL, jn_sb hL, jn_sz hL, jn_sl hL, Option.bind_some, xc, xl, jsA_X, jsI_X, jsG_X, hK _ _, jlk, jmx, jlit, jlitl, jmul, nI_add, lN_add, nI_leI, nI_ltI, nI_eq, jm1, jm1g, jm1e, jm1c, jlen, if_neg, h.row, jPo_after hL hK hw hC hk hpt hs, hC.fi, e0]
    rw [jor (by omega) (by omega), jand (by omega) (by omega), e4, show jLw.dl w k (jnv (jLw.dl w k) (jR.row A p) i ||| 1024) (jR.row A p i) = jnv (jLw.dl w k) (jR.row A p) (i + 1) from rfl, jsm]
    by_cases c1 : i < 7
    · rw [if_pos c1]
      have a1 : jmt w k (jR.row A p) i = 0 := by unfold jmt; rw [if_neg (fun q => by omega)]
      rw [a1]
      try rfl
    · rw [if_neg c1]
      simp (disch := first | omega | rfl | assumption | exact jokr (by decide) (by omega) | exact jokr4 (by omega) | exact jkt_r _ _ | exact jkt_l (by decide) | exact jfk_l (by decide) | exact jkt_t _ | exact jkt_r6 _ _ | exact jkt_t6 _ | (simp only [jok, jlen]; omega) | decide) only [jm_k hL, jm_gi hL, jm_gr hL, jm_gl hL, jm_pi hL, jm_pl hL, jn_ai hL, jn_ab hL, jn_az hL, jn_al hL, jn_ar hL, jn_an hL, jn_si hL, jn_sb hL, jn_sz hL, jn_sl hL, Option.bind_some, xc, xl, hC.la]
      have hq : jnv (jLw.dl w k) (jR.row A p) (i + 1) &&& jLw.la w k ≤ jnv (jLw.dl w k) (jR.row A p) (i + 1) := Nat.and_le_left
      rw [jand (by omega) (by omega)]
      simp (disch := first | omega | rfl | assumption | exact jokr (by decide) (by omega) | exact jokr4 (by omega) | exact jkt_r _ _ | exact jkt_l (by decide) | exact jfk_l (by decide) | exact jkt_t _ | exact jkt_r6 _ _ | exact jkt_t6 _ | (simp only [jok, jlen]; omega) | decide) only [nI_eq]
      by_cases c2 : jnv (jLw.dl w k) (jR.row A p) (i + 1) &&& jLw.la w k = 0
      · rw [if_pos c2]
        have a1 : jmt w k (jR.row A p) i = 0 := by unfold jmt; rw [if_neg (fun q => q.2 c2)]
        rw [a1]
        try rfl
      · rw [if_neg c2]
        have a1 : jmt w k (jR.row A p) i = 1 := by unfold jmt; rw [if_pos ⟨by omega, c2⟩]
        rw [a1]
        try rfl
  · intro n
    show f_Judge_matches_19 (n + 1) _ _ _ _ _ _ = _
    rw [f_Judge_matches_19]
    simp (disch := first | omega | rfl | assumption | exact jokr (by decide) (by omega) | exact jokr4 (by omega) | exact jkt_r _ _ | exact jkt_l (by decide) | exact jfk_l (by decide) | exact jkt_t _ | exact jkt_r6 _ _ | exact jkt_t6 _ | (simp only [jok, jlen]; omega) | decide) only [jm_k hL, jm_gi hL, jm_gr hL, jm_gl hL, jm_pi hL, jm_pl hL, jn_ai hL, jn_ab hL, jn_az hL, jn_al hL, jn_ar hL, jn_an hL, jn_si hL, jn_sb hL, jn_sz hL, jn_sl hL, Option.bind_some, xc, xl, jlit, jlitl, jmul, nI_add, lN_add, nI_leI, nI_ltI, nI_eq, jm1, jm1g, jm1e, jm1c, jlen]
    rw [if_pos (by omega)]
