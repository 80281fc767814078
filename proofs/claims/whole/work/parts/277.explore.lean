/-! THE CLASS EXPLORES a pattern's sets -/
/-- the cells of the maker -/
def jisK : jC → Prop := fun c => ∃ q, 7 ≤ q ∧ q ≤ 15 ∧ c = jo q
theorem jisL_K {c : jC} (hc : jisL c) : ¬ jisK c := fun ⟨q, a, b, e⟩ => by
  subst e
  rcases hc with e | ⟨j, k, e⟩ | ⟨j, e⟩
  · have : q = 0 := by simpa using e
    omega
  · cases e
  · cases e
theorem jKn {q : Nat} (h1 : 7 ≤ q) (h2 : q ≤ 15) : ¬ (fun c => ¬ jisK c) (jo q) := fun h => h ⟨q, h1, h2, rfl⟩
theorem jK7 : ¬ (fun c => ¬ jisK c) (jo 7) := jKn (by omega) (by omega)
theorem jK8 : ¬ (fun c => ¬ jisK c) (jo 8) := jKn (by omega) (by omega)
theorem jK9 : ¬ (fun c => ¬ jisK c) (jo 9) := jKn (by omega) (by omega)
theorem jK10 : ¬ (fun c => ¬ jisK c) (jo 10) := jKn (by omega) (by omega)
theorem jK11 : ¬ (fun c => ¬ jisK c) (jo 11) := jKn (by omega) (by omega)
theorem jLC.K {L : jL} {S T : jSt} {w : jLw} {sw : Nat} (h : jLC L S w sw) (e : jeqv (fun c => ¬ jisK c) S T) : jLC L T w sw := h.eqv (e.weak (fun c hc => jisL_K hc))
theorem jai_o {L : jL} (hL : jgood L) {ω : xS} {S : jSt} {q k : Nat} (h : q = 12 ∨ q = 13) (hk : k < 1025) : xai (jW L ω S) (jad L (jo q)) (nI k) = some (jgA S (jo q) k) := by
  rcases h with rfl | rfl
  · exact jn_ai hL (c := jo 12) (by simp only [jok]; omega) rfl (by simp only [jlen]; omega) (by omega)
  · exact jn_ai hL (c := jo 13) (by simp only [jok]; omega) rfl (by simp only [jlen]; omega) (by omega)
theorem jsi_o {L : jL} (hL : jgood L) {ω : xS} {S : jSt} {q k : Nat} {v : Int32} (h : q = 12 ∨ q = 13) (hk : k < 1025) : xsi (jW L ω S) (jad L (jo q)) (nI k) v = some (jW L ω (jsA S (jo q) k v)) := by
  rcases h with rfl | rfl
  · exact jn_si hL (c := jo 12) (by simp only [jok]; omega) rfl (by simp only [jlen]; omega) (by omega)
  · exact jn_si hL (c := jo 13) (by simp only [jok]; omega) rfl (by simp only [jlen]; omega) (by omega)
theorem jmaxp {v : Nat} (h : v ≠ 0) (h2 : v ≤ 2000) : xmax (nI 0) (nI v - nI 1) = nI (v - 1) := by
  rw [jsub (by omega), jmax (by omega) (by omega), Nat.zero_max]
theorem jKM_old {L : jL} (hL : jgood L) {ω : xS} {T : jSt} {sw ps wy : Nat} (hK : jLK T sw ps wy) {x v : Nat} (hx : x ≤ 1024) (hv : jgA T (jo 9) x = nI v) (h0 : v ≠ 0) (h1 : v ≤ 1025) : f_AutomatonMaker_numberOf (jad L (jo 7)) (nI x) (jW L ω T) = some (nI (v - 1), jW L ω T) := by
  have e := jmaxp h0 (by omega)
  unfold f_AutomatonMaker_numberOf
  simp (disch := first | omega | rfl | assumption | exact jokr (by decide) (by omega) | exact jokr4 (by omega) | exact jkt_r _ _ | exact jkt_l (by decide) | exact jfk_l (by decide) | exact jkt_t _ | exact jkt_r6 _ _ | exact jkt_t6 _ | (simp only [jok, jlen]; omega) | decide) only [jm_k hL, jm_gi hL, jm_gr hL, jm_gl hL, jm_pi hL, jm_pl hL, jn_ai hL, jn_ab hL, jn_az hL, jn_al hL, jn_ar hL, jn_an hL, jn_si hL, jn_sb hL, jn_sz hL, jn_sl hL, Option.bind_some, xc, xl, jsA_X, jsI_X, jsG_X, hK _ _, jlk, jmx, jlit, hv, nI_eq, if_neg, e]
theorem jKM_new {L : jL} (hL : jgood L) {ω : xS} {T : jSt} {sw ps wy : Nat} (hK : jLK T sw ps wy) {x c : Nat} (hx : x ≤ 1024) (hv : jgA T (jo 9) x = nI 0) (hc : jgI T (jo 7) 8 = nI c) (h1 : c < 1025) : f_AutomatonMaker_numberOf (jad L (jo 7)) (nI x) (jW L ω T) = some (nI c, jW L ω (jsA (jsI (jsA T (jo 8) c (nI x)) (jo 7) 8 (nI (c + 1))) (jo 9) x (nI (c + 1)))) := by
  have e := jmaxp (v := c + 1) (by omega) (by omega)
  rw [Nat.add_sub_cancel] at e
  unfold f_AutomatonMaker_numberOf
  simp (disch := first | omega | rfl | assumption | exact jokr (by decide) (by omega) | exact jokr4 (by omega) | exact jkt_r _ _ | exact jkt_l (by decide) | exact jfk_l (by decide) | exact jkt_t _ | exact jkt_r6 _ _ | exact jkt_t6 _ | (simp only [jok, jlen]; omega) | decide) only [jm_k hL, jm_gi hL, jm_gr hL, jm_gl hL, jm_pi hL, jm_pl hL, jn_ai hL, jn_ab hL, jn_az hL, jn_al hL, jn_ar hL, jn_an hL, jn_si hL, jn_sb hL, jn_sz hL, jn_sl hL, Option.bind_some, xc, xl, jsA_X, jsI_X, jsG_X, hK _ _, jlk, jmx, jlit, hv, nI_leI, nI_add, if_neg, if_true, hc, jsA_I, jsI_I, jsA_A, and_self, e]
def jXS (δ : Nat → Nat → Nat) (T : jSt) (m : Nat) : Prop := (jgI T (jo 7) 8 = nI (jxc δ m)) ∧ (∀ i, i < jxc δ m → jgA T (jo 8) i = nI (jxs δ m i)) ∧ (∀ x, x ≤ 1024 → jgA T (jo 9) x = nI (jxn δ m x)) ∧ (∀ i, i < m → jgA T (jo 10) i = nI (jxg δ i))
theorem jXS.c {δ : Nat → Nat → Nat} {T : jSt} {m : Nat} (h : jXS δ T m) : jgI T (jo 7) 8 = nI (jxc δ m) := h.1
theorem jXS.s {δ : Nat → Nat → Nat} {T : jSt} {m : Nat} (h : jXS δ T m) : ∀ i, i < jxc δ m → jgA T (jo 8) i = nI (jxs δ m i) := h.2.1
theorem jXS.n {δ : Nat → Nat → Nat} {T : jSt} {m : Nat} (h : jXS δ T m) : ∀ x, x ≤ 1024 → jgA T (jo 9) x = nI (jxn δ m x) := h.2.2.1
theorem jXS.g {δ : Nat → Nat → Nat} {T : jSt} {m : Nat} (h : jXS δ T m) : ∀ i, i < m → jgA T (jo 10) i = nI (jxg δ i) := h.2.2.2
/-- one pair -/
theorem jXS.pair {L : jL} (hL : jgood L) {ω : xS} {δ : Nat → Nat → Nat} (hδ : ∀ s l, δ s l < 1024) {T : jSt} {sw ps wy : Nat} (hK : jLK T sw ps wy) {m : Nat} (h : jXS δ T m) (hm : m < 9225) : ∃ T', f_AutomatonMaker_numberOf (jad L (jo 7)) (nI (jxt δ m)) (jW L ω T) = some (nI (jxg δ m), jW L ω T') ∧ jLK T' sw ps wy ∧ jeqv (fun c => ¬ jisK c) T T' ∧ jXS δ (jsA T' (jo 10) m (nI (jxg δ m))) (m + 1) := by
  have hx : jxt δ m < 1024 := hδ _ _
  have hi := jx_inv hδ m
  have hcl := jx_le hδ m
  have hn := h.n (jxt δ m) (by omega)
  by_cases q : jxn δ m (jxt δ m) = 0
  · obtain ⟨h1, h2, h3⟩ := jx_new q
    have hr := jx_room hδ q
    have hg : jxg δ m = jxc δ m := by
      unfold jxg
      rw [h3, if_pos rfl, Nat.add_sub_cancel]
    rw [q] at hn
    have hNw := jKM_new hL (ω := ω) hK (by omega) hn h.c hr
    rw [hg]
    refine ⟨_, hNw, hK, ?_, ?_, ?_, ?_, ?_⟩
    · exact ((jeqv.sA _ _ _ jK8).trans (jeqv.sI _ _ _ jK7)).trans (jeqv.sA _ _ _ jK9)
    · rw [jsA_I, jsA_I, jsI_I, if_pos ⟨rfl, rfl⟩, h1]
    · intro i hi2
      rw [jsA_ne (by decide), jsA_ne (by decide), jsI_A, jsA_c, h2]
      by_cases c : i = jxc δ m
      · rw [if_pos c, if_pos c]
      · rw [if_neg c, if_neg c]
        exact h.s i (by omega)
    · intro x hx2
      rw [jsA_ne (by decide), jsA_c, h3]
      by_cases c : x = jxt δ m
      · rw [if_pos c, if_pos c]
      · rw [if_neg c, if_neg c, jsI_A, jsA_ne (by decide)]
        exact h.n x hx2
    · intro i hi2
      rw [jsA_c]
      by_cases c : i = m
      · rw [if_pos c, c, hg]
      · rw [if_neg c, jsA_ne (by decide), jsI_A, jsA_ne (by decide)]
        exact h.g i (by omega)
  · obtain ⟨h1, h2, h3⟩ := jx_old q
    have hb := hi.b _ q
    have hg : jxg δ m = jxn δ m (jxt δ m) - 1 := by
      unfold jxg
      rw [h3]
    have hOl := jKM_old hL (ω := ω) hK (by omega) hn q (by omega)
    rw [hg]
    refine ⟨T, hOl, hK, jeqv.refl _ _, ?_, ?_, ?_, ?_⟩
    · rw [jsA_I, h1]; exact h.c
    · intro i hi2
      rw [jsA_ne (by decide), h2]
      exact h.s i (by omega)
    · intro x hx2
      rw [jsA_ne (by decide), h3]
      exact h.n x hx2
    · intro i hi2
      rw [jsA_c]
      by_cases c : i = m
      · rw [if_pos c, c, hg]
      · rw [if_neg c]
        exact h.g i (by omega)
theorem jEx_85 {L : jL} (hL : jgood L) {ω : xS} {S : jSt} {sw ps wy : Nat} (hK : jLK S sw ps wy) {w : jLw} (hw : jLg L w) (hC : jLC L S w sw) {k s : Nat} (hk : k < jLw.n w) (hp : jLw.pt w k) (hs : s < 1025) (hst : s < jxc (jLw.dl w k) (9 * s)) (h : jXS (jLw.dl w k) S (9 * s)) {k37 : Nat → Nat → Int32 → xS → Option xS} : ∃ T, f_AutomatonMaker_explore_85 k37 xFU (jad L (jo 7)) (jad L (jl (2 * k + sw) 1)) (nI s) (nI (jah w k (jxs (jLw.dl w k) (9 * s) s))) (nI 0) (jW L ω S) = k37 (jad L (jo 7)) (jad L (jl (2 * k + sw) 1)) (nI (s + 1)) (jW L ω T) ∧ jLK T sw ps wy ∧ jeqv (fun c => ¬ jisK c) S T ∧ jXS (jLw.dl w k) T (9 * (s + 1)) := by
  have h16 := hw.n16
  have hs1 := hC.s1
  have hδ : ∀ s l, jLw.dl w k s l < 1024 := fun s l => jdl_lt (hw.sz k hk hp)
  obtain ⟨n, T, e1, a1, a2, a3⟩ := jlpI (fun n i (T : jSt) => f_AutomatonMaker_explore_85 k37 n (jad L (jo 7)) (jad L (jl (2 * k + sw) 1)) (nI s) (nI (jah w k (jxs (jLw.dl w k) (9 * s) s))) (nI i) (jW L ω T)) (fun i T => jLK T sw ps wy ∧ jeqv (fun c => ¬ jisK c) S T ∧ jXS (jLw.dl w k) T (9 * s + i)) (lo := 0) (hi := 9) (Nat.zero_le _) (by omega) (by
    intro n i T _ hi ⟨b1, b2, b3⟩
    have hC2 := hC.K b2
    obtain ⟨t, ht, et, htb⟩ := hC2.tk k i hk hp hi
    have hle : jxs (jLw.dl w k) (9 * s) s ≤ 1024 := (jx_inv hδ (9 * s)).d s hst
    have e4 := jah_st hL (ω := ω) b1 hw hC2 hk hp hle htb
    have ekeep : jxs (jLw.dl w k) (9 * s + i) s = jxs (jLw.dl w k) (9 * s) s := (jx_keep (show 9 * s ≤ 9 * s + i by omega)).1 s hst
    have ext : jxt (jLw.dl w k) (9 * s + i) = jLw.dl w k (jxs (jLw.dl w k) (9 * s) s) i := by
      unfold jxt
      rw [show (9 * s + i) / 9 = s by omega, show (9 * s + i) % 9 = i by omega, ekeep]
    have ha := jah_lt hw hk hp (jxs (jLw.dl w k) (9 * s) s)
    have e5 : nI (jah w k (jxs (jLw.dl w k) (9 * s) s)) &&& nI t = nI (jxt (jLw.dl w k) (9 * s + i)) := by
      rw [jand (by omega) (by omega), e4, ext]
    obtain ⟨T', c1, c2, c3, c4⟩ := b3.pair hL (ω := ω) hδ b1 (by omega)
    refine ⟨jsA T' (jo 10) (9 * s + i) (nI (jxg (jLw.dl w k) (9 * s + i))), ?_, c2, (b2.trans c3).trans (jeqv.sA _ _ _ jK10), c4⟩
    show f_AutomatonMaker_explore_85 k37 (n + 1) _ _ _ _ _ _ = f_AutomatonMaker_explore_85 k37 n _ _ _ _ _ _
    rw [f_AutomatonMaker_explore_85]
    have hK := b1
    simp (disch := first | omega | rfl | assumption | exact jokr (by decide) (by omega) | exact jokr4 (by omega) | exact jkt_r _ _ | exact jkt_l (by decide) | exact jfk_l (by decide) | exact jkt_t _ | exact jkt_r6 _ _ | exact jkt_t6 _ | (simp only [jok, jlen]; omega) | decide) only [jm_k hL, jm_gi hL, jm_gr hL, jm_gl hL, jm_pi hL, jm_pl hL, jn_ai hL, jn_ab hL, jn_az hL, jn_al hL, jn_ar hL, jn_an hL, jn_si hL, jn_sb hL, jn_sz hL, jn_sl hL, Option.bind_some, xc, xl, jsA_X, jsI_X, jsG_X, hK _ _, jlk, jmx, jlit, jmul, nI_add, nI_leI, if_neg, et, e5, c1]
    rw [Nat.mul_comm s 9]) S ⟨hK, jeqv.refl _ _, h⟩
  refine ⟨T, ?_, a1, a2, by rw [show 9 * (s + 1) = 9 * s + 9 by omega]; exact a3⟩
  refine e1.trans ?_
  show f_AutomatonMaker_explore_85 k37 (n + 1) _ _ _ _ _ _ = _
  rw [f_AutomatonMaker_explore_85]
  simp (disch := first | omega | rfl | assumption | exact jokr (by decide) (by omega) | exact jokr4 (by omega) | exact jkt_r _ _ | exact jkt_l (by decide) | exact jfk_l (by decide) | exact jkt_t _ | exact jkt_r6 _ _ | exact jkt_t6 _ | (simp only [jok, jlen]; omega) | decide) only [jlit, nI_add, nI_leI, if_pos]
theorem jKM_explore {L : jL} (hL : jgood L) {ω : xS} {S : jSt} {sw ps wy : Nat} (hK : jLK S sw ps wy) {w : jLw} (hw : jLg L w) (hC : jLC L S w sw) {k N : Nat} (hk : k < jLw.n w) (hp : jLw.pt w k) (hN : jisN (jLw.dl w k) N) : ∃ T, f_AutomatonMaker_explore (jad L (jo 7)) (jad L (jl (2 * k + sw) 1)) (jW L ω S) = some (jW L ω T) ∧ jLK T sw ps wy ∧ jeqv (fun c => ¬ jisK c) S T ∧ jXS (jLw.dl w k) T (9 * N) := by
  have h16 := hw.n16
  have hs1 := hC.s1
  have hδ : ∀ s l, jLw.dl w k s l < 1024 := fun s l => jdl_lt (hw.sz k hk hp)
  have hNu := hN.u
  obtain ⟨n, T1, e1, a1, a2, a3⟩ := jlpI (fun n i (T : jSt) => f_AutomatonMaker_explore_2 n (jad L (jo 7)) (jad L (jl (2 * k + sw) 1)) (nI i) (jW L ω T)) (fun i T => jLK T sw ps wy ∧ jeqv (fun c => ¬ jisK c) S T ∧ ∀ x, x < i → jgA T (jo 9) x = nI 0) (lo := 0) (hi := 1025) (Nat.zero_le _) (by omega) (by
    intro n i T _ hi ⟨b1, b2, b3⟩
    refine ⟨jsA T (jo 9) i (nI 0), ?_, b1, b2.trans (jeqv.sA _ _ _ jK9), fun x hx => ?_⟩
    · show f_AutomatonMaker_explore_2 (n + 1) _ _ _ _ = f_AutomatonMaker_explore_2 n _ _ _ _
      rw [f_AutomatonMaker_explore_2]
      have hK := b1
      simp (disch := first | omega | rfl | assumption | exact jokr (by decide) (by omega) | exact jokr4 (by omega) | exact jkt_r _ _ | exact jkt_l (by decide) | exact jfk_l (by decide) | exact jkt_t _ | exact jkt_r6 _ _ | exact jkt_t6 _ | (simp only [jok, jlen]; omega) | decide) only [jm_k hL, jm_gi hL, jm_gr hL, jm_gl hL, jm_pi hL, jm_pl hL, jn_ai hL, jn_ab hL, jn_az hL, jn_al hL, jn_ar hL, jn_an hL, jn_si hL, jn_sb hL, jn_sz hL, jn_sl hL, Option.bind_some, xc, xl, jsA_X, jsI_X, jsG_X, hK _ _, jlk, jmx, jlit, nI_add, nI_leI, if_neg]
    · rw [jsA_c]
      by_cases c : x = i
      · rw [if_pos c]
      · rw [if_neg c]; exact b3 x (by omega)) S ⟨hK, jeqv.refl _ _, fun x hx => absurd hx (Nat.not_lt_zero x)⟩
  have hz : jgA (jsI T1 (jo 7) 8 (nI 0)) (jo 9) 1024 = nI 0 := a3 1024 (by omega)
  have hn0 := jKM_new hL (ω := ω) (a1.sI (jo 7) 8 (nI 0)) (x := 1024) (c := 0) (by omega) hz (by rw [jsI_I, if_pos ⟨rfl, rfl⟩]) (by omega)
  have x0 : jXS (jLw.dl w k) (jsA (jsI (jsA (jsI T1 (jo 7) 8 (nI 0)) (jo 8) 0 (nI 1024)) (jo 7) 8 (nI (0 + 1))) (jo 9) 1024 (nI (0 + 1))) (9 * 0) := by
    refine ⟨?_, fun i hi => ?_, fun x hx => ?_, fun i hi => absurd hi (Nat.not_lt_zero i)⟩
    · rw [jsA_I, jsI_I, if_pos ⟨rfl, rfl⟩]; rfl
    · have hi : i < 1 := hi
      rw [jsA_ne (by decide), jsI_A, jsA_c, if_pos (by omega)]
      rfl
    · rw [jsA_c]
      show _ = nI (if x = 1024 then 1 else 0)
      by_cases c : x = 1024
      · rw [if_pos c, if_pos c]
      · rw [if_neg c, if_neg c, jsI_A, jsA_ne (by decide), jsI_A]
        exact a3 x (by omega)
  obtain ⟨n2, T2, e2, c1, c2, c3⟩ := jlpI (fun n i (T : jSt) => f_AutomatonMaker_explore_37 n (jad L (jo 7)) (jad L (jl (2 * k + sw) 1)) (nI i) (jW L ω T)) (fun i T => jLK T sw ps wy ∧ jeqv (fun c => ¬ jisK c) S T ∧ jXS (jLw.dl w k) T (9 * i)) (lo := 0) (hi := N) (Nat.zero_le _) (by omega) (by
    intro n i T _ hi ⟨b1, b2, b3⟩
    have hC2 := hC.K b2
    have hst := hN.k i hi
    have hcl := jx_le hδ (9 * i)
    obtain ⟨T', d1, d2, d3, d4⟩ := jEx_85 hL (ω := ω) b1 hw hC2 hk hp (by omega) hst b3 (k37 := f_AutomatonMaker_explore_37 n)
    refine ⟨T', ?_, d2, b2.trans d3, d4⟩
    have hle : jxs (jLw.dl w k) (9 * i) i ≤ 1024 := (jx_inv hδ (9 * i)).d i hst
    have v1 := b3.s i hst
    have v2 := b3.c
    have hK := b1
    show f_AutomatonMaker_explore_37 (n + 1) _ _ _ _ = f_AutomatonMaker_explore_37 n _ _ _ _
    rw [f_AutomatonMaker_explore_37]
    simp (disch := first | omega | rfl | assumption | exact jokr (by decide) (by omega) | exact jokr4 (by omega) | exact jkt_r _ _ | exact jkt_l (by decide) | exact jfk_l (by decide) | exact jkt_t _ | exact jkt_r6 _ _ | exact jkt_t6 _ | (simp only [jok, jlen]; omega) | decide) only [jm_k hL, jm_gi hL, jm_gr hL, jm_gl hL, jm_pi hL, jm_pl hL, jn_ai hL, jn_ab hL, jn_az hL, jn_al hL, jn_ar hL, jn_an hL, jn_si hL, jn_sb hL, jn_sz hL, jn_sl hL, Option.bind_some, xc, xl, jsA_X, jsI_X, jsG_X, hK _ _, jlk, jmx, jlit, nI_leI, nI_eq, if_neg, v1, v2]
    by_cases c : jxs (jLw.dl w k) (9 * i) i = 1024
    · rw [if_pos c]
      simp (disch := first | omega | rfl | assumption | exact jokr (by decide) (by omega) | exact jokr4 (by omega) | exact jkt_r _ _ | exact jkt_l (by decide) | exact jfk_l (by decide) | exact jkt_t _ | exact jkt_r6 _ _ | exact jkt_t6 _ | (simp only [jok, jlen]; omega) | decide) only [jm_k hL, jm_gi hL, jm_gr hL, jm_gl hL, jm_pi hL, jm_pl hL, jn_ai hL, jn_ab hL, jn_az hL, jn_al hL, jn_ar hL, jn_an hL, jn_si hL, jn_sb hL, jn_sz hL, jn_sl hL, Option.bind_some, xc, xl, hC2.fi]
      refine Eq.trans ?_ d1
      rw [c]
      rfl
    · rw [if_neg c]
      simp (disch := first | omega | rfl | assumption | exact jokr (by decide) (by omega) | exact jokr4 (by omega) | exact jkt_r _ _ | exact jkt_l (by decide) | exact jfk_l (by decide) | exact jkt_t _ | exact jkt_r6 _ _ | exact jkt_t6 _ | (simp only [jok, jlen]; omega) | decide) only [jm_k hL, jm_gi hL, jm_gr hL, jm_gl hL, jm_pi hL, jm_pl hL, jn_ai hL, jn_ab hL, jn_az hL, jn_al hL, jn_ar hL, jn_an hL, jn_si hL, jn_sb hL, jn_sz hL, jn_sl hL, Option.bind_some, xc, xl, jPo_after hL hK hw hC2 hk hp (show jxs (jLw.dl w k) (9 * i) i < 1024 by omega)]
      refine Eq.trans ?_ d1
      unfold jah
      rw [if_neg c]) (jsA (jsI (jsA (jsI T1 (jo 7) 8 (nI 0)) (jo 8) 0 (nI 1024)) (jo 7) 8 (nI (0 + 1))) (jo 9) 1024 (nI (0 + 1))) ⟨a1, (((a2.trans (jeqv.sI _ _ _ jK7)).trans (jeqv.sA _ _ _ jK8)).trans (jeqv.sI _ _ _ jK7)).trans (jeqv.sA _ _ _ jK9), x0⟩
  refine ⟨T2, ?_, c1, c2, c3⟩
  unfold f_AutomatonMaker_explore
  refine e1.trans ?_
  show f_AutomatonMaker_explore_2 (n + 1) _ _ _ _ = _
  rw [f_AutomatonMaker_explore_2, if_pos (show (1025 : Int32) ≤ nI 1025 from (nI_leI (a := 1025) (b := 1025) (by omega) (by omega)).mpr (Nat.le_refl _))]
  simp (disch := first | omega | rfl | assumption | exact jokr (by decide) (by omega) | exact jokr4 (by omega) | exact jkt_r _ _ | exact jkt_l (by decide) | exact jfk_l (by decide) | exact jkt_t _ | exact jkt_r6 _ _ | exact jkt_t6 _ | (simp only [jok, jlen]; omega) | decide) only [jm_k hL, jm_gi hL, jm_gr hL, jm_gl hL, jm_pi hL, jm_pl hL, jn_ai hL, jn_ab hL, jn_az hL, jn_al hL, jn_ar hL, jn_an hL, jn_si hL, jn_sb hL, jn_sz hL, jn_sl hL, Option.bind_some, xc, xl, jlit, hn0]
  refine e2.trans ?_
  show f_AutomatonMaker_explore_37 (n2 + 1) _ _ _ _ = _
  rw [f_AutomatonMaker_explore_37]
  have v2 := c3.c
  rw [hN.e] at v2
  simp (disch := first | omega | rfl | assumption | exact jokr (by decide) (by omega) | exact jokr4 (by omega) | exact jkt_r _ _ | exact jkt_l (by decide) | exact jfk_l (by decide) | exact jkt_t _ | exact jkt_r6 _ _ | exact jkt_t6 _ | (simp only [jok, jlen]; omega) | decide) only [jm_k hL, jm_gi hL, jm_gr hL, jm_gl hL, jm_pi hL, jm_pl hL, jn_ai hL, jn_ab hL, jn_az hL, jn_al hL, jn_ar hL, jn_an hL, jn_si hL, jn_sb hL, jn_sz hL, jn_sl hL, Option.bind_some, xc, xl, v2, nI_leI, if_pos]
