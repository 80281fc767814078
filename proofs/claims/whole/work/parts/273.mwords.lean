/-! THE REFERENCE COUNTS WORDS -/
def jsimX (S S' : jSt) : Prop := jgI S' = jgI S ∧ jgA S' = jgA S ∧ jgN S' = jgN S ∧ jgX S' = jgX S
theorem jsimX.refl (S : jSt) : jsimX S S := ⟨rfl, rfl, rfl, rfl⟩
theorem jsimX.trans {S S' S'' : jSt} (h : jsimX S S') (h' : jsimX S' S'') : jsimX S S'' := ⟨h'.1.trans h.1, h'.2.1.trans h.2.1, h'.2.2.1.trans h.2.2.1, h'.2.2.2.trans h.2.2.2⟩
theorem jsimX.sG (S : jSt) (c : jC) (k : Nat) (v : Int64) : jsimX S (jsG S c k v) := ⟨rfl, rfl, rfl, rfl⟩
theorem jLM.sim {S S' : jSt} {w : jLw} (h : jLM S w) (e : jsimX S S') : jLM S' w := h.same (by rw [e.1]) (fun q _ _ => by rw [e.2.1])
theorem jLK.of' {S S' : jSt} {sw ps wy : Nat} (h : jLK S sw ps wy) (e : jsimX S S') : jLK S' sw ps wy := h.of e.2.2.2
theorem jix9 (k s l : Nat) : 9 * (1025 * k + s) + l = 9225 * k + (9 * s + l) := by omega
theorem jMW_115 {L : jL} (hL : jgood L) {ω : xS} {S : jSt} {sw ps wy : Nat} (hK : jLK S sw ps wy) {w : jLw} (hw : jLg L w) (hM : jLM S w) {k s : Nat} (hk : k < jLw.n w) (hp : jLw.pt w k) (hs : s < jLw.ns w k) {k65 : Nat → Int32 → Int32 → Int32 → xS → Option (Int64 × xS)} {k101 : Nat → Int32 → Int32 → Int32 → Int32 → xS → Option (Int64 × xS)} {x2 x3 : Int32} : ∃ S', f_Mo_words_115 k65 k101 xFU (jad L (jm 0)) (nI k) x2 x3 (nI s) (nI 0) (jW L ω S) = k101 (jad L (jm 0)) (nI k) x2 x3 (nI (s + 1)) (jW L ω S') ∧ jsimX S S' ∧ jgG S' (jm 45) = jgG S (jm 45) ∧ ∀ t, t < jLw.ns w k → jgG S' (jm 46) t = jgG S (jm 46) t + jsl (fun l => if t = jLw.nx w k (9 * s + l) then jgG S (jm 45) s else 0) 9 := by
  have h16 := hw.n16
  have hns := hw.ns k hk hp
  obtain ⟨n, S1, e1, a1, a2, a3⟩ := jlpI (fun n i (T : jSt) => f_Mo_words_115 k65 k101 n (jad L (jm 0)) (nI k) x2 x3 (nI s) (nI i) (jW L ω T)) (fun i T => jsimX S T ∧ jgG T (jm 45) = jgG S (jm 45) ∧ ∀ t, t < jLw.ns w k → jgG T (jm 46) t = jgG S (jm 46) t + jsl (fun l => if t = jLw.nx w k (9 * s + l) then jgG S (jm 45) s else 0) i) (lo := 0) (hi := 9) (Nat.zero_le _) (by omega) (by
    intro n i T _ hi ⟨b1, b2, b3⟩
    have hx := hw.nx k (9 * s + i) hk hp (by omega)
    have hK := hK.of' b1
    have hM := hM.sim b1
    refine ⟨jsG T (jm 46) (jLw.nx w k (9 * s + i)) (jgG T (jm 46) (jLw.nx w k (9 * s + i)) + jgG T (jm 45) s), ?_, b1.trans (jsimX.sG _ _ _ _), ?_, ?_⟩
    · show f_Mo_words_115 k65 k101 (n + 1) _ _ _ _ _ _ _ = f_Mo_words_115 k65 k101 n _ _ _ _ _ _ _
      rw [f_Mo_words_115]
      simp (disch := first | omega | rfl | assumption | exact jokr (by decide) (by omega) | exact jokr4 (by omega) | exact jkt_r _ _ | exact jkt_l (by decide) | exact jfk_l (by decide) | exact jkt_t _ | exact jkt_r6 _ _ | exact jkt_t6 _ | (simp only [jok, jlen]; omega) | decide) only [jm_k hL, jm_gi hL, jm_gr hL, jm_gl hL, jm_pi hL, jm_pl hL, jn_ai hL, jn_ab hL, jn_az hL, jn_al hL, jn_ar hL, jn_an hL, jn_si hL, jn_sb hL, jn_sz hL, jn_sl hL, Option.bind_some, xc, xl, jsA_X, jsI_X, jsG_X, hK _ _, jlk, jmx, jlit, jmul, nI_add, nI_leI, if_neg, jix9, hM.nx]
    · rw [jsG_o (jmne (by decide))]; exact b2
    · intro t ht
      rw [jsG_c, jsl, ← Int64.add_assoc]
      by_cases c : t = jLw.nx w k (9 * s + i)
      · rw [if_pos c, if_pos c, ← c, b3 t ht, b2]
      · rw [if_neg c, if_neg c, b3 t ht, Int64.add_zero]) S ⟨jsimX.refl S, rfl, fun t _ => by rw [jsl, Int64.add_zero]⟩
  refine ⟨S1, ?_, a1, a2, a3⟩
  refine e1.trans ?_
  show f_Mo_words_115 k65 k101 (n + 1) _ _ _ _ _ _ _ = _
  rw [f_Mo_words_115]
  simp (disch := first | omega | rfl | assumption | exact jokr (by decide) (by omega) | exact jokr4 (by omega) | exact jkt_r _ _ | exact jkt_l (by decide) | exact jfk_l (by decide) | exact jkt_t _ | exact jkt_r6 _ _ | exact jkt_t6 _ | (simp only [jok, jlen]; omega) | decide) only [jlit, nI_add, nI_leI, if_pos]
theorem jMW_101 {L : jL} (hL : jgood L) {ω : xS} {S : jSt} {sw ps wy : Nat} (hK : jLK S sw ps wy) {w : jLw} (hw : jLg L w) (hM : jLM S w) {k : Nat} (hk : k < jLw.n w) (hp : jLw.pt w k) (hz : ∀ t, t < jLw.ns w k → jgG S (jm 46) t = 0) {k65 : Nat → Int32 → Int32 → Int32 → xS → Option (Int64 × xS)} {x2 x3 : Int32} : ∃ S', f_Mo_words_101 k65 xFU (jad L (jm 0)) (nI k) x2 x3 (nI 0) (jW L ω S) = f_Mo_words_171 k65 xFU (jad L (jm 0)) (nI k) x2 x3 (nI 0) (jW L ω S') ∧ jsimX S S' ∧ jgG S' (jm 45) = jgG S (jm 45) ∧ ∀ t, t < jLw.ns w k → jgG S' (jm 46) t = jfwd (jLw.ns w k) (jLw.nx w k) (jgG S (jm 45)) t := by
  have h16 := hw.n16
  have hns := hw.ns k hk hp
  obtain ⟨n, S1, e1, a1, a2, a3⟩ := jlpI (fun n i (T : jSt) => f_Mo_words_101 k65 n (jad L (jm 0)) (nI k) x2 x3 (nI i) (jW L ω T)) (fun i T => jsimX S T ∧ jgG T (jm 45) = jgG S (jm 45) ∧ ∀ t, t < jLw.ns w k → jgG T (jm 46) t = jsl (fun s => jsl (fun l => if t = jLw.nx w k (9 * s + l) then jgG S (jm 45) s else 0) 9) i) (lo := 0) (hi := jLw.ns w k) (Nat.zero_le _) (by omega) (by
    intro n i T _ hi ⟨b1, b2, b3⟩
    have hK := hK.of' b1
    have hM := hM.sim b1
    obtain ⟨S', c1, c2, c3, c4⟩ := jMW_115 hL (ω := ω) hK hw hM hk hp hi (k65 := k65) (k101 := f_Mo_words_101 k65 n) (x2 := x2) (x3 := x3)
    refine ⟨S', ?_, b1.trans c2, c3.trans b2, ?_⟩
    · show f_Mo_words_101 k65 (n + 1) _ _ _ _ _ _ = f_Mo_words_101 k65 n _ _ _ _ _ _
      rw [f_Mo_words_101]
      simp (disch := first | omega | rfl | assumption | exact jokr (by decide) (by omega) | exact jokr4 (by omega) | exact jkt_r _ _ | exact jkt_l (by decide) | exact jfk_l (by decide) | exact jkt_t _ | exact jkt_r6 _ _ | exact jkt_t6 _ | (simp only [jok, jlen]; omega) | decide) only [jm_k hL, jm_gi hL, jm_gr hL, jm_gl hL, jm_pi hL, jm_pl hL, jn_ai hL, jn_ab hL, jn_az hL, jn_al hL, jn_ar hL, jn_an hL, jn_si hL, jn_sb hL, jn_sz hL, jn_sl hL, Option.bind_some, xc, xl, jsA_X, jsI_X, jsG_X, hK _ _, jlk, jmx, jlit, nI_leI, if_neg, hM.ns]
      exact c1
    · intro t ht
      rw [c4 t ht, b3 t ht, b2]
      rfl) S ⟨jsimX.refl S, rfl, fun t ht => hz t ht⟩
  refine ⟨S1, ?_, a1, a2, a3⟩
  refine e1.trans ?_
  show f_Mo_words_101 k65 (n + 1) _ _ _ _ _ _ = _
  have hK := hK.of' a1
  have hM := hM.sim a1
  rw [f_Mo_words_101]
  simp (disch := first | omega | rfl | assumption | exact jokr (by decide) (by omega) | exact jokr4 (by omega) | exact jkt_r _ _ | exact jkt_l (by decide) | exact jfk_l (by decide) | exact jkt_t _ | exact jkt_r6 _ _ | exact jkt_t6 _ | (simp only [jok, jlen]; omega) | decide) only [jm_k hL, jm_gi hL, jm_gr hL, jm_gl hL, jm_pi hL, jm_pl hL, jn_ai hL, jn_ab hL, jn_az hL, jn_al hL, jn_ar hL, jn_an hL, jn_si hL, jn_sb hL, jn_sz hL, jn_sl hL, Option.bind_some, xc, xl, jsA_X, jsI_X, jsG_X, hK _ _, jlk, jmx, jlit, nI_leI, if_pos, hM.ns]
theorem jMW_round {L : jL} (hL : jgood L) {ω : xS} {S : jSt} {sw ps wy : Nat} (hK : jLK S sw ps wy) {w : jLw} (hw : jLg L w) (hM : jLM S w) {k : Nat} (hk : k < jLw.n w) (hp : jLw.pt w k) {k65 : Nat → Int32 → Int32 → Int32 → xS → Option (Int64 × xS)} {x2 : Int32} {r : Nat} : ∃ S', f_Mo_words_73 k65 xFU (jad L (jm 0)) (nI k) x2 (nI r) (nI 0) (jW L ω S) = k65 (jad L (jm 0)) (nI k) x2 (nI (r + 1)) (jW L ω S') ∧ jsimX S S' ∧ ∀ t, t < jLw.ns w k → jgG S' (jm 45) t = jfwd (jLw.ns w k) (jLw.nx w k) (jgG S (jm 45)) t := by
  have h16 := hw.n16
  have hns := hw.ns k hk hp
  obtain ⟨n, S1, e1, a1, a2, a3⟩ := jlpI (fun n i (T : jSt) => f_Mo_words_73 k65 n (jad L (jm 0)) (nI k) x2 (nI r) (nI i) (jW L ω T)) (fun i T => jsimX S T ∧ jgG T (jm 45) = jgG S (jm 45) ∧ ∀ t, t < i → jgG T (jm 46) t = 0) (lo := 0) (hi := jLw.ns w k) (Nat.zero_le _) (by omega) (by
    intro n i T _ hi ⟨b1, b2, b3⟩
    have hK := hK.of' b1
    have hM := hM.sim b1
    refine ⟨jsG T (jm 46) i 0, ?_, b1.trans (jsimX.sG _ _ _ _), ?_, ?_⟩
    · show f_Mo_words_73 k65 (n + 1) _ _ _ _ _ _ = f_Mo_words_73 k65 n _ _ _ _ _ _
      rw [f_Mo_words_73]
      simp (disch := first | omega | rfl | assumption | exact jokr (by decide) (by omega) | exact jokr4 (by omega) | exact jkt_r _ _ | exact jkt_l (by decide) | exact jfk_l (by decide) | exact jkt_t _ | exact jkt_r6 _ _ | exact jkt_t6 _ | (simp only [jok, jlen]; omega) | decide) only [jm_k hL, jm_gi hL, jm_gr hL, jm_gl hL, jm_pi hL, jm_pl hL, jn_ai hL, jn_ab hL, jn_az hL, jn_al hL, jn_ar hL, jn_an hL, jn_si hL, jn_sb hL, jn_sz hL, jn_sl hL, Option.bind_some, xc, xl, jsA_X, jsI_X, jsG_X, hK _ _, jlk, jmx, jlit, nI_add, nI_leI, if_neg, hM.ns]
    · rw [jsG_o (jmne (by decide))]; exact b2
    · intro t ht
      rw [jsG_c]
      by_cases c : t = i
      · rw [if_pos c]
      · rw [if_neg c]; exact b3 t (by omega)) S ⟨jsimX.refl S, rfl, fun t ht => absurd ht (Nat.not_lt_zero t)⟩
  have hK1 := hK.of' a1
  have hM1 := hM.sim a1
  obtain ⟨S2, c1, c2, c3, c4⟩ := jMW_101 hL (ω := ω) hK1 hw hM1 hk hp a3 (k65 := k65) (x2 := x2) (x3 := nI r)
  have a2' : jsimX S S2 := a1.trans c2
  obtain ⟨n3, S3, e3, d1, d2, d3⟩ := jlpI (fun n i (T : jSt) => f_Mo_words_171 k65 n (jad L (jm 0)) (nI k) x2 (nI r) (nI i) (jW L ω T)) (fun i T => jsimX S T ∧ jgG T (jm 46) = jgG S2 (jm 46) ∧ ∀ t, t < i → jgG T (jm 45) t = jgG S2 (jm 46) t) (lo := 0) (hi := jLw.ns w k) (Nat.zero_le _) (by omega) (by
    intro n i T _ hi ⟨b1, b2, b3⟩
    have hK := hK.of' b1
    have hM := hM.sim b1
    refine ⟨jsG T (jm 45) i (jgG T (jm 46) i), ?_, b1.trans (jsimX.sG _ _ _ _), ?_, ?_⟩
    · show f_Mo_words_171 k65 (n + 1) _ _ _ _ _ _ = f_Mo_words_171 k65 n _ _ _ _ _ _
      rw [f_Mo_words_171]
      simp (disch := first | omega | rfl | assumption | exact jokr (by decide) (by omega) | exact jokr4 (by omega) | exact jkt_r _ _ | exact jkt_l (by decide) | exact jfk_l (by decide) | exact jkt_t _ | exact jkt_r6 _ _ | exact jkt_t6 _ | (simp only [jok, jlen]; omega) | decide) only [jm_k hL, jm_gi hL, jm_gr hL, jm_gl hL, jm_pi hL, jm_pl hL, jn_ai hL, jn_ab hL, jn_az hL, jn_al hL, jn_ar hL, jn_an hL, jn_si hL, jn_sb hL, jn_sz hL, jn_sl hL, Option.bind_some, xc, xl, jsA_X, jsI_X, jsG_X, hK _ _, jlk, jmx, jlit, nI_add, nI_leI, if_neg, hM.ns]
    · rw [jsG_o (jmne (by decide))]; exact b2
    · intro t ht
      rw [jsG_c]
      by_cases c : t = i
      · rw [if_pos c, c, b2]
      · rw [if_neg c]; exact b3 t (by omega)) S2 ⟨a2', rfl, fun t ht => absurd ht (Nat.not_lt_zero t)⟩
  refine ⟨S3, ?_, d1, ?_⟩
  · refine e1.trans ?_
    show f_Mo_words_73 k65 (n + 1) _ _ _ _ _ _ = _
    have e4 : f_Mo_words_73 k65 (n + 1) (jad L (jm 0)) (nI k) x2 (nI r) (nI (jLw.ns w k)) (jW L ω S1) = f_Mo_words_101 k65 xFU (jad L (jm 0)) (nI k) x2 (nI r) (nI 0) (jW L ω S1) := by
      have hK := hK1
      have hM := hM1
      rw [f_Mo_words_73]
      simp (disch := first | omega | rfl | assumption | exact jokr (by decide) (by omega) | exact jokr4 (by omega) | exact jkt_r _ _ | exact jkt_l (by decide) | exact jfk_l (by decide) | exact jkt_t _ | exact jkt_r6 _ _ | exact jkt_t6 _ | (simp only [jok, jlen]; omega) | decide) only [jm_k hL, jm_gi hL, jm_gr hL, jm_gl hL, jm_pi hL, jm_pl hL, jn_ai hL, jn_ab hL, jn_az hL, jn_al hL, jn_ar hL, jn_an hL, jn_si hL, jn_sb hL, jn_sz hL, jn_sl hL, Option.bind_some, xc, xl, jsA_X, jsI_X, jsG_X, hK _ _, jlk, jmx, jlit, nI_leI, if_pos, hM.ns]
    refine e4.trans (c1.trans (e3.trans ?_))
    show f_Mo_words_171 k65 (n3 + 1) _ _ _ _ _ _ = _
    have hK := hK.of' d1
    have hM := hM.sim d1
    rw [f_Mo_words_171]
    simp (disch := first | omega | rfl | assumption | exact jokr (by decide) (by omega) | exact jokr4 (by omega) | exact jkt_r _ _ | exact jkt_l (by decide) | exact jfk_l (by decide) | exact jkt_t _ | exact jkt_r6 _ _ | exact jkt_t6 _ | (simp only [jok, jlen]; omega) | decide) only [jm_k hL, jm_gi hL, jm_gr hL, jm_gl hL, jm_pi hL, jm_pl hL, jn_ai hL, jn_ab hL, jn_az hL, jn_al hL, jn_ar hL, jn_an hL, jn_si hL, jn_sb hL, jn_sz hL, jn_sl hL, Option.bind_some, xc, xl, jsA_X, jsI_X, jsG_X, hK _ _, jlk, jmx, jlit, nI_add, nI_leI, if_pos, hM.ns]
  · intro t ht
    rw [d3 t ht, c4 t ht, a2]
theorem jfwd_ext {n : Nat} {tg : Nat → Nat} {v v' : Nat → Int64} (h : ∀ s, s < n → v s = v' s) (t : Nat) : jfwd n tg v t = jfwd n tg v' t := jsl_ext fun s hs => jsl_ext fun l _ => by rw [h s hs]
theorem jMW_words {L : jL} (hL : jgood L) {ω : xS} {S : jSt} {sw ps wy : Nat} (hK : jLK S sw ps wy) {w : jLw} (hw : jLg L w) (hM : jLM S w) {k x : Nat} (hk : k < jLw.n w) (hp : jLw.pt w k) (hx : x ≤ 40) : ∃ S', f_Mo_words_32 xFU (jad L (jm 0)) (nI k) (nI x) (nI 0) (jW L ω S) = some (jbw (jLw.nx w k) (fun s => Int32.toInt64 (nI (jLw.fe w k s))) x 0, jW L ω S') ∧ jsimX S S' := by
  have h16 := hw.n16
  have hns := hw.ns k hk hp
  obtain ⟨n, S1, e1, a1, a3⟩ := jlpI (fun n i (T : jSt) => f_Mo_words_32 n (jad L (jm 0)) (nI k) (nI x) (nI i) (jW L ω T)) (fun i T => jsimX S T ∧ ∀ t, t < i → jgG T (jm 45) t = jfw (jLw.ns w k) (jLw.nx w k) 0 t) (lo := 0) (hi := jLw.ns w k) (Nat.zero_le _) (by omega) (by
    intro n i T _ hi ⟨b1, b3⟩
    have hK := hK.of' b1
    have hM := hM.sim b1
    refine ⟨jsG T (jm 45) i (if i = 0 then 1 else 0), ?_, b1.trans (jsimX.sG _ _ _ _), ?_⟩
    · show f_Mo_words_32 (n + 1) _ _ _ _ _ = f_Mo_words_32 n _ _ _ _ _
      rw [f_Mo_words_32]
      simp (disch := first | omega | rfl | assumption | exact jokr (by decide) (by omega) | exact jokr4 (by omega) | exact jkt_r _ _ | exact jkt_l (by decide) | exact jfk_l (by decide) | exact jkt_t _ | exact jkt_r6 _ _ | exact jkt_t6 _ | (simp only [jok, jlen]; omega) | decide) only [jm_k hL, jm_gi hL, jm_gr hL, jm_gl hL, jm_pi hL, jm_pl hL, jn_ai hL, jn_ab hL, jn_az hL, jn_al hL, jn_ar hL, jn_an hL, jn_si hL, jn_sb hL, jn_sz hL, jn_sl hL, Option.bind_some, xc, xl, jsA_X, jsI_X, jsG_X, hK _ _, jlk, jmx, jlit, nI_add, nI_leI, nI_eq, if_neg, hM.ns]
      by_cases c : i = 0
      · rw [if_pos c, if_pos c]
      · rw [if_neg c, if_neg c]
    · intro t ht
      rw [jsG_c]
      by_cases c : t = i
      · rw [if_pos c, c]; rfl
      · rw [if_neg c]; exact b3 t (by omega)) S ⟨jsimX.refl S, fun t ht => absurd ht (Nat.not_lt_zero t)⟩
  obtain ⟨n2, S2, e2, c1, c3⟩ := jlpI (fun n i (T : jSt) => f_Mo_words_65 n (jad L (jm 0)) (nI k) (nI x) (nI i) (jW L ω T)) (fun i T => jsimX S T ∧ ∀ t, t < jLw.ns w k → jgG T (jm 45) t = jfw (jLw.ns w k) (jLw.nx w k) i t) (lo := 0) (hi := x) (Nat.zero_le _) (by omega) (by
    intro n i T _ hi ⟨b1, b3⟩
    have hK := hK.of' b1
    have hM := hM.sim b1
    obtain ⟨S', d1, d2, d3⟩ := jMW_round hL (ω := ω) hK hw hM hk hp (k65 := f_Mo_words_65 n) (x2 := nI x) (r := i)
    refine ⟨S', ?_, b1.trans d2, ?_⟩
    · show f_Mo_words_65 (n + 1) _ _ _ _ _ = f_Mo_words_65 n _ _ _ _ _
      rw [f_Mo_words_65, if_neg (fun q => by have := (nI_leI (by omega) (by omega)).mp q; omega)]
      exact d1
    · intro t ht
      rw [d3 t ht, jfwd_ext b3]
      rfl) S1 ⟨a1, a3⟩
  have hK2 := hK.of' c1
  have hM2 := hM.sim c1
  have e3 : f_Mo_words_213 xFU (jad L (jm 0)) (nI k) 0 (nI 0) (jW L ω S2) = some (jsl (fun s => jfw (jLw.ns w k) (jLw.nx w k) x s * Int32.toInt64 (nI (jLw.fe w k s))) (jLw.ns w k), jW L ω S2) := by
    refine jlpx (fun n i y => f_Mo_words_213 n (jad L (jm 0)) (nI k) y (nI i) (jW L ω S2)) (fun i => jsl (fun s => jfw (jLw.ns w k) (jLw.nx w k) x s * Int32.toInt64 (nI (jLw.fe w k s))) i) (lo := 0) (hi := jLw.ns w k) (Nat.zero_le _) (by omega) ?_ ?_
    · intro n i _ hi
      have hfe := hw.fe k i hk hp
      have hK := hK2
      rw [f_Mo_words_213]
      simp (disch := first | omega | rfl | assumption | exact jokr (by decide) (by omega) | exact jokr4 (by omega) | exact jkt_r _ _ | exact jkt_l (by decide) | exact jfk_l (by decide) | exact jkt_t _ | exact jkt_r6 _ _ | exact jkt_t6 _ | (simp only [jok, jlen]; omega) | decide) only [jm_k hL, jm_gi hL, jm_gr hL, jm_gl hL, jm_pi hL, jm_pl hL, jn_ai hL, jn_ab hL, jn_az hL, jn_al hL, jn_ar hL, jn_an hL, jn_si hL, jn_sb hL, jn_sz hL, jn_sl hL, Option.bind_some, xc, xl, jsA_X, jsI_X, jsG_X, hK _ _, jlk, jmx, jlit, jmul, nI_add, nI_leI, nI_eq, if_neg, hM2.ns, hM2.fe, c3]
      by_cases c : jLw.fe w k i = 0
      · rw [if_pos c, jsl, c, show Int32.toInt64 (nI 0) = 0 from rfl, Int64.mul_zero]
      · rw [if_neg c, jsl, show jLw.fe w k i = 1 by omega, show Int32.toInt64 (nI 1) = 1 from rfl, Int64.mul_one]
    · intro n
      have hK := hK2
      rw [f_Mo_words_213]
      simp (disch := first | omega | rfl | assumption | exact jokr (by decide) (by omega) | exact jokr4 (by omega) | exact jkt_r _ _ | exact jkt_l (by decide) | exact jfk_l (by decide) | exact jkt_t _ | exact jkt_r6 _ _ | exact jkt_t6 _ | (simp only [jok, jlen]; omega) | decide) only [jm_k hL, jm_gi hL, jm_gr hL, jm_gl hL, jm_pi hL, jm_pl hL, jn_ai hL, jn_ab hL, jn_az hL, jn_al hL, jn_ar hL, jn_an hL, jn_si hL, jn_sb hL, jn_sz hL, jn_sl hL, Option.bind_some, xc, xl, jsA_X, jsI_X, jsG_X, hK _ _, jlk, jmx, jlit, nI_leI, if_pos, hM2.ns]
  refine ⟨S2, ?_, c1⟩
  refine e1.trans ?_
  show f_Mo_words_32 (n + 1) _ _ _ _ _ = _
  have e4 : f_Mo_words_32 (n + 1) (jad L (jm 0)) (nI k) (nI x) (nI (jLw.ns w k)) (jW L ω S1) = f_Mo_words_65 xFU (jad L (jm 0)) (nI k) (nI x) (nI 0) (jW L ω S1) := by
    have hK := hK.of' a1
    have hM := hM.sim a1
    rw [f_Mo_words_32]
    simp (disch := first | omega | rfl | assumption | exact jokr (by decide) (by omega) | exact jokr4 (by omega) | exact jkt_r _ _ | exact jkt_l (by decide) | exact jfk_l (by decide) | exact jkt_t _ | exact jkt_r6 _ _ | exact jkt_t6 _ | (simp only [jok, jlen]; omega) | decide) only [jm_k hL, jm_gi hL, jm_gr hL, jm_gl hL, jm_pi hL, jm_pl hL, jn_ai hL, jn_ab hL, jn_az hL, jn_al hL, jn_ar hL, jn_an hL, jn_si hL, jn_sb hL, jn_sz hL, jn_sl hL, Option.bind_some, xc, xl, jsA_X, jsI_X, jsG_X, hK _ _, jlk, jmx, jlit, nI_leI, if_pos, hM.ns]
  refine e4.trans (e2.trans ?_)
  show f_Mo_words_65 (n2 + 1) _ _ _ _ _ = _
  rw [f_Mo_words_65, if_pos ((nI_leI (by omega) (by omega)).mpr (Nat.le_refl _))]
  refine e3.trans ?_
  rw [jwords (by omega) (fun m hm => hw.nx k m hk hp hm)]
