/-! THE REFERENCE'S AUTOMATON: a pattern that is being read, by its arrays -/
def jPM (S : jSt) (k sz : Nat) (ls fo : Nat → Nat) (la no : Nat) : Prop := (k < 16) ∧ (sz ≤ 10) ∧ (∀ p, ls p < 512) ∧ (∀ q, fo q < 1024) ∧ (la < 1024) ∧ (no ≤ 1) ∧ (jgA S (jm 21) k = nI sz) ∧ (∀ p, p < sz → jgA S (jm 17) (10 * k + p) = nI (ls p)) ∧ (∀ q, q < 11 → jgA S (jm 18) (11 * k + q) = nI (fo q)) ∧ (jgA S (jm 19) k = nI la) ∧ (jgA S (jm 20) k = nI no)
theorem jPM.k {S : jSt} {k sz : Nat} {ls fo : Nat → Nat} {la no : Nat} (h : jPM S k sz ls fo la no) : k < 16 := h.1
theorem jPM.sz {S : jSt} {k sz : Nat} {ls fo : Nat → Nat} {la no : Nat} (h : jPM S k sz ls fo la no) : sz ≤ 10 := h.2.1
theorem jPM.ls {S : jSt} {k sz : Nat} {ls fo : Nat → Nat} {la no : Nat} (h : jPM S k sz ls fo la no) : ∀ p, ls p < 512 := h.2.2.1
theorem jPM.fo {S : jSt} {k sz : Nat} {ls fo : Nat → Nat} {la no : Nat} (h : jPM S k sz ls fo la no) : ∀ q, fo q < 1024 := h.2.2.2.1
theorem jPM.la {S : jSt} {k sz : Nat} {ls fo : Nat → Nat} {la no : Nat} (h : jPM S k sz ls fo la no) : la < 1024 := h.2.2.2.2.1
theorem jPM.no {S : jSt} {k sz : Nat} {ls fo : Nat → Nat} {la no : Nat} (h : jPM S k sz ls fo la no) : no ≤ 1 := h.2.2.2.2.2.1
theorem jPM.a {S : jSt} {k sz : Nat} {ls fo : Nat → Nat} {la no : Nat} (h : jPM S k sz ls fo la no) : jgA S (jm 21) k = nI sz := h.2.2.2.2.2.2.1
theorem jPM.b {S : jSt} {k sz : Nat} {ls fo : Nat → Nat} {la no : Nat} (h : jPM S k sz ls fo la no) : ∀ p, p < sz → jgA S (jm 17) (10 * k + p) = nI (ls p) := h.2.2.2.2.2.2.2.1
theorem jPM.c {S : jSt} {k sz : Nat} {ls fo : Nat → Nat} {la no : Nat} (h : jPM S k sz ls fo la no) : ∀ q, q < 11 → jgA S (jm 18) (11 * k + q) = nI (fo q) := h.2.2.2.2.2.2.2.2.1
theorem jPM.d {S : jSt} {k sz : Nat} {ls fo : Nat → Nat} {la no : Nat} (h : jPM S k sz ls fo la no) : jgA S (jm 19) k = nI la := h.2.2.2.2.2.2.2.2.2.1
theorem jPM.e {S : jSt} {k sz : Nat} {ls fo : Nat → Nat} {la no : Nat} (h : jPM S k sz ls fo la no) : jgA S (jm 20) k = nI no := h.2.2.2.2.2.2.2.2.2.2
def jac2 (la no s : Nat) : Nat := if s &&& la ≠ 0 ∨ (s = 1024 ∧ no = 1) then 1 else 0
theorem jac2_le (la no s : Nat) : jac2 la no s ≤ 1 := by
  unfold jac2
  split <;> omega
theorem jnab {x : Nat} (h : x ≤ 1) : vp_nar .boolean (nI x) = nI x := by
  have : x = 0 ∨ x = 1 := by omega
  rcases this with rfl | rfl
  · rfl
  · rfl
/-- the cells on which the reference makes an automaton -/
def jisS : jC → Prop := fun c => ∃ q, 38 ≤ q ∧ q ≤ 44 ∧ c = jm q
theorem jisS_n {q : Nat} (h : q < 38 ∨ 44 < q) : ¬ jisS (jm q) := fun ⟨q', a, b, e⟩ => by
  have : q = q' := by simpa using e
  omega
theorem jisS_y {q : Nat} (h : 38 ≤ q) (h' : q ≤ 44) : jisS (jm q) := ⟨q, h, h', rfl⟩
theorem jPM.frq {Q : jC → Prop} {S T : jSt} {k sz : Nat} {ls fo : Nat → Nat} {la no : Nat} (h : jPM S k sz ls fo la no) (e : jfr Q S T) (hq : ∀ q, 17 ≤ q → q ≤ 21 → ¬ Q (jm q)) : jPM T k sz ls fo la no := by
  have e1 : ∀ q, 17 ≤ q → q ≤ 21 → jgA T (jm q) = jgA S (jm q) := fun q h1 h2 => e.2.2.2 _ (hq q h1 h2)
  refine ⟨h.k, h.sz, h.ls, h.fo, h.la, h.no, ?_, fun p hp => ?_, fun q hq => ?_, ?_, ?_⟩
  · rw [e1 _ (by omega) (by omega)]; exact h.a
  · rw [e1 _ (by omega) (by omega)]; exact h.b p hp
  · rw [e1 _ (by omega) (by omega)]; exact h.c q hq
  · rw [e1 _ (by omega) (by omega)]; exact h.d
  · rw [e1 _ (by omega) (by omega)]; exact h.e
theorem jPM.fr {S T : jSt} {k sz : Nat} {ls fo : Nat → Nat} {la no : Nat} (h : jPM S k sz ls fo la no) (e : jfr jisS S T) : jPM T k sz ls fo la no := h.frq e (fun q _ h2 => jisS_n (Or.inl (by omega)))
theorem jMr_lead_56 {L : jL} (hL : jgood L) {ω : xS} {S : jSt} {sw ps wy : Nat} (hK : jLK S sw ps wy) {k sz : Nat} {ls fo : Nat → Nat} {la no : Nat} (hP : jPM S k sz ls fo la no) {to l : Nat} (ht : to < 1024) (hl : l < 9) : f_Mo_lead_56 xFU (jad L (jm 0)) (nI k) (nI l) (nI to) (nI 0) (nI 0) (jW L ω S) = some (nI (jtk to ls l sz)) := by
  have h16 := hP.k
  have hz := hP.sz
  have ha := hP.a
  refine jlpx (fun n i x => f_Mo_lead_56 n (jad L (jm 0)) (nI k) (nI l) (nI to) x (nI i) (jW L ω S)) (fun i => nI (jtk to ls l i)) (lo := 0) (hi := sz) (Nat.zero_le _) (by omega) ?_ ?_
  · intro n i _ hi
    have hb : jtk to ls l i < 2 ^ 10 := jtk_lt i (by omega)
    have hls := hP.ls i
    have hbi := hP.b i hi
    rw [f_Mo_lead_56]
    simp (disch := first | omega | rfl | assumption | exact jokr (by decide) (by omega) | exact jokr4 (by omega) | exact jkt_r _ _ | exact jkt_l (by decide) | exact jfk_l (by decide) | exact jkt_t _ | exact jkt_r6 _ _ | exact jkt_t6 _ | (simp only [jok, jlen]; omega) | decide) only [jm_k hL, jm_gi hL, jm_gr hL, jm_gl hL, jm_pi hL, jm_pl hL, jn_ai hL, jn_ab hL, jn_az hL, jn_al hL, jn_ar hL, jn_an hL, jn_si hL, jn_sb hL, jn_sz hL, jn_sl hL, Option.bind_some, xc, xl, jsA_X, jsI_X, jsG_X, hK _ _, jlk, jmx, jlit, jlitl, jmul, nI_add, lN_add, nI_leI, nI_ltI, nI_eq, jm1, jm1g, jm1e, jm1c, ha, if_neg, jbt1]
    rw [jtk]
    by_cases h0 : jbit to i = 1
    · rw [if_pos h0]
      simp (disch := first | omega | rfl | assumption | exact jokr (by decide) (by omega) | exact jokr4 (by omega) | exact jkt_r _ _ | exact jkt_l (by decide) | exact jfk_l (by decide) | exact jkt_t _ | exact jkt_r6 _ _ | exact jkt_t6 _ | (simp only [jok, jlen]; omega) | decide) only [jm_k hL, jm_gi hL, jm_gr hL, jm_gl hL, jm_pi hL, jm_pl hL, jn_ai hL, jn_ab hL, jn_az hL, jn_al hL, jn_ar hL, jn_an hL, jn_si hL, jn_sb hL, jn_sz hL, jn_sl hL, Option.bind_some, xc, xl, jsA_X, jsI_X, jsG_X, hK _ _, jlk, jmx, jlit, jlitl, jmul, nI_add, lN_add, nI_leI, nI_ltI, nI_eq, jm1, jm1g, jm1e, jm1c, hbi, jbt1]
      have h2 : 2 ^ i < 2 ^ 10 := Nat.pow_lt_pow_right (by decide) (by omega)
      by_cases h1 : jbit (ls i) l = 1
      · rw [if_pos h1, if_pos ⟨h0, h1⟩, jshl (by omega) (by omega), Nat.one_mul, jor (by omega) (by omega)]
      · rw [if_neg h1, if_neg (fun q => h1 q.2), jor (by omega) (by omega)]
    · rw [if_neg h0, if_neg (fun q => h0 q.1)]
      rw [jor (by omega) (by omega)]
  · intro n
    rw [f_Mo_lead_56]
    simp (disch := first | omega | rfl | assumption | exact jokr (by decide) (by omega) | exact jokr4 (by omega) | exact jkt_r _ _ | exact jkt_l (by decide) | exact jfk_l (by decide) | exact jkt_t _ | exact jkt_r6 _ _ | exact jkt_t6 _ | (simp only [jok, jlen]; omega) | decide) only [jm_k hL, jm_gi hL, jm_gr hL, jm_gl hL, jm_pi hL, jm_pl hL, jn_ai hL, jn_ab hL, jn_az hL, jn_al hL, jn_ar hL, jn_an hL, jn_si hL, jn_sb hL, jn_sz hL, jn_sl hL, Option.bind_some, xc, xl, jsA_X, jsI_X, jsG_X, hK _ _, jlk, jmx, jlit, jlitl, jmul, nI_add, lN_add, nI_leI, nI_ltI, nI_eq, jm1, jm1g, jm1e, jm1c, ha]
    rw [if_pos (Nat.le_refl _)]
theorem jMr_lead {L : jL} (hL : jgood L) {ω : xS} {S : jSt} {sw ps wy : Nat} (hK : jLK S sw ps wy) {k sz : Nat} {ls fo : Nat → Nat} {la no : Nat} (hP : jPM S k sz ls fo la no) {s l : Nat} (hs : s < 2048) (hl : l < 9) : f_Mo_lead (jad L (jm 0)) (nI k) (nI s) (nI l) (jW L ω S) = some (nI (jdl sz ls fo s l)) := by
  have h16 := hP.k
  unfold f_Mo_lead
  refine jlpx (fun n i x => f_Mo_lead_6 n (jad L (jm 0)) (nI k) (nI s) (nI l) x (nI i) (jW L ω S)) (fun i => nI (jos fo s i)) (lo := 0) (hi := 11) (Nat.zero_le _) (by omega) ?_ ?_
  · intro n i _ hi
    have hb : jos fo s i < 2 ^ 10 := jos_lt i (fun q _ => hP.fo q)
    have hfo := hP.fo i
    have hc := hP.c i hi
    rw [f_Mo_lead_6]
    simp (disch := first | omega | rfl | assumption | exact jokr (by decide) (by omega) | exact jokr4 (by omega) | exact jkt_r _ _ | exact jkt_l (by decide) | exact jfk_l (by decide) | exact jkt_t _ | exact jkt_r6 _ _ | exact jkt_t6 _ | (simp only [jok, jlen]; omega) | decide) only [jlit, jlitl, jmul, nI_add, lN_add, nI_leI, nI_ltI, nI_eq, jm1, jm1g, jm1e, jm1c, if_neg, jbt1]
    rw [jos]
    by_cases h0 : jbit s i = 1
    · rw [if_pos h0, if_pos h0]
      simp (disch := first | omega | rfl | assumption | exact jokr (by decide) (by omega) | exact jokr4 (by omega) | exact jkt_r _ _ | exact jkt_l (by decide) | exact jfk_l (by decide) | exact jkt_t _ | exact jkt_r6 _ _ | exact jkt_t6 _ | (simp only [jok, jlen]; omega) | decide) only [jm_k hL, jm_gi hL, jm_gr hL, jm_gl hL, jm_pi hL, jm_pl hL, jn_ai hL, jn_ab hL, jn_az hL, jn_al hL, jn_ar hL, jn_an hL, jn_si hL, jn_sb hL, jn_sz hL, jn_sl hL, Option.bind_some, xc, xl, jsA_X, jsI_X, jsG_X, hK _ _, jlk, jmx, jlit, jlitl, jmul, nI_add, lN_add, nI_leI, nI_ltI, nI_eq, jm1, jm1g, jm1e, jm1c, hc]
      rw [jor (by omega) (by omega)]
    · rw [if_neg h0, if_neg h0]
      rw [jor (by omega) (by omega)]
  · intro n
    have hb : jos fo s 11 < 2 ^ 10 := jos_lt 11 (fun q _ => hP.fo q)
    rw [f_Mo_lead_6]
    simp (disch := first | omega | rfl | assumption | exact jokr (by decide) (by omega) | exact jokr4 (by omega) | exact jkt_r _ _ | exact jkt_l (by decide) | exact jfk_l (by decide) | exact jkt_t _ | exact jkt_r6 _ _ | exact jkt_t6 _ | (simp only [jok, jlen]; omega) | decide) only [jlit, jlitl, jmul, nI_add, lN_add, nI_leI, nI_ltI, nI_eq, jm1, jm1g, jm1e, jm1c]
    rw [if_pos (Nat.le_refl _)]
    exact jMr_lead_56 hL hK hP (by omega) hl
theorem jMr_isEnd {L : jL} (hL : jgood L) {ω : xS} {S : jSt} {sw ps wy : Nat} (hK : jLK S sw ps wy) {k sz : Nat} {ls fo : Nat → Nat} {la no : Nat} (hP : jPM S k sz ls fo la no) {s : Nat} (hs : s ≤ 1024) : f_Mo_isEnd (jad L (jm 0)) (nI k) (nI s) (jW L ω S) = some (nI (jac2 la no s)) := by
  have h16 := hP.k
  have hla := hP.la
  have hno := hP.no
  have hd := hP.d
  have he := hP.e
  have hlt : s &&& la < 2 ^ 31 := Nat.lt_of_le_of_lt Nat.and_le_right (by omega)
  have e1 : nI s &&& nI la = nI (s &&& la) := jand (by omega) (by omega)
  unfold f_Mo_isEnd jac2
  simp (disch := first | omega | rfl | assumption | exact jokr (by decide) (by omega) | exact jokr4 (by omega) | exact jkt_r _ _ | exact jkt_l (by decide) | exact jfk_l (by decide) | exact jkt_t _ | exact jkt_r6 _ _ | exact jkt_t6 _ | (simp only [jok, jlen]; omega) | decide) only [jm_k hL, jm_gi hL, jm_gr hL, jm_gl hL, jm_pi hL, jm_pl hL, jn_ai hL, jn_ab hL, jn_az hL, jn_al hL, jn_ar hL, jn_an hL, jn_si hL, jn_sb hL, jn_sz hL, jn_sl hL, Option.bind_some, xc, xl, jsA_X, jsI_X, jsG_X, hK _ _, jlk, jmx, jlit, hd, he, e1, nI_eq]
  by_cases c0 : s &&& la = 0
  · rw [if_pos c0]
    by_cases c1 : s = 1024
    · rw [if_pos c1]
      by_cases c2 : no = 0
      · rw [if_pos c2, if_neg (fun z => by rcases z with z | z <;> omega)]
      · rw [if_neg c2, if_pos (Or.inr ⟨c1, by omega⟩)]
    · rw [if_neg c1, if_neg (fun z => by rcases z with z | z <;> omega)]
  · rw [if_neg c0, if_pos (Or.inl c0)]
/-- sets, numbers (less 1), targets after m pairs -/
def jXM (δ : Nat → Nat → Nat) (T : jSt) (m : Nat) : Prop := (∀ i, i < jxc δ m → jgA T (jm 38) i = nI (jxs δ m i)) ∧ (∀ x, x ≤ 1024 → jgA T (jm 39) x = nI (jxn δ m x) - nI 1) ∧ (∀ i, i < m → jgA T (jm 40) i = nI (jxg δ i))
theorem jXM.s {δ : Nat → Nat → Nat} {T : jSt} {m : Nat} (h : jXM δ T m) : ∀ i, i < jxc δ m → jgA T (jm 38) i = nI (jxs δ m i) := h.1
theorem jXM.n {δ : Nat → Nat → Nat} {T : jSt} {m : Nat} (h : jXM δ T m) : ∀ x, x ≤ 1024 → jgA T (jm 39) x = nI (jxn δ m x) - nI 1 := h.2.1
theorem jXM.g {δ : Nat → Nat → Nat} {T : jSt} {m : Nat} (h : jXM δ T m) : ∀ i, i < m → jgA T (jm 40) i = nI (jxg δ i) := h.2.2
theorem jMr_id {L : jL} (hL : jgood L) {ω : xS} {S : jSt} {sw ps wy : Nat} (hK : jLK S sw ps wy) {x : Nat} (hx : x ≤ 1024) : f_Mo_idOf (jad L (jm 0)) (nI x) (jW L ω S) = some (jgA S (jm 39) x) := by
  unfold f_Mo_idOf
  by_cases c : x = 1024
  · subst c
    simp (disch := first | omega | rfl | assumption | exact jokr (by decide) (by omega) | exact jokr4 (by omega) | exact jkt_r _ _ | exact jkt_l (by decide) | exact jfk_l (by decide) | exact jkt_t _ | exact jkt_r6 _ _ | exact jkt_t6 _ | (simp only [jok, jlen]; omega) | decide) only [jm_k hL, jm_gi hL, jm_gr hL, jm_gl hL, jm_pi hL, jm_pl hL, jn_ai hL, jn_ab hL, jn_az hL, jn_al hL, jn_ar hL, jn_an hL, jn_si hL, jn_sb hL, jn_sz hL, jn_sl hL, Option.bind_some, xc, xl, jsA_X, jsI_X, jsG_X, hK _ _, jlk, jmx, jlit, if_true]
  · simp (disch := first | omega | rfl | assumption | exact jokr (by decide) (by omega) | exact jokr4 (by omega) | exact jkt_r _ _ | exact jkt_l (by decide) | exact jfk_l (by decide) | exact jkt_t _ | exact jkt_r6 _ _ | exact jkt_t6 _ | (simp only [jok, jlen]; omega) | decide) only [jm_k hL, jm_gi hL, jm_gr hL, jm_gl hL, jm_pi hL, jm_pl hL, jn_ai hL, jn_ab hL, jn_az hL, jn_al hL, jn_ar hL, jn_an hL, jn_si hL, jn_sb hL, jn_sz hL, jn_sl hL, Option.bind_some, xc, xl, jsA_X, jsI_X, jsG_X, hK _ _, jlk, jmx, jlit, nI_eq, if_neg]
theorem jMr_52 {L : jL} (hL : jgood L) {ω : xS} {S : jSt} {sw ps wy : Nat} (hK : jLK S sw ps wy) {k sz : Nat} {ls fo : Nat → Nat} {la no : Nat} (hP : jPM S k sz ls fo la no) {s : Nat} (hs : s < 1025) (hst : s < jxc (jdl sz ls fo) (9 * s)) (h : jXM (jdl sz ls fo) S (9 * s)) {k44 : Nat → Int32 → Int32 → Int32 → xS → Option xS} : ∃ T, f_Mo_automaton_52 k44 xFU (jad L (jm 0)) (nI k) (nI (jxc (jdl sz ls fo) (9 * s))) (nI s) (nI 0) (jW L ω S) = k44 (jad L (jm 0)) (nI k) (nI (jxc (jdl sz ls fo) (9 * (s + 1)))) (nI (s + 1)) (jW L ω T) ∧ jfr jisS S T ∧ jXM (jdl sz ls fo) T (9 * (s + 1)) := by
  have h16 := hP.k
  have hδ : ∀ s l, jdl sz ls fo s l < 1024 := fun s l => jdl_lt hP.sz
  obtain ⟨n, T, e1, a1, a2⟩ := jlpI (fun n i (T : jSt) => f_Mo_automaton_52 k44 n (jad L (jm 0)) (nI k) (nI (jxc (jdl sz ls fo) (9 * s + i))) (nI s) (nI i) (jW L ω T)) (fun i T => jfr jisS S T ∧ jXM (jdl sz ls fo) T (9 * s + i)) (lo := 0) (hi := 9) (Nat.zero_le _) (by omega) (by
    intro n i T _ hi ⟨b1, b2⟩
    have hK := hK.of b1.2.2.1
    have hP2 := hP.fr b1
    have hle : jxs (jdl sz ls fo) (9 * s) s ≤ 1024 := (jx_inv hδ (9 * s)).d s hst
    have ekeep : jxs (jdl sz ls fo) (9 * s + i) s = jxs (jdl sz ls fo) (9 * s) s := (jx_keep (show 9 * s ≤ 9 * s + i by omega)).1 s hst
    have hmono : jxc (jdl sz ls fo) (9 * s) ≤ jxc (jdl sz ls fo) (9 * s + i) := jx_mono (by omega)
    have ext : jxt (jdl sz ls fo) (9 * s + i) = jdl sz ls fo (jxs (jdl sz ls fo) (9 * s) s) i := by
      unfold jxt
      rw [show (9 * s + i) / 9 = s by omega, show (9 * s + i) % 9 = i by omega, ekeep]
    have es : jgA T (jm 38) s = nI (jxs (jdl sz ls fo) (9 * s) s) := by rw [b2.s s (by omega), ekeep]
    have hx : jxt (jdl sz ls fo) (9 * s + i) < 1024 := hδ _ _
    have hld : f_Mo_lead (jad L (jm 0)) (nI k) (nI (jxs (jdl sz ls fo) (9 * s) s)) (nI i) (jW L ω T) = some (nI (jxt (jdl sz ls fo) (9 * s + i))) := by
      rw [jMr_lead hL hK hP2 (by omega) hi, ext]
    have hcl := jx_le hδ (9 * s + i)
    have hinv := jx_inv hδ (9 * s + i)
    have hn := b2.n (jxt (jdl sz ls fo) (9 * s + i)) (by omega)
    have hid := jMr_id hL (ω := ω) hK (x := jxt (jdl sz ls fo) (9 * s + i)) (by omega)
    by_cases q : jxn (jdl sz ls fo) (9 * s + i) (jxt (jdl sz ls fo) (9 * s + i)) = 0
    · obtain ⟨h1, h2, h3⟩ := jx_new q
      have hr := jx_room hδ q
      have hg : jxg (jdl sz ls fo) (9 * s + i) = jxc (jdl sz ls fo) (9 * s + i) := by
        unfold jxg
        rw [h3, if_pos rfl, Nat.add_sub_cancel]
      have hid2 := jMr_id hL (ω := ω) (S := jsA (jsA T (jm 39) (jxt (jdl sz ls fo) (9 * s + i)) (nI (jxc (jdl sz ls fo) (9 * s + i)))) (jm 38) (jxc (jdl sz ls fo) (9 * s + i)) (nI (jxt (jdl sz ls fo) (9 * s + i)))) hK (x := jxt (jdl sz ls fo) (9 * s + i)) (by omega)
      rw [jsA_ne (jmne (by decide)), jsA_c, if_pos rfl] at hid2
      refine ⟨jsA (jsA (jsA T (jm 39) (jxt (jdl sz ls fo) (9 * s + i)) (nI (jxc (jdl sz ls fo) (9 * s + i)))) (jm 38) (jxc (jdl sz ls fo) (9 * s + i)) (nI (jxt (jdl sz ls fo) (9 * s + i)))) (jm 40) (9 * s + i) (nI (jxc (jdl sz ls fo) (9 * s + i))), ?_, ((b1.trans (jfr.sA _ _ _ (jisS_y (by omega) (by omega)))).trans (jfr.sA _ _ _ (jisS_y (by omega) (by omega)))).trans (jfr.sA _ _ _ (jisS_y (by omega) (by omega))), ?_, ?_, ?_⟩
      · show f_Mo_automaton_52 k44 (n + 1) _ _ _ _ _ _ = f_Mo_automaton_52 k44 n _ _ _ _ _ _
        rw [f_Mo_automaton_52]
        rw [q] at hn
        have hng : ¬ nI 0 ≤ nI 0 - nI 1 := fun z => absurd rfl ((jm1g (n := 0) (by omega)).mp z)
        simp (disch := first | omega | rfl | assumption | exact jokr (by decide) (by omega) | exact jokr4 (by omega) | exact jkt_r _ _ | exact jkt_l (by decide) | exact jfk_l (by decide) | exact jkt_t _ | exact jkt_r6 _ _ | exact jkt_t6 _ | (simp only [jok, jlen]; omega) | decide) only [jm_k hL, jm_gi hL, jm_gr hL, jm_gl hL, jm_pi hL, jm_pl hL, jn_ai hL, jn_ab hL, jn_az hL, jn_al hL, jn_ar hL, jn_an hL, jn_si hL, jn_sb hL, jn_sz hL, jn_sl hL, Option.bind_some, xc, xl, jsA_X, jsI_X, jsG_X, hK _ _, jlk, jmx, jlit, jmul, nI_add, nI_leI, if_neg, es, hld, hid, hn]
        (try rw [if_neg hng])
        simp (disch := first | omega | rfl | assumption | exact jokr (by decide) (by omega) | exact jokr4 (by omega) | exact jkt_r _ _ | exact jkt_l (by decide) | exact jfk_l (by decide) | exact jkt_t _ | exact jkt_r6 _ _ | exact jkt_t6 _ | (simp only [jok, jlen]; omega) | decide) only [jm_k hL, jm_gi hL, jm_gr hL, jm_gl hL, jm_pi hL, jm_pl hL, jn_ai hL, jn_ab hL, jn_az hL, jn_al hL, jn_ar hL, jn_an hL, jn_si hL, jn_sb hL, jn_sz hL, jn_sl hL, Option.bind_some, xc, xl, jsA_X, jsI_X, jsG_X, hK _ _, jlk, jmx, jlit, jmul, nI_add, hid2]
        rw [show 9 * s + (i + 1) = 9 * s + i + 1 by omega, h1]
      · intro i' hi'
        rw [show 9 * s + (i + 1) = 9 * s + i + 1 by omega] at hi' ⊢
        rw [h1] at hi'
        rw [jsA_ne (jmne (by decide)), jsA_c, h2]
        by_cases c : i' = jxc (jdl sz ls fo) (9 * s + i)
        · rw [if_pos c, if_pos c]
        · rw [if_neg c, if_neg c, jsA_ne (jmne (by decide))]
          exact b2.s i' (by omega)
      · intro x hx2
        rw [show 9 * s + (i + 1) = 9 * s + i + 1 by omega, jsA_ne (jmne (by decide)), jsA_ne (jmne (by decide)), jsA_c, h3]
        by_cases c : x = jxt (jdl sz ls fo) (9 * s + i)
        · rw [if_pos c, if_pos c, jsub (by omega), Nat.add_sub_cancel]
        · rw [if_neg c, if_neg c]
          exact b2.n x hx2
      · intro i' hi'
        rw [jsA_c]
        by_cases c : i' = 9 * s + i
        · rw [if_pos c, c, hg]
        · rw [if_neg c, jsA_ne (jmne (by decide)), jsA_ne (jmne (by decide))]
          exact b2.g i' (by omega)
    · obtain ⟨h1, h2, h3⟩ := jx_old q
      have hb := hinv.b _ q
      have hg : jxg (jdl sz ls fo) (9 * s + i) = jxn (jdl sz ls fo) (9 * s + i) (jxt (jdl sz ls fo) (9 * s + i)) - 1 := by
        unfold jxg
        rw [h3]
      have hps : nI 0 ≤ nI (jxn (jdl sz ls fo) (9 * s + i) (jxt (jdl sz ls fo) (9 * s + i))) - nI 1 := (jm1g (by omega)).mpr q
      rw [hn, jm1s q, ← hg] at hid
      rw [jm1s q, ← hg] at hps
      refine ⟨jsA T (jm 40) (9 * s + i) (nI (jxg (jdl sz ls fo) (9 * s + i))), ?_, b1.trans (jfr.sA _ _ _ (jisS_y (by omega) (by omega))), ?_, ?_, ?_⟩
      · show f_Mo_automaton_52 k44 (n + 1) _ _ _ _ _ _ = f_Mo_automaton_52 k44 n _ _ _ _ _ _
        rw [f_Mo_automaton_52]
        simp (disch := first | omega | rfl | assumption | exact jokr (by decide) (by omega) | exact jokr4 (by omega) | exact jkt_r _ _ | exact jkt_l (by decide) | exact jfk_l (by decide) | exact jkt_t _ | exact jkt_r6 _ _ | exact jkt_t6 _ | (simp only [jok, jlen]; omega) | decide) only [jm_k hL, jm_gi hL, jm_gr hL, jm_gl hL, jm_pi hL, jm_pl hL, jn_ai hL, jn_ab hL, jn_az hL, jn_al hL, jn_ar hL, jn_an hL, jn_si hL, jn_sb hL, jn_sz hL, jn_sl hL, Option.bind_some, xc, xl, jsA_X, jsI_X, jsG_X, hK _ _, jlk, jmx, jlit, jmul, nI_add, nI_leI, if_neg, es, hld, hid]
        rw [if_pos (Nat.zero_le _)]
        rw [show 9 * s + (i + 1) = 9 * s + i + 1 by omega, h1]
      · intro i' hi'
        rw [show 9 * s + (i + 1) = 9 * s + i + 1 by omega] at hi' ⊢
        rw [h1] at hi'
        rw [jsA_ne (jmne (by decide)), h2]
        exact b2.s i' hi'
      · intro x hx2
        rw [show 9 * s + (i + 1) = 9 * s + i + 1 by omega, jsA_ne (jmne (by decide)), h3]
        exact b2.n x hx2
      · intro i' hi'
        rw [jsA_c]
        by_cases c : i' = 9 * s + i
        · rw [if_pos c, c]
        · rw [if_neg c]
          exact b2.g i' (by omega)) S ⟨jfr.refl _ _, h⟩
  refine ⟨T, ?_, a1, by rw [show 9 * (s + 1) = 9 * s + 9 by omega]; exact a2⟩
  refine e1.trans ?_
  show f_Mo_automaton_52 k44 (n + 1) _ _ _ _ _ _ = _
  rw [f_Mo_automaton_52, show 9 * (s + 1) = 9 * s + 9 by omega]
  simp (disch := first | omega | rfl | assumption | exact jokr (by decide) (by omega) | exact jokr4 (by omega) | exact jkt_r _ _ | exact jkt_l (by decide) | exact jfk_l (by decide) | exact jkt_t _ | exact jkt_r6 _ _ | exact jkt_t6 _ | (simp only [jok, jlen]; omega) | decide) only [jlit, nI_add, nI_leI, if_pos]
/-- sets and targets of the whole automaton of sets -/
def jEM (T : jSt) (n : Nat) (st tg : Nat → Nat) : Prop := (1 ≤ n) ∧ (n ≤ 1025) ∧ (∀ i, i < n → st i ≤ 1024) ∧ (∀ i, i < n → jgA T (jm 38) i = nI (st i)) ∧ (∀ m, m < 9 * n → tg m < n) ∧ (∀ m, m < 9 * n → jgA T (jm 40) m = nI (tg m))
theorem jEM.p {T : jSt} {n : Nat} {st tg : Nat → Nat} (h : jEM T n st tg) : 1 ≤ n := h.1
theorem jEM.u {T : jSt} {n : Nat} {st tg : Nat → Nat} (h : jEM T n st tg) : n ≤ 1025 := h.2.1
theorem jEM.sl {T : jSt} {n : Nat} {st tg : Nat → Nat} (h : jEM T n st tg) : ∀ i, i < n → st i ≤ 1024 := h.2.2.1
theorem jEM.s {T : jSt} {n : Nat} {st tg : Nat → Nat} (h : jEM T n st tg) : ∀ i, i < n → jgA T (jm 38) i = nI (st i) := h.2.2.2.1
theorem jEM.tl {T : jSt} {n : Nat} {st tg : Nat → Nat} (h : jEM T n st tg) : ∀ m, m < 9 * n → tg m < n := h.2.2.2.2.1
theorem jEM.g {T : jSt} {n : Nat} {st tg : Nat → Nat} (h : jEM T n st tg) : ∀ m, m < 9 * n → jgA T (jm 40) m = nI (tg m) := h.2.2.2.2.2
theorem jEM.same {T T' : jSt} {n : Nat} {st tg : Nat → Nat} (h : jEM T n st tg) (e1 : jgA T' (jm 38) = jgA T (jm 38)) (e2 : jgA T' (jm 40) = jgA T (jm 40)) : jEM T' n st tg := ⟨h.p, h.u, h.sl, fun i hi => by rw [e1]; exact h.s i hi, h.tl, fun m hm => by rw [e2]; exact h.g m hm⟩
theorem jMr_explore {L : jL} (hL : jgood L) {ω : xS} {S : jSt} {sw ps wy : Nat} (hK : jLK S sw ps wy) {k sz : Nat} {ls fo : Nat → Nat} {la no : Nat} (hP : jPM S k sz ls fo la no) {N : Nat} (hN : jisN (jdl sz ls fo) N) : ∃ T, f_Mo_automaton (jad L (jm 0)) (nI k) (jW L ω S) = f_Mo_automaton_134 xFU (jad L (jm 0)) (nI k) (nI N) (nI 0) (jW L ω T) ∧ jfr jisS S T ∧ jEM T N (jxs (jdl sz ls fo) (9 * N)) (jxg (jdl sz ls fo)) := by
  have h16 := hP.k
  have hδ : ∀ s l, jdl sz ls fo s l < 1024 := fun s l => jdl_lt hP.sz
  have hNu := hN.u
  obtain ⟨n, T1, e1, a1, a2⟩ := jlpI (fun n i (T : jSt) => f_Mo_automaton_2 n (jad L (jm 0)) (nI k) (nI i) (jW L ω T)) (fun i T => jfr jisS S T ∧ ∀ x, x < i → jgA T (jm 39) x = nI 0 - nI 1) (lo := 0) (hi := 1025) (Nat.zero_le _) (by omega) (by
    intro n i T _ hi ⟨b1, b2⟩
    have hK := hK.of b1.2.2.1
    refine ⟨jsA T (jm 39) i (nI 0 - nI 1), ?_, b1.trans (jfr.sA _ _ _ (jisS_y (by omega) (by omega))), fun x hx => ?_⟩
    · show f_Mo_automaton_2 (n + 1) _ _ _ _ = f_Mo_automaton_2 n _ _ _ _
      rw [f_Mo_automaton_2, show (-1 : Int32) = nI 0 - nI 1 by decide]
      simp (disch := first | omega | rfl | assumption | exact jokr (by decide) (by omega) | exact jokr4 (by omega) | exact jkt_r _ _ | exact jkt_l (by decide) | exact jfk_l (by decide) | exact jkt_t _ | exact jkt_r6 _ _ | exact jkt_t6 _ | (simp only [jok, jlen]; omega) | decide) only [jm_k hL, jm_gi hL, jm_gr hL, jm_gl hL, jm_pi hL, jm_pl hL, jn_ai hL, jn_ab hL, jn_az hL, jn_al hL, jn_ar hL, jn_an hL, jn_si hL, jn_sb hL, jn_sz hL, jn_sl hL, Option.bind_some, xc, xl, jsA_X, jsI_X, jsG_X, hK _ _, jlk, jmx, jlit, nI_add, nI_leI, if_neg]
    · rw [jsA_c]
      by_cases c : x = i
      · rw [if_pos c]
      · rw [if_neg c]; exact b2 x (by omega)) S ⟨jfr.refl _ _, fun x hx => absurd hx (Nat.not_lt_zero x)⟩
  have x0 : jXM (jdl sz ls fo) (jsA (jsA T1 (jm 38) 0 (nI 1024)) (jm 39) 1024 (nI 0)) (9 * 0) := by
    refine ⟨fun i hi => ?_, fun x hx => ?_, fun i hi => absurd hi (Nat.not_lt_zero i)⟩
    · have hi : i < 1 := hi
      rw [jsA_ne (jmne (by decide)), jsA_c, if_pos (by omega)]
      rfl
    · rw [jsA_c]
      show _ = nI (if x = 1024 then 1 else 0) - nI 1
      by_cases c : x = 1024
      · rw [if_pos c, if_pos c]; rfl
      · rw [if_neg c, if_neg c, jsA_ne (jmne (by decide))]
        exact a2 x (by omega)
  have f1 : jfr jisS S (jsA (jsA T1 (jm 38) 0 (nI 1024)) (jm 39) 1024 (nI 0)) := (a1.trans (jfr.sA _ _ _ (jisS_y (by omega) (by omega)))).trans (jfr.sA _ _ _ (jisS_y (by omega) (by omega)))
  obtain ⟨n2, T2, e2, c1, c2⟩ := jlpI (fun n i (T : jSt) => f_Mo_automaton_44 n (jad L (jm 0)) (nI k) (nI (jxc (jdl sz ls fo) (9 * i))) (nI i) (jW L ω T)) (fun i T => jfr jisS S T ∧ jXM (jdl sz ls fo) T (9 * i)) (lo := 0) (hi := N) (Nat.zero_le _) (by omega) (by
    intro n i T _ hi ⟨b1, b2⟩
    have hK := hK.of b1.2.2.1
    have hP2 := hP.fr b1
    have hst := hN.k i hi
    have hcl := jx_le hδ (9 * i)
    obtain ⟨T', d1, d2, d3⟩ := jMr_52 hL (ω := ω) hK hP2 (by omega) hst b2 (k44 := f_Mo_automaton_44 n)
    refine ⟨T', ?_, b1.trans d2, d3⟩
    show f_Mo_automaton_44 (n + 1) _ _ _ _ _ = f_Mo_automaton_44 n _ _ _ _ _
    rw [f_Mo_automaton_44]
    simp (disch := first | omega | rfl | assumption | exact jokr (by decide) (by omega) | exact jokr4 (by omega) | exact jkt_r _ _ | exact jkt_l (by decide) | exact jfk_l (by decide) | exact jkt_t _ | exact jkt_r6 _ _ | exact jkt_t6 _ | (simp only [jok, jlen]; omega) | decide) only [jlit, nI_leI, if_neg]
    exact d1) _ ⟨f1, x0⟩
  refine ⟨T2, ?_, c1, ⟨hN.p, hN.u, fun i hi => ?_, fun i hi => ?_, fun m hm => (hN.bo hδ).lt hm, c2.g⟩⟩
  · unfold f_Mo_automaton
    refine e1.trans ?_
    show f_Mo_automaton_2 (n + 1) _ _ _ _ = _
    have hK := hK.of a1.2.2.1
    rw [f_Mo_automaton_2]
    simp (disch := first | omega | rfl | assumption | exact jokr (by decide) (by omega) | exact jokr4 (by omega) | exact jkt_r _ _ | exact jkt_l (by decide) | exact jfk_l (by decide) | exact jkt_t _ | exact jkt_r6 _ _ | exact jkt_t6 _ | (simp only [jok, jlen]; omega) | decide) only [jm_k hL, jm_gi hL, jm_gr hL, jm_gl hL, jm_pi hL, jm_pl hL, jn_ai hL, jn_ab hL, jn_az hL, jn_al hL, jn_ar hL, jn_an hL, jn_si hL, jn_sb hL, jn_sz hL, jn_sl hL, Option.bind_some, xc, xl, jsA_X, jsI_X, jsG_X, hK _ _, jlk, jmx, jlit, nI_leI, if_pos]
    refine e2.trans ?_
    show f_Mo_automaton_44 (n2 + 1) _ _ _ _ _ = _
    rw [f_Mo_automaton_44, hN.e]
    simp (disch := first | omega | rfl | assumption | exact jokr (by decide) (by omega) | exact jokr4 (by omega) | exact jkt_r _ _ | exact jkt_l (by decide) | exact jfk_l (by decide) | exact jkt_t _ | exact jkt_r6 _ _ | exact jkt_t6 _ | (simp only [jok, jlen]; omega) | decide) only [jlit, nI_leI, if_pos]
  · exact (jx_inv hδ (9 * N)).d i (by rw [hN.e]; exact hi)
  · exact c2.s i (by rw [hN.e]; exact hi)
/-- groups -/
def jGv (T : jSt) (n : Nat) (P : Nat → Nat) : Prop := ∀ s, s < n → jgA T (jm 41) s = nI (P s)
theorem jMr_134 {L : jL} (hL : jgood L) {ω : xS} {S : jSt} {sw ps wy : Nat} (hK : jLK S sw ps wy) {k sz : Nat} {ls fo : Nat → Nat} {la no : Nat} (hP : jPM S k sz ls fo la no) {N : Nat} {st tg : Nat → Nat} (hE : jEM S N st tg) : ∃ T, f_Mo_automaton_134 xFU (jad L (jm 0)) (nI k) (nI N) (nI 0) (jW L ω S) = f_Mo_automaton_175 xFU (jad L (jm 0)) (nI k) (nI N) (nI 0) (-1) (jW L ω T) ∧ jfr jisS S T ∧ jEM T N st tg ∧ jGv T N (fun s => jac2 la no (st s)) := by
  have h16 := hP.k
  have hu := hE.u
  obtain ⟨n, T, e1, a1, a2, a3⟩ := jlpI (fun n i (T : jSt) => f_Mo_automaton_134 n (jad L (jm 0)) (nI k) (nI N) (nI i) (jW L ω T)) (fun i T => jfr jisS S T ∧ jEM T N st tg ∧ jGv T i (fun s => jac2 la no (st s))) (lo := 0) (hi := N) (Nat.zero_le _) (by omega) (by
    intro n i T _ hi ⟨b1, b2, b3⟩
    have hK := hK.of b1.2.2.1
    have hP2 := hP.fr b1
    have es := b2.s i hi
    have hsl := b2.sl i hi
    have he := jMr_isEnd hL (ω := ω) hK hP2 hsl
    have hle := jac2_le la no (st i)
    refine ⟨jsA T (jm 41) i (nI (jac2 la no (st i))), ?_, b1.trans (jfr.sA _ _ _ (jisS_y (by omega) (by omega))), b2.same (jsA_fn (jmne (by decide))) (jsA_fn (jmne (by decide))), fun x hx => ?_⟩
    · show f_Mo_automaton_134 (n + 1) _ _ _ _ _ = f_Mo_automaton_134 n _ _ _ _ _
      rw [f_Mo_automaton_134]
      simp (disch := first | omega | rfl | assumption | exact jokr (by decide) (by omega) | exact jokr4 (by omega) | exact jkt_r _ _ | exact jkt_l (by decide) | exact jfk_l (by decide) | exact jkt_t _ | exact jkt_r6 _ _ | exact jkt_t6 _ | (simp only [jok, jlen]; omega) | decide) only [jm_k hL, jm_gi hL, jm_gr hL, jm_gl hL, jm_pi hL, jm_pl hL, jn_ai hL, jn_ab hL, jn_az hL, jn_al hL, jn_ar hL, jn_an hL, jn_si hL, jn_sb hL, jn_sz hL, jn_sl hL, Option.bind_some, xc, xl, jsA_X, jsI_X, jsG_X, hK _ _, jlk, jmx, jlit, nI_add, nI_leI, nI_eq, if_neg, es, he]
      by_cases c : jac2 la no (st i) = 0
      · rw [if_pos c, c]
      · rw [if_neg c, show jac2 la no (st i) = 1 by omega]
    · rw [jsA_c]
      by_cases c : x = i
      · rw [if_pos c, c]
      · rw [if_neg c]; exact b3 x (by omega)) S ⟨jfr.refl _ _, hE, fun x hx => absurd hx (Nat.not_lt_zero x)⟩
  refine ⟨T, ?_, a1, a2, a3⟩
  refine e1.trans ?_
  show f_Mo_automaton_134 (n + 1) _ _ _ _ _ = _
  rw [f_Mo_automaton_134]
  simp (disch := first | omega | rfl | assumption | exact jokr (by decide) (by omega) | exact jokr4 (by omega) | exact jkt_r _ _ | exact jkt_l (by decide) | exact jfk_l (by decide) | exact jkt_t _ | exact jkt_r6 _ _ | exact jkt_t6 _ | (simp only [jok, jlen]; omega) | decide) only [jlit, nI_leI, if_pos]
