/-! THE REFERENCE REFINES: groups by search, until there are no more -/
theorem jMr_24 {L : jL} (hL : jgood L) {ω : xS} {S : jSt} {sw ps wy : Nat} (hK : jLK S sw ps wy) {N : Nat} {st tg P : Nat → Nat} (hE : jEM S N st tg) (hG : jGv S N P) (hPl : ∀ s, s < N → P s < 2000) {a b : Nat} (ha : a < N) (hb : b < N) : ∀ d l n x, 9 ≤ l + d → l ≤ 9 → d + 1 ≤ n → x ≤ 1 → ∃ r, f_Mo_goesAlike_24 n (jad L (jm 0)) (nI a) (nI b) (nI x) (nI l) (jW L ω S) = some (nI r) ∧ r ≤ 1 ∧ (r = 1 ↔ x = 1 ∧ ∀ l', l ≤ l' → l' < 9 → P (tg (9 * a + l')) = P (tg (9 * b + l')))
  | d, l, 0, x, _, _, hn, _ => by omega
  | d, l, n + 1, x, hd, hl, hn, hx => by
    have hu := hE.u
    have hor : (nI x = 0 ∨ nI x = 1) := by
      have : x = 0 ∨ x = 1 := by omega
      rcases this with e | e
      · left; rw [e]; rfl
      · right; rw [e]; rfl
    rw [f_Mo_goesAlike_24]
    by_cases c : 9 ≤ l
    · refine ⟨x, ?_, hx, fun z => ⟨z, fun l' h1 h2 => by omega⟩, fun z => z.1⟩
      rw [if_pos (show (9 : Int32) ≤ nI l from (nI_leI (a := 9) (by omega) (by omega)).mpr c), if_pos hor]
    · rw [if_neg (show ¬ (9 : Int32) ≤ nI l from fun z => c ((nI_leI (a := 9) (by omega) (by omega)).mp z))]
      match d, hd, hn with
      | 0, hd, hn => omega
      | d + 1, hd, hn =>
        by_cases c0 : x = 0
        · subst c0
          refine ⟨0, ?_, Nat.zero_le _, fun z => absurd z (by omega), fun z => absurd z.1 (by omega)⟩
          rw [if_pos (show nI 0 = (0 : Int32) from rfl), if_pos hor]
        · obtain rfl : x = 1 := by omega
          rw [if_neg (show ¬ nI 1 = (0 : Int32) from by decide)]
          have t1 := hE.tl (9 * a + l) (by omega)
          have t2 := hE.tl (9 * b + l) (by omega)
          have g1 := hE.g (9 * a + l) (by omega)
          have g2 := hE.g (9 * b + l) (by omega)
          have q1 := hG (tg (9 * a + l)) t1
          have q2 := hG (tg (9 * b + l)) t2
          have v1 := hPl _ t1
          have v2 := hPl _ t2
          by_cases ce : P (tg (9 * a + l)) = P (tg (9 * b + l))
          · obtain ⟨r, f1, f2, f3⟩ := jMr_24 hL (ω := ω) hK hE hG hPl ha hb d (l + 1) n 1 (by omega) (by omega) (by omega) (Nat.le_refl _)
            refine ⟨r, ?_, f2, f3.trans ⟨fun z => ⟨rfl, fun l' h1 h2 => ?_⟩, fun z => ⟨rfl, fun l' h1 h2 => z.2 l' (by omega) h2⟩⟩⟩
            · simp (disch := first | omega | rfl | assumption | exact jokr (by decide) (by omega) | exact jokr4 (by omega) | exact jkt_r _ _ | exact jkt_l (by decide) | exact jfk_l (by decide) | exact jkt_t _ | exact jkt_r6 _ _ | exact jkt_t6 _ | (simp only [jok, jlen]; omega) | decide) only [jm_k hL, jm_gi hL, jm_gr hL, jm_gl hL, jm_pi hL, jm_pl hL, jn_ai hL, jn_ab hL, jn_az hL, jn_al hL, jn_ar hL, jn_an hL, jn_si hL, jn_sb hL, jn_sz hL, jn_sl hL, Option.bind_some, xc, xl, jsA_X, jsI_X, jsG_X, hK _ _, jlk, jmx, jlit, jmul, nI_add, nI_eq, g1, g2, q1, q2]
              rw [if_pos ce]
              exact f1
            · by_cases el : l' = l
              · rw [el]; exact ce
              · exact z.2 l' (by omega) h2
          · obtain ⟨r, f1, f2, f3⟩ := jMr_24 hL (ω := ω) hK hE hG hPl ha hb d (l + 1) n 0 (by omega) (by omega) (by omega) (Nat.zero_le _)
            refine ⟨r, ?_, f2, f3.trans ⟨fun z => absurd z.1 (by omega), fun z => absurd (z.2 l (Nat.le_refl _) (by omega)) ce⟩⟩
            simp (disch := first | omega | rfl | assumption | exact jokr (by decide) (by omega) | exact jokr4 (by omega) | exact jkt_r _ _ | exact jkt_l (by decide) | exact jfk_l (by decide) | exact jkt_t _ | exact jkt_r6 _ _ | exact jkt_t6 _ | (simp only [jok, jlen]; omega) | decide) only [jm_k hL, jm_gi hL, jm_gr hL, jm_gl hL, jm_pi hL, jm_pl hL, jn_ai hL, jn_ab hL, jn_az hL, jn_al hL, jn_ar hL, jn_an hL, jn_si hL, jn_sb hL, jn_sz hL, jn_sl hL, Option.bind_some, xc, xl, jsA_X, jsI_X, jsG_X, hK _ _, jlk, jmx, jlit, jmul, nI_add, nI_eq, g1, g2, q1, q2]
            rw [if_neg ce]
            exact f1
theorem jMr_alike {L : jL} (hL : jgood L) {ω : xS} {S : jSt} {sw ps wy : Nat} (hK : jLK S sw ps wy) {N : Nat} {st tg P : Nat → Nat} (hE : jEM S N st tg) (hG : jGv S N P) (hPl : ∀ s, s < N → P s < 2000) {a b : Nat} (ha : a < N) (hb : b < N) : ∃ r, f_Mo_goesAlike (jad L (jm 0)) (nI a) (nI b) (jW L ω S) = some (nI r) ∧ r ≤ 1 ∧ (r = 1 ↔ jalike tg P a b) := by
  have hu := hE.u
  have q1 := hG a ha
  have q2 := hG b hb
  have v1 := hPl a ha
  have v2 := hPl b hb
  unfold f_Mo_goesAlike
  by_cases c : P a = P b
  · obtain ⟨r, f1, f2, f3⟩ := jMr_24 hL (ω := ω) hK hE hG hPl ha hb 9 0 xFU 1 (by omega) (by omega) (by unfold xFU; omega) (Nat.le_refl _)
    refine ⟨r, ?_, f2, f3.trans ⟨fun z => ⟨c, fun l hl => z.2 l (Nat.zero_le _) hl⟩, fun z => ⟨rfl, fun l _ hl => z.2 l hl⟩⟩⟩
    simp (disch := first | omega | rfl | assumption | exact jokr (by decide) (by omega) | exact jokr4 (by omega) | exact jkt_r _ _ | exact jkt_l (by decide) | exact jfk_l (by decide) | exact jkt_t _ | exact jkt_r6 _ _ | exact jkt_t6 _ | (simp only [jok, jlen]; omega) | decide) only [jm_k hL, jm_gi hL, jm_gr hL, jm_gl hL, jm_pi hL, jm_pl hL, jn_ai hL, jn_ab hL, jn_az hL, jn_al hL, jn_ar hL, jn_an hL, jn_si hL, jn_sb hL, jn_sz hL, jn_sl hL, Option.bind_some, xc, xl, jsA_X, jsI_X, jsG_X, hK _ _, jlk, jmx, jlit, nI_eq, q1, q2]
    rw [if_pos c]
    exact f1
  · obtain ⟨r, f1, f2, f3⟩ := jMr_24 hL (ω := ω) hK hE hG hPl ha hb 9 0 xFU 0 (by omega) (by omega) (by unfold xFU; omega) (Nat.zero_le _)
    refine ⟨r, ?_, f2, f3.trans ⟨fun z => absurd z.1 (by omega), fun z => absurd z.1 c⟩⟩
    simp (disch := first | omega | rfl | assumption | exact jokr (by decide) (by omega) | exact jokr4 (by omega) | exact jkt_r _ _ | exact jkt_l (by decide) | exact jfk_l (by decide) | exact jkt_t _ | exact jkt_r6 _ _ | exact jkt_t6 _ | (simp only [jok, jlen]; omega) | decide) only [jm_k hL, jm_gi hL, jm_gr hL, jm_gl hL, jm_pi hL, jm_pl hL, jn_ai hL, jn_ab hL, jn_az hL, jn_al hL, jn_ar hL, jn_an hL, jn_si hL, jn_sb hL, jn_sz hL, jn_sl hL, Option.bind_some, xc, xl, jsA_X, jsI_X, jsG_X, hK _ _, jlk, jmx, jlit, nI_eq, q1, q2]
    rw [if_neg c]
    exact f1
/-- states 0 .. s-1 have their groups; q of them, each with a model -/
def jRf (T : jSt) (tg P : Nat → Nat) (s q : Nat) (F md : Nat → Nat) : Prop := (∀ i, i < s → jgA T (jm 42) i = nI (F i)) ∧ (jNum s q (jalike tg P) F) ∧ (∀ g, g < q → jgA T (jm 43) g = nI (md g) ∧ md g < s ∧ F (md g) = g)
theorem jRf.f {T : jSt} {tg P : Nat → Nat} {s q : Nat} {F md : Nat → Nat} (h : jRf T tg P s q F md) : ∀ i, i < s → jgA T (jm 42) i = nI (F i) := h.1
theorem jRf.n {T : jSt} {tg P : Nat → Nat} {s q : Nat} {F md : Nat → Nat} (h : jRf T tg P s q F md) : jNum s q (jalike tg P) F := h.2.1
theorem jRf.m {T : jSt} {tg P : Nat → Nat} {s q : Nat} {F md : Nat → Nat} (h : jRf T tg P s q F md) : ∀ g, g < q → jgA T (jm 43) g = nI (md g) ∧ md g < s ∧ F (md g) = g := h.2.2
theorem jMr_12 {L : jL} (hL : jgood L) {ω : xS} {S : jSt} {sw ps wy : Nat} (hK : jLK S sw ps wy) {N : Nat} {st tg P : Nat → Nat} (hE : jEM S N st tg) (hG : jGv S N P) (hPl : ∀ s, s < N → P s < 2000) {s q : Nat} {F md : Nat → Nat} (hs : s < N) (hR : jRf S tg P s q F md) {k4 : Nat → Int32 → Int32 → Int32 → xS → Option (Int32 × xS)} : ∃ T q' F' md', f_Mo_refine_12 k4 xFU (jad L (jm 0)) (nI N) (nI q) (nI s) (nI 0) (jW L ω S) = k4 (jad L (jm 0)) (nI N) (nI q') (nI (s + 1)) (jW L ω T) ∧ jfr jisS S T ∧ jEM T N st tg ∧ jGv T N P ∧ jRf T tg P (s + 1) q' F' md' := by
  have hu := hE.u
  have hqs : q ≤ s := hR.n.q
  -- the search goes on to g
  have go : ∀ g, g ≤ q → (∀ i, i < g → ¬ jalike tg P s (md i)) → ∃ n, f_Mo_refine_12 k4 xFU (jad L (jm 0)) (nI N) (nI q) (nI s) (nI 0) (jW L ω S) = f_Mo_refine_12 k4 (n + 1) (jad L (jm 0)) (nI N) (nI q) (nI s) (nI g) (jW L ω S) := by
    intro g hg hno
    obtain ⟨n, _, e1, _⟩ := jlpI (fun n i (_ : Unit) => f_Mo_refine_12 k4 n (jad L (jm 0)) (nI N) (nI q) (nI s) (nI i) (jW L ω S)) (fun _ _ => True) (lo := 0) (hi := g) (Nat.zero_le _) (by omega) (by
      intro n i _ _ hi _
      refine ⟨(), ?_, trivial⟩
      obtain ⟨m1, m2, m3⟩ := hR.m i (by omega)
      obtain ⟨r, f1, f2, f3⟩ := jMr_alike hL (ω := ω) hK hE hG hPl hs (show md i < N by omega)
      have r0 : r = 0 := by
        have : ¬ r = 1 := fun z => hno i hi (f3.mp z)
        omega
      subst r0
      show f_Mo_refine_12 k4 (n + 1) _ _ _ _ _ _ = f_Mo_refine_12 k4 n _ _ _ _ _ _
      rw [f_Mo_refine_12]
      simp (disch := first | omega | rfl | assumption | exact jokr (by decide) (by omega) | exact jokr4 (by omega) | exact jkt_r _ _ | exact jkt_l (by decide) | exact jfk_l (by decide) | exact jkt_t _ | exact jkt_r6 _ _ | exact jkt_t6 _ | (simp only [jok, jlen]; omega) | decide) only [jm_k hL, jm_gi hL, jm_gr hL, jm_gl hL, jm_pi hL, jm_pl hL, jn_ai hL, jn_ab hL, jn_az hL, jn_al hL, jn_ar hL, jn_an hL, jn_si hL, jn_sb hL, jn_sz hL, jn_sl hL, Option.bind_some, xc, xl, jsA_X, jsI_X, jsG_X, hK _ _, jlk, jmx, jlit, nI_add, nI_leI, if_neg, m1, f1, if_true]) () trivial
    exact ⟨n, e1⟩
  have hrf := jalike.refl tg P
  have hsy : ∀ a b, jalike tg P a b → jalike tg P b a := fun a b z => z.symm
  have htr : ∀ a b c, jalike tg P a b → jalike tg P b c → jalike tg P a c := fun a b c z z' => z.trans z'
  by_cases hex : ∃ r, r < s ∧ jalike tg P r s
  · obtain ⟨r, hr, hal⟩ := hex
    have hgq := hR.n.lt r hr
    obtain ⟨m1, m2, m3⟩ := hR.m (F r) hgq
    obtain ⟨n, e1⟩ := go (F r) (by omega) (fun i hi z => by
      obtain ⟨w1, w2, w3⟩ := hR.m i (by omega)
      have := (hR.n.eq (md i) r w2 hr).mpr ((hsy _ _ z).trans (hsy _ _ hal))
      omega)
    obtain ⟨r1, f1, f2, f3⟩ := jMr_alike hL (ω := ω) hK hE hG hPl hs (show md (F r) < N by omega)
    have r11 : r1 = 1 := f3.mpr ((hsy _ _ hal).trans ((hR.n.eq r (md (F r)) hr m2).mp m3.symm))
    subst r11
    refine ⟨jsA S (jm 42) s (nI (F r)), q, fun i => if i = s then F r else F i, md, ?_, jfr.sA _ _ _ (jisS_y (by omega) (by omega)), hE.same (jsA_fn (jmne (by decide))) (jsA_fn (jmne (by decide))), fun i hi => by rw [jsA_ne (jmne (by decide))]; exact hG i hi, ?_, ?_, ?_⟩
    · rw [e1, f_Mo_refine_12]
      have hz : ¬ nI 1 = nI 0 := by decide
      simp (disch := first | omega | rfl | assumption | exact jokr (by decide) (by omega) | exact jokr4 (by omega) | exact jkt_r _ _ | exact jkt_l (by decide) | exact jfk_l (by decide) | exact jkt_t _ | exact jkt_r6 _ _ | exact jkt_t6 _ | (simp only [jok, jlen]; omega) | decide) only [jm_k hL, jm_gi hL, jm_gr hL, jm_gl hL, jm_pi hL, jm_pl hL, jn_ai hL, jn_ab hL, jn_az hL, jn_al hL, jn_ar hL, jn_an hL, jn_si hL, jn_sb hL, jn_sz hL, jn_sl hL, Option.bind_some, xc, xl, jsA_X, jsI_X, jsG_X, hK _ _, jlk, jmx, jlit, nI_leI, if_neg, m1, f1, hz, if_false]
      unfold f_Mo_refine_39
      simp (disch := first | omega | rfl | assumption | exact jokr (by decide) (by omega) | exact jokr4 (by omega) | exact jkt_r _ _ | exact jkt_l (by decide) | exact jfk_l (by decide) | exact jkt_t _ | exact jkt_r6 _ _ | exact jkt_t6 _ | (simp only [jok, jlen]; omega) | decide) only [jm_k hL, jm_gi hL, jm_gr hL, jm_gl hL, jm_pi hL, jm_pl hL, jn_ai hL, jn_ab hL, jn_az hL, jn_al hL, jn_ar hL, jn_an hL, jn_si hL, jn_sb hL, jn_sz hL, jn_sl hL, Option.bind_some, xc, xl, jsA_X, jsI_X, jsG_X, hK _ _, jlk, jmx, jlit, nI_add, nI_eq, if_neg]
    · intro i hi
      rw [jsA_c]
      show _ = nI (if i = s then F r else F i)
      by_cases c : i = s
      · rw [if_pos c, if_pos c]
      · rw [if_neg c, if_neg c]; exact hR.f i (by omega)
    · exact hR.n.old hrf hsy htr hr hal (fun i hi => if_neg (by omega)) (if_pos rfl)
    · intro g hg
      obtain ⟨w1, w2, w3⟩ := hR.m g hg
      refine ⟨by rw [jsA_ne (jmne (by decide))]; exact w1, by omega, ?_⟩
      show (if md g = s then F r else F (md g)) = g
      rw [if_neg (by omega)]; exact w3
  · have hno : ∀ r, r < s → ¬ jalike tg P r s := fun r hr z => hex ⟨r, hr, z⟩
    obtain ⟨n, e1⟩ := go q (Nat.le_refl _) (fun i hi z => by
      obtain ⟨w1, w2, w3⟩ := hR.m i hi
      exact hno _ w2 (hsy _ _ z))
    refine ⟨jsA (jsA S (jm 43) q (nI s)) (jm 42) s (nI q), q + 1, fun i => if i = s then q else F i, fun g => if g = q then s else md g, ?_, (jfr.sA _ _ _ (jisS_y (by omega) (by omega))).trans (jfr.sA _ _ _ (jisS_y (by omega) (by omega))), (hE.same (jsA_fn (jmne (by decide))) (jsA_fn (jmne (by decide)))).same (jsA_fn (jmne (by decide))) (jsA_fn (jmne (by decide))), fun i hi => by rw [jsA_ne (jmne (by decide)), jsA_ne (jmne (by decide))]; exact hG i hi, ?_, ?_, ?_⟩
    · rw [e1, f_Mo_refine_12]
      simp (disch := first | omega | rfl | assumption | exact jokr (by decide) (by omega) | exact jokr4 (by omega) | exact jkt_r _ _ | exact jkt_l (by decide) | exact jfk_l (by decide) | exact jkt_t _ | exact jkt_r6 _ _ | exact jkt_t6 _ | (simp only [jok, jlen]; omega) | decide) only [nI_leI, if_pos]
      unfold f_Mo_refine_39
      simp (disch := first | omega | rfl | assumption | exact jokr (by decide) (by omega) | exact jokr4 (by omega) | exact jkt_r _ _ | exact jkt_l (by decide) | exact jfk_l (by decide) | exact jkt_t _ | exact jkt_r6 _ _ | exact jkt_t6 _ | (simp only [jok, jlen]; omega) | decide) only [jm_k hL, jm_gi hL, jm_gr hL, jm_gl hL, jm_pi hL, jm_pl hL, jn_ai hL, jn_ab hL, jn_az hL, jn_al hL, jn_ar hL, jn_an hL, jn_si hL, jn_sb hL, jn_sz hL, jn_sl hL, Option.bind_some, xc, xl, jsA_X, jsI_X, jsG_X, hK _ _, jlk, jmx, jlit, nI_add, if_true]
    · intro i hi
      rw [jsA_c]
      show _ = nI (if i = s then q else F i)
      by_cases c : i = s
      · rw [if_pos c, if_pos c]
      · rw [if_neg c, if_neg c, jsA_ne (jmne (by decide))]; exact hR.f i (by omega)
    · exact hR.n.new hrf hsy hno (fun i hi => if_neg (by omega)) (if_pos rfl)
    · intro g hg
      rw [jsA_ne (jmne (by decide)), jsA_c]
      show (if g = q then nI s else jgA S (jm 43) g) = nI (if g = q then s else md g) ∧ (if g = q then s else md g) < s + 1 ∧ (if (if g = q then s else md g) = s then q else F (if g = q then s else md g)) = g
      by_cases c : g = q
      · rw [if_pos c, if_pos c, if_pos rfl]; exact ⟨rfl, by omega, c.symm⟩
      · obtain ⟨w1, w2, w3⟩ := hR.m g (by omega)
        rw [if_neg c, if_neg c, if_neg (by omega)]; exact ⟨w1, by omega, w3⟩
theorem jMr_refine {L : jL} (hL : jgood L) {ω : xS} {S : jSt} {sw ps wy : Nat} (hK : jLK S sw ps wy) {N : Nat} {st tg P : Nat → Nat} (hE : jEM S N st tg) (hG : jGv S N P) (hPl : ∀ s, s < N → P s < 2000) : ∃ T q F, f_Mo_refine (jad L (jm 0)) (nI N) (jW L ω S) = some (nI q, jW L ω T) ∧ jfr jisS S T ∧ jEM T N st tg ∧ jGv T N F ∧ jNum N q (jalike tg P) F := by
  have hu := hE.u
  obtain ⟨n, ⟨T1, q, F, md⟩, e1, a1, a2, a3, a4⟩ := jlpI (fun n i (σ : jSt × Nat × (Nat → Nat) × (Nat → Nat)) => f_Mo_refine_4 n (jad L (jm 0)) (nI N) (nI σ.2.1) (nI i) (jW L ω σ.1)) (fun i σ => jfr jisS S σ.1 ∧ jEM σ.1 N st tg ∧ jGv σ.1 N P ∧ jRf σ.1 tg P i σ.2.1 σ.2.2.1 σ.2.2.2) (lo := 0) (hi := N) (Nat.zero_le _) (by omega) (by
    intro n i ⟨T, q, F, md⟩ _ hi ⟨b1, b2, b3, b4⟩
    have hK := hK.of b1.2.2.1
    obtain ⟨T', q', F', md', c1, c2, c3, c4, c5⟩ := jMr_12 hL (ω := ω) hK b2 b3 hPl hi b4 (k4 := f_Mo_refine_4 n)
    refine ⟨(T', q', F', md'), ?_, b1.trans c2, c3, c4, c5⟩
    show f_Mo_refine_4 (n + 1) _ _ _ _ _ = f_Mo_refine_4 n _ _ _ _ _
    rw [f_Mo_refine_4]
    simp (disch := first | omega | rfl | assumption | exact jokr (by decide) (by omega) | exact jokr4 (by omega) | exact jkt_r _ _ | exact jkt_l (by decide) | exact jfk_l (by decide) | exact jkt_t _ | exact jkt_r6 _ _ | exact jkt_t6 _ | (simp only [jok, jlen]; omega) | decide) only [nI_leI, if_neg]
    exact c1) (S, 0, fun _ => 0, fun _ => 0) ⟨jfr.refl _ _, hE, hG, fun i hi => absurd hi (Nat.not_lt_zero i), jNum.zero _ _, fun g hg => absurd hg (Nat.not_lt_zero g)⟩
  have hK1 := hK.of a1.2.2.1
  have a4 : jRf T1 tg P N q F md := a4
  obtain ⟨n2, T2, e2, d1, d2, d3, d4⟩ := jlpI (fun n i (T : jSt) => f_Mo_refine_71 n (jad L (jm 0)) (nI N) (nI q) (nI i) (jW L ω T)) (fun i T => jfr jisS T1 T ∧ jEM T N st tg ∧ jgA T (jm 42) = jgA T1 (jm 42) ∧ jGv T i F) (lo := 0) (hi := N) (Nat.zero_le _) (by omega) (by
    intro n i T _ hi ⟨b1, b2, b3, b4⟩
    have hK := hK1.of b1.2.2.1
    have v : jgA T (jm 42) i = nI (F i) := by rw [b3]; exact a4.f i hi
    refine ⟨jsA T (jm 41) i (nI (F i)), ?_, b1.trans (jfr.sA _ _ _ (jisS_y (by omega) (by omega))), b2.same (jsA_fn (jmne (by decide))) (jsA_fn (jmne (by decide))), ?_, fun x hx => ?_⟩
    · show f_Mo_refine_71 (n + 1) _ _ _ _ _ = f_Mo_refine_71 n _ _ _ _ _
      rw [f_Mo_refine_71]
      simp (disch := first | omega | rfl | assumption | exact jokr (by decide) (by omega) | exact jokr4 (by omega) | exact jkt_r _ _ | exact jkt_l (by decide) | exact jfk_l (by decide) | exact jkt_t _ | exact jkt_r6 _ _ | exact jkt_t6 _ | (simp only [jok, jlen]; omega) | decide) only [jm_k hL, jm_gi hL, jm_gr hL, jm_gl hL, jm_pi hL, jm_pl hL, jn_ai hL, jn_ab hL, jn_az hL, jn_al hL, jn_ar hL, jn_an hL, jn_si hL, jn_sb hL, jn_sz hL, jn_sl hL, Option.bind_some, xc, xl, jsA_X, jsI_X, jsG_X, hK _ _, jlk, jmx, jlit, nI_add, nI_leI, if_neg, v]
    · rw [jsA_fn (jmne (by decide))]; exact b3
    · rw [jsA_c]
      by_cases c : x = i
      · rw [if_pos c, c]
      · rw [if_neg c]; exact b4 x (by omega)) T1 ⟨jfr.refl _ _, a2, rfl, fun x hx => absurd hx (Nat.not_lt_zero x)⟩
  refine ⟨T2, q, F, ?_, a1.trans d1, d2, d4, a4.n⟩
  unfold f_Mo_refine
  refine e1.trans ?_
  show f_Mo_refine_4 (n + 1) _ _ _ _ _ = _
  rw [f_Mo_refine_4]
  simp (disch := first | omega | rfl | assumption | exact jokr (by decide) (by omega) | exact jokr4 (by omega) | exact jkt_r _ _ | exact jkt_l (by decide) | exact jfk_l (by decide) | exact jkt_t _ | exact jkt_r6 _ _ | exact jkt_t6 _ | (simp only [jok, jlen]; omega) | decide) only [nI_leI, if_pos]
  refine e2.trans ?_
  show f_Mo_refine_71 (n2 + 1) _ _ _ _ _ = _
  rw [f_Mo_refine_71]
  simp (disch := first | omega | rfl | assumption | exact jokr (by decide) (by omega) | exact jokr4 (by omega) | exact jkt_r _ _ | exact jkt_l (by decide) | exact jfk_l (by decide) | exact jkt_t _ | exact jkt_r6 _ _ | exact jkt_t6 _ | (simp only [jok, jlen]; omega) | decide) only [nI_leI, if_pos]
theorem jMr_rounds {L : jL} (hL : jgood L) {ω : xS} {sw ps wy N k : Nat} {st tg fin : Nat → Nat} : ∀ d r m (S : jSt) (P : Nat → Nat) q p, N ≤ p + d → d + 1 ≤ m → p ≤ q → 1 ≤ q → (p = 0 ∨ ∃ G, jNum N p (jRl tg fin r) G) → jLK S sw ps wy → jEM S N st tg → jGv S N P → jNum N q (jRl tg fin (r + 1)) P → ∃ T F q', f_Mo_automaton_175 m (jad L (jm 0)) (nI k) (nI N) (nI q) (nI p) (jW L ω S) = ((xk (jW L ω T) (jad L (jm 0)) 12 (f_Mo_lay (jad L (jm 0)) (nI k) (nI N) (jW L ω T))).bind fun w => some w) ∧ jfr jisS S T ∧ jEM T N st tg ∧ jGv T N F ∧ jNum N q' (jRI tg fin) F
  | d, r, 0, S, P, q, p, _, hm, _, _, _, _, _, _, _ => by omega
  | d, r, m + 1, S, P, q, p, hd, hm, hpq, hq1, hp, hK, hE, hG, hN => by
    have hu := hE.u
    have hqN := hN.q
    rw [f_Mo_automaton_175]
    by_cases c : q = p
    · subst c
      rcases hp with hp | ⟨G, hp⟩
      · omega
      · refine ⟨S, P, q, ?_, jfr.refl _ _, hE, hG, (jRl_stop hE.tl hp hN).1⟩
        rw [if_pos rfl]
    · rw [if_neg (fun z => by rw [nI_eq (by omega) (by omega)] at z; exact c z)]
      match d, hd, hm with
      | 0, hd, hm => omega
      | d + 1, hd, hm =>
        obtain ⟨T, q', F, e1, a1, a2, a3, a4⟩ := jMr_refine hL (ω := ω) hK hE hG (fun s hs => by have := hN.lt s hs; omega)
        have a5 := a4.cong (fun a b ha hb => jalike_Rl hE.tl hN.eq ha hb)
        have hqq : q ≤ q' := hN.finer a5 (fun a b _ _ z => z.1)
        obtain ⟨T2, F2, q2, f1, f2, f3, f4, f5⟩ := jMr_rounds hL (ω := ω) (k := k) d (r + 1) m T F q' q (by omega) (by omega) hqq (by omega) (Or.inr ⟨P, hN⟩) (hK.of a1.2.2.1) a2 a3 a5
        refine ⟨T2, F2, q2, ?_, a1.trans f2, f3, f4, f5⟩
        rw [jkm hL, e1]
        exact f1
