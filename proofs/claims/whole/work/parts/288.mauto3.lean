/-! THE REFERENCE LAYS the least automaton down -/
def jisY : jC → Prop := fun c => jisS c ∨ c = jm 23 ∨ c = jm 24
theorem jisY_n {q : Nat} (h : q < 23) : ¬ jisY (jm q) := fun z => by
  rcases z with z | z | z
  · exact jisS_n (Or.inl (by omega)) z
  · exact jmne (by omega) z
  · exact jmne (by omega) z
theorem jisY_s {q : Nat} (h : 38 ≤ q) (h' : q ≤ 44) : jisY (jm q) := Or.inl (jisS_y h h')
def jLy (S T : jSt) (k q N : Nat) (P nx fe : Nat → Nat) (m rows c : Nat) : Prop := (jfr jisY S T) ∧ (∀ i, i < 9225 * k ∨ 9225 * k + 9225 ≤ i → jgA T (jm 23) i = jgA S (jm 23) i) ∧ (∀ i, i < 1025 * k ∨ 1025 * k + 1025 ≤ i → jgA T (jm 24) i = jgA S (jm 24) i) ∧ (∀ g, g < q → jgA T (jm 44) g = if g < c then nI g else nI 0 - nI 1) ∧ (∀ i, i < c → ∃ a, a < N ∧ P a = i ∧ jgA T (jm 42) i = nI a) ∧ (∀ i, i < m → jgA T (jm 23) (9225 * k + i) = nI (nx i)) ∧ (∀ s, s < rows → jgA T (jm 24) (1025 * k + s) = nI (fe s))
theorem jLy.fr {S T : jSt} {k q N : Nat} {P nx fe : Nat → Nat} {m rows c : Nat} (h : jLy S T k q N P nx fe m rows c) : jfr jisY S T := h.1
theorem jLy.x {S T : jSt} {k q N : Nat} {P nx fe : Nat → Nat} {m rows c : Nat} (h : jLy S T k q N P nx fe m rows c) : ∀ i, i < 9225 * k ∨ 9225 * k + 9225 ≤ i → jgA T (jm 23) i = jgA S (jm 23) i := h.2.1
theorem jLy.y {S T : jSt} {k q N : Nat} {P nx fe : Nat → Nat} {m rows c : Nat} (h : jLy S T k q N P nx fe m rows c) : ∀ i, i < 1025 * k ∨ 1025 * k + 1025 ≤ i → jgA T (jm 24) i = jgA S (jm 24) i := h.2.2.1
theorem jLy.u {S T : jSt} {k q N : Nat} {P nx fe : Nat → Nat} {m rows c : Nat} (h : jLy S T k q N P nx fe m rows c) : ∀ g, g < q → jgA T (jm 44) g = if g < c then nI g else nI 0 - nI 1 := h.2.2.2.1
theorem jLy.b {S T : jSt} {k q N : Nat} {P nx fe : Nat → Nat} {m rows c : Nat} (h : jLy S T k q N P nx fe m rows c) : ∀ i, i < c → ∃ a, a < N ∧ P a = i ∧ jgA T (jm 42) i = nI a := h.2.2.2.2.1
theorem jLy.n {S T : jSt} {k q N : Nat} {P nx fe : Nat → Nat} {m rows c : Nat} (h : jLy S T k q N P nx fe m rows c) : ∀ i, i < m → jgA T (jm 23) (9225 * k + i) = nI (nx i) := h.2.2.2.2.2.1
theorem jLy.f {S T : jSt} {k q N : Nat} {P nx fe : Nat → Nat} {m rows c : Nat} (h : jLy S T k q N P nx fe m rows c) : ∀ s, s < rows → jgA T (jm 24) (1025 * k + s) = nI (fe s) := h.2.2.2.2.2.2
theorem jMr_87 {L : jL} (hL : jgood L) {ω : xS} {S : jSt} {sw ps wy : Nat} (hK : jLK S sw ps wy) {k N q : Nat} {st tg P nx fe : Nat → Nat} (hk : k < 16) (hq : q ≤ N) {S0 : jSt} (hE : jEM S N st tg) (hG : jGv S N P) (hPq : ∀ a, a < N → P a < q) (hnx : ∀ a l, a < N → l < 9 → nx (9 * P a + l) = P (tg (9 * a + l))) (hB : jBO q nx (jqc nx)) {s a rows : Nat} (hs : s < q) (ha : a < N) (hPa : P a = s) (h : jLy S0 S k q N P nx fe (9 * s) rows (jqc nx (9 * s))) {k44 : Nat → Int32 → Int32 → Int32 → xS → Option xS} : ∃ T, f_Mo_lay_87 k44 xFU (jad L (jm 0)) (nI k) (nI (jqc nx (9 * s))) (nI s) (nI a) (nI 0) (jW L ω S) = k44 (jad L (jm 0)) (nI k) (nI (jqc nx (9 * (s + 1)))) (nI (s + 1)) (jW L ω T) ∧ jLK T sw ps wy ∧ jEM T N st tg ∧ jGv T N P ∧ jLy S0 T k q N P nx fe (9 * (s + 1)) rows (jqc nx (9 * (s + 1))) := by
  have hu := hE.u
  obtain ⟨n, T, e1, a1, a2, a3, a4⟩ := jlpI (fun n i (T : jSt) => f_Mo_lay_87 k44 n (jad L (jm 0)) (nI k) (nI (jqc nx (9 * s + i))) (nI s) (nI a) (nI i) (jW L ω T)) (fun i T => jLK T sw ps wy ∧ jEM T N st tg ∧ jGv T N P ∧ jLy S0 T k q N P nx fe (9 * s + i) rows (jqc nx (9 * s + i))) (lo := 0) (hi := 9) (Nat.zero_le _) (by omega) (by
    intro n i T _ hi ⟨b1, b2, b3, b4⟩
    have hK := b1
    have ht := b2.tl (9 * a + i) (by omega)
    have hg := b2.g (9 * a + i) (by omega)
    have hp := b3 (tg (9 * a + i)) ht
    have hpq := hPq _ ht
    have hu2 := b4.u _ hpq
    have e2 : nx (9 * s + i) = P (tg (9 * a + i)) := by rw [← hPa]; exact hnx a i ha hi
    have hcq : jqc nx (9 * s + i) ≤ q := hB.le (by omega)
    rcases hB.st (9 * s + i) (by omega) with ⟨c1, c2⟩ | ⟨c1, c2⟩
    · rw [e2] at c1
      rw [if_pos c1] at hu2
      refine ⟨jsA T (jm 23) (9225 * k + (9 * s + i)) (nI (P (tg (9 * a + i)))), ?_, b1, b2.same (jsA_fn (jmne (by decide))) (jsA_fn (jmne (by decide))), fun x hx => by rw [jsA_ne (jmne (by decide))]; exact b3 x hx, ?_⟩
      · show f_Mo_lay_87 k44 (n + 1) _ _ _ _ _ _ _ = f_Mo_lay_87 k44 n _ _ _ _ _ _ _
        rw [f_Mo_lay_87]
        simp (disch := first | omega | rfl | assumption | exact jokr (by decide) (by omega) | exact jokr4 (by omega) | exact jkt_r _ _ | exact jkt_l (by decide) | exact jfk_l (by decide) | exact jkt_t _ | exact jkt_r6 _ _ | exact jkt_t6 _ | (simp only [jok, jlen]; omega) | decide) only [jm_k hL, jm_gi hL, jm_gr hL, jm_gl hL, jm_pi hL, jm_pl hL, jn_ai hL, jn_ab hL, jn_az hL, jn_al hL, jn_ar hL, jn_an hL, jn_si hL, jn_sb hL, jn_sz hL, jn_sl hL, Option.bind_some, xc, xl, jsA_X, jsI_X, jsG_X, hK _ _, jlk, jmx, jlit, jmul, nI_add, nI_leI, if_neg, hg, hp, hu2]
        rw [if_pos (Nat.zero_le _)]
        unfold f_Mo_lay_148
        simp (disch := first | omega | rfl | assumption | exact jokr (by decide) (by omega) | exact jokr4 (by omega) | exact jkt_r _ _ | exact jkt_l (by decide) | exact jfk_l (by decide) | exact jkt_t _ | exact jkt_r6 _ _ | exact jkt_t6 _ | (simp only [jok, jlen]; omega) | decide) only [jm_k hL, jm_gi hL, jm_gr hL, jm_gl hL, jm_pi hL, jm_pl hL, jn_ai hL, jn_ab hL, jn_az hL, jn_al hL, jn_ar hL, jn_an hL, jn_si hL, jn_sb hL, jn_sz hL, jn_sl hL, Option.bind_some, xc, xl, jsA_X, jsI_X, jsG_X, hK _ _, jlk, jmx, jlit, jmul, nI_add, jix9, hp, hu2]
        rw [show 9 * s + (i + 1) = 9 * s + i + 1 by omega, c2]
      · rw [show 9 * s + (i + 1) = 9 * s + i + 1 by omega, c2]
        refine ⟨b4.fr.trans (jfr.sA _ _ _ (Or.inr (Or.inl rfl))), fun x hx => ?_, fun x hx => ?_, fun g hg => ?_, fun x hx => ?_, fun x hx => ?_, fun x hx => ?_⟩
        · rw [jsA_c, if_neg (by omega)]; exact b4.x x hx
        · rw [jsA_ne (jmne (by decide))]; exact b4.y x hx
        · rw [jsA_ne (jmne (by decide))]; exact b4.u g hg
        · rw [jsA_ne (jmne (by decide))]; exact b4.b x hx
        · rw [jsA_c]
          by_cases c : x = 9 * s + i
          · rw [if_pos (by omega), c, e2]
          · rw [if_neg (by omega)]; exact b4.n x (by omega)
        · rw [jsA_ne (jmne (by decide))]; exact b4.f x hx
    · rw [e2] at c1
      rw [if_neg (by omega)] at hu2
      have hng : ¬ nI 0 ≤ nI 0 - nI 1 := fun z => absurd rfl ((jm1g (n := 0) (by omega)).mp z)
      refine ⟨jsA (jsA (jsA T (jm 44) (P (tg (9 * a + i))) (nI (jqc nx (9 * s + i)))) (jm 42) (jqc nx (9 * s + i)) (nI (tg (9 * a + i)))) (jm 23) (9225 * k + (9 * s + i)) (nI (jqc nx (9 * s + i))), ?_, b1, ((b2.same (jsA_fn (jmne (by decide))) (jsA_fn (jmne (by decide)))).same (jsA_fn (jmne (by decide))) (jsA_fn (jmne (by decide)))).same (jsA_fn (jmne (by decide))) (jsA_fn (jmne (by decide))), fun x hx => by rw [jsA_ne (jmne (by decide)), jsA_ne (jmne (by decide)), jsA_ne (jmne (by decide))]; exact b3 x hx, ?_⟩
      · show f_Mo_lay_87 k44 (n + 1) _ _ _ _ _ _ _ = f_Mo_lay_87 k44 n _ _ _ _ _ _ _
        rw [f_Mo_lay_87]
        simp (disch := first | omega | rfl | assumption | exact jokr (by decide) (by omega) | exact jokr4 (by omega) | exact jkt_r _ _ | exact jkt_l (by decide) | exact jfk_l (by decide) | exact jkt_t _ | exact jkt_r6 _ _ | exact jkt_t6 _ | (simp only [jok, jlen]; omega) | decide) only [jm_k hL, jm_gi hL, jm_gr hL, jm_gl hL, jm_pi hL, jm_pl hL, jn_ai hL, jn_ab hL, jn_az hL, jn_al hL, jn_ar hL, jn_an hL, jn_si hL, jn_sb hL, jn_sz hL, jn_sl hL, Option.bind_some, xc, xl, jsA_X, jsI_X, jsG_X, hK _ _, jlk, jmx, jlit, jmul, nI_add, nI_leI, if_neg, hg, hp, hu2]
        (try rw [if_neg hng])
        have v1 : jgA (jsA (jsA T (jm 44) (P (tg (9 * a + i))) (nI (jqc nx (9 * s + i)))) (jm 42) (jqc nx (9 * s + i)) (nI (tg (9 * a + i)))) (jm 41) (tg (9 * a + i)) = nI (P (tg (9 * a + i))) := by
          rw [jsA_ne (jmne (by decide)), jsA_ne (jmne (by decide))]; exact hp
        have v2 : jgA (jsA (jsA T (jm 44) (P (tg (9 * a + i))) (nI (jqc nx (9 * s + i)))) (jm 42) (jqc nx (9 * s + i)) (nI (tg (9 * a + i)))) (jm 44) (P (tg (9 * a + i))) = nI (jqc nx (9 * s + i)) := by
          rw [jsA_ne (jmne (by decide)), jsA_c, if_pos rfl]
        (try simp (disch := first | omega | rfl | assumption | exact jokr (by decide) (by omega) | exact jokr4 (by omega) | exact jkt_r _ _ | exact jkt_l (by decide) | exact jfk_l (by decide) | exact jkt_t _ | exact jkt_r6 _ _ | exact jkt_t6 _ | (simp only [jok, jlen]; omega) | decide) only [jm_k hL, jm_gi hL, jm_gr hL, jm_gl hL, jm_pi hL, jm_pl hL, jn_ai hL, jn_ab hL, jn_az hL, jn_al hL, jn_ar hL, jn_an hL, jn_si hL, jn_sb hL, jn_sz hL, jn_sl hL, Option.bind_some, xc, xl, jsA_X, jsI_X, jsG_X, hK _ _, jlk, jmx, jlit, nI_add])
        unfold f_Mo_lay_148
        simp (disch := first | omega | rfl | assumption | exact jokr (by decide) (by omega) | exact jokr4 (by omega) | exact jkt_r _ _ | exact jkt_l (by decide) | exact jfk_l (by decide) | exact jkt_t _ | exact jkt_r6 _ _ | exact jkt_t6 _ | (simp only [jok, jlen]; omega) | decide) only [jm_k hL, jm_gi hL, jm_gr hL, jm_gl hL, jm_pi hL, jm_pl hL, jn_ai hL, jn_ab hL, jn_az hL, jn_al hL, jn_ar hL, jn_an hL, jn_si hL, jn_sb hL, jn_sz hL, jn_sl hL, Option.bind_some, xc, xl, jsA_X, jsI_X, jsG_X, hK _ _, jlk, jmx, jlit, jmul, nI_add, jix9, v1, v2]
        rw [show 9 * s + (i + 1) = 9 * s + i + 1 by omega, c2]
      · rw [show 9 * s + (i + 1) = 9 * s + i + 1 by omega, c2]
        refine ⟨((b4.fr.trans (jfr.sA _ _ _ (jisY_s (by omega) (by omega)))).trans (jfr.sA _ _ _ (jisY_s (by omega) (by omega)))).trans (jfr.sA _ _ _ (Or.inr (Or.inl rfl))), fun x hx => ?_, fun x hx => ?_, fun g hg => ?_, fun x hx => ?_, fun x hx => ?_, fun x hx => ?_⟩
        · rw [jsA_c, if_neg (by omega), jsA_ne (jmne (by decide)), jsA_ne (jmne (by decide))]; exact b4.x x hx
        · rw [jsA_ne (jmne (by decide)), jsA_ne (jmne (by decide)), jsA_ne (jmne (by decide))]; exact b4.y x hx
        · rw [jsA_ne (jmne (by decide)), jsA_ne (jmne (by decide)), jsA_c]
          by_cases c : g = P (tg (9 * a + i))
          · rw [if_pos c, if_pos (by omega), c, c1]
          · rw [if_neg c, b4.u g hg]
            by_cases c3 : g < jqc nx (9 * s + i)
            · rw [if_pos c3, if_pos (by omega)]
            · rw [if_neg c3, if_neg (by omega)]
        · rw [jsA_ne (jmne (by decide)), jsA_c]
          by_cases c : x = jqc nx (9 * s + i)
          · rw [if_pos c]; exact ⟨tg (9 * a + i), ht, by omega, rfl⟩
          · rw [if_neg c, jsA_ne (jmne (by decide))]; exact b4.b x (by omega)
        · rw [jsA_c]
          by_cases c : x = 9 * s + i
          · rw [if_pos (by omega), c, e2, c1]
          · rw [if_neg (by omega), jsA_ne (jmne (by decide)), jsA_ne (jmne (by decide))]; exact b4.n x (by omega)
        · rw [jsA_ne (jmne (by decide)), jsA_ne (jmne (by decide)), jsA_ne (jmne (by decide))]; exact b4.f x hx) S ⟨hK, hE, hG, h⟩
  refine ⟨T, ?_, a1, a2, a3, by rw [show 9 * (s + 1) = 9 * s + 9 by omega]; exact a4⟩
  refine e1.trans ?_
  show f_Mo_lay_87 k44 (n + 1) _ _ _ _ _ _ _ = _
  rw [f_Mo_lay_87, show 9 * (s + 1) = 9 * s + 9 by omega]
  simp (disch := first | omega | rfl | assumption | exact jokr (by decide) (by omega) | exact jokr4 (by omega) | exact jkt_r _ _ | exact jkt_l (by decide) | exact jfk_l (by decide) | exact jkt_t _ | exact jkt_r6 _ _ | exact jkt_t6 _ | (simp only [jok, jlen]; omega) | decide) only [jlit, nI_add, nI_leI, if_pos]
theorem jMr_lay {L : jL} (hL : jgood L) {ω : xS} {S : jSt} {sw ps wy : Nat} (hK : jLK S sw ps wy) {k sz : Nat} {ls fo : Nat → Nat} {la no : Nat} (hP : jPM S k sz ls fo la no) {N q : Nat} {st tg P nx fe : Nat → Nat} {R : Nat → Nat → Prop} (hE : jEM S N st tg) (hG : jGv S N P) (hR : jNum N q R P) (hnx : ∀ a l, a < N → l < 9 → nx (9 * P a + l) = P (tg (9 * a + l))) (hfe : ∀ a, a < N → fe (P a) = jac2 la no (st a)) (hB : jBO q nx (jqc nx)) : ∃ T, f_Mo_lay (jad L (jm 0)) (nI k) (nI N) (jW L ω S) = some (jW L ω (jsA T (jm 22) k (nI q))) ∧ jLy S T k q N P nx fe (9 * q) q q := by
  have hu := hE.u
  have hp1 := hE.p
  have hk := hP.k
  have hqN := hR.q
  have hP0 : P 0 = 0 := by have := hR.le 0 (by omega); omega
  have hq1 : 1 ≤ q := by have := hR.lt 0 (by omega); omega
  obtain ⟨n, T1, e1, a1, a2⟩ := jlpI (fun n i (T : jSt) => f_Mo_lay_2 n (jad L (jm 0)) (nI k) (nI N) (nI i) (jW L ω T)) (fun i T => jfr (fun c => c = jm 44) S T ∧ ∀ x, x < i → jgA T (jm 44) x = nI 0 - nI 1) (lo := 0) (hi := N) (Nat.zero_le _) (by omega) (by
    intro n i T _ hi ⟨b1, b2⟩
    have hK := hK.of b1.2.2.1
    refine ⟨jsA T (jm 44) i (nI 0 - nI 1), ?_, b1.trans (jfr.sA _ _ _ rfl), fun x hx => ?_⟩
    · show f_Mo_lay_2 (n + 1) _ _ _ _ _ = f_Mo_lay_2 n _ _ _ _ _
      rw [f_Mo_lay_2, show (-1 : Int32) = nI 0 - nI 1 by decide]
      simp (disch := first | omega | rfl | assumption | exact jokr (by decide) (by omega) | exact jokr4 (by omega) | exact jkt_r _ _ | exact jkt_l (by decide) | exact jfk_l (by decide) | exact jkt_t _ | exact jkt_r6 _ _ | exact jkt_t6 _ | (simp only [jok, jlen]; omega) | decide) only [jm_k hL, jm_gi hL, jm_gr hL, jm_gl hL, jm_pi hL, jm_pl hL, jn_ai hL, jn_ab hL, jn_az hL, jn_al hL, jn_ar hL, jn_an hL, jn_si hL, jn_sb hL, jn_sz hL, jn_sl hL, Option.bind_some, xc, xl, jsA_X, jsI_X, jsG_X, hK _ _, jlk, jmx, jlit, nI_add, nI_leI, if_neg]
    · rw [jsA_c]
      by_cases c : x = i
      · rw [if_pos c]
      · rw [if_neg c]; exact b2 x (by omega)) S ⟨jfr.refl _ _, fun x hx => absurd hx (Nat.not_lt_zero x)⟩
  have hK1 := hK.of a1.2.2.1
  have n44 : ∀ q, q ≠ 44 → ¬ (fun c => c = jm 44) (jm q) := fun q hq z => jmne hq z
  have hE1 : jEM T1 N st tg := hE.same (a1.2.2.2 _ (n44 38 (by omega))) (a1.2.2.2 _ (n44 40 (by omega)))
  have hG1 : jGv T1 N P := fun s hs => by rw [a1.2.2.2 _ (n44 41 (by omega))]; exact hG s hs
  have g0 : jgA T1 (jm 41) 0 = nI 0 := by rw [hG1 0 (by omega), hP0]
  have y0 : jLy S (jsA (jsA T1 (jm 44) 0 (nI 0)) (jm 42) 0 (nI 0)) k q N P nx fe (9 * 0) 0 (jqc nx (9 * 0)) := by
    refine ⟨((a1.weak (fun c hc => hc ▸ jisY_s (q := 44) (by omega) (by omega))).trans (jfr.sA _ _ _ (jisY_s (by omega) (by omega)))).trans (jfr.sA _ _ _ (jisY_s (by omega) (by omega))), fun i _ => ?_, fun i _ => ?_, fun g hg => ?_, fun i hi => ?_, fun i hi => absurd hi (Nat.not_lt_zero i), fun s hs => absurd hs (Nat.not_lt_zero s)⟩
    · rw [jsA_ne (jmne (by decide)), jsA_ne (jmne (by decide)), a1.2.2.2 _ (n44 23 (by omega))]
    · rw [jsA_ne (jmne (by decide)), jsA_ne (jmne (by decide)), a1.2.2.2 _ (n44 24 (by omega))]
    · rw [jsA_ne (jmne (by decide)), jsA_c]
      show _ = if g < 1 then nI g else nI 0 - nI 1
      by_cases c : g = 0
      · rw [if_pos c, if_pos (by omega), c]
      · rw [if_neg c, if_neg (by omega)]; exact a2 g (by omega)
    · have hi : i < 1 := hi
      obtain rfl : i = 0 := by omega
      exact ⟨0, by omega, hP0, by rw [jsA_c, if_pos rfl]⟩
  obtain ⟨n2, T2, e2, d1, d2, d3, d4⟩ := jlpI (fun n i (T : jSt) => f_Mo_lay_44 n (jad L (jm 0)) (nI k) (nI (jqc nx (9 * i))) (nI i) (jW L ω T)) (fun i T => jLK T sw ps wy ∧ jEM T N st tg ∧ jGv T N P ∧ jLy S T k q N P nx fe (9 * i) i (jqc nx (9 * i))) (lo := 0) (hi := q) (Nat.zero_le _) (by omega) (by
    intro n i T _ hi ⟨b1, b2, b3, b4⟩
    have hK := b1
    have hP2 := hP.frq b4.fr (fun q _ h2 => jisY_n (by omega))
    have hkn := hB.kn (9 * i) (by omega)
    have hcq : jqc nx (9 * i) ≤ q := hB.le (by omega)
    obtain ⟨a, ha, hPa, hm⟩ := b4.b i (by omega)
    have hst := b2.s a ha
    have hsl := b2.sl a ha
    have he := jMr_isEnd hL (ω := ω) hK hP2 hsl
    have hle := jac2_le la no (st a)
    have b4' : jLy S (jsA T (jm 24) (1025 * k + i) (nI (jac2 la no (st a)))) k q N P nx fe (9 * i) (i + 1) (jqc nx (9 * i)) := by
      refine ⟨b4.fr.trans (jfr.sA _ _ _ (Or.inr (Or.inr rfl))), fun x hx => ?_, fun x hx => ?_, fun g hg => ?_, fun x hx => ?_, fun x hx => ?_, fun x hx => ?_⟩
      · rw [jsA_ne (jmne (by decide))]; exact b4.x x hx
      · rw [jsA_c, if_neg (by omega)]; exact b4.y x hx
      · rw [jsA_ne (jmne (by decide))]; exact b4.u g hg
      · rw [jsA_ne (jmne (by decide))]; exact b4.b x hx
      · rw [jsA_ne (jmne (by decide))]; exact b4.n x hx
      · rw [jsA_c]
        by_cases c : x = i
        · rw [if_pos (by omega), c, ← hfe a ha, hPa]
        · rw [if_neg (by omega)]; exact b4.f x (by omega)
    obtain ⟨T', f1, f2, f3, f4, f5⟩ := jMr_87 hL (ω := ω) (S := jsA T (jm 24) (1025 * k + i) (nI (jac2 la no (st a)))) b1 hk hqN (S0 := S) (b2.same (jsA_fn (jmne (by decide))) (jsA_fn (jmne (by decide)))) (fun x hx => by rw [jsA_ne (jmne (by decide))]; exact b3 x hx) hR.lt hnx hB hi ha hPa b4' (k44 := f_Mo_lay_44 n)
    refine ⟨T', ?_, f2, f3, f4, f5⟩
    show f_Mo_lay_44 (n + 1) _ _ _ _ _ = f_Mo_lay_44 n _ _ _ _ _
    rw [f_Mo_lay_44]
    simp (disch := first | omega | rfl | assumption | exact jokr (by decide) (by omega) | exact jokr4 (by omega) | exact jkt_r _ _ | exact jkt_l (by decide) | exact jfk_l (by decide) | exact jkt_t _ | exact jkt_r6 _ _ | exact jkt_t6 _ | (simp only [jok, jlen]; omega) | decide) only [jm_k hL, jm_gi hL, jm_gr hL, jm_gl hL, jm_pi hL, jm_pl hL, jn_ai hL, jn_ab hL, jn_az hL, jn_al hL, jn_ar hL, jn_an hL, jn_si hL, jn_sb hL, jn_sz hL, jn_sl hL, Option.bind_some, xc, xl, jsA_X, jsI_X, jsG_X, hK _ _, jlk, jmx, jlit, jmul, nI_add, nI_leI, if_neg, hm, hst, he, jnab]
    exact f1) (jsA (jsA T1 (jm 44) 0 (nI 0)) (jm 42) 0 (nI 0)) ⟨hK1, (hE1.same (jsA_fn (jmne (by decide))) (jsA_fn (jmne (by decide)))).same (jsA_fn (jmne (by decide))) (jsA_fn (jmne (by decide))), fun x hx => by rw [jsA_ne (jmne (by decide)), jsA_ne (jmne (by decide))]; exact hG1 x hx, y0⟩
  rw [hB.cN] at d4
  refine ⟨T2, ?_, d4⟩
  unfold f_Mo_lay
  refine e1.trans ?_
  show f_Mo_lay_2 (n + 1) _ _ _ _ _ = _
  rw [f_Mo_lay_2]
  have hK := hK1
  simp (disch := first | omega | rfl | assumption | exact jokr (by decide) (by omega) | exact jokr4 (by omega) | exact jkt_r _ _ | exact jkt_l (by decide) | exact jfk_l (by decide) | exact jkt_t _ | exact jkt_r6 _ _ | exact jkt_t6 _ | (simp only [jok, jlen]; omega) | decide) only [jm_k hL, jm_gi hL, jm_gr hL, jm_gl hL, jm_pi hL, jm_pl hL, jn_ai hL, jn_ab hL, jn_az hL, jn_al hL, jn_ar hL, jn_an hL, jn_si hL, jn_sb hL, jn_sz hL, jn_sl hL, Option.bind_some, xc, xl, jsA_X, jsI_X, jsG_X, hK _ _, jlk, jmx, jlit, nI_leI, if_pos, g0]
  refine e2.trans ?_
  show f_Mo_lay_44 (n2 + 1) _ _ _ _ _ = _
  rw [f_Mo_lay_44, hB.cN]
  have hK := d1
  simp (disch := first | omega | rfl | assumption | exact jokr (by decide) (by omega) | exact jokr4 (by omega) | exact jkt_r _ _ | exact jkt_l (by decide) | exact jfk_l (by decide) | exact jkt_t _ | exact jkt_r6 _ _ | exact jkt_t6 _ | (simp only [jok, jlen]; omega) | decide) only [jm_k hL, jm_gi hL, jm_gr hL, jm_gl hL, jm_pi hL, jm_pl hL, jn_ai hL, jn_ab hL, jn_az hL, jn_al hL, jn_ar hL, jn_an hL, jn_si hL, jn_sb hL, jn_sz hL, jn_sl hL, Option.bind_some, xc, xl, jsA_X, jsI_X, jsG_X, hK _ _, jlk, jmx, jlit, nI_leI, if_pos]
/-- cells that the making of an automaton changes -/
def jisZ : jC → Prop := fun c => jisS c ∨ c = jm 22 ∨ c = jm 23 ∨ c = jm 24
/-- THE REFERENCE MAKES THE LEAST AUTOMATON of a pattern -/
theorem jMr_auto {L : jL} (hL : jgood L) {ω : xS} {S : jSt} {sw ps wy : Nat} (hK : jLK S sw ps wy) {k sz : Nat} {ls fo : Nat → Nat} {la no : Nat} (hP : jPM S k sz ls fo la no) : ∃ (T : jSt) (ns : Nat) (nx fe : Nat → Nat), f_Mo_automaton (jad L (jm 0)) (nI k) (jW L ω S) = some (jW L ω T) ∧ jfr jisZ S T ∧ (∀ i, i ≠ k → jgA T (jm 22) i = jgA S (jm 22) i) ∧ (∀ i, i < 9225 * k ∨ 9225 * k + 9225 ≤ i → jgA T (jm 23) i = jgA S (jm 23) i) ∧ (∀ i, i < 1025 * k ∨ 1025 * k + 1025 ≤ i → jgA T (jm 24) i = jgA S (jm 24) i) ∧ jgA T (jm 22) k = nI ns ∧ (∀ i, i < 9 * ns → jgA T (jm 23) (9225 * k + i) = nI (nx i)) ∧ (∀ s, s < ns → jgA T (jm 24) (1025 * k + s) = nI (fe s)) ∧ (∀ s, fe s ≤ 1) ∧ jAS (jdl sz ls fo) (jac2 la no) ns nx fe := by
  have hk := hP.k
  have hδ : ∀ s l, jdl sz ls fo s l < 1024 := fun s l => jdl_lt hP.sz
  obtain ⟨N, hN⟩ := jisN.ex hδ
  have hNp := hN.p
  have hNu := hN.u
  obtain ⟨T1, e1, a1, a2⟩ := jMr_explore hL (ω := ω) hK hP hN
  obtain ⟨T2, e2, b1, b2, b3⟩ := jMr_134 hL (ω := ω) (hK.of a1.2.2.1) (hP.fr a1) a2
  have hK2 := hK.of (a1.trans b1).2.2.1
  obtain ⟨T3, q, F, e3, c1, c2, c3, c4⟩ := jMr_refine hL (ω := ω) hK2 b2 b3 (fun s hs => by have := jac2_le la no (jxs (jdl sz ls fo) (9 * N) s); show jac2 la no _ < 2000; omega)
  have c5 : jNum N q (jRl (jxg (jdl sz ls fo)) (fun s => jac2 la no (jxs (jdl sz ls fo) (9 * N) s)) (0 + 1)) F := c4.cong (fun a b ha hb => jalike_Rl (fin := fun s => jac2 la no (jxs (jdl sz ls fo) (9 * N) s)) (r := 0) b2.tl (fun a b _ _ => Iff.rfl) ha hb)
  have hq1 : 1 ≤ q := by have := c5.lt 0 (by omega); omega
  have hK3 := hK2.of c1.2.2.1
  obtain ⟨T4, P, ns, e4, d1, d2, d3, d4⟩ := jMr_rounds hL (ω := ω) (k := k) N 0 999999 T3 F q 0 (by omega) (by omega) (Nat.zero_le _) hq1 (Or.inl rfl) hK3 c2 c3 c5
  have hK4 := hK3.of d1.2.2.1
  have fr4 := ((a1.trans b1).trans c1).trans d1
  have hBN := hN.bo hδ
  have hFO := jAS.fo d4 hBN
  -- a state of each part
  have hx : ∀ g, ∃ a, g < ns → a < N ∧ P a = g := fun g => by
    by_cases hg : g < ns
    · obtain ⟨a, h⟩ := d4.on g hg; exact ⟨a, fun _ => h⟩
    · exact ⟨0, fun h => absurd h hg⟩
  have hc : ∃ kf : Nat → Nat, ∀ g, g < ns → kf g < N ∧ P (kf g) = g := ⟨fun g => Classical.choose (hx g), fun g hg => Classical.choose_spec (hx g) hg⟩
  obtain ⟨kf, hkf⟩ := hc
  have hnx : ∀ a l, a < N → l < 9 → (fun m => P (jxg (jdl sz ls fo) (9 * kf (m / 9) + m % 9))) (9 * P a + l) = P (jxg (jdl sz ls fo) (9 * a + l)) := by
    intro a l ha hl
    have hpa := d4.lt a ha
    obtain ⟨h1, h2⟩ := hkf _ hpa
    show P (jxg (jdl sz ls fo) (9 * kf ((9 * P a + l) / 9) + (9 * P a + l) % 9)) = _
    rw [show (9 * P a + l) / 9 = P a by omega, show (9 * P a + l) % 9 = l by omega]
    exact hFO.st _ _ l h1 ha hl h2
  have hfe : ∀ a, a < N → (fun s => jac2 la no (jxs (jdl sz ls fo) (9 * N) (kf s))) (P a) = jac2 la no (jxs (jdl sz ls fo) (9 * N) a) := by
    intro a ha
    obtain ⟨h1, h2⟩ := hkf _ (d4.lt a ha)
    exact ((d4.eq _ _ h1 ha).mp h2).fin
  have hB := jquo hNp hBN hFO (T := fun m => P (jxg (jdl sz ls fo) (9 * kf (m / 9) + m % 9))) (fun s l a _ hl ha e => by rw [← e]; exact hnx a l ha hl)
  obtain ⟨T5, e5, g1⟩ := jMr_lay hL (ω := ω) hK4 (hP.fr fr4) (nx := fun m => P (jxg (jdl sz ls fo) (9 * kf (m / 9) + m % 9))) (fe := fun s => jac2 la no (jxs (jdl sz ls fo) (9 * N) (kf s))) d2 d3 d4 hnx hfe hB
  have f5 : ∀ c, ¬ jisZ c → jgA (jsA T5 (jm 22) k (nI ns)) c = jgA S c := fun c hc => by
    rw [jsA_fn (fun z => hc (Or.inr (Or.inl z))), g1.fr.2.2.2 c (fun z => hc (by
      rcases z with z | z | z
      · exact Or.inl z
      · exact Or.inr (Or.inr (Or.inl z))
      · exact Or.inr (Or.inr (Or.inr z)))), fr4.2.2.2 c (fun z => hc (Or.inl z))]
  refine ⟨jsA T5 (jm 22) k (nI ns), ns, (fun m => P (jxg (jdl sz ls fo) (9 * kf (m / 9) + m % 9))), (fun s => jac2 la no (jxs (jdl sz ls fo) (9 * N) (kf s))), ?_, ⟨g1.fr.1.trans fr4.1, g1.fr.2.1.trans fr4.2.1, g1.fr.2.2.1.trans fr4.2.2.1, f5⟩, fun i hi => ?_, fun i hi => ?_, fun i hi => ?_, ?_, fun i hi => ?_, fun s hs => ?_, fun s => jac2_le _ _ _, N, P, hN, d4, hnx, hfe⟩
  · rw [e1, e2]
    show f_Mo_automaton_175 (999999 + 1) _ _ _ _ _ _ = _
    rw [f_Mo_automaton_175, if_neg (by decide), jkm hL, e3]
    refine (show xc (some (nI q, jW L ω T3)) _ = _ from ?_)
    refine Eq.trans e4 ?_
    rw [jkm hL, e5]
    rfl
  · rw [jsA_c, if_neg hi, g1.fr.2.2.2 _ (jisY_n (by omega)), fr4.2.2.2 _ (jisS_n (Or.inl (by omega)))]
  · rw [jsA_ne (jmne (by decide)), g1.x i hi, fr4.2.2.2 _ (jisS_n (Or.inl (by omega)))]
  · rw [jsA_ne (jmne (by decide)), g1.y i hi, fr4.2.2.2 _ (jisS_n (Or.inl (by omega)))]
  · rw [jsA_c, if_pos rfl]
  · rw [jsA_ne (jmne (by decide))]; exact g1.n i hi
  · rw [jsA_ne (jmne (by decide))]; exact g1.f s hs
