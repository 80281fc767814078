/-! THE CLASS MAKES the least automaton: its rounds -/
theorem jNum.cong {n q : Nat} {R R' : Nat → Nat → Prop} {P : Nat → Nat} (h : jNum n q R P) (hR : ∀ a b, a < n → b < n → (R a b ↔ R' a b)) : jNum n q R' P := ⟨h.lt, h.on, h.fo, fun a b ha hb => (h.eq a b ha hb).trans (hR a b ha hb)⟩
theorem jalike_Rl {n : Nat} {tg fin P : Nat → Nat} {r : Nat} (ht : ∀ m, m < 9 * n → tg m < n) (h : ∀ a b, a < n → b < n → (P a = P b ↔ jRl tg fin r a b)) {a b : Nat} (ha : a < n) (hb : b < n) : jalike tg P a b ↔ jRl tg fin (r + 1) a b :=
  ⟨fun z => ⟨(h a b ha hb).mp z.1, fun l hl => (h _ _ (ht _ (by omega)) (ht _ (by omega))).mp (z.2 l hl)⟩, fun z => ⟨(h a b ha hb).mpr z.1, fun l hl => (h _ _ (ht _ (by omega)) (ht _ (by omega))).mpr (z.2 l hl)⟩⟩
theorem jKM_rounds {L : jL} (hL : jgood L) {ω : xS} {sw wy n : Nat} {st tg fin : Nat → Nat} {z a1 a2 : Nat} : ∀ d r m ps (S : jSt) (P : Nat → Nat) q, n ≤ q + d → d + 1 ≤ m → r + 1 ≤ q → ps ≤ 1 → jLK S sw ps wy → jEX S n st tg → jPv S (12 + ps) n P → jNum n q (jRl tg fin r) P → ∃ T q' F ps', f_AutomatonMaker_make_14 z m (jad L (jo 7)) a1 a2 (nI q) (nI r) (jW L ω S) = (xc3 (f_AutomatonMaker_copyParts (jad L (jo 7)) a1 a2 (nI q') z (jW L ω T)) fun c u w => some (c, u, w)) ∧ jLK T sw ps' wy ∧ ps' ≤ 1 ∧ jeqv (fun c => ¬ jisK c) S T ∧ jEX T n st tg ∧ jPv T (12 + ps') n F ∧ jNum n q' (jRI tg fin) F := by
  intro d
  induction d with
  | zero =>
    intro r m ps S P q hd hm hr hps hK hE hP hN
    have hu := hE.u
    have hq := hN.q
    obtain ⟨T, q', F, e1, b1, b2, b3, b4, b5⟩ := jKM_refine hL (ω := ω) hK hps hE hP (fun s hs => by have := hN.lt s hs; omega)
    have hN' := b5.cong (fun a b ha hb => jalike_Rl hE.t hN.eq ha hb)
    have hq' := hN'.q
    have hle := hN.finer hN' (fun a b _ _ h => h.1)
    have hqq : q' = q := by omega
    subst hqq
    refine ⟨T, q', F, 1 - ps, ?_, b1, by omega, b2, b3, b4, (jRl_stop hE.t hN hN').1⟩
    have v := hE.c
    rw [show m = m - 1 + 1 by omega, f_AutomatonMaker_make_14]
    simp (disch := first | omega | rfl | assumption | exact jokr (by decide) (by omega) | exact jokr4 (by omega) | exact jkt_r _ _ | exact jkt_l (by decide) | exact jfk_l (by decide) | exact jkt_t _ | exact jkt_r6 _ _ | exact jkt_t6 _ | (simp only [jok, jlen]; omega) | decide) only [jm_k hL, jm_gi hL, jm_gr hL, jm_gl hL, jm_pi hL, jm_pl hL, jn_ai hL, jn_ab hL, jn_az hL, jn_al hL, jn_ar hL, jn_an hL, jn_si hL, jn_sb hL, jn_sz hL, jn_sl hL, Option.bind_some, xc, xl, nI_leI, if_neg, v, e1, if_true]
  | succ d ih =>
    intro r m ps S P q hd hm hr hps hK hE hP hN
    have hu := hE.u
    have hq := hN.q
    obtain ⟨T, q', F, e1, b1, b2, b3, b4, b5⟩ := jKM_refine hL (ω := ω) hK hps hE hP (fun s hs => by have := hN.lt s hs; omega)
    have hN' := b5.cong (fun a b ha hb => jalike_Rl hE.t hN.eq ha hb)
    have hq' := hN'.q
    have hle := hN.finer hN' (fun a b _ _ h => h.1)
    have v := hE.c
    by_cases hqq : q' = q
    · subst hqq
      refine ⟨T, q', F, 1 - ps, ?_, b1, by omega, b2, b3, b4, (jRl_stop hE.t hN hN').1⟩
      rw [show m = m - 1 + 1 by omega, f_AutomatonMaker_make_14]
      simp (disch := first | omega | rfl | assumption | exact jokr (by decide) (by omega) | exact jokr4 (by omega) | exact jkt_r _ _ | exact jkt_l (by decide) | exact jfk_l (by decide) | exact jkt_t _ | exact jkt_r6 _ _ | exact jkt_t6 _ | (simp only [jok, jlen]; omega) | decide) only [jm_k hL, jm_gi hL, jm_gr hL, jm_gl hL, jm_pi hL, jm_pl hL, jn_ai hL, jn_ab hL, jn_az hL, jn_al hL, jn_ar hL, jn_an hL, jn_si hL, jn_sb hL, jn_sz hL, jn_sl hL, Option.bind_some, xc, xl, nI_leI, if_neg, v, e1, if_true]
    · obtain ⟨T2, q2, F2, ps2, g1, g2, g3, g4, g5, g6, g7⟩ := ih (r + 1) (m - 1) (1 - ps) T F q' (by omega) (by omega) (by omega) (by omega) b1 b3 b4 hN'
      refine ⟨T2, q2, F2, ps2, ?_, g2, g3, b2.trans g4, g5, g6, g7⟩
      rw [← g1, show m = m - 1 + 1 by omega, f_AutomatonMaker_make_14, Nat.add_sub_cancel]
      simp (disch := first | omega | rfl | assumption | exact jokr (by decide) (by omega) | exact jokr4 (by omega) | exact jkt_r _ _ | exact jkt_l (by decide) | exact jfk_l (by decide) | exact jkt_t _ | exact jkt_r6 _ _ | exact jkt_t6 _ | (simp only [jok, jlen]; omega) | decide) only [jm_k hL, jm_gi hL, jm_gr hL, jm_gl hL, jm_pi hL, jm_pl hL, jn_ai hL, jn_ab hL, jn_az hL, jn_al hL, jn_ar hL, jn_an hL, jn_si hL, jn_sb hL, jn_sz hL, jn_sl hL, Option.bind_some, xc, xl, jlit, nI_leI, nI_eq, nI_add, if_neg, v, e1]
/-! its table -/
def jRw (T : jSt) (j : Nat) (tg fin P : Nat → Nat) (g k : Nat) : Prop := (P k = g) ∧ (∀ l, l < 9 → jgA T (jt j) (10 * g + l) = nI (P (tg (9 * k + l)))) ∧ (jgA T (jt j) (10 * g + 9) = nI (fin k))
theorem jRw.p {T : jSt} {j : Nat} {tg fin P : Nat → Nat} {g k : Nat} (h : jRw T j tg fin P g k) : P k = g := h.1
theorem jRw.x {T : jSt} {j : Nat} {tg fin P : Nat → Nat} {g k : Nat} (h : jRw T j tg fin P g k) : ∀ l, l < 9 → jgA T (jt j) (10 * g + l) = nI (P (tg (9 * k + l))) := h.2.1
theorem jRw.e {T : jSt} {j : Nat} {tg fin P : Nat → Nat} {g k : Nat} (h : jRw T j tg fin P g k) : jgA T (jt j) (10 * g + 9) = nI (fin k) := h.2.2
theorem jRw.same {T T' : jSt} {j : Nat} {tg fin P : Nat → Nat} {g k : Nat} (h : jRw T j tg fin P g k) (e : ∀ i, i < 10 * g + 10 → jgA T' (jt j) i = jgA T (jt j) i) : jRw T' j tg fin P g k := ⟨h.p, fun l hl => by rw [e _ (by omega)]; exact h.x l hl, by rw [e _ (by omega)]; exact h.e⟩
/-- cells of the maker, the table j, the automaton's object -/
def jisKT (j : Nat) : jC → Prop := fun c => jisK c ∨ c = jt j
theorem jCp_44 {L : jL} (hL : jgood L) {ω : xS} {S : jSt} {sw ps wy : Nat} (hK : jLK S sw ps wy) {w : jLw} (hw : jLg L w) (hs1 : sw ≤ 1) (hps : ps ≤ 1) {k j : Nat} (hk : k < jLw.n w) (hp : jLw.pt w k) (hj : j < 32) {n q made s : Nat} {st tg P : Nat → Nat} (hE : jEX S n st tg) (hP : jPv S (12 + ps) n P) (hPl : ∀ s, s < n → P s < 2000) (hs : s < n) (hm : made < q) (hq : q ≤ 1025) (hN : 10 * q ≤ jgN S (jt j)) (hN2 : jgN S (jt j) ≤ 10250) (cla : jgI S (jl (2 * k + sw) 1) 7 = nI (jLw.la w k)) (cno : jgI S (jl (2 * k + sw) 1) 8 = nI (jLw.no w k)) (hPs : P s = made) {k11 : Nat → Nat → Nat → Int32 → Int32 → Int32 → xS → Option xS} {x3 : Int32} : ∃ T, f_AutomatonMaker_copyParts_44 k11 xFU (jad L (jo 7)) (jad L (jl (2 * k + sw) 1)) (jad L (jl j 6)) x3 (nI made) (nI s) (nI 0) (jW L ω S) = k11 (jad L (jo 7)) (jad L (jl (2 * k + sw) 1)) (jad L (jl j 6)) x3 (nI (made + 1)) (nI (s + 1)) (jW L ω T) ∧ jfr (fun c => c = jt j) S T ∧ (∀ i, i < 10 * made → jgA T (jt j) i = jgA S (jt j) i) ∧ jRw T j tg (fun s => jLw.ac w k (st s)) P made s := by
  have h16 := hw.n16
  have hu := hE.u
  have hps2 : 12 + ps = 12 ∨ 12 + ps = 13 := by omega
  obtain ⟨n1, T, e1, a1, a2, a3⟩ := jlpI (fun m i (T : jSt) => f_AutomatonMaker_copyParts_44 k11 m (jad L (jo 7)) (jad L (jl (2 * k + sw) 1)) (jad L (jl j 6)) x3 (nI made) (nI s) (nI i) (jW L ω T)) (fun i T => jfr (fun c => c = jt j) S T ∧ (∀ i, i < 10 * made → jgA T (jt j) i = jgA S (jt j) i) ∧ ∀ l, l < i → jgA T (jt j) (10 * made + l) = nI (P (tg (9 * s + l)))) (lo := 0) (hi := 9) (Nat.zero_le _) (by omega) (by
    intro m i T _ hi ⟨b1, b2, b3⟩
    have hK := hK.of b1.2.2.1
    have o10 := b1.2.2.2 (jo 10) (fun z => by cases z)
    have op := b1.2.2.2 (jo (12 + ps)) (fun z => by cases z)
    have ta := hE.t (9 * s + i) (by omega)
    have ga := hE.g (9 * s + i) (by omega)
    rw [← o10] at ga
    have lp := jai_o hL (ω := ω) (S := T) hps2 (k := tg (9 * s + i)) (by omega)
    rw [op, hP _ ta] at lp
    have ca : s * 9 + i = 9 * s + i := by omega
    have cm : made * 10 + i = 10 * made + i := by omega
    have hNT : jgN T (jt j) = jgN S (jt j) := by rw [b1.2.1]
    refine ⟨jsA T (jt j) (10 * made + i) (nI (P (tg (9 * s + i)))), ?_, b1.trans (jfr.sA _ _ _ rfl), fun x hx => ?_, fun l hl => ?_⟩
    · show f_AutomatonMaker_copyParts_44 k11 (m + 1) _ _ _ _ _ _ _ _ = f_AutomatonMaker_copyParts_44 k11 m _ _ _ _ _ _ _ _
      rw [f_AutomatonMaker_copyParts_44]
      simp (disch := first | omega | rfl | assumption | exact jokr (by decide) (by omega) | exact jokr4 (by omega) | exact jkt_r _ _ | exact jkt_l (by decide) | exact jfk_l (by decide) | exact jkt_t _ | exact jkt_r6 _ _ | exact jkt_t6 _ | (simp only [jok, jlen]; omega) | decide) only [jm_k hL, jm_gi hL, jm_gr hL, jm_gl hL, jm_pi hL, jm_pl hL, jn_ai hL, jn_ab hL, jn_az hL, jn_al hL, jn_ar hL, jn_an hL, jn_si hL, jn_sb hL, jn_sz hL, jn_sl hL, Option.bind_some, xc, xl, jsA_X, jsI_X, jsG_X, hK _ _, jlk, jmx, jlit, jmul, nI_leI, nI_add, if_neg, ca, cm, ga, lp]
    · rw [jsA_c, if_neg (by omega)]; exact b2 x hx
    · rw [jsA_c]
      by_cases c : l = i
      · rw [if_pos (by omega), c]
      · rw [if_neg (by omega)]; exact b3 l (by omega)) S ⟨jfr.refl _ _, fun _ _ => rfl, fun l hl => absurd hl (Nat.not_lt_zero l)⟩
  have hK1 := hK.of a1.2.2.1
  have hE1 : jEX T n st tg := hE.same (by rw [a1.1]) (a1.2.2.2 _ (fun z => by cases z)) (a1.2.2.2 _ (fun z => by cases z))
  have e7 := a1.1
  have e8 := a1.2.2.2 (jo 8) (fun z => by cases z)
  have v := hE1.s s hs
  have hd := hE1.d s hs
  have hla := hw.la k hk hp
  have hno := hw.no k hk hp
  have cla : jgI T (jl (2 * k + sw) 1) 7 = nI (jLw.la w k) := by rw [e7]; exact cla
  have cno : jgI T (jl (2 * k + sw) 1) 8 = nI (jLw.no w k) := by rw [e7]; exact cno
  have me : f_AutomatonMaker_mayEnd (jad L (jo 7)) (jad L (jl (2 * k + sw) 1)) (nI s) (jW L ω T) = some (nI (jLw.ac w k (st s))) := by
    have hK := hK1
    unfold f_AutomatonMaker_mayEnd
    simp (disch := first | omega | rfl | assumption | exact jokr (by decide) (by omega) | exact jokr4 (by omega) | exact jkt_r _ _ | exact jkt_l (by decide) | exact jfk_l (by decide) | exact jkt_t _ | exact jkt_r6 _ _ | exact jkt_t6 _ | (simp only [jok, jlen]; omega) | decide) only [jm_k hL, jm_gi hL, jm_gr hL, jm_gl hL, jm_pi hL, jm_pl hL, jn_ai hL, jn_ab hL, jn_az hL, jn_al hL, jn_ar hL, jn_an hL, jn_si hL, jn_sb hL, jn_sz hL, jn_sl hL, Option.bind_some, xc, xl, jsA_X, jsI_X, jsG_X, hK _ _, jlk, jmx, jlit, nI_eq, v]
    unfold jLw.ac
    by_cases c : st s = 1024
    · rw [if_pos c, c, jand1024 hla]
      simp (disch := first | omega | rfl | assumption | exact jokr (by decide) (by omega) | exact jokr4 (by omega) | exact jkt_r _ _ | exact jkt_l (by decide) | exact jfk_l (by decide) | exact jkt_t _ | exact jkt_r6 _ _ | exact jkt_t6 _ | (simp only [jok, jlen]; omega) | decide) only [jm_k hL, jm_gi hL, jm_gr hL, jm_gl hL, jm_pi hL, jm_pl hL, jn_ai hL, jn_ab hL, jn_az hL, jn_al hL, jn_ar hL, jn_an hL, jn_si hL, jn_sb hL, jn_sz hL, jn_sl hL, Option.bind_some, xc, xl, cno, nI_eq]
      rw [if_pos (show jLw.no w k = 0 ∨ jLw.no w k = 1 by omega)]
      by_cases c2 : jLw.no w k = 1
      · rw [if_pos (Or.inr ⟨trivial, c2⟩), c2]
      · rw [if_neg (fun q => q.elim (fun z => z rfl) (fun z => c2 z.2)), show jLw.no w k = 0 by omega]
    · rw [if_neg c]
      simp (disch := first | omega | rfl | assumption | exact jokr (by decide) (by omega) | exact jokr4 (by omega) | exact jkt_r _ _ | exact jkt_l (by decide) | exact jfk_l (by decide) | exact jkt_t _ | exact jkt_r6 _ _ | exact jkt_t6 _ | (simp only [jok, jlen]; omega) | decide) only [jm_k hL, jm_gi hL, jm_gr hL, jm_gl hL, jm_pi hL, jm_pl hL, jn_ai hL, jn_ab hL, jn_az hL, jn_al hL, jn_ar hL, jn_an hL, jn_si hL, jn_sb hL, jn_sz hL, jn_sl hL, Option.bind_some, xc, xl, cla]
      rw [jand (by omega) (by omega)]
      have hq : st s &&& jLw.la w k ≤ st s := Nat.and_le_left
      simp (disch := first | omega | rfl | assumption | exact jokr (by decide) (by omega) | exact jokr4 (by omega) | exact jkt_r _ _ | exact jkt_l (by decide) | exact jfk_l (by decide) | exact jkt_t _ | exact jkt_r6 _ _ | exact jkt_t6 _ | (simp only [jok, jlen]; omega) | decide) only [nI_eq]
      by_cases c2 : st s &&& jLw.la w k = 0
      · rw [if_pos c2, if_neg (fun q => q.elim (fun z => z c2) (fun z => c z.1))]
      · rw [if_neg c2, if_pos (Or.inl c2)]
  have lac := jac_le w k (st s)
  have cm : made * 10 + 9 = 10 * made + 9 := by omega
  have hNT : jgN T (jt j) = jgN S (jt j) := by rw [a1.2.1]
  refine ⟨jsA T (jt j) (10 * made + 9) (nI (jLw.ac w k (st s))), ?_, a1.trans (jfr.sA _ _ _ rfl), fun x hx => ?_, ⟨hPs, fun l hl => ?_, ?_⟩⟩
  · refine e1.trans ?_
    show f_AutomatonMaker_copyParts_44 k11 (n1 + 1) _ _ _ _ _ _ _ _ = _
    rw [f_AutomatonMaker_copyParts_44]
    have hK := hK1
    simp (disch := first | omega | rfl | assumption | exact jokr (by decide) (by omega) | exact jokr4 (by omega) | exact jkt_r _ _ | exact jkt_l (by decide) | exact jfk_l (by decide) | exact jkt_t _ | exact jkt_r6 _ _ | exact jkt_t6 _ | (simp only [jok, jlen]; omega) | decide) only [jm_k hL, jm_gi hL, jm_gr hL, jm_gl hL, jm_pi hL, jm_pl hL, jn_ai hL, jn_ab hL, jn_az hL, jn_al hL, jn_ar hL, jn_an hL, jn_si hL, jn_sb hL, jn_sz hL, jn_sl hL, Option.bind_some, xc, xl, jsA_X, jsI_X, jsG_X, hK _ _, jlk, jmx, jlit, jmul, nI_leI, nI_eq, nI_add, if_pos, cm, me]
    by_cases c : jLw.ac w k (st s) = 0
    · rw [if_pos c, c]
    · rw [if_neg c, show jLw.ac w k (st s) = 1 by omega]
  · rw [jsA_c, if_neg (by omega)]; exact a2 x hx
  · rw [jsA_c, if_neg (by omega)]; exact a3 l hl
  · rw [jsA_c, if_pos rfl]
theorem jCp_loop {L : jL} (hL : jgood L) {ω : xS} {S : jSt} {sw ps wy : Nat} (hK : jLK S sw ps wy) {w : jLw} (hw : jLg L w) (hs1 : sw ≤ 1) (hps : ps ≤ 1) {k j : Nat} (hk : k < jLw.n w) (hp : jLw.pt w k) (hj : j < 32) {n q : Nat} {st tg P : Nat → Nat} {R : Nat → Nat → Prop} (hE : jEX S n st tg) (hP : jPv S (12 + ps) n P) (hR : jNum n q R P) (hN : 10 * q ≤ jgN S (jt j)) (hN2 : jgN S (jt j) ≤ 10250) (cla : jgI S (jl (2 * k + sw) 1) 7 = nI (jLw.la w k)) (cno : jgI S (jl (2 * k + sw) 1) 8 = nI (jLw.no w k)) : ∃ T, f_AutomatonMaker_copyParts_5 (jad L (jo 7)) (jad L (jl (2 * k + sw) 1)) (jad L (jl j 6)) (nI q) (jW L ω S) = some (jW L ω (jsI T (jl j 6) 1 (nI q))) ∧ jfr (fun c => c = jt j) S T ∧ ∀ g, g < q → ∃ k', k' < n ∧ jRw T j tg (fun s => jLw.ac w k (st s)) P g k' := by
  have h16 := hw.n16
  have hu := hE.u
  have hn1 := hE.n1
  have hps2 : 12 + ps = 12 ∨ 12 + ps = 13 := by omega
  have hq := hR.q
  have hq1 : 1 ≤ q := by have := hR.lt 0 (by omega); omega
  obtain ⟨kl, hkl, hkl2⟩ := hR.on (q - 1) (by omega)
  obtain ⟨f0, hf1, hf2, hf3⟩ := jleast (p := fun s => s < n ∧ P s = q - 1) (n := kl) ⟨hkl, hkl2⟩
  obtain ⟨n1, T, e1, a1, a2, a3, a4⟩ := jlpI (fun m i (T : jSt × Nat) => f_AutomatonMaker_copyParts_11 m (jad L (jo 7)) (jad L (jl (2 * k + sw) 1)) (jad L (jl j 6)) (nI q) (nI T.2) (nI i) (jW L ω T.1)) (fun i T => jfr (fun c => c = jt j) S T.1 ∧ (∀ s, s < i → P s < T.2) ∧ (∀ g, g < T.2 → ∃ k', k' < i ∧ jRw T.1 j tg (fun s => jLw.ac w k (st s)) P g k') ∧ T.2 ≤ q) (lo := 0) (hi := f0 + 1) (Nat.zero_le _) (by omega) (by
    intro m i ⟨T, made⟩ _ hi ⟨b1, b2, b3, b4⟩
    have b1 : jfr (fun c => c = jt j) S T := b1
    have b2 : ∀ s, s < i → P s < made := b2
    have b3 : ∀ g, g < made → ∃ k', k' < i ∧ jRw T j tg (fun s => jLw.ac w k (st s)) P g k' := b3
    have b4 : made ≤ q := b4
    have hin : i < n := by omega
    have hm : made < q := by
      rcases Nat.lt_or_ge made q with z | z
      · exact z
      · exfalso
        obtain ⟨k', h1, h2⟩ := b3 (q - 1) (by omega)
        exact hf3 k' (by omega) ⟨by omega, h2.p⟩
    have hK := hK.of b1.2.2.1
    have hE : jEX T n st tg := hE.same (by rw [b1.1]) (b1.2.2.2 _ (fun z => by cases z)) (b1.2.2.2 _ (fun z => by cases z))
    have op := b1.2.2.2 (jo (12 + ps)) (fun z => by cases z)
    have hP : jPv T (12 + ps) n P := fun s hs => by rw [op]; exact hP s hs
    have hPl : ∀ s, s < n → P s < 2000 := fun s hs => by have := hR.lt s hs; omega
    have lp := jai_o hL (ω := ω) (S := T) hps2 (k := i) (by omega)
    rw [hP _ hin] at lp
    have v := hE.c
    have pl := hPl i hin
    have hle : P i ≤ made := by
      rcases Nat.lt_or_ge made (P i) with z | z
      · exfalso
        obtain ⟨k', h1, h2⟩ := hR.fo i made hin z
        have := b2 k' h1
        omega
      · exact z
    by_cases c : P i = made
    · have hNT : jgN T (jt j) = jgN S (jt j) := by rw [b1.2.1]
      obtain ⟨T', d1, d2, d3, d4⟩ := jCp_44 hL (ω := ω) hK hw hs1 hps hk hp hj hE hP hPl hin hm (by omega) (by omega) (by omega) (by rw [b1.1]; exact cla) (by rw [b1.1]; exact cno) c (k11 := f_AutomatonMaker_copyParts_11 m) (x3 := nI q)
      refine ⟨(T', made + 1), ?_, b1.trans d2, fun s hs => ?_, fun g hg => ?_, by show made + 1 ≤ q; omega⟩
      · show f_AutomatonMaker_copyParts_11 (m + 1) _ _ _ _ _ _ _ = f_AutomatonMaker_copyParts_11 m _ _ _ _ _ _ _
        rw [f_AutomatonMaker_copyParts_11]
        simp (disch := first | omega | rfl | assumption | exact jokr (by decide) (by omega) | exact jokr4 (by omega) | exact jkt_r _ _ | exact jkt_l (by decide) | exact jfk_l (by decide) | exact jkt_t _ | exact jkt_r6 _ _ | exact jkt_t6 _ | (simp only [jok, jlen]; omega) | decide) only [jm_k hL, jm_gi hL, jm_gr hL, jm_gl hL, jm_pi hL, jm_pl hL, jn_ai hL, jn_ab hL, jn_az hL, jn_al hL, jn_ar hL, jn_an hL, jn_si hL, jn_sb hL, jn_sz hL, jn_sl hL, Option.bind_some, xc, xl, jsA_X, jsI_X, jsG_X, hK _ _, jlk, jmx, jlit, nI_leI, nI_eq, nI_add, if_neg, v, lp]
        (try rw [if_pos c])
        exact d1
      · by_cases cs : s = i
        · rw [cs]; show P i < made + 1; omega
        · have := b2 s (by omega); show P s < made + 1; omega
      · have hg : g < made + 1 := hg
        by_cases cg : g = made
        · rw [cg]; exact ⟨i, by omega, d4⟩
        · obtain ⟨k', h1, h2⟩ := b3 g (by omega)
          exact ⟨k', by omega, h2.same (fun x hx => d3 x (by omega))⟩
    · refine ⟨(T, made), ?_, b1, fun s hs => ?_, fun g hg => ?_, b4⟩
      · show f_AutomatonMaker_copyParts_11 (m + 1) _ _ _ _ _ _ _ = f_AutomatonMaker_copyParts_11 m _ _ _ _ _ _ _
        rw [f_AutomatonMaker_copyParts_11]
        simp (disch := first | omega | rfl | assumption | exact jokr (by decide) (by omega) | exact jokr4 (by omega) | exact jkt_r _ _ | exact jkt_l (by decide) | exact jfk_l (by decide) | exact jkt_t _ | exact jkt_r6 _ _ | exact jkt_t6 _ | (simp only [jok, jlen]; omega) | decide) only [jm_k hL, jm_gi hL, jm_gr hL, jm_gl hL, jm_pi hL, jm_pl hL, jn_ai hL, jn_ab hL, jn_az hL, jn_al hL, jn_ar hL, jn_an hL, jn_si hL, jn_sb hL, jn_sz hL, jn_sl hL, Option.bind_some, xc, xl, jsA_X, jsI_X, jsG_X, hK _ _, jlk, jmx, jlit, nI_leI, nI_eq, nI_add, if_neg, v, lp]
      · by_cases cs : s = i
        · rw [cs]; show P i < made; omega
        · exact b2 s (by omega)
      · obtain ⟨k', h1, h2⟩ := b3 g hg
        exact ⟨k', by omega, h2⟩) (S, 0) ⟨jfr.refl _ _, fun s hs => absurd hs (Nat.not_lt_zero s), fun g hg => absurd hg (Nat.not_lt_zero g), Nat.zero_le _⟩
  have hmq : T.2 = q := by
    have := a2 f0 (by omega)
    rw [hf2.2] at this
    omega
  refine ⟨T.1, ?_, a1, fun g hg => ?_⟩
  · unfold f_AutomatonMaker_copyParts_5
    refine e1.trans ?_
    show f_AutomatonMaker_copyParts_11 (n1 + 1) _ _ _ _ _ _ _ = _
    rw [f_AutomatonMaker_copyParts_11, hmq]
    have v : jgI T.1 (jo 7) 8 = nI n := by rw [a1.1]; exact hE.c
    simp (disch := first | omega | rfl | assumption | exact jokr (by decide) (by omega) | exact jokr4 (by omega) | exact jkt_r _ _ | exact jkt_l (by decide) | exact jfk_l (by decide) | exact jkt_t _ | exact jkt_r6 _ _ | exact jkt_t6 _ | (simp only [jok, jlen]; omega) | decide) only [jm_k hL, jm_gi hL, jm_gr hL, jm_gl hL, jm_pi hL, jm_pl hL, jn_ai hL, jn_ab hL, jn_az hL, jn_al hL, jn_ar hL, jn_an hL, jn_si hL, jn_sb hL, jn_sz hL, jn_sl hL, Option.bind_some, xc, xl, nI_leI, if_pos, v]
    split <;> rfl
  · obtain ⟨k', h1, h2⟩ := a3 g (by omega)
    exact ⟨k', by omega, h2⟩
