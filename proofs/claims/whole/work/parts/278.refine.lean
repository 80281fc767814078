/-! THE CLASS PARTS STATES -/
theorem jand1024 {la : Nat} (h : la < 1024) : 1024 &&& la = 0 := by
  apply Nat.eq_of_testBit_eq
  intro i
  rw [Nat.testBit_and, Nat.zero_testBit, show 1024 = 2 ^ 10 from rfl, Nat.testBit_two_pow]
  by_cases c : 10 = i
  · subst c
    rw [Nat.testBit_lt_two_pow (by omega)]
    simp
  · simp [c]
/-- what holds of the maker when the sets are explored, n states in all; st: their sets, tg: their ways -/
def jEX (T : jSt) (n : Nat) (st tg : Nat → Nat) : Prop := (jgI T (jo 7) 8 = nI n) ∧ (1 ≤ n) ∧ (n ≤ 1025) ∧ (∀ i, i < n → jgA T (jo 8) i = nI (st i)) ∧ (∀ i, i < n → st i ≤ 1024) ∧ (∀ m, m < 9 * n → jgA T (jo 10) m = nI (tg m)) ∧ (∀ m, m < 9 * n → tg m < n)
theorem jEX.c {T : jSt} {n : Nat} {st tg : Nat → Nat} (h : jEX T n st tg) : jgI T (jo 7) 8 = nI n := h.1
theorem jEX.n1 {T : jSt} {n : Nat} {st tg : Nat → Nat} (h : jEX T n st tg) : 1 ≤ n := h.2.1
theorem jEX.u {T : jSt} {n : Nat} {st tg : Nat → Nat} (h : jEX T n st tg) : n ≤ 1025 := h.2.2.1
theorem jEX.s {T : jSt} {n : Nat} {st tg : Nat → Nat} (h : jEX T n st tg) : ∀ i, i < n → jgA T (jo 8) i = nI (st i) := h.2.2.2.1
theorem jEX.d {T : jSt} {n : Nat} {st tg : Nat → Nat} (h : jEX T n st tg) : ∀ i, i < n → st i ≤ 1024 := h.2.2.2.2.1
theorem jEX.g {T : jSt} {n : Nat} {st tg : Nat → Nat} (h : jEX T n st tg) : ∀ m, m < 9 * n → jgA T (jo 10) m = nI (tg m) := h.2.2.2.2.2.1
theorem jEX.t {T : jSt} {n : Nat} {st tg : Nat → Nat} (h : jEX T n st tg) : ∀ m, m < 9 * n → tg m < n := h.2.2.2.2.2.2
theorem jXS.ex {δ : Nat → Nat → Nat} (hδ : ∀ s l, δ s l < 1024) {T : jSt} {N : Nat} (hN : jisN δ N) (h : jXS δ T (9 * N)) : jEX T N (jxs δ (9 * N)) (jxg δ) := by
  have hi := jx_inv hδ (9 * N)
  have e := hN.e
  refine ⟨by rw [h.c, e], hN.p, hN.u, fun i hi2 => h.s i (by omega), fun i hi2 => hi.d i (by omega), fun m hm => h.g m hm, fun m hm => (hN.bo hδ).lt hm⟩
theorem jEX.same {T T' : jSt} {n : Nat} {st tg : Nat → Nat} (h : jEX T n st tg) (h7 : jgI T' (jo 7) 8 = jgI T (jo 7) 8) (h8 : jgA T' (jo 8) = jgA T (jo 8)) (h10 : jgA T' (jo 10) = jgA T (jo 10)) : jEX T' n st tg := by
  unfold jEX at h ⊢
  rw [h7, h8, h10]
  exact h
theorem jKM_mayEnd {L : jL} (hL : jgood L) {ω : xS} {S : jSt} {sw ps wy : Nat} (hK : jLK S sw ps wy) {w : jLw} (hw : jLg L w) (hC : jLC L S w sw) {k : Nat} (hk : k < jLw.n w) (hp : jLw.pt w k) {n s : Nat} {st tg : Nat → Nat} (hE : jEX S n st tg) (hs : s < n) : f_AutomatonMaker_mayEnd (jad L (jo 7)) (jad L (jl (2 * k + sw) 1)) (nI s) (jW L ω S) = some (nI (jLw.ac w k (st s))) := by
  have h16 := hw.n16
  have hs1 := hC.s1
  have hu := hE.u
  have hla := hw.la k hk hp
  have hno := hw.no k hk hp
  have v := hE.s s hs
  have hd := hE.d s hs
  unfold f_AutomatonMaker_mayEnd
  simp (disch := first | omega | rfl | assumption | exact jokr (by decide) (by omega) | exact jokr4 (by omega) | exact jkt_r _ _ | exact jkt_l (by decide) | exact jfk_l (by decide) | exact jkt_t _ | exact jkt_r6 _ _ | exact jkt_t6 _ | (simp only [jok, jlen]; omega) | decide) only [jm_k hL, jm_gi hL, jm_gr hL, jm_gl hL, jm_pi hL, jm_pl hL, jn_ai hL, jn_ab hL, jn_az hL, jn_al hL, jn_ar hL, jn_an hL, jn_si hL, jn_sb hL, jn_sz hL, jn_sl hL, Option.bind_some, xc, xl, jsA_X, jsI_X, jsG_X, hK _ _, jlk, jmx, jlit, nI_eq, v]
  unfold jLw.ac
  by_cases c : st s = 1024
  · rw [if_pos c, c, jand1024 hla]
    simp (disch := first | omega | rfl | assumption | exact jokr (by decide) (by omega) | exact jokr4 (by omega) | exact jkt_r _ _ | exact jkt_l (by decide) | exact jfk_l (by decide) | exact jkt_t _ | exact jkt_r6 _ _ | exact jkt_t6 _ | (simp only [jok, jlen]; omega) | decide) only [jm_k hL, jm_gi hL, jm_gr hL, jm_gl hL, jm_pi hL, jm_pl hL, jn_ai hL, jn_ab hL, jn_az hL, jn_al hL, jn_ar hL, jn_an hL, jn_si hL, jn_sb hL, jn_sz hL, jn_sl hL, Option.bind_some, xc, xl, hC.no, nI_eq]
    rw [if_pos (show jLw.no w k = 0 ∨ jLw.no w k = 1 by omega)]
    by_cases c2 : jLw.no w k = 1
    · rw [if_pos (Or.inr ⟨trivial, c2⟩), c2]
    · rw [if_neg (fun q => q.elim (fun z => z rfl) (fun z => c2 z.2)), show jLw.no w k = 0 by omega]
  · rw [if_neg c]
    simp (disch := first | omega | rfl | assumption | exact jokr (by decide) (by omega) | exact jokr4 (by omega) | exact jkt_r _ _ | exact jkt_l (by decide) | exact jfk_l (by decide) | exact jkt_t _ | exact jkt_r6 _ _ | exact jkt_t6 _ | (simp only [jok, jlen]; omega) | decide) only [jm_k hL, jm_gi hL, jm_gr hL, jm_gl hL, jm_pi hL, jm_pl hL, jn_ai hL, jn_ab hL, jn_az hL, jn_al hL, jn_ar hL, jn_an hL, jn_si hL, jn_sb hL, jn_sz hL, jn_sl hL, Option.bind_some, xc, xl, hC.la]
    rw [jand (by omega) (by omega)]
    have hq : st s &&& jLw.la w k ≤ st s := Nat.and_le_left
    simp (disch := first | omega | rfl | assumption | exact jokr (by decide) (by omega) | exact jokr4 (by omega) | exact jkt_r _ _ | exact jkt_l (by decide) | exact jfk_l (by decide) | exact jkt_t _ | exact jkt_r6 _ _ | exact jkt_t6 _ | (simp only [jok, jlen]; omega) | decide) only [nI_eq]
    by_cases c2 : st s &&& jLw.la w k = 0
    · rw [if_pos c2, if_neg (fun q => q.elim (fun z => z c2) (fun z => c z.1))]
    · rw [if_neg c2, if_pos (Or.inl c2)]
theorem jac_le (w : jLw) (k s : Nat) : jLw.ac w k s ≤ 1 := by
  unfold jLw.ac
  split <;> omega
/-- the numbers of parts, in the array of the maker -/
def jPv (T : jSt) (q n : Nat) (P : Nat → Nat) : Prop := ∀ s, s < n → jgA T (jo q) s = nI (P s)
/-- by ends -/
def jp0 (fin : Nat → Nat) (s : Nat) : Nat := if fin s = fin 0 then 0 else 1
theorem jKM_ends {L : jL} (hL : jgood L) {ω : xS} {S : jSt} {sw ps wy : Nat} (hK : jLK S sw ps wy) {w : jLw} (hw : jLg L w) (hC : jLC L S w sw) (hps : ps ≤ 1) {k : Nat} (hk : k < jLw.n w) (hp : jLw.pt w k) {n : Nat} {st tg : Nat → Nat} (hE : jEX S n st tg) : ∃ T q, f_AutomatonMaker_partByEnds (jad L (jo 7)) (jad L (jl (2 * k + sw) 1)) (jW L ω S) = some (nI q, jW L ω T) ∧ jLK T sw ps wy ∧ jeqv (fun c => ¬ jisK c) S T ∧ jEX T n st tg ∧ jPv T (12 + ps) n (jp0 (fun s => jLw.ac w k (st s))) ∧ jNum n q (jRl tg (fun s => jLw.ac w k (st s)) 0) (jp0 (fun s => jLw.ac w k (st s))) := by
  have h16 := hw.n16
  have hs1 := hC.s1
  have hu := hE.u
  have hps2 : 12 + ps = 12 ∨ 12 + ps = 13 := by omega
  have hKp : ¬ (fun c => ¬ jisK c) (jo (12 + ps)) := jKn (by omega) (by omega)
  obtain ⟨n1, T, e1, a1, a2, a3, a4, a5⟩ := jlpI (fun n i (T : jSt × Nat) => f_AutomatonMaker_partByEnds_4 n (jad L (jo 7)) (jad L (jl (2 * k + sw) 1)) (nI T.2) (nI i) (jW L ω T.1)) (fun i T => jLK T.1 sw ps wy ∧ jeqv (fun c => ¬ jisK c) S T.1 ∧ jEX T.1 n st tg ∧ jPv T.1 (12 + ps) i (jp0 (fun s => jLw.ac w k (st s))) ∧ (1 ≤ T.2 ∧ T.2 ≤ 2 ∧ (T.2 = 2 ↔ ∃ s, s < i ∧ jp0 (fun s => jLw.ac w k (st s)) s = 1))) (lo := 0) (hi := n) (Nat.zero_le _) (by omega) (by
    intro n0 i ⟨T, q⟩ _ hi ⟨b1, b2, b3, b4, b5⟩
    have hK : jLK T sw ps wy := b1
    have b2 : jeqv (fun c => ¬ jisK c) S T := b2
    have b3 : jEX T n st tg := b3
    have b4 : jPv T (12 + ps) i (jp0 (fun s => jLw.ac w k (st s))) := b4
    have b5 : 1 ≤ q ∧ q ≤ 2 ∧ (q = 2 ↔ ∃ s, s < i ∧ jp0 (fun s => jLw.ac w k (st s)) s = 1) := b5
    have hC2 := hC.K b2
    have m1 := jKM_mayEnd hL (ω := ω) hK hw hC2 hk hp b3 hi
    have m0 := jKM_mayEnd hL (ω := ω) hK hw hC2 hk hp b3 (s := 0) (by omega)
    have l1 := jac_le w k (st i)
    have l0 := jac_le w k (st 0)
    have v := b3.c
    have pl : jp0 (fun s => jLw.ac w k (st s)) i ≤ 1 := by unfold jp0; split <;> omega
    have st1 := jsi_o hL (ω := ω) (S := T) hps2 (k := i) (v := nI (jp0 (fun s => jLw.ac w k (st s)) i)) (by omega)
    have ld1 := jai_o hL (ω := ω) (S := jsA T (jo (12 + ps)) i (nI (jp0 (fun s => jLw.ac w k (st s)) i))) hps2 (k := i) (by omega)
    rw [jsA_c, if_pos rfl] at ld1
    refine ⟨(jsA T (jo (12 + ps)) i (nI (jp0 (fun s => jLw.ac w k (st s)) i)), max q (jp0 (fun s => jLw.ac w k (st s)) i + 1)), ?_, hK, b2.trans (jeqv.sA _ _ _ hKp), b3.same rfl (jsA_fn (jone (by omega))) (jsA_fn (jone (by omega))), fun s hs => ?_, ?_⟩
    · show f_AutomatonMaker_partByEnds_4 (n0 + 1) _ _ _ _ _ = f_AutomatonMaker_partByEnds_4 n0 _ _ _ _ _
      rw [f_AutomatonMaker_partByEnds_4]
      simp (disch := first | omega | rfl | assumption | exact jokr (by decide) (by omega) | exact jokr4 (by omega) | exact jkt_r _ _ | exact jkt_l (by decide) | exact jfk_l (by decide) | exact jkt_t _ | exact jkt_r6 _ _ | exact jkt_t6 _ | (simp only [jok, jlen]; omega) | decide) only [jm_k hL, jm_gi hL, jm_gr hL, jm_gl hL, jm_pi hL, jm_pl hL, jn_ai hL, jn_ab hL, jn_az hL, jn_al hL, jn_ar hL, jn_an hL, jn_si hL, jn_sb hL, jn_sz hL, jn_sl hL, Option.bind_some, xc, xl, jsA_X, jsI_X, jsG_X, hK _ _, jlk, jmx, jlit, nI_leI, nI_add, nI_eq, if_neg, v, m1, m0]
      by_cases c : jLw.ac w k (st i) = jLw.ac w k (st 0)
      · have ep : jp0 (fun s => jLw.ac w k (st s)) i = 0 := if_pos c
        rw [ep] at st1 ld1 ⊢
        rw [if_pos c, st1]
        simp (disch := first | omega | rfl | assumption | exact jokr (by decide) (by omega) | exact jokr4 (by omega) | exact jkt_r _ _ | exact jkt_l (by decide) | exact jfk_l (by decide) | exact jkt_t _ | exact jkt_r6 _ _ | exact jkt_t6 _ | (simp only [jok, jlen]; omega) | decide) only [jm_k hL, jm_gi hL, jm_gr hL, jm_gl hL, jm_pi hL, jm_pl hL, jn_ai hL, jn_ab hL, jn_az hL, jn_al hL, jn_ar hL, jn_an hL, jn_si hL, jn_sb hL, jn_sz hL, jn_sl hL, Option.bind_some, xc, xl, jsA_X, jsI_X, jsG_X, hK _ _, jlk, jmx, ld1, nI_add, jmax]
      · have ep : jp0 (fun s => jLw.ac w k (st s)) i = 1 := if_neg c
        rw [ep] at st1 ld1 ⊢
        rw [if_neg c, st1]
        simp (disch := first | omega | rfl | assumption | exact jokr (by decide) (by omega) | exact jokr4 (by omega) | exact jkt_r _ _ | exact jkt_l (by decide) | exact jfk_l (by decide) | exact jkt_t _ | exact jkt_r6 _ _ | exact jkt_t6 _ | (simp only [jok, jlen]; omega) | decide) only [jm_k hL, jm_gi hL, jm_gr hL, jm_gl hL, jm_pi hL, jm_pl hL, jn_ai hL, jn_ab hL, jn_az hL, jn_al hL, jn_ar hL, jn_an hL, jn_si hL, jn_sb hL, jn_sz hL, jn_sl hL, Option.bind_some, xc, xl, jsA_X, jsI_X, jsG_X, hK _ _, jlk, jmx, ld1, nI_add, jmax]
    · show jgA (jsA T (jo (12 + ps)) i _) (jo (12 + ps)) s = _
      rw [jsA_c]
      by_cases c : s = i
      · rw [if_pos c, c]
      · rw [if_neg c]; exact b4 s (by omega)
    · show 1 ≤ max q _ ∧ max q _ ≤ 2 ∧ (max q _ = 2 ↔ _)
      refine ⟨by omega, by omega, fun z => ?_, fun ⟨s, h1, h2⟩ => ?_⟩
      · by_cases c : q = 2
        · obtain ⟨s, h1, h2⟩ := b5.2.2.mp c
          exact ⟨s, by omega, h2⟩
        · exact ⟨i, by omega, by omega⟩
      · by_cases c : s = i
        · rw [c] at h2; omega
        · have := b5.2.2.mpr ⟨s, by omega, h2⟩; omega) (S, 1) ⟨hK, jeqv.refl _ _, hE, fun s hs => absurd hs (Nat.not_lt_zero s), by show 1 ≤ 1; omega, by show 1 ≤ 2; omega, fun z => by have z : 1 = 2 := z; omega, fun ⟨s, h1, _⟩ => absurd h1 (Nat.not_lt_zero s)⟩
  refine ⟨T.1, T.2, ?_, a1, a2, a3, a4, ?_⟩
  · unfold f_AutomatonMaker_partByEnds
    refine e1.trans ?_
    show f_AutomatonMaker_partByEnds_4 (n1 + 1) _ _ _ _ _ = _
    rw [f_AutomatonMaker_partByEnds_4]
    have v := a3.c
    have hK := a1
    simp (disch := first | omega | rfl | assumption | exact jokr (by decide) (by omega) | exact jokr4 (by omega) | exact jkt_r _ _ | exact jkt_l (by decide) | exact jfk_l (by decide) | exact jkt_t _ | exact jkt_r6 _ _ | exact jkt_t6 _ | (simp only [jok, jlen]; omega) | decide) only [jm_k hL, jm_gi hL, jm_gr hL, jm_gl hL, jm_pi hL, jm_pl hL, jn_ai hL, jn_ab hL, jn_az hL, jn_al hL, jn_ar hL, jn_an hL, jn_si hL, jn_sb hL, jn_sz hL, jn_sl hL, Option.bind_some, xc, xl, jsA_X, jsI_X, jsG_X, hK _ _, jlk, jmx, jlit, nI_leI, if_pos, v]
  · have hn1 := hE.n1
    have z0 : jp0 (fun s => jLw.ac w k (st s)) 0 = 0 := if_pos rfl
    have pl : ∀ s, jp0 (fun s => jLw.ac w k (st s)) s ≤ 1 := fun s => by unfold jp0; split <;> omega
    refine ⟨fun s hs => ?_, fun g hg => ?_, fun s g hs hg => ?_, fun a b ha hb => ?_⟩
    · have := pl s
      rcases Nat.eq_zero_or_pos (jp0 (fun s => jLw.ac w k (st s)) s) with z | z
      · omega
      · have := a5.2.2.mpr ⟨s, hs, by omega⟩; omega
    · rcases Nat.eq_zero_or_pos g with z | z
      · exact ⟨0, by omega, by omega⟩
      · have q2 := a5.2.1
        obtain ⟨s, h1, h2⟩ := a5.2.2.mp (by omega)
        exact ⟨s, h1, by omega⟩
    · have := pl s
      refine ⟨0, ?_, by omega⟩
      rcases Nat.eq_zero_or_pos s with z | z
      · rw [z] at hg; omega
      · exact z
    · have la := jac_le w k (st a)
      have lb := jac_le w k (st b)
      have l0 := jac_le w k (st 0)
      show _ ↔ jLw.ac w k (st a) = jLw.ac w k (st b)
      unfold jp0
      dsimp only
      split <;> split <;> omega
/-- two states alike? -/
theorem jKM_together {L : jL} (hL : jgood L) {ω : xS} {S : jSt} {sw ps wy : Nat} (hK : jLK S sw ps wy) (hps : ps ≤ 1) {n : Nat} {st tg P : Nat → Nat} (hE : jEX S n st tg) (hP : jPv S (12 + ps) n P) (hPl : ∀ s, s < n → P s < 2000) {a b : Nat} (ha : a < n) (hb : b < n) : ∃ r, f_AutomatonMaker_together (jad L (jo 7)) (nI a) (nI b) (jW L ω S) = some (nI r) ∧ r ≤ 1 ∧ (r = 1 ↔ jalike tg P a b) := by
  have hu := hE.u
  have hps2 : 12 + ps = 12 ∨ 12 + ps = 13 := by omega
  have stop : ∀ m x, f_AutomatonMaker_together_24 (m + 1) (jad L (jo 7)) (nI a) (nI b) (nI 0) x (jW L ω S) = some (nI 0) := by
    intro m x
    rw [f_AutomatonMaker_together_24, if_pos (show nI 0 = 0 from rfl), if_pos (show nI 0 = 0 ∨ nI 0 = 1 from Or.inl rfl)]
    split <;> rfl
  have ldp : ∀ s, s < n → xai (jW L ω S) (jad L (jo (12 + ps))) (nI s) = some (nI (P s)) := fun s hs => by
    rw [jai_o hL hps2 (by omega), hP s hs]
  have loop : ∀ d l m, l + d = 9 → d + 2 ≤ m → ∃ r, f_AutomatonMaker_together_24 m (jad L (jo 7)) (nI a) (nI b) (nI 1) (nI l) (jW L ω S) = some (nI r) ∧ r ≤ 1 ∧ (r = 1 ↔ ∀ i, l ≤ i → i < 9 → P (tg (9 * a + i)) = P (tg (9 * b + i))) := by
    intro d
    induction d with
    | zero =>
      intro l m hl hm
      refine ⟨1, ?_, by omega, fun _ i h1 h2 => by omega, fun _ => rfl⟩
      rw [show m = m - 1 + 1 by omega, f_AutomatonMaker_together_24, if_pos (show (9 : Int32) ≤ nI l from (nI_leI (a := 9) (by omega) (by omega)).mpr (by omega)), if_pos (show nI 1 = 0 ∨ nI 1 = 1 from Or.inr rfl)]
    | succ d ih =>
      intro l m hl hm
      have ta := hE.t (9 * a + l) (by omega)
      have tb := hE.t (9 * b + l) (by omega)
      have ga := hE.g (9 * a + l) (by omega)
      have gb := hE.g (9 * b + l) (by omega)
      have la := ldp _ ta
      have lb := ldp _ tb
      have pa := hPl _ ta
      have pb := hPl _ tb
      have e : f_AutomatonMaker_together_24 m (jad L (jo 7)) (nI a) (nI b) (nI 1) (nI l) (jW L ω S) = if P (tg (9 * a + l)) = P (tg (9 * b + l)) then f_AutomatonMaker_together_24 (m - 1) (jad L (jo 7)) (nI a) (nI b) (nI 1) (nI (l + 1)) (jW L ω S) else f_AutomatonMaker_together_24 (m - 1) (jad L (jo 7)) (nI a) (nI b) (nI 0) (nI (l + 1)) (jW L ω S) := by
        rw [show m = m - 1 + 1 by omega, f_AutomatonMaker_together_24, Nat.add_sub_cancel]
        have ca : a * 9 + l = 9 * a + l := by omega
        have cb : b * 9 + l = 9 * b + l := by omega
        simp (disch := first | omega | rfl | assumption | exact jokr (by decide) (by omega) | exact jokr4 (by omega) | exact jkt_r _ _ | exact jkt_l (by decide) | exact jfk_l (by decide) | exact jkt_t _ | exact jkt_r6 _ _ | exact jkt_t6 _ | (simp only [jok, jlen]; omega) | decide) only [jm_k hL, jm_gi hL, jm_gr hL, jm_gl hL, jm_pi hL, jm_pl hL, jn_ai hL, jn_ab hL, jn_az hL, jn_al hL, jn_ar hL, jn_an hL, jn_si hL, jn_sb hL, jn_sz hL, jn_sl hL, Option.bind_some, xc, xl, jsA_X, jsI_X, jsG_X, hK _ _, jlk, jmx, jlit, jmul, nI_add, nI_leI, nI_eq, if_neg, ca, cb, ga, gb, la, lb]
      by_cases c : P (tg (9 * a + l)) = P (tg (9 * b + l))
      · obtain ⟨r, h1, h2, h3⟩ := ih (l + 1) (m - 1) (by omega) (by omega)
        refine ⟨r, by rw [e, if_pos c, h1], h2, ?_⟩
        rw [h3]
        refine ⟨fun h i h4 h5 => ?_, fun h i h4 h5 => h i (by omega) h5⟩
        by_cases ci : i = l
        · rw [ci]; exact c
        · exact h i (by omega) h5
      · refine ⟨0, ?_, by omega, fun z => by omega, fun h => absurd (h l (Nat.le_refl _) (by omega)) c⟩
        rw [e, if_neg c, show m - 1 = m - 2 + 1 by omega]
        exact stop _ _
  have l1 := ldp a ha
  have l2 := ldp b hb
  have pa := hPl _ ha
  have pb := hPl _ hb
  have e : f_AutomatonMaker_together (jad L (jo 7)) (nI a) (nI b) (jW L ω S) = if P a = P b then f_AutomatonMaker_together_24 xFU (jad L (jo 7)) (nI a) (nI b) (nI 1) (nI 0) (jW L ω S) else f_AutomatonMaker_together_24 xFU (jad L (jo 7)) (nI a) (nI b) (nI 0) (nI 0) (jW L ω S) := by
    unfold f_AutomatonMaker_together
    simp (disch := first | omega | rfl | assumption | exact jokr (by decide) (by omega) | exact jokr4 (by omega) | exact jkt_r _ _ | exact jkt_l (by decide) | exact jfk_l (by decide) | exact jkt_t _ | exact jkt_r6 _ _ | exact jkt_t6 _ | (simp only [jok, jlen]; omega) | decide) only [jm_k hL, jm_gi hL, jm_gr hL, jm_gl hL, jm_pi hL, jm_pl hL, jn_ai hL, jn_ab hL, jn_az hL, jn_al hL, jn_ar hL, jn_an hL, jn_si hL, jn_sb hL, jn_sz hL, jn_sl hL, Option.bind_some, xc, xl, jsA_X, jsI_X, jsG_X, hK _ _, jlk, jmx, jlit, nI_eq, l1, l2]
  by_cases c : P a = P b
  · obtain ⟨r, h1, h2, h3⟩ := loop 9 0 xFU (by omega) (by unfold xFU; omega)
    refine ⟨r, by rw [e, if_pos c, h1], h2, ?_⟩
    rw [h3]
    exact ⟨fun h => ⟨c, fun l hl => h l (Nat.zero_le _) hl⟩, fun h i _ hi => h.2 i hi⟩
  · refine ⟨0, ?_, by omega, fun z => by omega, fun h => absurd h.1 c⟩
    rw [e, if_neg c, show xFU = 999999 + 1 from rfl]
    exact stop _ _
