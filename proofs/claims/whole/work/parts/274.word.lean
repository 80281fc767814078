/-! THE SHORTEST WORD: the class reads it back -/
theorem jAu_fw {L : jL} (hL : jgood L) {ω : xS} {S : jSt} {sw ps wy : Nat} (hK : jLK S sw ps wy) {j ns : Nat} {nx fe c : Nat → Nat} (hj : j < 32) (h : jTb S j ns nx fe) (hns : ns ≤ 1025) (hB : jBO ns nx c) (hfe : ∀ s, fe s ≤ 1) {q m : Nat} (hm : m < 9 * ns) (h1 : c m = q) (h2 : nx m = q) (hq : q < ns) : f_Automaton_firstWayTo (jad L (jl j 6)) (nI q) (jW L ω S) = some (nI (10 * (m / 9) + m % 9)) := by
  have e1 := h.s
  have e2 := h.l
  have e3 := h.u
  unfold f_Automaton_firstWayTo
  refine jlpx (fun n i (_ : Nat) => f_Automaton_firstWayTo_2 n (jad L (jl j 6)) (nI q) (nI i) (jW L ω S)) (fun _ => 0) (lo := 0) (hi := 10 * (m / 9) + m % 9) (Nat.zero_le _) (by omega) ?_ ?_
  · intro n i _ hi
    show f_Automaton_firstWayTo_2 (n + 1) _ _ _ _ = f_Automaton_firstWayTo_2 n _ _ _ _
    rw [f_Automaton_firstWayTo_2]
    simp (disch := first | omega | rfl | assumption | exact jokr (by decide) (by omega) | exact jokr4 (by omega) | exact jkt_r _ _ | exact jkt_l (by decide) | exact jfk_l (by decide) | exact jkt_t _ | exact jkt_r6 _ _ | exact jkt_t6 _ | (simp only [jok, jlen]; omega) | decide) only [jm_k hL, jm_gi hL, jm_gr hL, jm_gl hL, jm_pi hL, jm_pl hL, jn_ai hL, jn_ab hL, jn_az hL, jn_al hL, jn_ar hL, jn_an hL, jn_si hL, jn_sb hL, jn_sz hL, jn_sl hL, Option.bind_some, xc, xl, jsA_X, jsI_X, jsG_X, hK _ _, jlk, jmx, jlit, jmul, nI_add, nI_leI, jlen, if_neg, e1]
    have ei : i = 10 * (i / 10) + i % 10 := by omega
    by_cases l9 : i % 10 < 9
    · have e4 : jgA S (jt j) i = nI (nx (9 * (i / 10) + i % 10)) := by
        have := h.x (i / 10) (i % 10) (by omega) l9
        rw [← ei] at this
        exact this
      have hlt : 9 * (i / 10) + i % 10 < m := by omega
      have hne : nx (9 * (i / 10) + i % 10) < q := by
        rcases hB.st (9 * (i / 10) + i % 10) (by omega) with r | r
        · have := hB.mono (a := 9 * (i / 10) + i % 10) (b := m) (by omega) (by omega); omega
        · have := hB.mono (a := 9 * (i / 10) + i % 10 + 1) (b := m) (by omega) (by omega); omega
      rw [e4, if_neg (fun z => by rw [nI_eq (by omega) (by omega)] at z; omega)]
    · have e5 : nI i - nI i / nI 10 * nI 10 = nI (i % 10) := jrem (by omega) (by omega)
      rw [e5, if_pos (show nI 9 ≤ nI (i % 10) from (nI_leI (by omega) (by omega)).mpr (by omega))]
      split <;> rfl
  · intro n
    have e4 : jgA S (jt j) (10 * (m / 9) + m % 9) = nI q := by
      rw [h.x (m / 9) (m % 9) (by omega) (by omega), show 9 * (m / 9) + m % 9 = m by omega, h2]
    have e5 : nI (10 * (m / 9) + m % 9) - nI (10 * (m / 9) + m % 9) / nI 10 * nI 10 = nI ((10 * (m / 9) + m % 9) % 10) := jrem (by omega) (by omega)
    show f_Automaton_firstWayTo_2 (n + 1) _ _ _ _ = _
    rw [f_Automaton_firstWayTo_2]
    simp (disch := first | omega | rfl | assumption | exact jokr (by decide) (by omega) | exact jokr4 (by omega) | exact jkt_r _ _ | exact jkt_l (by decide) | exact jfk_l (by decide) | exact jkt_t _ | exact jkt_r6 _ _ | exact jkt_t6 _ | (simp only [jok, jlen]; omega) | decide) only [jm_k hL, jm_gi hL, jm_gr hL, jm_gl hL, jm_pi hL, jm_pl hL, jn_ai hL, jn_ab hL, jn_az hL, jn_al hL, jn_ar hL, jn_an hL, jn_si hL, jn_sb hL, jn_sz hL, jn_sl hL, Option.bind_some, xc, xl, jsA_X, jsI_X, jsG_X, hK _ _, jlk, jmx, jlit, jmul, nI_add, nI_leI, jlen, if_neg, if_pos, e1, e4, e5]
/-- the way back from the lowest end -/
def jbk (mf : Nat → Nat) (e : Nat) : Nat → Nat
  | 0 => e
  | i + 1 => mf (jbk mf e i) / 9
def jmf (ns : Nat) (nx c mf : Nat → Nat) : Prop := (∀ q, 1 ≤ q → q < ns → mf q < 9 * ns ∧ c (mf q) = q ∧ nx (mf q) = q ∧ mf q / 9 < q)
theorem jmf.f {ns : Nat} {nx c mf : Nat → Nat} (h : jmf ns nx c mf) : ∀ q, 1 ≤ q → q < ns → mf q < 9 * ns ∧ c (mf q) = q ∧ nx (mf q) = q ∧ mf q / 9 < q := h
theorem jmf.ex {ns : Nat} {nx c : Nat → Nat} (hB : jBO ns nx c) : ∃ mf, jmf ns nx c mf := by
  have hx : ∀ q, ∃ m, 1 ≤ q → q < ns → m < 9 * ns ∧ c m = q ∧ nx m = q ∧ m / 9 < q := fun q => by
    by_cases hq : 1 ≤ q ∧ q < ns
    · obtain ⟨m, a, b, d, _, e⟩ := hB.fp hq.1 hq.2
      exact ⟨m, fun _ _ => ⟨a, b, d, e⟩⟩
    · exact ⟨0, fun a b => absurd ⟨a, b⟩ hq⟩
  exact ⟨fun q => Classical.choose (hx q), fun q a b => Classical.choose_spec (hx q) a b⟩
def jbl2 (ns : Nat) (mf : Nat → Nat) (e len : Nat) : Prop := (jbk mf e len = 0) ∧ (∀ i, i < len → 1 ≤ jbk mf e i ∧ jbk mf e i < ns) ∧ (len ≤ e)
theorem jbl2.z {ns : Nat} {mf : Nat → Nat} {e len : Nat} (h : jbl2 ns mf e len) : jbk mf e len = 0 := h.1
theorem jbl2.p {ns : Nat} {mf : Nat → Nat} {e len : Nat} (h : jbl2 ns mf e len) : ∀ i, i < len → 1 ≤ jbk mf e i ∧ jbk mf e i < ns := h.2.1
theorem jbl2.u {ns : Nat} {mf : Nat → Nat} {e len : Nat} (h : jbl2 ns mf e len) : len ≤ e := h.2.2
theorem jbl2.ex {ns : Nat} {nx c mf : Nat → Nat} (h : jmf ns nx c mf) {e : Nat} (he : e < ns) : ∃ len, jbl2 ns mf e len := by
  have key : ∀ n, (∀ i, i < n → 1 ≤ jbk mf e i ∧ jbk mf e i < ns) → jbk mf e n + n ≤ e := by
    intro n
    induction n with
    | zero => intro _; exact Nat.le_refl _
    | succ n ih =>
      intro hh
      have h1 := ih (fun i hi => hh i (by omega))
      have h2 := hh n (by omega)
      have h3 := (h.f _ h2.1 h2.2).2.2.2
      rw [jbk]
      omega
  have fnd : ∀ n, (∀ i, i < n → 1 ≤ jbk mf e i ∧ jbk mf e i < ns) ∨ ∃ len, jbl2 ns mf e len := by
    intro n
    induction n with
    | zero => exact Or.inl fun i hi => absurd hi (Nat.not_lt_zero i)
    | succ n ih =>
      rcases ih with g | g
      · have h1 := key n g
        rcases Nat.eq_zero_or_pos (jbk mf e n) with z | z
        · exact Or.inr ⟨n, z, g, by omega⟩
        · refine Or.inl fun i hi => ?_
          rcases Nat.lt_or_ge i n with r | r
          · exact g i r
          · rw [show i = n by omega]; exact ⟨z, by omega⟩
      · exact Or.inr g
  rcases fnd (e + 1) with g | g
  · exfalso
    have := key (e + 1) g
    omega
  · exact g
theorem jbl2.way {ns : Nat} {nx c mf : Nat → Nat} (h : jmf ns nx c mf) {e len : Nat} (hb : jbl2 ns mf e len) : jway ns nx c len (fun i => jbk mf e (len - i)) (fun i => mf (jbk mf e (len - (i + 1))) % 9) := by
  refine ⟨?_, fun i hi => ?_, fun i _ => Nat.mod_lt _ (by decide), fun i hi => ?_⟩
  · show jbk mf e (len - 0) = 0
    rw [Nat.sub_zero]; exact hb.z
  · have := hb.p (len - (i + 1)) (by omega)
    exact ⟨this.2, this.1⟩
  · have h1 := hb.p (len - (i + 1)) (by omega)
    have h2 := h.f _ h1.1 h1.2
    have e1 : jbk mf e (len - i) = mf (jbk mf e (len - (i + 1))) / 9 := by
      rw [show len - i = len - (i + 1) + 1 by omega, jbk]
    show c (9 * jbk mf e (len - i) + mf (jbk mf e (len - (i + 1))) % 9) = jbk mf e (len - (i + 1)) ∧ nx (9 * jbk mf e (len - i) + mf (jbk mf e (len - (i + 1))) % 9) = jbk mf e (len - (i + 1)) ∧ jbk mf e (len - i) < jbk mf e (len - (i + 1))
    rw [e1, show 9 * (mf (jbk mf e (len - (i + 1))) / 9) + mf (jbk mf e (len - (i + 1))) % 9 = mf (jbk mf e (len - (i + 1))) by omega]
    exact ⟨h2.2.1, h2.2.2.1, h2.2.2.2⟩
theorem jleast {p : Nat → Prop} : ∀ {n : Nat}, p n → ∃ e, e ≤ n ∧ p e ∧ ∀ k, k < e → ¬ p k := by
  intro n
  induction n using Nat.strongRecOn with
  | _ n ih =>
    intro h
    by_cases hx : ∃ k, k < n ∧ p k
    · obtain ⟨k, hk, hp⟩ := hx
      obtain ⟨e, h1, h2⟩ := ih k hk hp
      exact ⟨e, by omega, h2⟩
    · exact ⟨n, Nat.le_refl _, h, fun k hk hp => hx ⟨k, hk, hp⟩⟩
theorem jneg1 {a : Nat} (h : 1 ≤ a) : nI a + (-nI 1) = nI (a - 1) := by
  rw [← jsub h, ← Int32.sub_eq_add_neg]
theorem jAu_short {L : jL} (hL : jgood L) {ω : xS} {S : jSt} {sw ps wy : Nat} (hK : jLK S sw ps wy) {j ns : Nat} {nx fe c mf : Nat → Nat} (hj : j < 32) (h : jTb S j ns nx fe) (hns : ns ≤ 1025) (hB : jBO ns nx c) (hfe : ∀ s, fe s ≤ 1) (hm : jmf ns nx c mf) {e len : Nat} (he : e < ns) (hfin : fe e = 1) (hlow : ∀ k, k < e → fe k = 0) (hb : jbl2 ns mf e len) {y : Nat} (hy : y < 2 ^ 31) : f_Automaton_letterOfShortest (jad L (jl j 6)) (nI y) (jW L ω S) = some (if y < len then nI (mf (jbk mf e (len - (y + 1))) % 9) else -2) := by
  have e1 := h.s
  have hlen := hb.u
  have fw : ∀ q, 1 ≤ q → q < ns → f_Automaton_firstWayTo (jad L (jl j 6)) (nI q) (jW L ω S) = some (nI (10 * (mf q / 9) + mf q % 9)) := fun q a b => by
    have z := hm.f q a b
    exact jAu_fw hL hK hj h hns hB hfe z.1 z.2.1 z.2.2.1 b
  have hdiv : ∀ m, m < 9 * ns → nI (10 * (m / 9) + m % 9) / nI 10 = nI (m / 9) := fun m hm2 => by
    rw [jdiv (by omega) (by omega)]; congr 1; omega
  have s83 : ∀ (hl : y < len), f_Automaton_letterOfShortest_83 xFU (jad L (jl j 6)) (nI y) (nI (10 * (mf e / 9) + mf e % 9)) (nI (len - 1)) (jW L ω S) = some (nI (mf (jbk mf e (len - (y + 1))) % 9)) := by
    intro hl
    refine jlpx (fun n i x => f_Automaton_letterOfShortest_83 n (jad L (jl j 6)) (nI y) x (nI (len - 1 - i)) (jW L ω S)) (fun i => nI (10 * (mf (jbk mf e i) / 9) + mf (jbk mf e i) % 9)) (lo := 0) (hi := len - 1 - y) (Nat.zero_le _) (by omega) ?_ ?_
    · intro n i _ hi
      have z := hb.p i (by omega)
      have z1 := hb.p (i + 1) (by omega)
      have z2 := hm.f _ z.1 z.2
      have e3 := fw _ z1.1 z1.2
      have e4 := hdiv _ z2.1
      have e5 : jbk mf e (i + 1) = mf (jbk mf e i) / 9 := rfl
      rw [e5] at e3
      have e6 := jneg1 (a := len - 1 - i) (by omega)
      show f_Automaton_letterOfShortest_83 (n + 1) _ _ _ _ _ = f_Automaton_letterOfShortest_83 n _ _ _ _ _
      rw [f_Automaton_letterOfShortest_83, if_neg (fun q => by have := (nI_leI (by omega) (by omega)).mp q; omega)]
      simp (disch := first | omega | rfl | assumption | exact jokr (by decide) (by omega) | exact jokr4 (by omega) | exact jkt_r _ _ | exact jkt_l (by decide) | exact jfk_l (by decide) | exact jkt_t _ | exact jkt_r6 _ _ | exact jkt_t6 _ | (simp only [jok, jlen]; omega) | decide) only [jm_k hL, jm_gi hL, jm_gr hL, jm_gl hL, jm_pi hL, jm_pl hL, jn_ai hL, jn_ab hL, jn_az hL, jn_al hL, jn_ar hL, jn_an hL, jn_si hL, jn_sb hL, jn_sz hL, jn_sl hL, Option.bind_some, xc, xl, jlit, e4, e3, e6]
      rw [show len - 1 - i - 1 = len - 1 - (i + 1) by omega, e5]
    · intro n
      have z := hb.p (len - 1 - y) (by omega)
      have z2 := hm.f _ z.1 z.2
      show f_Automaton_letterOfShortest_83 (n + 1) _ _ _ _ _ = _
      rw [f_Automaton_letterOfShortest_83, if_pos ((nI_leI (by omega) (by omega)).mpr (by omega)), jlit, jrem (by omega) (by omega), show len - (y + 1) = len - 1 - y by omega]
      congr 2
      omega
  have s33 : f_Automaton_letterOfShortest_33 xFU (jad L (jl j 6)) (nI y) (nI e) (nI 0) (nI e) (jW L ω S) = some (if y < len then nI (mf (jbk mf e (len - (y + 1))) % 9) else -2) := by
    refine jlpx (fun n i x => f_Automaton_letterOfShortest_33 n (jad L (jl j 6)) (nI y) (nI e) (nI i) x (jW L ω S)) (fun i => nI (jbk mf e i)) (lo := 0) (hi := len) (Nat.zero_le _) (by omega) ?_ ?_
    · intro n i _ hi
      have z := hb.p i hi
      have z2 := hm.f _ z.1 z.2
      have e3 := fw _ z.1 z.2
      have e4 := hdiv _ z2.1
      show f_Automaton_letterOfShortest_33 (n + 1) _ _ _ _ _ _ = f_Automaton_letterOfShortest_33 n _ _ _ _ _ _
      rw [f_Automaton_letterOfShortest_33]
      simp (disch := first | omega | rfl | assumption | exact jokr (by decide) (by omega) | exact jokr4 (by omega) | exact jkt_r _ _ | exact jkt_l (by decide) | exact jfk_l (by decide) | exact jkt_t _ | exact jkt_r6 _ _ | exact jkt_t6 _ | (simp only [jok, jlen]; omega) | decide) only [jm_k hL, jm_gi hL, jm_gr hL, jm_gl hL, jm_pi hL, jm_pl hL, jn_ai hL, jn_ab hL, jn_az hL, jn_al hL, jn_ar hL, jn_an hL, jn_si hL, jn_sb hL, jn_sz hL, jn_sl hL, Option.bind_some, xc, xl, jlit, nI_add, nI_leI, if_neg, e1, e3, e4]
      rfl
    · intro n
      show f_Automaton_letterOfShortest_33 (n + 1) _ _ _ _ _ _ = _
      rw [hb.z, f_Automaton_letterOfShortest_33, if_pos (show nI 0 ≤ (0 : Int32) from (nI_leI (a := 0) (b := 0) (by omega) (by omega)).mpr (Nat.le_refl _))]
      by_cases hl : y < len
      · rw [if_pos ((nI_ltI (by omega) (by omega)).mpr hl), if_pos hl]
        have z := hb.p 0 (by omega)
        have z : 1 ≤ e ∧ e < ns := z
        have e3 := fw _ z.1 z.2
        simp (disch := first | omega | rfl | assumption | exact jokr (by decide) (by omega) | exact jokr4 (by omega) | exact jkt_r _ _ | exact jkt_l (by decide) | exact jfk_l (by decide) | exact jkt_t _ | exact jkt_r6 _ _ | exact jkt_t6 _ | (simp only [jok, jlen]; omega) | decide) only [jm_k hL, jm_gi hL, jm_gr hL, jm_gl hL, jm_pi hL, jm_pl hL, jn_ai hL, jn_ab hL, jn_az hL, jn_al hL, jn_ar hL, jn_an hL, jn_si hL, jn_sb hL, jn_sz hL, jn_sl hL, Option.bind_some, xc, xl, jlit, e3, jsub]
        exact s83 hl
      · rw [if_neg (fun q => hl ((nI_ltI (by omega) (by omega)).mp q)), if_neg hl]
  unfold f_Automaton_letterOfShortest
  refine jlpx (fun n i (_ : Nat) => f_Automaton_letterOfShortest_2 n (jad L (jl j 6)) (nI y) (nI i) (jW L ω S)) (fun _ => 0) (lo := 0) (hi := e) (Nat.zero_le _) (by omega) ?_ ?_
  · intro n i _ hi
    have e3 := jAu_entry hL (ω := ω) hK hj h (s := i) (l := 9) (by omega) (by omega)
    rw [if_neg (by omega), hlow i hi] at e3
    show f_Automaton_letterOfShortest_2 (n + 1) _ _ _ _ = f_Automaton_letterOfShortest_2 n _ _ _ _
    rw [f_Automaton_letterOfShortest_2]
    simp (disch := first | omega | rfl | assumption | exact jokr (by decide) (by omega) | exact jokr4 (by omega) | exact jkt_r _ _ | exact jkt_l (by decide) | exact jfk_l (by decide) | exact jkt_t _ | exact jkt_r6 _ _ | exact jkt_t6 _ | (simp only [jok, jlen]; omega) | decide) only [jm_k hL, jm_gi hL, jm_gr hL, jm_gl hL, jm_pi hL, jm_pl hL, jn_ai hL, jn_ab hL, jn_az hL, jn_al hL, jn_ar hL, jn_an hL, jn_si hL, jn_sb hL, jn_sz hL, jn_sl hL, Option.bind_some, xc, xl, jlit, nI_add, jsub, nI_leI, if_neg, e1, e3, if_true]
  · intro n
    have e3 := jAu_entry hL (ω := ω) hK hj h (s := e) (l := 9) (by omega) (by omega)
    rw [if_neg (by omega), hfin] at e3
    show f_Automaton_letterOfShortest_2 (n + 1) _ _ _ _ = _
    rw [f_Automaton_letterOfShortest_2]
    simp (disch := first | omega | rfl | assumption | exact jokr (by decide) (by omega) | exact jokr4 (by omega) | exact jkt_r _ _ | exact jkt_l (by decide) | exact jfk_l (by decide) | exact jkt_t _ | exact jkt_r6 _ _ | exact jkt_t6 _ | (simp only [jok, jlen]; omega) | decide) only [jm_k hL, jm_gi hL, jm_gr hL, jm_gl hL, jm_pi hL, jm_pl hL, jn_ai hL, jn_ab hL, jn_az hL, jn_al hL, jn_ar hL, jn_an hL, jn_si hL, jn_sb hL, jn_sz hL, jn_sl hL, Option.bind_some, xc, xl, jlit, jsub, nI_leI, nI_eq, if_neg, e1, e3]
    split
    · exact s33
    · exact s33
