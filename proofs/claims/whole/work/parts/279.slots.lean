/-! THE CLASS PARTS STATES: by a hash table -/
theorem jm2047 (y : Int32) : y &&& nI 2047 = nI (y.toBitVec.toNat % 2048) := by
  apply Int32.toBitVec_inj.mp
  apply BitVec.eq_of_toNat_eq
  have h : y.toBitVec.toNat % 2048 < 2 ^ 32 := by omega
  rw [Int32.toBitVec_and, BitVec.toNat_and, jtn (show 2047 < 2 ^ 32 by omega), jtn h, show 2047 = 2 ^ 11 - 1 from rfl, Nat.and_two_pow_sub_one_eq_mod]
theorem jm2047n {y : Nat} (h : y < 2 ^ 31) : nI y &&& nI 2047 = nI (y % 2048) := by
  rw [jm2047, jtn (by omega)]
/-- the hash of a state -/
def jhx (tg P : Nat → Nat) (s : Nat) : Nat → Int32
  | 0 => nI (P s)
  | l + 1 => jhx tg P s l * nI 31 + nI (P (tg (9 * s + l)))
def jhs (tg P : Nat → Nat) (s : Nat) : Nat := (jhx tg P s 9 ^^^ xiushr (jhx tg P s 9) (nI 11)).toBitVec.toNat % 2048
theorem jhx_eq {tg P : Nat → Nat} {a b : Nat} (h : jalike tg P a b) : ∀ l, l ≤ 9 → jhx tg P a l = jhx tg P b l
  | 0, _ => by rw [jhx, jhx, h.1]
  | l + 1, hl => by rw [jhx, jhx, jhx_eq h l (by omega), h.2 l (by omega)]
theorem jhs_eq {tg P : Nat → Nat} {a b : Nat} (h : jalike tg P a b) : jhs tg P a = jhs tg P b := by
  unfold jhs
  rw [jhx_eq h 9 (Nat.le_refl _)]
theorem jalike.refl (tg P : Nat → Nat) (a : Nat) : jalike tg P a a := ⟨rfl, fun _ _ => rfl⟩
theorem jalike.symm {tg P : Nat → Nat} {a b : Nat} (h : jalike tg P a b) : jalike tg P b a := ⟨h.1.symm, fun l hl => (h.2 l hl).symm⟩
theorem jalike.trans {tg P : Nat → Nat} {a b c : Nat} (h : jalike tg P a b) (h' : jalike tg P b c) : jalike tg P a c := ⟨h.1.trans h'.1, fun l hl => (h.2 l hl).trans (h'.2 l hl)⟩
theorem jpl_on (h d : Nat) : (jpl h d + 1) % 2048 = jpl h (d + 1) := by
  unfold jpl
  omega
theorem jKM_slot {L : jL} (hL : jgood L) {ω : xS} {S : jSt} {sw ps wy : Nat} (hK : jLK S sw ps wy) (hps : ps ≤ 1) {n : Nat} {st tg P sl : Nat → Nat} (hE : jEX S n st tg) (hP : jPv S (12 + ps) n P) (hPl : ∀ s, s < n → P s < 2000) (hS : ∀ i, i < 2048 → jgA S (jo 11) i = nI (sl i)) {s d : Nat} (hs : s < n) (hsl : ∀ i, i < 2048 → sl i ≠ 0 → sl i ≤ s) (hst : jstop (jalike tg P) sl (jhs tg P s) s d) : f_AutomatonMaker_slotOf (jad L (jo 7)) (nI s) (jW L ω S) = some (nI (jpl (jhs tg P s) d)) := by
  have hu := hE.u
  have hps2 : 12 + ps = 12 ∨ 12 + ps = 13 := by omega
  have hpl : ∀ i, jpl (jhs tg P s) i < 2048 := fun i => Nat.mod_lt _ (by decide)
  have hd := hst.lt
  have hsb : ∀ i, i < 2048 → sl i ≤ s := fun i hi => by
    by_cases c : sl i = 0
    · omega
    · exact hsl i hi c
  have ldp : ∀ s, s < n → xai (jW L ω S) (jad L (jo (12 + ps))) (nI s) = some (nI (P s)) := fun s hs => by
    rw [jai_o hL hps2 (by omega), hP s hs]
  have s57 : f_AutomatonMaker_slotOf_57 xFU (jad L (jo 7)) (nI s) (nI (jpl (jhs tg P s) 0)) (nI 0) (jW L ω S) = some (nI (jpl (jhs tg P s) d)) := by
    refine jlpx (fun m i x => f_AutomatonMaker_slotOf_57 m (jad L (jo 7)) (nI s) x (nI i) (jW L ω S)) (fun i => nI (jpl (jhs tg P s) i)) (lo := 0) (hi := d) (Nat.zero_le _) (by omega) ?_ ?_
    · intro m i _ hi
      have q := hst.on i hi
      have v := hS _ (hpl i)
      have b1 := hsb _ (hpl i)
      have b2 := hpl i
      obtain ⟨r, t1, t2, t3⟩ := jKM_together hL (ω := ω) hK hps hE hP hPl (a := sl (jpl (jhs tg P s) i) - 1) (b := s) (by omega) hs
      have hr : r = 0 := by
        rcases Nat.eq_zero_or_pos r with z | z
        · exact z
        · exact absurd (t3.mp (by omega)) q.2
      rw [hr] at t1
      have e1 := jm2047n (y := jpl (jhs tg P s) i + 1) (by omega)
      rw [jpl_on] at e1
      show f_AutomatonMaker_slotOf_57 (m + 1) _ _ _ _ _ = f_AutomatonMaker_slotOf_57 m _ _ _ _ _
      rw [f_AutomatonMaker_slotOf_57]
      simp (disch := first | omega | rfl | assumption | exact jokr (by decide) (by omega) | exact jokr4 (by omega) | exact jkt_r _ _ | exact jkt_l (by decide) | exact jfk_l (by decide) | exact jkt_t _ | exact jkt_r6 _ _ | exact jkt_t6 _ | (simp only [jok, jlen]; omega) | decide) only [jm_k hL, jm_gi hL, jm_gr hL, jm_gl hL, jm_pi hL, jm_pl hL, jn_ai hL, jn_ab hL, jn_az hL, jn_al hL, jn_ar hL, jn_an hL, jn_si hL, jn_sb hL, jn_sz hL, jn_sl hL, Option.bind_some, xc, xl, jsA_X, jsI_X, jsG_X, hK _ _, jlk, jmx, jlit, nI_leI, nI_eq, nI_add, if_neg, if_true, v, jsub, t1, e1]
    · intro m
      have v := hS _ (hpl d)
      have b1 := hsb _ (hpl d)
      have b2 := hpl d
      show f_AutomatonMaker_slotOf_57 (m + 1) _ _ _ _ _ = _
      rw [f_AutomatonMaker_slotOf_57]
      by_cases c : sl (jpl (jhs tg P s) d) = 0
      · rw [c] at v
        simp (disch := first | omega | rfl | assumption | exact jokr (by decide) (by omega) | exact jokr4 (by omega) | exact jkt_r _ _ | exact jkt_l (by decide) | exact jfk_l (by decide) | exact jkt_t _ | exact jkt_r6 _ _ | exact jkt_t6 _ | (simp only [jok, jlen]; omega) | decide) only [jm_k hL, jm_gi hL, jm_gr hL, jm_gl hL, jm_pi hL, jm_pl hL, jn_ai hL, jn_ab hL, jn_az hL, jn_al hL, jn_ar hL, jn_an hL, jn_si hL, jn_sb hL, jn_sz hL, jn_sl hL, Option.bind_some, xc, xl, jsA_X, jsI_X, jsG_X, hK _ _, jlk, jmx, jlit, nI_leI, nI_eq, if_neg, if_true, v]
      · have q : jalike tg P (sl (jpl (jhs tg P s) d) - 1) s := hst.ed.elim (fun z => absurd z c) (fun z => z)
        obtain ⟨r, t1, t2, t3⟩ := jKM_together hL (ω := ω) hK hps hE hP hPl (a := sl (jpl (jhs tg P s) d) - 1) (b := s) (by omega) hs
        rw [t3.mpr q] at t1
        simp (disch := first | omega | rfl | assumption | exact jokr (by decide) (by omega) | exact jokr4 (by omega) | exact jkt_r _ _ | exact jkt_l (by decide) | exact jfk_l (by decide) | exact jkt_t _ | exact jkt_r6 _ _ | exact jkt_t6 _ | (simp only [jok, jlen]; omega) | decide) only [jm_k hL, jm_gi hL, jm_gr hL, jm_gl hL, jm_pi hL, jm_pl hL, jn_ai hL, jn_ab hL, jn_az hL, jn_al hL, jn_ar hL, jn_an hL, jn_si hL, jn_sb hL, jn_sz hL, jn_sl hL, Option.bind_some, xc, xl, jsA_X, jsI_X, jsG_X, hK _ _, jlk, jmx, jlit, nI_leI, nI_eq, if_neg, v, jsub, t1]
  have s9 : f_AutomatonMaker_slotOf_9 xFU (jad L (jo 7)) (nI s) (nI (P s)) (nI 0) (jW L ω S) = some (nI (jpl (jhs tg P s) d)) := by
    refine jlpx (fun m i x => f_AutomatonMaker_slotOf_9 m (jad L (jo 7)) (nI s) x (nI i) (jW L ω S)) (fun i => jhx tg P s i) (lo := 0) (hi := 9) (Nat.zero_le _) (by omega) ?_ ?_
    · intro m i _ hi
      have ta := hE.t (9 * s + i) (by omega)
      have ga := hE.g (9 * s + i) (by omega)
      have la := ldp _ ta
      have ca : s * 9 + i = 9 * s + i := by omega
      show f_AutomatonMaker_slotOf_9 (m + 1) _ _ _ _ _ = f_AutomatonMaker_slotOf_9 m _ _ _ _ _
      rw [f_AutomatonMaker_slotOf_9, jhx]
      simp (disch := first | omega | rfl | assumption | exact jokr (by decide) (by omega) | exact jokr4 (by omega) | exact jkt_r _ _ | exact jkt_l (by decide) | exact jfk_l (by decide) | exact jkt_t _ | exact jkt_r6 _ _ | exact jkt_t6 _ | (simp only [jok, jlen]; omega) | decide) only [jm_k hL, jm_gi hL, jm_gr hL, jm_gl hL, jm_pi hL, jm_pl hL, jn_ai hL, jn_ab hL, jn_az hL, jn_al hL, jn_ar hL, jn_an hL, jn_si hL, jn_sb hL, jn_sz hL, jn_sl hL, Option.bind_some, xc, xl, jsA_X, jsI_X, jsG_X, hK _ _, jlk, jmx, jlit, jmul, nI_leI, nI_add, if_neg, ca, ga, la]
    · intro m
      show f_AutomatonMaker_slotOf_9 (m + 1) _ _ _ _ _ = _
      rw [f_AutomatonMaker_slotOf_9]
      simp (disch := first | omega | rfl | assumption | exact jokr (by decide) (by omega) | exact jokr4 (by omega) | exact jkt_r _ _ | exact jkt_l (by decide) | exact jfk_l (by decide) | exact jkt_t _ | exact jkt_r6 _ _ | exact jkt_t6 _ | (simp only [jok, jlen]; omega) | decide) only [jlit, nI_leI, if_pos, jm2047]
      have e0 : (jhx tg P s 9 ^^^ xiushr (jhx tg P s 9) (nI 11)).toBitVec.toNat % 2048 = jpl (jhs tg P s) 0 := by
        unfold jpl jhs
        omega
      rw [e0]
      exact s57
  have l1 := ldp s hs
  unfold f_AutomatonMaker_slotOf
  simp (disch := first | omega | rfl | assumption | exact jokr (by decide) (by omega) | exact jokr4 (by omega) | exact jkt_r _ _ | exact jkt_l (by decide) | exact jfk_l (by decide) | exact jkt_t _ | exact jkt_r6 _ _ | exact jkt_t6 _ | (simp only [jok, jlen]; omega) | decide) only [jm_k hL, jm_gi hL, jm_gr hL, jm_gl hL, jm_pi hL, jm_pl hL, jn_ai hL, jn_ab hL, jn_az hL, jn_al hL, jn_ar hL, jn_an hL, jn_si hL, jn_sb hL, jn_sz hL, jn_sl hL, Option.bind_some, xc, xl, jsA_X, jsI_X, jsG_X, hK _ _, jlk, jmx, jlit, l1]
  exact s9
/-- a numbering as it grows -/
theorem jNum.new {s q : Nat} {R : Nat → Nat → Prop} {F F' : Nat → Nat} (hrf : ∀ a, R a a) (hsy : ∀ a b, R a b → R b a) (h : jNum s q R F) (hno : ∀ r, r < s → ¬ R r s) (hF : ∀ r, r < s → F' r = F r) (hs : F' s = q) : jNum (s + 1) (q + 1) R F' := by
  refine ⟨fun k hk => ?_, fun g hg => ?_, fun k g hk hg => ?_, fun a b ha hb => ?_⟩
  · by_cases c : k = s
    · rw [c, hs]; omega
    · rw [hF k (by omega)]; have := h.lt k (by omega); omega
  · by_cases c : g = q
    · exact ⟨s, by omega, by rw [c, hs]⟩
    · obtain ⟨k, h1, h2⟩ := h.on g (by omega)
      exact ⟨k, by omega, by rw [hF k h1, h2]⟩
  · by_cases c : k = s
    · rw [c, hs] at hg
      obtain ⟨k', h1, h2⟩ := h.on g hg
      exact ⟨k', by omega, by rw [hF k' h1, h2]⟩
    · rw [hF k (by omega)] at hg
      obtain ⟨k', h1, h2⟩ := h.fo k g (by omega) hg
      exact ⟨k', h1, by rw [hF k' (by omega), h2]⟩
  · by_cases ca : a = s
    · by_cases cb : b = s
      · rw [ca, cb]; exact ⟨fun _ => hrf s, fun _ => rfl⟩
      · rw [ca, hs, hF b (by omega)]
        have := h.lt b (by omega)
        exact ⟨fun z => by omega, fun z => absurd (hsy _ _ z) (hno b (by omega))⟩
    · by_cases cb : b = s
      · rw [cb, hs, hF a (by omega)]
        have := h.lt a (by omega)
        exact ⟨fun z => by omega, fun z => absurd z (hno a (by omega))⟩
      · rw [hF a (by omega), hF b (by omega)]
        exact h.eq a b (by omega) (by omega)
theorem jNum.old {s q r : Nat} {R : Nat → Nat → Prop} {F F' : Nat → Nat} (hrf : ∀ a, R a a) (hsy : ∀ a b, R a b → R b a) (htr : ∀ a b c, R a b → R b c → R a c) (h : jNum s q R F) (hr : r < s) (hR : R r s) (hF : ∀ r, r < s → F' r = F r) (hs : F' s = F r) : jNum (s + 1) q R F' := by
  refine ⟨fun k hk => ?_, fun g hg => ?_, fun k g hk hg => ?_, fun a b ha hb => ?_⟩
  · by_cases c : k = s
    · rw [c, hs]; exact h.lt r hr
    · rw [hF k (by omega)]; exact h.lt k (by omega)
  · obtain ⟨k, h1, h2⟩ := h.on g hg
    exact ⟨k, by omega, by rw [hF k h1, h2]⟩
  · by_cases c : k = s
    · rw [c, hs] at hg
      obtain ⟨k', h1, h2⟩ := h.fo r g hr hg
      exact ⟨k', by omega, by rw [hF k' (by omega), h2]⟩
    · rw [hF k (by omega)] at hg
      obtain ⟨k', h1, h2⟩ := h.fo k g (by omega) hg
      exact ⟨k', h1, by rw [hF k' (by omega), h2]⟩
  · by_cases ca : a = s
    · by_cases cb : b = s
      · rw [ca, cb]; exact ⟨fun _ => hrf s, fun _ => rfl⟩
      · rw [ca, hs, hF b (by omega), h.eq r b hr (by omega)]
        exact ⟨fun z => htr _ _ _ (hsy _ _ hR) z, fun z => htr _ _ _ hR z⟩
    · by_cases cb : b = s
      · rw [cb, hs, hF a (by omega), h.eq a r (by omega) hr]
        exact ⟨fun z => htr _ _ _ z hR, fun z => htr _ _ _ z (hsy _ _ hR)⟩
      · rw [hF a (by omega), hF b (by omega)]
        exact h.eq a b (by omega) (by omega)
theorem jNum.zero (R : Nat → Nat → Prop) (F : Nat → Nat) : jNum 0 0 R F := ⟨fun k hk => absurd hk (Nat.not_lt_zero k), fun g hg => absurd hg (Nat.not_lt_zero g), fun k g hk => absurd hk (Nat.not_lt_zero k), fun a b ha => absurd ha (Nat.not_lt_zero a)⟩
/-- the links when parts and finerParts are swapped -/
theorem jLK.swapP {S : jSt} {sw ps wy : Nat} (h : jLK S sw ps wy) (hw : ps ≤ 1) : jLK (jsX (jsX S (jo 7) 4 (jo (13 - ps))) (jo 7) 5 (jo (12 + ps))) sw (1 - ps) wy := by
  intro c k
  rw [jsX_X, jsX_X]
  by_cases c7 : c = jo 7 ∧ k = 5
  · rw [if_pos c7, c7.1, c7.2]
    show jo (12 + ps) = jo (13 - (1 - ps))
    congr 1
    omega
  · rw [if_neg c7]
    by_cases c6 : c = jo 7 ∧ k = 4
    · rw [if_pos c6, c6.1, c6.2]
      show jo (13 - ps) = jo (12 + (1 - ps))
      congr 1
      omega
    · rw [if_neg c6, h c k]
      by_cases c0 : c = jo 7
      · subst c0
        rcases k with _ | _ | _ | _ | _ | _ | _ | _ | k
        · rfl
        · rfl
        · rfl
        · rfl
        · exact absurd ⟨rfl, rfl⟩ c6
        · exact absurd ⟨rfl, rfl⟩ c7
        · rfl
        · rfl
        · rfl
      · rcases c with q | ⟨t, p⟩ | ⟨j, q⟩ | j | q
        · have hq : q ≠ 7 := fun z => c0 (by rw [z])
          simp only [jlk]
          split <;> first | rfl | omega
        · rfl
        · rfl
        · rfl
        · rfl
theorem jKM_refine {L : jL} (hL : jgood L) {ω : xS} {S : jSt} {sw ps wy : Nat} (hK : jLK S sw ps wy) (hps : ps ≤ 1) {n : Nat} {st tg P : Nat → Nat} (hE : jEX S n st tg) (hP : jPv S (12 + ps) n P) (hPl : ∀ s, s < n → P s < 2000) : ∃ T q F, f_AutomatonMaker_refine (jad L (jo 7)) (jW L ω S) = some (nI q, jW L ω T) ∧ jLK T sw (1 - ps) wy ∧ jeqv (fun c => ¬ jisK c) S T ∧ jEX T n st tg ∧ jPv T (12 + (1 - ps)) n F ∧ jNum n q (jalike tg P) F := by
  have hu := hE.u
  have hps2 : 12 + ps = 12 ∨ 12 + ps = 13 := by omega
  have hps3 : 13 - ps = 12 ∨ 13 - ps = 13 := by omega
  have hKp : ¬ (fun c => ¬ jisK c) (jo (13 - ps)) := jKn (by omega) (by omega)
  obtain ⟨n1, T1, e1, a1, a2, a3, a4, a5⟩ := jlpI (fun m i (T : jSt) => f_AutomatonMaker_refine_2 m (jad L (jo 7)) (nI i) (jW L ω T)) (fun i T => jLK T sw ps wy ∧ jeqv (fun c => ¬ jisK c) S T ∧ jEX T n st tg ∧ jPv T (12 + ps) n P ∧ ∀ x, x < i → jgA T (jo 11) x = nI 0) (lo := 0) (hi := 2048) (Nat.zero_le _) (by omega) (by
    intro m i T _ hi ⟨b1, b2, b3, b4, b5⟩
    refine ⟨jsA T (jo 11) i (nI 0), ?_, b1, b2.trans (jeqv.sA _ _ _ jK11), b3.same rfl (jsA_fn (jone (by omega))) (jsA_fn (jone (by omega))), fun s hs => ?_, fun x hx => ?_⟩
    · show f_AutomatonMaker_refine_2 (m + 1) _ _ _ = f_AutomatonMaker_refine_2 m _ _ _
      rw [f_AutomatonMaker_refine_2]
      have hK := b1
      simp (disch := first | omega | rfl | assumption | exact jokr (by decide) (by omega) | exact jokr4 (by omega) | exact jkt_r _ _ | exact jkt_l (by decide) | exact jfk_l (by decide) | exact jkt_t _ | exact jkt_r6 _ _ | exact jkt_t6 _ | (simp only [jok, jlen]; omega) | decide) only [jm_k hL, jm_gi hL, jm_gr hL, jm_gl hL, jm_pi hL, jm_pl hL, jn_ai hL, jn_ab hL, jn_az hL, jn_al hL, jn_ar hL, jn_an hL, jn_si hL, jn_sb hL, jn_sz hL, jn_sl hL, Option.bind_some, xc, xl, jsA_X, jsI_X, jsG_X, hK _ _, jlk, jmx, jlit, nI_add, nI_leI, if_neg]
    · rw [jsA_ne (jone (by omega))]; exact b4 s hs
    · rw [jsA_c]
      by_cases c : x = i
      · rw [if_pos c]
      · rw [if_neg c]; exact b5 x (by omega)) S ⟨hK, jeqv.refl _ _, hE, hP, fun x hx => absurd hx (Nat.not_lt_zero x)⟩
  have hrf := jalike.refl tg P
  have hsy : ∀ a b, jalike tg P a b → jalike tg P b a := fun a b h => h.symm
  have htr : ∀ a b c, jalike tg P a b → jalike tg P b c → jalike tg P a c := fun a b c h h' => h.trans h'
  obtain ⟨n2, T2, e2, c1, c2, c3, c4, c5⟩ := jlpI (fun m i (T : jSt × (Nat → Nat) × (Nat → Nat) × Nat) => f_AutomatonMaker_refine_26 m (jad L (jo 7)) (nI T.2.2.2) (nI i) (jW L ω T.1)) (fun i T => jLK T.1 sw ps wy ∧ jeqv (fun c => ¬ jisK c) S T.1 ∧ jEX T.1 n st tg ∧ jPv T.1 (12 + ps) n P ∧ (∀ x, x < 2048 → jgA T.1 (jo 11) x = nI (T.2.1 x)) ∧ jHT i (jalike tg P) (jhs tg P) T.2.1 ∧ jPv T.1 (13 - ps) i T.2.2.1 ∧ jNum i T.2.2.2 (jalike tg P) T.2.2.1) (lo := 0) (hi := n) (Nat.zero_le _) (by omega) (by
    intro m i ⟨T, sl, F, q⟩ _ hi ⟨b1, b2, b3, b4, b5, b6, b7, b8⟩
    have hK : jLK T sw ps wy := b1
    have b2 : jeqv (fun c => ¬ jisK c) S T := b2
    have b3 : jEX T n st tg := b3
    have b4 : jPv T (12 + ps) n P := b4
    have b5 : ∀ x, x < 2048 → jgA T (jo 11) x = nI (sl x) := b5
    have b6 : jHT i (jalike tg P) (jhs tg P) sl := b6
    have b7 : jPv T (13 - ps) i F := b7
    have b8 : jNum i q (jalike tg P) F := b8
    have hq := b8.q
    have v := b3.c
    obtain ⟨d, hd⟩ := b6.stop (by omega) (jhs tg P i) i
    have es := jKM_slot hL (ω := ω) hK hps b3 b4 hPl b5 hi (fun x hx hz => b6.en x hx hz) hd
    have hpl : jpl (jhs tg P i) d < 2048 := Nat.mod_lt _ (by decide)
    have vs := b5 _ hpl
    by_cases c : sl (jpl (jhs tg P i) d) = 0
    · rw [c] at vs
      have st1 := jsi_o hL (ω := ω) (S := jsA T (jo 11) (jpl (jhs tg P i) d) (nI (i + 1))) hps3 (k := i) (v := nI q) (by omega)
      refine ⟨(jsA (jsA T (jo 11) (jpl (jhs tg P i) d) (nI (i + 1))) (jo (13 - ps)) i (nI q), fun x => if x = jpl (jhs tg P i) d then i + 1 else sl x, fun x => if x = i then q else F x, q + 1), ?_, hK, (b2.trans (jeqv.sA _ _ _ jK11)).trans (jeqv.sA _ _ _ hKp), ?_, ?_, ?_, ?_, ?_, ?_⟩
      · show f_AutomatonMaker_refine_26 (m + 1) _ _ _ _ = f_AutomatonMaker_refine_26 m _ _ _ _
        rw [f_AutomatonMaker_refine_26]
        simp (disch := first | omega | rfl | assumption | exact jokr (by decide) (by omega) | exact jokr4 (by omega) | exact jkt_r _ _ | exact jkt_l (by decide) | exact jfk_l (by decide) | exact jkt_t _ | exact jkt_r6 _ _ | exact jkt_t6 _ | (simp only [jok, jlen]; omega) | decide) only [jm_k hL, jm_gi hL, jm_gr hL, jm_gl hL, jm_pi hL, jm_pl hL, jn_ai hL, jn_ab hL, jn_az hL, jn_al hL, jn_ar hL, jn_an hL, jn_si hL, jn_sb hL, jn_sz hL, jn_sl hL, Option.bind_some, xc, xl, jsA_X, jsI_X, jsG_X, hK _ _, jlk, jmx, jlit, nI_leI, nI_add, if_neg, if_true, v, es, vs, st1]
      · exact (b3.same (T' := jsA T (jo 11) (jpl (jhs tg P i) d) (nI (i + 1))) rfl (jsA_fn (jone (by omega))) (jsA_fn (jone (by omega)))).same rfl (jsA_fn (jone (by omega))) (jsA_fn (jone (by omega)))
      · intro s hs
        show jgA (jsA (jsA T (jo 11) _ _) (jo (13 - ps)) i (nI q)) (jo (12 + ps)) s = _
        rw [jsA_ne (jone (by omega)), jsA_ne (jone (by omega))]
        exact b4 s hs
      · intro x hx
        show jgA (jsA (jsA T (jo 11) _ _) (jo (13 - ps)) i (nI q)) (jo 11) x = nI (if x = jpl (jhs tg P i) d then i + 1 else sl x)
        rw [jsA_ne (jone (by omega)), jsA_c]
        by_cases c2 : x = jpl (jhs tg P i) d
        · rw [if_pos c2, if_pos c2]
        · rw [if_neg c2, if_neg c2]; exact b5 x hx
      · exact b6.new hrf hsy htr (fun r hr h => jhs_eq h) hd c (fun x hx => rfl)
      · intro s hs
        show jgA (jsA (jsA T (jo 11) _ _) (jo (13 - ps)) i (nI q)) (jo (13 - ps)) s = nI (if s = i then q else F s)
        rw [jsA_c]
        by_cases c2 : s = i
        · rw [if_pos c2, if_pos c2]
        · rw [if_neg c2, if_neg c2, jsA_ne (jone (by omega))]; exact b7 s (by omega)
      · exact b8.new hrf hsy (b6.hit hsy htr (fun r hr h => jhs_eq h) hd c) (fun r hr => if_neg (by omega)) (if_pos rfl)
    · have hle := b6.en _ hpl c
      have hF := b8.lt (sl (jpl (jhs tg P i) d) - 1) (by omega)
      have hR : jalike tg P (sl (jpl (jhs tg P i) d) - 1) i := hd.ed.elim (fun z => absurd z c) (fun z => z)
      have ld1 := jai_o hL (ω := ω) (S := T) hps3 (k := sl (jpl (jhs tg P i) d) - 1) (by omega)
      rw [b7 _ (by omega)] at ld1
      have st1 := jsi_o hL (ω := ω) (S := T) hps3 (k := i) (v := nI (F (sl (jpl (jhs tg P i) d) - 1))) (by omega)
      refine ⟨(jsA T (jo (13 - ps)) i (nI (F (sl (jpl (jhs tg P i) d) - 1))), sl, fun x => if x = i then F (sl (jpl (jhs tg P i) d) - 1) else F x, q), ?_, hK, b2.trans (jeqv.sA _ _ _ hKp), ?_, ?_, ?_, b6.old hd c, ?_, ?_⟩
      · show f_AutomatonMaker_refine_26 (m + 1) _ _ _ _ = f_AutomatonMaker_refine_26 m _ _ _ _
        rw [f_AutomatonMaker_refine_26]
        simp (disch := first | omega | rfl | assumption | exact jokr (by decide) (by omega) | exact jokr4 (by omega) | exact jkt_r _ _ | exact jkt_l (by decide) | exact jfk_l (by decide) | exact jkt_t _ | exact jkt_r6 _ _ | exact jkt_t6 _ | (simp only [jok, jlen]; omega) | decide) only [jm_k hL, jm_gi hL, jm_gr hL, jm_gl hL, jm_pi hL, jm_pl hL, jn_ai hL, jn_ab hL, jn_az hL, jn_al hL, jn_ar hL, jn_an hL, jn_si hL, jn_sb hL, jn_sz hL, jn_sl hL, Option.bind_some, xc, xl, jsA_X, jsI_X, jsG_X, hK _ _, jlk, jmx, jlit, nI_leI, nI_eq, nI_add, if_neg, v, es, vs, jsub, ld1, st1]
      · exact b3.same rfl (jsA_fn (jone (by omega))) (jsA_fn (jone (by omega)))
      · intro s hs
        show jgA (jsA T (jo (13 - ps)) i _) (jo (12 + ps)) s = _
        rw [jsA_ne (jone (by omega))]
        exact b4 s hs
      · intro x hx
        show jgA (jsA T (jo (13 - ps)) i _) (jo 11) x = _
        rw [jsA_ne (jone (by omega))]
        exact b5 x hx
      · intro s hs
        show jgA (jsA T (jo (13 - ps)) i _) (jo (13 - ps)) s = nI (if s = i then F (sl (jpl (jhs tg P i) d) - 1) else F s)
        rw [jsA_c]
        by_cases c2 : s = i
        · rw [if_pos c2, if_pos c2]
        · rw [if_neg c2, if_neg c2]; exact b7 s (by omega)
      · exact b8.old hrf hsy htr (r := sl (jpl (jhs tg P i) d) - 1) (by omega) hR (fun r hr => if_neg (by omega)) (if_pos rfl)) (T1, (fun _ => 0), (fun _ => 0), 0) ⟨a1, a2, a3, a4, a5, ⟨fun x _ hz => absurd rfl hz, fun i j _ _ hz => absurd rfl hz, fun i j _ _ hz => absurd rfl hz, fun r hr => absurd hr (Nat.not_lt_zero r)⟩, fun s hs => absurd hs (Nat.not_lt_zero s), jNum.zero _ _⟩
  refine ⟨jsX (jsX T2.1 (jo 7) 4 (jo (13 - ps))) (jo 7) 5 (jo (12 + ps)), T2.2.2.2, T2.2.2.1, ?_, c1.swapP hps, ?_, ?_, ?_, c5.2.2.2⟩
  · unfold f_AutomatonMaker_refine
    refine e1.trans ?_
    show f_AutomatonMaker_refine_2 (n1 + 1) _ _ _ = _
    rw [f_AutomatonMaker_refine_2, if_pos (show (2048 : Int32) ≤ nI 2048 from (nI_leI (a := 2048) (b := 2048) (by omega) (by omega)).mpr (Nat.le_refl _))]
    refine e2.trans ?_
    show f_AutomatonMaker_refine_26 (n2 + 1) _ _ _ _ = _
    rw [f_AutomatonMaker_refine_26]
    have hK := c1
    have v := c3.c
    simp (disch := first | omega | rfl | assumption | exact jokr (by decide) (by omega) | exact jokr4 (by omega) | exact jkt_r _ _ | exact jkt_l (by decide) | exact jfk_l (by decide) | exact jkt_t _ | exact jkt_r6 _ _ | exact jkt_t6 _ | (simp only [jok, jlen]; omega) | decide) only [jm_k hL, jm_gi hL, jm_gr hL, jm_gl hL, jm_pi hL, jm_pl hL, jn_ai hL, jn_ab hL, jn_az hL, jn_al hL, jn_ar hL, jn_an hL, jn_si hL, jn_sb hL, jn_sz hL, jn_sl hL, Option.bind_some, xc, xl, jsA_X, jsI_X, jsG_X, hK _ _, jlk, jmx, jm_pr hL, nI_leI, if_pos, jsX_X, v]
  · exact c2
  · exact c3
  · intro s hs
    show jgA T2.1 (jo (12 + (1 - ps))) s = _
    rw [show 12 + (1 - ps) = 13 - ps by omega]
    exact c5.2.2.1 s hs
