/-! THE SHORTEST WORD: the reference's answer -/
theorem jWo_word {L : jL} (hL : jgood L) {ω : xS} {S : jSt} {sw ps wy : Nat} (hK : jLK S sw ps wy) {w : jLw} (hw : jLg L w) (hM : jLM S w) {k : Nat} (hk : k < jLw.n w) (hp : jLw.pt w k) {c mf : Nat → Nat} (hB : jBO (jLw.ns w k) (jLw.nx w k) c) (hm : jmf (jLw.ns w k) (jLw.nx w k) c mf) {e len : Nat} (he : e < jLw.ns w k) (hfin : jLw.fe w k e = 1) (hlow : ∀ q, q < e → jLw.fe w k q = 0) (hb : jbl2 (jLw.ns w k) mf e len) {y : Nat} (hy : y < 2 ^ 31) : ∃ S', f_Mo_word_35 xFU (jad L (jm 0)) (nI k) (nI y) (nI (jLw.ns w k)) (nI 0) (jW L ω S) = some (if y < len then nI (mf (jbk mf e (len - (y + 1))) % 9) else -2, jW L ω S') ∧ jfr jis42 S S' := by
  have h16 := hw.n16
  have hns := hw.ns k hk hp
  have hnx := fun m hm => hw.nx k m hk hp hm
  obtain ⟨n, S1, e1, a1, a2⟩ := jlpI (fun n i (T : jSt) => f_Mo_word_35 n (jad L (jm 0)) (nI k) (nI y) (nI (jLw.ns w k)) (nI i) (jW L ω T)) (fun i T => jfr jis42 S T ∧ jDv T i (fun s => if jLw.fe w k s = 1 then 0 else 100000)) (lo := 0) (hi := jLw.ns w k) (Nat.zero_le _) (by omega) (by
    intro n i T _ hi ⟨b1, b2⟩
    have hK := hK.of b1.2.2.1
    have hM := hM.fr b1 (fun q _ _ => jis42_m (by omega))
    have hfe := hw.fe k i hk hp
    refine ⟨jsA T (jm 42) i (nI (if jLw.fe w k i = 1 then 0 else 100000)), ?_, b1.trans (jfr.sA _ _ _ rfl), ?_⟩
    · show f_Mo_word_35 (n + 1) _ _ _ _ _ _ = f_Mo_word_35 n _ _ _ _ _ _
      rw [f_Mo_word_35]
      simp (disch := first | omega | rfl | assumption | exact jokr (by decide) (by omega) | exact jokr4 (by omega) | exact jkt_r _ _ | exact jkt_l (by decide) | exact jfk_l (by decide) | exact jkt_t _ | exact jkt_r6 _ _ | exact jkt_t6 _ | (simp only [jok, jlen]; omega) | decide) only [jm_k hL, jm_gi hL, jm_gr hL, jm_gl hL, jm_pi hL, jm_pl hL, jn_ai hL, jn_ab hL, jn_az hL, jn_al hL, jn_ar hL, jn_an hL, jn_si hL, jn_sb hL, jn_sz hL, jn_sl hL, Option.bind_some, xc, xl, jsA_X, jsI_X, jsG_X, hK _ _, jlk, jmx, jlit, jmul, nI_add, nI_leI, nI_eq, if_neg, hM.fe]
      by_cases c : jLw.fe w k i = 0
      · rw [if_pos c, if_neg (show ¬ jLw.fe w k i = 1 by omega)]
      · rw [if_neg c, if_pos (show jLw.fe w k i = 1 by omega)]
    · intro t ht
      rw [jsA_c]
      by_cases c : t = i
      · rw [if_pos c, c]
      · rw [if_neg c]; exact b2 t (by omega)) S ⟨jfr.refl _ S, fun t ht => absurd ht (Nat.not_lt_zero t)⟩
  have hK1 := hK.of a1.2.2.1
  have hM1 := hM.fr a1 (fun q _ _ => jis42_m (by omega))
  obtain ⟨S2, D, n2, g1, g2, g3, g4, g5⟩ := jWo_80 hL (ω := ω) hK hw hk hp (x2 := nI y) (jLw.ns w k) 0 xFU S1 _ (by omega) (by unfold xFU; omega) hM1 hK1 a2 (fun s hs => by show (if jLw.fe w k s = 1 then 0 else 100000) ≤ 100000; split <;> omega) (fun s hs h => by
      left
      by_cases c : jLw.fe w k s = 1
      · exact c
      · have h : (if jLw.fe w k s = 1 then 0 else 100000) < 100000 := h
        rw [if_neg c] at h
        omega) (fun u s hu hs h => by
      have : u = 0 := by omega
      subst this
      have h : jLw.fe w k s = 1 := h
      show (if jLw.fe w k s = 1 then 0 else 100000) ≤ 0
      rw [if_pos h]
      exact Nat.le_refl _)
  have hw2 := hb.way hm
  have hlen := hb.u
  have hpn := fun i => hw2.lts (i := i) hns.1
  have hpl : jbk mf e (len - len) = e := by
    rw [Nat.sub_self]; rfl
  have hjw := jword (c := c) (p := fun i => jbk mf e (len - i)) (a := fun i => mf (jbk mf e (len - (i + 1))) % 9) hns.1 hB g4 hw2 (by rw [hpl]; simpa using hfin) (fun q hq => by
    rw [hpl] at hq
    have := hlow q hq
    simp [this]) (by omega)
  have hK2 := hK1.of g2.2.2.1
  have hM2 := hM1.fr g2 (fun q _ _ => jis42_m (by omega))
  refine ⟨S2, ?_, a1.trans g2⟩
  refine e1.trans ?_
  show f_Mo_word_35 (n + 1) _ _ _ _ _ _ = _
  rw [f_Mo_word_35, if_pos ((nI_leI (by omega) (by omega)).mpr (Nat.le_refl _))]
  refine g1.trans ?_
  have v0 := g3 0 (by omega)
  rw [hjw.1] at v0
  have hK := hK2
  rw [f_Mo_word_80, if_pos (show nI 0 = (0 : Int32) from rfl)]
  simp (disch := first | omega | rfl | assumption | exact jokr (by decide) (by omega) | exact jokr4 (by omega) | exact jkt_r _ _ | exact jkt_l (by decide) | exact jfk_l (by decide) | exact jkt_t _ | exact jkt_r6 _ _ | exact jkt_t6 _ | (simp only [jok, jlen]; omega) | decide) only [jm_k hL, jm_gi hL, jm_gr hL, jm_gl hL, jm_pi hL, jm_pl hL, jn_ai hL, jn_ab hL, jn_az hL, jn_al hL, jn_ar hL, jn_an hL, jn_si hL, jn_sb hL, jn_sz hL, jn_sl hL, Option.bind_some, xc, xl, jsA_X, jsI_X, jsG_X, hK _ _, jlk, jmx, jlit, nI_ltI, v0]
  by_cases hl : y < len
  · rw [if_pos hl, if_pos hl]
    have z0 : jbk mf e (len - 0) = 0 := by rw [Nat.sub_zero, hb.z]
    have key : f_Mo_word_196 xFU (jad L (jm 0)) (nI k) (nI y) (nI (jbk mf e (len - 0))) (nI 0) (nI 0) (jW L ω S2) = some (nI (mf (jbk mf e (len - (y + 1))) % 9), jW L ω S2) := by
      refine jlpx (fun n i (x : Int32 × Int32) => f_Mo_word_196 n (jad L (jm 0)) (nI k) (nI y) x.1 x.2 (nI i) (jW L ω S2)) (fun i => (nI (jbk mf e (len - i)), nI (if i = 0 then 0 else mf (jbk mf e (len - i)) % 9))) (lo := 0) (hi := y + 1) (Nat.zero_le _) (by omega) ?_ ?_
      · intro n i _ hi
        have q1 := hjw.2 i (by omega)
        have hpi := hpn i (by omega)
        have hpi : jbk mf e (len - i) < jLw.ns w k := hpi
        have hai : mf (jbk mf e (len - (i + 1))) % 9 < 9 := Nat.mod_lt _ (by decide)
        have e5 := hw2.fp i (by omega)
        have q1 : D (jbk mf e (len - i)) = len - i ∧ D (jLw.nx w k (9 * jbk mf e (len - i) + mf (jbk mf e (len - (i + 1))) % 9)) + 1 = D (jbk mf e (len - i)) ∧ ∀ l, l < mf (jbk mf e (len - (i + 1))) % 9 → D (jLw.nx w k (9 * jbk mf e (len - i) + l)) + 1 ≠ D (jbk mf e (len - i)) := q1
        have e5 : jLw.nx w k (9 * jbk mf e (len - i) + mf (jbk mf e (len - (i + 1))) % 9) = jbk mf e (len - (i + 1)) := e5.2.1
        have vp := g3 _ hpi
        have up := g5 _ hpi
        show f_Mo_word_196 (n + 1) _ _ _ _ _ _ _ = f_Mo_word_196 n _ _ _ _ _ _ _
        rw [f_Mo_word_196, if_neg (fun q => by have := (nI_ltI (by omega) (by omega)).mp q; omega)]
        refine jlpx (fun n l (_ : Nat) => f_Mo_word_205 (f_Mo_word_196 _) n (jad L (jm 0)) (nI k) (nI y) (nI (jbk mf e (len - i))) (nI i) (nI l) (jW L ω S2)) (fun _ => 0) (lo := 0) (hi := mf (jbk mf e (len - (i + 1))) % 9) (Nat.zero_le _) (by omega) ?_ ?_
        · intro n l _ hl2
          have hx := hnx (9 * jbk mf e (len - i) + l) (by omega)
          have vx := g3 _ hx
          have ux := g5 _ hx
          have hne := q1.2.2 l hl2
          show f_Mo_word_205 _ (n + 1) _ _ _ _ _ _ _ = f_Mo_word_205 _ n _ _ _ _ _ _ _
          rw [f_Mo_word_205]
          simp (disch := first | omega | rfl | assumption | exact jokr (by decide) (by omega) | exact jokr4 (by omega) | exact jkt_r _ _ | exact jkt_l (by decide) | exact jfk_l (by decide) | exact jkt_t _ | exact jkt_r6 _ _ | exact jkt_t6 _ | (simp only [jok, jlen]; omega) | decide) only [jm_k hL, jm_gi hL, jm_gr hL, jm_gl hL, jm_pi hL, jm_pl hL, jn_ai hL, jn_ab hL, jn_az hL, jn_al hL, jn_ar hL, jn_an hL, jn_si hL, jn_sb hL, jn_sz hL, jn_sl hL, Option.bind_some, xc, xl, jsA_X, jsI_X, jsG_X, hK _ _, jlk, jmx, jlit, jmul, nI_add, nI_eq, jix9, hM2.nx, vx, vp]
          rw [if_neg hne]
        · intro n2
          have hx := hnx (9 * jbk mf e (len - i) + mf (jbk mf e (len - (i + 1))) % 9) (by omega)
          have vx := g3 _ hx
          have ux := g5 _ hx
          show f_Mo_word_205 _ (n2 + 1) _ _ _ _ _ _ _ = _
          rw [f_Mo_word_205]
          simp (disch := first | omega | rfl | assumption | exact jokr (by decide) (by omega) | exact jokr4 (by omega) | exact jkt_r _ _ | exact jkt_l (by decide) | exact jfk_l (by decide) | exact jkt_t _ | exact jkt_r6 _ _ | exact jkt_t6 _ | (simp only [jok, jlen]; omega) | decide) only [jm_k hL, jm_gi hL, jm_gr hL, jm_gl hL, jm_pi hL, jm_pl hL, jn_ai hL, jn_ab hL, jn_az hL, jn_al hL, jn_ar hL, jn_an hL, jn_si hL, jn_sb hL, jn_sz hL, jn_sl hL, Option.bind_some, xc, xl, jsA_X, jsI_X, jsG_X, hK _ _, jlk, jmx, jlit, jmul, nI_add, nI_eq, jix9, hM2.nx, vx, vp]
          rw [if_pos q1.2.1, e5, if_neg (show ¬ i + 1 = 0 by omega)]
      · intro n
        show f_Mo_word_196 (n + 1) _ _ _ _ _ _ _ = _
        rw [f_Mo_word_196, if_pos ((nI_ltI (by omega) (by omega)).mpr (by omega)), if_neg (show ¬ y + 1 = 0 by omega)]
    rw [z0] at key
    exact key
  · rw [if_neg hl, if_neg hl]
