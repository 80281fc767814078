/-! state, alike, words, word: both sides -/
theorem jTb.same {S T : jSt} {j ns : Nat} {nx fe : Nat → Nat} (h : jTb S j ns nx fe) (e1 : jgI T (jl j 6) = jgI S (jl j 6)) (e2 : jgA T (jt j) = jgA S (jt j)) (e3 : jgN T (jt j) = jgN S (jt j)) : jTb T j ns nx fe := ⟨by rw [e1]; exact h.s, by rw [e3]; exact h.l, by rw [e3]; exact h.u, fun s l hs hl => by rw [e2]; exact h.x s l hs hl, fun s hs => by rw [e2]; exact h.e s hs⟩
theorem jaut_s {L : jL} (hL : jgood L) {ω : xS} {S : jSt} {j ns : Nat} {nx fe : Nat → Nat} (hj : j < 32) (h : jTb S j ns nx fe) : xgi (jW L ω S) (jad L (jl j 6)) 0 1 = some (nI ns) := by
  have := jm_gi hL (ω := ω) (S := S) (c := jl j 6) (ci := 0) (k := 1) ⟨hj, by omega⟩ rfl rfl
  rw [h.s] at this
  exact this
theorem jaut_k {L : jL} (hL : jgood L) {ω : xS} {S : jSt} {j : Nat} (hj : j < 32) {α : Type} {q : Option α} : xk (jW L ω S) (jad L (jl j 6)) 0 q = q := jm_k hL ⟨hj, by omega⟩ rfl
theorem jIsL {L : jL} (hL : jgood L) {ω : xS} {S : jSt} {A : jR} {w : jLw} {H : jH} {tp : Nat → Nat} {ts sw ps wy : Nat} (h : jIv L S A w H tp ts sw ps wy) {k : Nat} (hk : k < jLw.n w) : f_RR_isLaw (jad L (jo 0)) (nI k) (jW L ω S) = some 1 ∧ f_Mo_isLaw (jad L (jm 0)) (nI k) (jW L ω S) = some 1 := by
  have h16 := h.W.n16
  have c1 : jbel (jLw.n w) (nI k) = true := (jbel_iff (by omega)).mpr ⟨k, hk, rfl⟩
  rw [jRR_isLaw hL h.D h.A h.K h.LC, jMo_isLaw hL h.LM, c1]
  exact ⟨rfl, rfl⟩
theorem jHasP {L : jL} (hL : jgood L) {ω : xS} {S : jSt} {A : jR} {w : jLw} {H : jH} {tp : Nat → Nat} {ts sw ps wy : Nat} (h : jIv L S A w H tp ts sw ps wy) {k : Nat} (hk : k < jLw.n w) {b : Bool} (hb : jpb w k = b) : f_Law_hasPattern (jad L (jl (2 * k + sw) 0)) (jW L ω S) = some (if b then 1 else 0) ∧ f_Mo_hasPattern (jad L (jm 0)) (nI k) (jW L ω S) = some (if b then 1 else 0) := by
  have h1 := jLa_hasP hL (ω := ω) h.K h.W h.LC hk
  have h2 := jMo_hasP hL (ω := ω) h.K h.W h.LM hk
  rw [hb] at h1 h2
  exact ⟨h1, h2⟩
theorem jlr {L : jL} (hL : jgood L) {ω : xS} {S : jSt} {A : jR} {w : jLw} {H : jH} {tp : Nat → Nat} {ts sw ps wy : Nat} (h : jIv L S A w H tp ts sw ps wy) {k : Nat} (hk : k < jLw.n w) : xgr (jW L ω S) (jad L (jo 0)) 11 6 = some (jad L (jo (16 + sw))) ∧ xar (jW L ω S) 3 (jad L (jo (16 + sw))) (nI k) = some (jad L (jl (2 * k + sw) 0)) ∧ ∀ {α : Type} {q : Option α}, xk (jW L ω S) (jad L (jl (2 * k + sw) 0)) 4 q = q := by
  have h16 := h.W.n16
  have hs1 := h.LC.s1
  have hK := h.K
  refine ⟨?_, jlawref hL h.K hs1 (by omega), fun {α} {q} => jm_k hL ⟨by omega, by omega⟩ rfl⟩
  simp (disch := first | omega | rfl | assumption | exact jokr (by decide) (by omega) | exact jokr4 (by omega) | exact jkt_r _ _ | exact jkt_l (by decide) | exact jfk_l (by decide) | exact jkt_t _ | exact jkt_r6 _ _ | exact jkt_t6 _ | (simp only [jok, jlen]; omega) | decide) only [jm_k hL, jm_gi hL, jm_gr hL, jm_gl hL, jm_pi hL, jm_pl hL, jn_ai hL, jn_ab hL, jn_az hL, jn_al hL, jn_ar hL, jn_an hL, jn_si hL, jn_sb hL, jn_sz hL, jn_sl hL, Option.bind_some, xc, xl, jsA_X, jsI_X, jsG_X, hK _ _, jlk, jmx]
theorem jz10 : ¬ (1 : Int32) = 0 := by decide
theorem jop_state {L : jL} (hL : jgood L) {ω : xS} {S : jSt} {A : jR} {w : jLw} {H : jH} {tp : Nat → Nat} {ts sw ps wy : Nat} (h : jIv L S A w H tp ts sw ps wy) {z : Nat} (hf : jfit L z) (x1 x2 x3 : Int32) : jOr L ω S A w H tp ts sw z (fun ω => f_RR_state (jad L (jo 0)) x1 x2 x3 z ω) (f_Mo_state (jad L (jm 0)) x1 x2 x3) := by
  have hK := h.K
  have hC := h.LC
  have hM := h.LM
  have hw := h.W
  have h16 := hw.n16
  have hs1 := hC.s1
  cases c1 : jbel (jLw.n w) x1
  · refine jOr_no hL h hf (-1) ?_ ?_
    · unfold f_RR_state; rw [jk0 hL, jRR_isLaw hL h.D h.A h.K hC, c1]; rfl
    · unfold f_Mo_state; rw [jkm hL, jMo_isLaw hL hM, c1]; rfl
  · obtain ⟨k, hk, rfl⟩ := (jbel_iff (by omega)).mp c1
    obtain ⟨i1, i2⟩ := jIsL hL (ω := ω) h hk
    obtain ⟨l1, l2, l3⟩ := jlr hL (ω := ω) h hk
    have t9 : (9 : Int32).toInt = 9 := by decide
    by_cases n2 : x2 < 0
    · refine jOr_no hL h hf (-1) ?_ ?_
      · unfold f_RR_state
        rw [jk0 hL, i1, Option.bind_some, if_neg jz10, if_pos n2]
      · unfold f_Mo_state
        rw [jkm hL, i2, Option.bind_some, if_neg jz10]
        by_cases n3 : x3 < 0
        · rw [if_pos n3]
        · rw [if_neg n3]
          by_cases m3 : 9 < x3
          · rw [if_pos m3]
          · rw [if_neg m3, if_neg (fun z => by rw [Int32.le_iff_toInt_le, jt0] at z; have := jlt0 n2; omega)]
    · by_cases n3 : x3 < 0
      · refine jOr_no hL h hf (-1) ?_ ?_
        · unfold f_RR_state
          rw [jk0 hL, i1, Option.bind_some, if_neg jz10, if_neg n2, if_pos n3]
        · unfold f_Mo_state
          rw [jkm hL, i2, Option.bind_some, if_neg jz10, if_pos n3]
      · by_cases m3 : x3 ≤ 9
        · obtain ⟨y2, hy2, rfl⟩ := jnat (jge0 n2)
          obtain ⟨y3, _, hy3, rfl⟩ := jrng (x := x3) (lo := 0) (hi := 9) (jge0 n3) (by rw [Int32.le_iff_toInt_le, t9] at m3; exact m3)
          have m3' : ¬ 9 < nI y3 := fun z => by rw [jlit, nI_ltI (by omega) (by omega)] at z; omega
          have p2 : 0 ≤ nI y2 := by rw [jlit, nI_leI (by omega) hy2]; omega
          cases cp : jpb w k
          · obtain ⟨p1, q1⟩ := jHasP hL (ω := ω) h hk cp
            refine jOr_no hL h hf (-2) ?_ ?_
            · unfold f_RR_state
              rw [jk0 hL, i1, Option.bind_some, if_neg jz10, if_neg n2, if_neg n3, if_pos m3, l1, Option.bind_some, l2, Option.bind_some, l3, p1]
              rfl
            · unfold f_Mo_state
              rw [jkm hL, i2, Option.bind_some, if_neg jz10, if_neg n3, if_neg m3', if_pos p2, jkm hL, q1]
              rfl
          · obtain ⟨p1, q1⟩ := jHasP hL (ω := ω) h hk cp
            have p1 : f_Law_hasPattern (jad L (jl (2 * k + sw) 0)) (jW L ω S) = some 1 := p1
            have hp := jpb_pt cp
            have hns := hw.ns k hk hp
            obtain ⟨c, u, tl', ps', tb', ω', T, a1, a2, a3, a4, a5, a6, _⟩ := jRR_autoOf hL (ω := ω) h hk hp hf
            have htl := a6.LC.tl (2 * k + sw) (by omega)
            rw [jLw.stl_tl, if_pos rfl] at htl
            have hfe := hw.fe k y2 hk hp
            have g1 : xgi (jW (L.1, L.2.1, L.2.2.1, tb') ω' T) (jad L (jl (2 * k + sw) 6)) 0 1 = some (nI (jLw.ns w k)) := jaut_s a2 (by omega) a5
            have g2 : xk (jW (L.1, L.2.1, L.2.2.1, tb') ω' T) (jad L (jl (2 * k + sw) 6)) 0 (f_Automaton_entry (jad L (jl (2 * k + sw) 6)) (nI y2) (nI y3) (jW (L.1, L.2.1, L.2.2.1, tb') ω' T)) = f_Automaton_entry (jad L (jl (2 * k + sw) 6)) (nI y2) (nI y3) (jW (L.1, L.2.1, L.2.2.1, tb') ω' T) := jaut_k a2 (L := (L.1, L.2.1, L.2.2.1, tb')) (by omega)
            have i2' : f_Mo_isLaw (jad L (jm 0)) (nI k) (jW (L.1, L.2.1, L.2.2.1, tb') ω' T) = some 1 := (jIsL a2 (ω := ω') a6 (k := k) hk).2
            have q1' : f_Mo_hasPattern (jad L (jm 0)) (nI k) (jW (L.1, L.2.1, L.2.2.1, tb') ω' T) = some 1 := (jHasP a2 (ω := ω') a6 (k := k) hk (b := true) cp).2
            have km : ∀ {α : Type} {q : Option α}, xk (jW (L.1, L.2.1, L.2.2.1, tb') ω' T) (jad L (jm 0)) 12 q = q := fun {α} {q} => jkm a2
            have hK' := a6.K
            have hM' : jLM T w := a6.LM
            have g3 : ((xgr (jW (L.1, L.2.1, L.2.2.1, tb') ω' T) (jad (L.1, L.2.1, L.2.2.1, tb') (jm 0)) 12 26).bind fun t10 => xai (jW (L.1, L.2.1, L.2.2.1, tb') ω' T) t10 (nI k)) = some (nI (jLw.ns w k)) := by
              have hL := a2
              have hK := hK'
              simp (disch := first | omega | rfl | assumption | exact jokr (by decide) (by omega) | exact jokr4 (by omega) | exact jkt_r _ _ | exact jkt_l (by decide) | exact jfk_l (by decide) | exact jkt_t _ | exact jkt_r6 _ _ | exact jkt_t6 _ | (simp only [jok, jlen]; omega) | decide) only [jm_k hL, jm_gi hL, jm_gr hL, jm_gl hL, jm_pi hL, jm_pl hL, jn_ai hL, jn_ab hL, jn_az hL, jn_al hL, jn_ar hL, jn_an hL, jn_si hL, jn_sb hL, jn_sz hL, jn_sl hL, Option.bind_some, xc, xl, jsA_X, jsI_X, jsG_X, hK _ _, jlk, jmx, hM'.ns]
            have e1 : ∀ r, f_RR_state_49 (nI y2) (nI y3) (jad L (jl (2 * k + sw) 6)) (jW (L.1, L.2.1, L.2.2.1, tb') ω' T) = some (r, jW (L.1, L.2.1, L.2.2.1, tb') ω' T) → f_RR_state (jad L (jo 0)) (nI k) (nI y2) (nI y3) z (jW L ω S) = some (r, c, u, jW (L.1, L.2.1, L.2.2.1, tb') ω' T) := by
              intro r hr
              unfold f_RR_state
              rw [jk0 hL, i1, Option.bind_some, if_neg jz10, if_neg n2, if_neg n3, if_pos m3, l1, Option.bind_some, l2, Option.bind_some, l3, p1, Option.bind_some, if_neg jz10, Option.bind_some, l2, Option.bind_some, jk0 hL, a1]
              simp only [xc4, xc, hr]
            by_cases hs : y2 < jLw.ns w k
            · refine ⟨if y3 < 9 then nI (jLw.nx w k (9 * y2 + y3)) else nI (jLw.fe w k y2), c, u, tb', ω', T, _, ps', wy, e1 _ ?_, ?_, a2, a3, a6, fun cc uu hr => hr.grow (by omega) a4 htl.2⟩
              · unfold f_RR_state_49
                have ee := jAu_entry a2 (ω := ω') a6.K (by omega) a5 hs hy3
                have ee : f_Automaton_entry (jad L (jl (2 * k + sw) 6)) (nI y2) (nI y3) (jW (L.1, L.2.1, L.2.2.1, tb') ω' T) = some (if y3 < 9 then nI (jLw.nx w k (9 * y2 + y3)) else nI (jLw.fe w k y2)) := ee
                rw [g1, Option.bind_some, if_neg (fun z => by rw [nI_leI (by omega) hy2] at z; omega), g2, ee, Option.bind_some]
              · unfold f_Mo_state
                rw [km, i2', Option.bind_some, if_neg jz10, if_neg n3, if_neg m3', if_pos p2, km, q1', Option.bind_some, if_neg jz10]
                have hL := a2
                have hK := hK'
                have q : (((xgr (jW (L.1, L.2.1, L.2.2.1, tb') ω' T) (jad (L.1, L.2.1, L.2.2.1, tb') (jm 0)) 12 26).bind fun t10 => (xai (jW (L.1, L.2.1, L.2.2.1, tb') ω' T) t10 (nI k)).bind fun t11 => if nI y2 < t11 then (if nI y3 = 9 then ((xgr (jW (L.1, L.2.1, L.2.2.1, tb') ω' T) (jad (L.1, L.2.1, L.2.2.1, tb') (jm 0)) 12 28).bind fun t16 => (xaz (jW (L.1, L.2.1, L.2.2.1, tb') ω' T) t16 ((1025 * nI k) + nI y2)).bind fun t17 => if t17 = 0 then some 0 else some 1) else ((xgr (jW (L.1, L.2.1, L.2.2.1, tb') ω' T) (jad (L.1, L.2.1, L.2.2.1, tb') (jm 0)) 12 27).bind fun t14 => (xai (jW (L.1, L.2.1, L.2.2.1, tb') ω' T) t14 ((9 * ((1025 * nI k) + nI y2)) + nI y3)).bind fun t15 => some t15)) else some (-1)) : Option Int32) = some (if y3 < 9 then nI (jLw.nx w k (9 * y2 + y3)) else nI (jLw.fe w k y2)) := by
                  by_cases c9 : y3 < 9
                  · simp (disch := first | omega | rfl | assumption | exact jokr (by decide) (by omega) | exact jokr4 (by omega) | exact jkt_r _ _ | exact jkt_l (by decide) | exact jfk_l (by decide) | exact jkt_t _ | exact jkt_r6 _ _ | exact jkt_t6 _ | (simp only [jok, jlen]; omega) | decide) only [jm_k hL, jm_gi hL, jm_gr hL, jm_gl hL, jm_pi hL, jm_pl hL, jn_ai hL, jn_ab hL, jn_az hL, jn_al hL, jn_ar hL, jn_an hL, jn_si hL, jn_sb hL, jn_sz hL, jn_sl hL, Option.bind_some, xc, xl, jsA_X, jsI_X, jsG_X, hK _ _, jlk, jmx, jlit, jmul, nI_add, nI_ltI, nI_eq, if_pos, if_neg, hM'.ns, jix9, hM'.nx]
                  · obtain rfl : y3 = 9 := by omega
                    simp (disch := first | omega | rfl | assumption | exact jokr (by decide) (by omega) | exact jokr4 (by omega) | exact jkt_r _ _ | exact jkt_l (by decide) | exact jfk_l (by decide) | exact jkt_t _ | exact jkt_r6 _ _ | exact jkt_t6 _ | (simp only [jok, jlen]; omega) | decide) only [jm_k hL, jm_gi hL, jm_gr hL, jm_gl hL, jm_pi hL, jm_pl hL, jn_ai hL, jn_ab hL, jn_az hL, jn_al hL, jn_ar hL, jn_an hL, jn_si hL, jn_sb hL, jn_sz hL, jn_sl hL, Option.bind_some, xc, xl, jsA_X, jsI_X, jsG_X, hK _ _, jlk, jmx, jlit, jmul, nI_add, nI_ltI, nI_eq, if_pos, if_neg, hM'.ns, hM'.fe]
                    by_cases c0 : jLw.fe w k y2 = 0
                    · rw [if_pos c0, c0]
                    · rw [if_neg c0, show jLw.fe w k y2 = 1 by omega]
                exact q
            · refine ⟨-1, c, u, tb', ω', T, _, ps', wy, e1 _ ?_, ?_, a2, a3, a6, fun cc uu hr => hr.grow (by omega) a4 htl.2⟩
              · unfold f_RR_state_49
                rw [g1, Option.bind_some, if_pos ((nI_leI (by omega) hy2).mpr (by omega))]
              · unfold f_Mo_state
                rw [km, i2', Option.bind_some, if_neg jz10, if_neg n3, if_neg m3', if_pos p2, km, q1', Option.bind_some, if_neg jz10]
                have hL := a2
                have hK := hK'
                have f1 : xgr (jW (L.1, L.2.1, L.2.2.1, tb') ω' T) (jad L (jm 0)) 12 26 = some (jad L (jm 22)) := by
                  have q : xgr (jW (L.1, L.2.1, L.2.2.1, tb') ω' T) (jad (L.1, L.2.1, L.2.2.1, tb') (jm 0)) 12 26 = some (jad (L.1, L.2.1, L.2.2.1, tb') (jm 22)) := by simp (disch := first | omega | rfl | assumption | exact jokr (by decide) (by omega) | exact jokr4 (by omega) | exact jkt_r _ _ | exact jkt_l (by decide) | exact jfk_l (by decide) | exact jkt_t _ | exact jkt_r6 _ _ | exact jkt_t6 _ | (simp only [jok, jlen]; omega) | decide) only [jm_k hL, jm_gi hL, jm_gr hL, jm_gl hL, jm_pi hL, jm_pl hL, jn_ai hL, jn_ab hL, jn_az hL, jn_al hL, jn_ar hL, jn_an hL, jn_si hL, jn_sb hL, jn_sz hL, jn_sl hL, Option.bind_some, xc, xl, jsA_X, jsI_X, jsG_X, hK _ _, jlk, jmx]
                  exact q
                have f2 : xai (jW (L.1, L.2.1, L.2.2.1, tb') ω' T) (jad L (jm 22)) (nI k) = some (nI (jLw.ns w k)) := by
                  have q : xai (jW (L.1, L.2.1, L.2.2.1, tb') ω' T) (jad (L.1, L.2.1, L.2.2.1, tb') (jm 22)) (nI k) = some (nI (jLw.ns w k)) := by simp (disch := first | omega | rfl | assumption | exact jokr (by decide) (by omega) | exact jokr4 (by omega) | exact jkt_r _ _ | exact jkt_l (by decide) | exact jfk_l (by decide) | exact jkt_t _ | exact jkt_r6 _ _ | exact jkt_t6 _ | (simp only [jok, jlen]; omega) | decide) only [jm_k hL, jm_gi hL, jm_gr hL, jm_gl hL, jm_pi hL, jm_pl hL, jn_ai hL, jn_ab hL, jn_az hL, jn_al hL, jn_ar hL, jn_an hL, jn_si hL, jn_sb hL, jn_sz hL, jn_sl hL, Option.bind_some, xc, xl, jsA_X, jsI_X, jsG_X, hK _ _, jlk, jmx, hM'.ns]
                  exact q
                rw [f1, Option.bind_some, f2, Option.bind_some, if_neg (fun z => by rw [nI_ltI hy2 (by omega)] at z; exact hs z)]
        · have m3' : 9 < x3 := by rw [Int32.lt_iff_toInt_lt, t9]; rw [Int32.le_iff_toInt_le, t9] at m3; omega
          refine jOr_no hL h hf (-1) ?_ ?_
          · unfold f_RR_state
            rw [jk0 hL, i1, Option.bind_some, if_neg jz10, if_neg n2, if_neg n3, if_neg m3]
          · unfold f_Mo_state
            rw [jkm hL, i2, Option.bind_some, if_neg jz10, if_neg n3, if_pos m3']
/-! alike -/
def jce (nx fe : Nat → Nat) (i : Nat) : Nat := if i % 10 < 9 then nx (9 * (i / 10) + i % 10) else fe (i / 10)
theorem jTb.c {S : jSt} {j ns : Nat} {nx fe : Nat → Nat} (h : jTb S j ns nx fe) {i : Nat} (hi : i < 10 * ns) : jgA S (jt j) i = nI (jce nx fe i) := by
  have ei : i = 10 * (i / 10) + i % 10 := by omega
  unfold jce
  by_cases c : i % 10 < 9
  · have := h.x (i / 10) (i % 10) (by omega) c
    rw [← ei] at this
    rw [if_pos c]
    exact this
  · have := h.e (i / 10) (by omega)
    rw [show 10 * (i / 10) + 9 = i by omega] at this
    rw [if_neg c]
    exact this
theorem jEq_15 {L : jL} (hL : jgood L) {ω : xS} {S : jSt} {sw ps wy : Nat} (hK : jLK S sw ps wy) {j j' ns : Nat} {nx fe nx' fe' : Nat → Nat} (hj : j < 32) (hj' : j' < 32) (h : jTb S j ns nx fe) (h' : jTb S j' ns nx' fe') (hv : ∀ i, i < 10 * ns → jce nx fe i < 2000) (hv' : ∀ i, i < 10 * ns → jce nx' fe' i < 2000) : ∀ d i n, 10 * ns ≤ i + d → i ≤ 10 * ns → d + 1 ≤ n → ∃ r, f_Automaton_equalTo_15 n (jad L (jl j 6)) (jad L (jl j' 6)) (nI i) (jW L ω S) = some (nI r) ∧ r ≤ 1 ∧ (r = 1 ↔ ∀ i', i ≤ i' → i' < 10 * ns → jce nx fe i' = jce nx' fe' i')
  | d, i, 0, _, _, hn => by omega
  | d, i, n + 1, hd, hi, hn => by
    have e1 := h.s
    have e2 := h.l
    have e3 := h.u
    have e4 := h'.l
    have e5 := h'.u
    rw [f_Automaton_equalTo_15]
    by_cases c : 10 * ns ≤ i
    · refine ⟨1, ?_, Nat.le_refl _, fun _ i' h1 h2 => by omega, fun _ => rfl⟩
      simp (disch := first | omega | rfl | assumption | exact jokr (by decide) (by omega) | exact jokr4 (by omega) | exact jkt_r _ _ | exact jkt_l (by decide) | exact jfk_l (by decide) | exact jkt_t _ | exact jkt_r6 _ _ | exact jkt_t6 _ | (simp only [jok, jlen]; omega) | decide) only [jm_k hL, jm_gi hL, jm_gr hL, jm_gl hL, jm_pi hL, jm_pl hL, jn_ai hL, jn_ab hL, jn_az hL, jn_al hL, jn_ar hL, jn_an hL, jn_si hL, jn_sb hL, jn_sz hL, jn_sl hL, Option.bind_some, xc, xl, jsA_X, jsI_X, jsG_X, hK _ _, jlk, jmx, jlit, jmul, nI_leI, if_pos, e1]
    · match d, hd, hn with
      | 0, hd, hn => omega
      | d + 1, hd, hn =>
        have v1 := hv i (by omega)
        have v2 := hv' i (by omega)
        have q1 := h.c (i := i) (by omega)
        have q2 := h'.c (i := i) (by omega)
        obtain ⟨r, f1, f2, f3⟩ := jEq_15 hL (ω := ω) hK hj hj' h h' hv hv' d (i + 1) n (by omega) (by omega) (by omega)
        by_cases ce : jce nx fe i = jce nx' fe' i
        · refine ⟨r, ?_, f2, f3.trans ⟨fun a i' h1 h2 => ?_, fun a i' h1 h2 => a i' (by omega) h2⟩⟩
          · simp (disch := first | omega | rfl | assumption | exact jokr (by decide) (by omega) | exact jokr4 (by omega) | exact jkt_r _ _ | exact jkt_l (by decide) | exact jfk_l (by decide) | exact jkt_t _ | exact jkt_r6 _ _ | exact jkt_t6 _ | (simp only [jok, jlen]; omega) | decide) only [jm_k hL, jm_gi hL, jm_gr hL, jm_gl hL, jm_pi hL, jm_pl hL, jn_ai hL, jn_ab hL, jn_az hL, jn_al hL, jn_ar hL, jn_an hL, jn_si hL, jn_sb hL, jn_sz hL, jn_sl hL, Option.bind_some, xc, xl, jsA_X, jsI_X, jsG_X, hK _ _, jlk, jmx, jlit, jmul, nI_add, nI_leI, nI_eq, if_neg, if_pos, jlen, e1, q1, q2]
            (try rw [if_pos ce])
            exact f1
          · by_cases ei : i' = i
            · rw [ei]; exact ce
            · exact a i' (by omega) h2
        · refine ⟨0, ?_, Nat.zero_le _, fun a => absurd a (by omega), fun a => absurd (a i (Nat.le_refl _) (by omega)) ce⟩
          simp (disch := first | omega | rfl | assumption | exact jokr (by decide) (by omega) | exact jokr4 (by omega) | exact jkt_r _ _ | exact jkt_l (by decide) | exact jfk_l (by decide) | exact jkt_t _ | exact jkt_r6 _ _ | exact jkt_t6 _ | (simp only [jok, jlen]; omega) | decide) only [jm_k hL, jm_gi hL, jm_gr hL, jm_gl hL, jm_pi hL, jm_pl hL, jn_ai hL, jn_ab hL, jn_az hL, jn_al hL, jn_ar hL, jn_an hL, jn_si hL, jn_sb hL, jn_sz hL, jn_sl hL, Option.bind_some, xc, xl, jsA_X, jsI_X, jsG_X, hK _ _, jlk, jmx, jlit, jmul, nI_add, nI_leI, nI_eq, if_neg, if_pos, jlen, e1, q1, q2]
          (try rw [if_neg ce])
/-- the same automaton -/
def jsmA (w : jLw) (a b : Nat) : Prop := jLw.ns w a = jLw.ns w b ∧ ∀ s, s < jLw.ns w a → jLw.fe w a s = jLw.fe w b s ∧ ∀ l, l < 9 → jLw.nx w a (9 * s + l) = jLw.nx w b (9 * s + l)
theorem jce_lt {L : jL} {w : jLw} (hw : jLg L w) {k i : Nat} (hk : k < jLw.n w) (hp : jLw.pt w k) (hi : i < 10 * jLw.ns w k) : jce (jLw.nx w k) (jLw.fe w k) i < 2000 := by
  have h1 := hw.ns k hk hp
  unfold jce
  split
  · have := hw.nx k (9 * (i / 10) + i % 10) hk hp (by omega)
    omega
  · have := hw.fe k (i / 10) hk hp
    omega
theorem jEqual {L : jL} (hL : jgood L) {ω : xS} {S : jSt} {sw ps wy : Nat} (hK : jLK S sw ps wy) {w : jLw} (hw : jLg L w) (hs1 : sw ≤ 1) {a b : Nat} (ha : a < jLw.n w) (hb : b < jLw.n w) (pa : jLw.pt w a) (pb : jLw.pt w b) (h : jTb S (2 * a + sw) (jLw.ns w a) (jLw.nx w a) (jLw.fe w a)) (h' : jTb S (2 * b + sw) (jLw.ns w b) (jLw.nx w b) (jLw.fe w b)) : ∃ r, f_Automaton_equalTo (jad L (jl (2 * a + sw) 6)) (jad L (jl (2 * b + sw) 6)) (jW L ω S) = some (nI r) ∧ r ≤ 1 ∧ (r = 1 ↔ jsmA w a b) := by
  have h16 := hw.n16
  have n1 := hw.ns a ha pa
  have n2 := hw.ns b hb pb
  unfold f_Automaton_equalTo
  rw [jaut_s hL (by omega) h, jaut_s hL (by omega) h', Option.bind_some, Option.bind_some]
  by_cases c : jLw.ns w a = jLw.ns w b
  · rw [if_pos (by rw [c])]
    have h2 : jTb S (2 * b + sw) (jLw.ns w a) (jLw.nx w b) (jLw.fe w b) := by rw [c]; exact h'
    obtain ⟨r, f1, f2, f3⟩ := jEq_15 hL (ω := ω) hK (by omega) (by omega) h h2 (fun i hi => jce_lt hw ha pa hi) (fun i hi => jce_lt hw hb pb (c ▸ hi)) (10 * jLw.ns w a) 0 xFU (by omega) (by omega) (by unfold xFU; omega)
    refine ⟨r, f1, f2, f3.trans ⟨fun q => ⟨c, fun s hs => ⟨?_, fun l hl => ?_⟩⟩, fun q i _ hi => ?_⟩⟩
    · have := q (10 * s + 9) (Nat.zero_le _) (by omega)
      unfold jce at this
      rw [if_neg (by omega), if_neg (by omega), show (10 * s + 9) / 10 = s by omega] at this
      exact this
    · have := q (10 * s + l) (Nat.zero_le _) (by omega)
      unfold jce at this
      rw [if_pos (by omega), if_pos (by omega), show (10 * s + l) / 10 = s by omega, show (10 * s + l) % 10 = l by omega] at this
      exact this
    · unfold jce
      have q2 := q.2 (i / 10) (by omega)
      by_cases c9 : i % 10 < 9
      · rw [if_pos c9, if_pos c9]; exact q2.2 _ c9
      · rw [if_neg c9, if_neg c9]; exact q2.1
  · rw [if_neg (fun z => by rw [nI_eq (by omega) (by omega)] at z; exact c z)]
    exact ⟨0, rfl, Nat.zero_le _, fun z => absurd z (by omega), fun z => absurd z.1 c⟩
theorem jMA_114 {L : jL} (hL : jgood L) {ω : xS} {S : jSt} {sw ps wy : Nat} (hK : jLK S sw ps wy) {w : jLw} (hw : jLg L w) (hM : jLM S w) {a b s : Nat} (ha : a < jLw.n w) (hb : b < jLw.n w) (pa : jLw.pt w a) (pb : jLw.pt w b) (hsa : s < jLw.ns w a) {k61 : Nat → Int32 → Int32 → Int32 → Int32 → xS → Option Int32} : ∀ d l n x, 9 ≤ l + d → l ≤ 9 → d + 1 ≤ n → x ≤ 1 → (x = 1 → s < jLw.ns w b) → ∃ x', f_Mo_alike_114 k61 n (jad L (jm 0)) (nI a) (nI b) (nI x) (nI s) (nI l) (jW L ω S) = k61 (jad L (jm 0)) (nI a) (nI b) (nI x') (nI (s + 1)) (jW L ω S) ∧ x' ≤ 1 ∧ (x' = 1 ↔ x = 1 ∧ ∀ l', l ≤ l' → l' < 9 → jLw.nx w a (9 * s + l') = jLw.nx w b (9 * s + l'))
  | d, l, 0, x, _, _, hn, _, _ => by omega
  | d, l, n + 1, x, hd, hl, hn, hx, hxb => by
    have h16 := hw.n16
    have n1 := hw.ns a ha pa
    have n2 := hw.ns b hb pb
    rw [f_Mo_alike_114]
    by_cases c : 9 ≤ l
    · refine ⟨x, ?_, hx, fun z => ⟨z, fun l' h1 h2 => by omega⟩, fun z => z.1⟩
      simp (disch := first | omega | rfl | assumption | exact jokr (by decide) (by omega) | exact jokr4 (by omega) | exact jkt_r _ _ | exact jkt_l (by decide) | exact jfk_l (by decide) | exact jkt_t _ | exact jkt_r6 _ _ | exact jkt_t6 _ | (simp only [jok, jlen]; omega) | decide) only [jlit, nI_add, nI_leI, if_pos]
    · match d, hd, hn with
      | 0, hd, hn => omega
      | d + 1, hd, hn =>
        by_cases c0 : x = 0
        · subst c0
          obtain ⟨x', f1, f2, f3⟩ := jMA_114 hL (ω := ω) hK hw hM ha hb pa pb hsa (k61 := k61) d (l + 1) n 0 (by omega) (by omega) (by omega) (Nat.zero_le _) (fun z => absurd z (by omega))
          refine ⟨x', ?_, f2, f3.trans ⟨fun z => absurd z.1 (by omega), fun z => absurd z.1 (by omega)⟩⟩
          simp (disch := first | omega | rfl | assumption | exact jokr (by decide) (by omega) | exact jokr4 (by omega) | exact jkt_r _ _ | exact jkt_l (by decide) | exact jfk_l (by decide) | exact jkt_t _ | exact jkt_r6 _ _ | exact jkt_t6 _ | (simp only [jok, jlen]; omega) | decide) only [jlit, nI_add, nI_leI, if_neg, if_true]
          exact f1
        · obtain rfl : x = 1 := by omega
          have hsb := hxb rfl
          have v1 := hw.nx a (9 * s + l) ha pa (by omega)
          have v2 := hw.nx b (9 * s + l) hb pb (by omega)
          by_cases ce : jLw.nx w a (9 * s + l) = jLw.nx w b (9 * s + l)
          · obtain ⟨x', f1, f2, f3⟩ := jMA_114 hL (ω := ω) hK hw hM ha hb pa pb hsa (k61 := k61) d (l + 1) n 1 (by omega) (by omega) (by omega) (Nat.le_refl _) (fun _ => hsb)
            refine ⟨x', ?_, f2, f3.trans ⟨fun z => ⟨rfl, fun l' h1 h2 => ?_⟩, fun z => ⟨rfl, fun l' h1 h2 => z.2 l' (by omega) h2⟩⟩⟩
            · simp (disch := first | omega | rfl | assumption | exact jokr (by decide) (by omega) | exact jokr4 (by omega) | exact jkt_r _ _ | exact jkt_l (by decide) | exact jfk_l (by decide) | exact jkt_t _ | exact jkt_r6 _ _ | exact jkt_t6 _ | (simp only [jok, jlen]; omega) | decide) only [jm_k hL, jm_gi hL, jm_gr hL, jm_gl hL, jm_pi hL, jm_pl hL, jn_ai hL, jn_ab hL, jn_az hL, jn_al hL, jn_ar hL, jn_an hL, jn_si hL, jn_sb hL, jn_sz hL, jn_sl hL, Option.bind_some, xc, xl, jsA_X, jsI_X, jsG_X, hK _ _, jlk, jmx, jlit, jmul, nI_add, nI_leI, nI_eq, if_neg, jix9, hM.nx]
              (try rw [if_pos ce])
              exact f1
            · by_cases el : l' = l
              · rw [el]; exact ce
              · exact z.2 l' (by omega) h2
          · obtain ⟨x', f1, f2, f3⟩ := jMA_114 hL (ω := ω) hK hw hM ha hb pa pb hsa (k61 := k61) d (l + 1) n 0 (by omega) (by omega) (by omega) (Nat.zero_le _) (fun z => absurd z (by omega))
            refine ⟨x', ?_, f2, f3.trans ⟨fun z => absurd z.1 (by omega), fun z => absurd (z.2 l (Nat.le_refl _) (by omega)) ce⟩⟩
            simp (disch := first | omega | rfl | assumption | exact jokr (by decide) (by omega) | exact jokr4 (by omega) | exact jkt_r _ _ | exact jkt_l (by decide) | exact jfk_l (by decide) | exact jkt_t _ | exact jkt_r6 _ _ | exact jkt_t6 _ | (simp only [jok, jlen]; omega) | decide) only [jm_k hL, jm_gi hL, jm_gr hL, jm_gl hL, jm_pi hL, jm_pl hL, jn_ai hL, jn_ab hL, jn_az hL, jn_al hL, jn_ar hL, jn_an hL, jn_si hL, jn_sb hL, jn_sz hL, jn_sl hL, Option.bind_some, xc, xl, jsA_X, jsI_X, jsG_X, hK _ _, jlk, jmx, jlit, jmul, nI_add, nI_leI, nI_eq, if_neg, jix9, hM.nx]
            (try rw [if_neg ce])
            exact f1
theorem jMA_61 {L : jL} (hL : jgood L) {ω : xS} {S : jSt} {sw ps wy : Nat} (hK : jLK S sw ps wy) {w : jLw} (hw : jLg L w) (hM : jLM S w) {a b : Nat} (ha : a < jLw.n w) (hb : b < jLw.n w) (pa : jLw.pt w a) (pb : jLw.pt w b) : ∀ d s n x, jLw.ns w a ≤ s + d → s ≤ jLw.ns w a → d + 1 ≤ n → x ≤ 1 → (x = 1 → jLw.ns w a = jLw.ns w b) → ∃ r, f_Mo_alike_61 n (jad L (jm 0)) (nI a) (nI b) (nI x) (nI s) (jW L ω S) = some (nI r) ∧ r ≤ 1 ∧ (r = 1 ↔ x = 1 ∧ ∀ s', s ≤ s' → s' < jLw.ns w a → jLw.fe w a s' = jLw.fe w b s' ∧ ∀ l, l < 9 → jLw.nx w a (9 * s' + l) = jLw.nx w b (9 * s' + l))
  | d, s, 0, x, _, _, hn, _, _ => by omega
  | d, s, n + 1, x, hd, hs, hn, hx, hxb => by
    have h16 := hw.n16
    have n1 := hw.ns a ha pa
    have n2 := hw.ns b hb pb
    have e1 := hM.ns a ha pa
    rw [f_Mo_alike_61]
    by_cases c : jLw.ns w a ≤ s
    · refine ⟨x, ?_, hx, fun z => ⟨z, fun s' h1 h2 => by omega⟩, fun z => z.1⟩
      simp (disch := first | omega | rfl | assumption | exact jokr (by decide) (by omega) | exact jokr4 (by omega) | exact jkt_r _ _ | exact jkt_l (by decide) | exact jfk_l (by decide) | exact jkt_t _ | exact jkt_r6 _ _ | exact jkt_t6 _ | (simp only [jok, jlen]; omega) | decide) only [jm_k hL, jm_gi hL, jm_gr hL, jm_gl hL, jm_pi hL, jm_pl hL, jn_ai hL, jn_ab hL, jn_az hL, jn_al hL, jn_ar hL, jn_an hL, jn_si hL, jn_sb hL, jn_sz hL, jn_sl hL, Option.bind_some, xc, xl, jsA_X, jsI_X, jsG_X, hK _ _, jlk, jmx, jlit, nI_leI, nI_eq, if_pos, e1]
      by_cases c0 : x = 0
      · rw [if_pos c0, c0]
      · rw [if_neg c0, show x = 1 by omega]
    · match d, hd, hn with
      | 0, hd, hn => omega
      | d + 1, hd, hn =>
        by_cases c0 : x = 0
        · subst c0
          refine ⟨0, ?_, Nat.zero_le _, fun z => absurd z (by omega), fun z => absurd z.1 (by omega)⟩
          simp (disch := first | omega | rfl | assumption | exact jokr (by decide) (by omega) | exact jokr4 (by omega) | exact jkt_r _ _ | exact jkt_l (by decide) | exact jfk_l (by decide) | exact jkt_t _ | exact jkt_r6 _ _ | exact jkt_t6 _ | (simp only [jok, jlen]; omega) | decide) only [jm_k hL, jm_gi hL, jm_gr hL, jm_gl hL, jm_pi hL, jm_pl hL, jn_ai hL, jn_ab hL, jn_az hL, jn_al hL, jn_ar hL, jn_an hL, jn_si hL, jn_sb hL, jn_sz hL, jn_sl hL, Option.bind_some, xc, xl, jsA_X, jsI_X, jsG_X, hK _ _, jlk, jmx, jlit, nI_leI, nI_eq, if_neg, if_true, e1]
        · obtain rfl : x = 1 := by omega
          have hab := hxb rfl
          have v1 := hw.fe a s ha pa
          have v2 := hw.fe b s hb pb
          have r1 := hM.fe a s ha pa (by omega)
          have r2 := hM.fe b s hb pb (by omega)
          by_cases ce : jLw.fe w a s = jLw.fe w b s
          · obtain ⟨x', f1, f2, f3⟩ := jMA_114 hL (ω := ω) hK hw hM ha hb pa pb (s := s) (by omega) (k61 := f_Mo_alike_61 n) 9 0 xFU 1 (by omega) (by omega) (by unfold xFU; omega) (Nat.le_refl _) (fun _ => by omega)
            obtain ⟨r, g1, g2, g3⟩ := jMA_61 hL (ω := ω) hK hw hM ha hb pa pb d (s + 1) n x' (by omega) (by omega) (by omega) f2 (fun _ => hab)
            refine ⟨r, ?_, g2, g3.trans ⟨fun z => ⟨rfl, fun s' h1 h2 => ?_⟩, fun z => ⟨f3.mpr ⟨rfl, fun l' _ h2 => (z.2 s (Nat.le_refl _) (by omega)).2 l' h2⟩, fun s' h1 h2 => z.2 s' (by omega) h2⟩⟩⟩
            · simp (disch := first | omega | rfl | assumption | exact jokr (by decide) (by omega) | exact jokr4 (by omega) | exact jkt_r _ _ | exact jkt_l (by decide) | exact jfk_l (by decide) | exact jkt_t _ | exact jkt_r6 _ _ | exact jkt_t6 _ | (simp only [jok, jlen]; omega) | decide) only [jm_k hL, jm_gi hL, jm_gr hL, jm_gl hL, jm_pi hL, jm_pl hL, jn_ai hL, jn_ab hL, jn_az hL, jn_al hL, jn_ar hL, jn_an hL, jn_si hL, jn_sb hL, jn_sz hL, jn_sl hL, Option.bind_some, xc, xl, jsA_X, jsI_X, jsG_X, hK _ _, jlk, jmx, jlit, jmul, nI_add, nI_leI, nI_eq, if_neg, e1, r1, r2]
              (try rw [if_pos ce])
              exact f1.trans g1
            · by_cases es : s' = s
              · rw [es]; exact ⟨ce, fun l hl => (f3.mp z.1).2 l (Nat.zero_le _) hl⟩
              · exact z.2 s' (by omega) h2
          · obtain ⟨x', f1, f2, f3⟩ := jMA_114 hL (ω := ω) hK hw hM ha hb pa pb (s := s) (by omega) (k61 := f_Mo_alike_61 n) 9 0 xFU 0 (by omega) (by omega) (by unfold xFU; omega) (Nat.zero_le _) (fun z => absurd z (by omega))
            obtain ⟨r, g1, g2, g3⟩ := jMA_61 hL (ω := ω) hK hw hM ha hb pa pb d (s + 1) n x' (by omega) (by omega) (by omega) f2 (fun z => absurd (f3.mp z).1 (by omega))
            refine ⟨r, ?_, g2, fun z => absurd (f3.mp (g3.mp z).1).1 (by omega), fun z => absurd (z.2 s (Nat.le_refl _) (by omega)).1 ce⟩
            simp (disch := first | omega | rfl | assumption | exact jokr (by decide) (by omega) | exact jokr4 (by omega) | exact jkt_r _ _ | exact jkt_l (by decide) | exact jfk_l (by decide) | exact jkt_t _ | exact jkt_r6 _ _ | exact jkt_t6 _ | (simp only [jok, jlen]; omega) | decide) only [jm_k hL, jm_gi hL, jm_gr hL, jm_gl hL, jm_pi hL, jm_pl hL, jn_ai hL, jn_ab hL, jn_az hL, jn_al hL, jn_ar hL, jn_an hL, jn_si hL, jn_sb hL, jn_sz hL, jn_sl hL, Option.bind_some, xc, xl, jsA_X, jsI_X, jsG_X, hK _ _, jlk, jmx, jlit, jmul, nI_add, nI_leI, nI_eq, if_neg, e1, r1, r2]
            (try rw [if_neg ce])
            exact f1.trans g1
theorem jRR_two {L : jL} (hL : jgood L) {ω : xS} {S : jSt} {A : jR} {w : jLw} {H : jH} {tp : Nat → Nat} {ts sw ps wy : Nat} (h : jIv L S A w H tp ts sw ps wy) {a b z : Nat} (ha : a < jLw.n w) (hb : b < jLw.n w) (pa : jLw.pt w a) (pb : jLw.pt w b) (hf : jfit L z) : ∃ (c u c' u' : Nat) (tb1 tb2 : Nat → Nat) (ω1 ω2 : xS) (T1 T2 : jSt) (t2 : Nat → Nat) (ps2 : Nat), f_RR_automatonOf (jad L (jo 0)) (jad L (jl (2 * a + sw) 0)) z (jW L ω S) = some (jad L (jl (2 * a + sw) 6), c, u, jW (L.1, L.2.1, L.2.2.1, tb1) ω1 T1) ∧ jgood (L.1, L.2.1, L.2.2.1, tb1) ∧ (∃ t1 ps1, jIv (L.1, L.2.1, L.2.2.1, tb1) T1 A (jLw.stl w t1) H tp ts sw ps1 wy) ∧ f_RR_automatonOf (jad L (jo 0)) (jad L (jl (2 * b + sw) 0)) (z + c) (jW (L.1, L.2.1, L.2.2.1, tb1) ω1 T1) = some (jad L (jl (2 * b + sw) 6), c', u', jW (L.1, L.2.1, L.2.2.1, tb2) ω2 T2) ∧ jRes L A w H tp ts sw z (c + c') (u + u') tb2 t2 T2 ps2 wy ∧ jTb T2 (2 * a + sw) (jLw.ns w a) (jLw.nx w a) (jLw.fe w a) ∧ jTb T2 (2 * b + sw) (jLw.ns w b) (jLw.nx w b) (jLw.fe w b) := by
  have hs1 := h.LC.s1
  have h16 := h.W.n16
  obtain ⟨c, u, tl1, ps1, tb1, ω1, T1, a1, a2, a3, a4, a5, a6, _⟩ := jRR_autoOf hL (ω := ω) h ha pa hf
  have htl := a6.LC.tl (2 * a + sw) (by omega)
  rw [jLw.stl_tl, if_pos rfl] at htl
  obtain ⟨c', u', tl2, ps2, tb2, ω2, T2, b1, b2, b3, b4, b5, b6, b7⟩ := jRR_autoOf a2 (ω := ω1) a6 (k := b) hb pb a3
  have htl2 := b6.LC.tl (2 * b + sw) (by omega)
  rw [jLw.stl_tl, if_pos rfl] at htl2
  refine ⟨c, u, c', u', tb1, tb2, ω1, ω2, T1, T2, _, ps2, a1, a2, ⟨_, ps1, a6⟩, b1, ⟨b2, (Nat.add_assoc z c c' ▸ b3 :), b6, fun cc uu hr => ?_⟩, ?_, b5⟩
  · have r1 := hr.grow (j := 2 * a + sw) (by omega) a4 htl.2
    have r2 := r1.grow (j := 2 * b + sw) (by omega) b4 htl2.2
    rw [Nat.add_assoc, Nat.add_assoc] at r2
    exact r2
  · by_cases e : a = b
    · subst e; exact b5
    · have n1 : jisE (2 * b + sw) (jl (2 * a + sw) 6) := ⟨fun ⟨_, _, _, z⟩ => (by cases z), fun z => (by cases z), fun z => by
        have : 2 * a + sw = 2 * b + sw := by simpa using z
        omega⟩
      have n2 : jisE (2 * b + sw) (jt (2 * a + sw)) := ⟨fun ⟨_, _, _, z⟩ => (by cases z), fun z => by
        have : 2 * a + sw = 2 * b + sw := by simpa using z
        omega, fun z => (by cases z)⟩
      exact a5.same (b7 _ n1).1 (b7 _ n2).2.1 (b7 _ n2).2.2
theorem jop_alike {L : jL} (hL : jgood L) {ω : xS} {S : jSt} {A : jR} {w : jLw} {H : jH} {tp : Nat → Nat} {ts sw ps wy : Nat} (h : jIv L S A w H tp ts sw ps wy) {z : Nat} (hf : jfit L z) (x1 x2 : Int32) : jOr L ω S A w H tp ts sw z (fun ω => f_RR_alike (jad L (jo 0)) x1 x2 z ω) (f_Mo_alike (jad L (jm 0)) x1 x2) := by
  have hK := h.K
  have hC := h.LC
  have hM := h.LM
  have hw := h.W
  have h16 := hw.n16
  have hs1 := hC.s1
  cases c1 : jbel (jLw.n w) x1
  · refine jOr_no hL h hf (-1) ?_ ?_
    · unfold f_RR_alike; rw [jk0 hL, jRR_isLaw hL h.D h.A h.K hC, c1]; rfl
    · unfold f_Mo_alike; rw [jkm hL, jMo_isLaw hL hM, c1]; rfl
  · obtain ⟨a, ha, rfl⟩ := (jbel_iff (by omega)).mp c1
    obtain ⟨i1, i2⟩ := jIsL hL (ω := ω) h ha
    obtain ⟨l1, l2, l3⟩ := jlr hL (ω := ω) h ha
    cases c2 : jbel (jLw.n w) x2
    · refine jOr_no hL h hf (-1) ?_ ?_
      · unfold f_RR_alike; rw [jk0 hL, i1, Option.bind_some, if_neg jz10, jk0 hL, jRR_isLaw hL h.D h.A h.K hC, c2]; rfl
      · unfold f_Mo_alike; rw [jkm hL, i2, Option.bind_some, if_neg jz10, jkm hL, jMo_isLaw hL hM, c2]; rfl
    · obtain ⟨b, hb, rfl⟩ := (jbel_iff (by omega)).mp c2
      obtain ⟨i1', i2'⟩ := jIsL hL (ω := ω) h hb
      obtain ⟨_, m2, m3⟩ := jlr hL (ω := ω) h hb
      cases cp : jpb w a
      · obtain ⟨p1, q1⟩ := jHasP hL (ω := ω) h ha cp
        refine jOr_no hL h hf (-2) ?_ ?_
        · unfold f_RR_alike; rw [jk0 hL, i1, Option.bind_some, if_neg jz10, jk0 hL, i1', Option.bind_some, if_neg jz10, l1, Option.bind_some, l2, Option.bind_some, l3, p1]; rfl
        · unfold f_Mo_alike; rw [jkm hL, i2, Option.bind_some, if_neg jz10, jkm hL, i2', Option.bind_some, if_neg jz10, jkm hL, q1]; rfl
      · obtain ⟨p1, q1⟩ := jHasP hL (ω := ω) h ha cp
        have p1 : f_Law_hasPattern (jad L (jl (2 * a + sw) 0)) (jW L ω S) = some 1 := p1
        have q1 : f_Mo_hasPattern (jad L (jm 0)) (nI a) (jW L ω S) = some 1 := q1
        cases cq : jpb w b
        · obtain ⟨p2, q2⟩ := jHasP hL (ω := ω) h hb cq
          refine jOr_no hL h hf (-2) ?_ ?_
          · unfold f_RR_alike
            rw [jk0 hL, i1, Option.bind_some, if_neg jz10, jk0 hL, i1', Option.bind_some, if_neg jz10, l1, Option.bind_some, l2, Option.bind_some, l3, p1, Option.bind_some, if_neg jz10, Option.bind_some, m2, Option.bind_some, m3, p2]; rfl
          · unfold f_Mo_alike
            rw [jkm hL, i2, Option.bind_some, if_neg jz10, jkm hL, i2', Option.bind_some, if_neg jz10, jkm hL, q1, Option.bind_some, if_neg jz10, jkm hL, q2]; rfl
        · obtain ⟨p2, q2⟩ := jHasP hL (ω := ω) h hb cq
          have p2 : f_Law_hasPattern (jad L (jl (2 * b + sw) 0)) (jW L ω S) = some 1 := p2
          have pa := jpb_pt cp
          have pb := jpb_pt cq
          obtain ⟨c, u, c', u', tb1, tb2, ω1, ω2, T1, T2, t2, ps2, a1, g1, ⟨t1, ps1, h1⟩, b1, R, b5, b6⟩ := jRR_two hL (ω := ω) h ha hb pa pb hf
          have h2 := R.i
          have g2 := R.g
          have hM2 : jLM T2 w := h2.LM
          have n1 := hw.ns a ha pa
          have n2 := hw.ns b hb pb
          obtain ⟨r, f1, f2, f3⟩ := jEqual g2 (ω := ω2) h2.K (hw.lay tb2) hs1 ha hb pa pb b5 b6
          have x0 : ∃ x, x ≤ 1 ∧ (if nI (jLw.ns w a) = nI (jLw.ns w b) then f_Mo_alike_61 xFU (jad (L.1, L.2.1, L.2.2.1, tb2) (jm 0)) (nI a) (nI b) 1 0 (jW (L.1, L.2.1, L.2.2.1, tb2) ω2 T2) else f_Mo_alike_61 xFU (jad (L.1, L.2.1, L.2.2.1, tb2) (jm 0)) (nI a) (nI b) 0 0 (jW (L.1, L.2.1, L.2.2.1, tb2) ω2 T2)) = f_Mo_alike_61 xFU (jad (L.1, L.2.1, L.2.2.1, tb2) (jm 0)) (nI a) (nI b) (nI x) (nI 0) (jW (L.1, L.2.1, L.2.2.1, tb2) ω2 T2) ∧ (x = 1 ↔ jLw.ns w a = jLw.ns w b) := by
            by_cases e : jLw.ns w a = jLw.ns w b
            · exact ⟨1, Nat.le_refl _, by rw [if_pos (by rw [e])]; rfl, fun _ => e, fun _ => rfl⟩
            · exact ⟨0, Nat.zero_le _, by rw [if_neg (fun z => by rw [nI_eq (by omega) (by omega)] at z; exact e z)]; rfl, fun z => absurd z (by omega), fun z => absurd z e⟩
          obtain ⟨x, hx, ex, hxi⟩ := x0
          obtain ⟨r', k1, k2, k3⟩ := jMA_61 g2 (ω := ω2) h2.K (hw.lay tb2) hM2 ha hb pa pb (jLw.ns w a) 0 xFU x (by omega) (by omega) (by unfold xFU; omega) hx hxi.mp
          have err : r' = r := by
            have i3 : r' = 1 ↔ r = 1 := k3.trans (Iff.trans ⟨fun z => ⟨hxi.mp z.1, fun s hs => z.2 s (Nat.zero_le _) hs⟩, fun z => ⟨hxi.mpr z.1, fun s _ hs => z.2 s hs⟩⟩ f3.symm)
            omega
          subst err
          refine ⟨nI r', c + c', u + u', tb2, ω2, T2, t2, ps2, wy, ?_, ?_, R⟩
          · have j1 : xgr (jW (L.1, L.2.1, L.2.2.1, tb1) ω1 T1) (jad L (jo 0)) 11 6 = some (jad L (jo (16 + sw))) := (jlr g1 (ω := ω1) h1 (k := b) hb).1
            have j2 : xar (jW (L.1, L.2.1, L.2.2.1, tb1) ω1 T1) 3 (jad L (jo (16 + sw))) (nI b) = some (jad L (jl (2 * b + sw) 0)) := (jlr g1 (ω := ω1) h1 (k := b) hb).2.1
            have j3 : ∀ {α : Type} {q : Option α}, xk (jW (L.1, L.2.1, L.2.2.1, tb1) ω1 T1) (jad L (jo 0)) 11 q = q := fun {α} {q} => jk0 g1
            have j4 : ∀ {α : Type} {q : Option α}, xk (jW (L.1, L.2.1, L.2.2.1, tb2) ω2 T2) (jad L (jl (2 * a + sw) 6)) 0 q = q := fun {α} {q} => jaut_k g2 (by omega)
            have j5 : f_RR_alike_65 (jad L (jl (2 * b + sw) 6)) (jad L (jl (2 * a + sw) 6)) (jW (L.1, L.2.1, L.2.2.1, tb2) ω2 T2) = some (nI r', jW (L.1, L.2.1, L.2.2.1, tb2) ω2 T2) := by
              unfold f_RR_alike_65
              have f1 : f_Automaton_equalTo (jad L (jl (2 * a + sw) 6)) (jad L (jl (2 * b + sw) 6)) (jW (L.1, L.2.1, L.2.2.1, tb2) ω2 T2) = some (nI r') := f1
              rw [j4, f1, Option.bind_some]
              have : r' = 0 ∨ r' = 1 := by omega
              rcases this with e | e
              · rw [e]; rfl
              · rw [e]; rfl
            show f_RR_alike (jad L (jo 0)) (nI a) (nI b) z (jW L ω S) = _
            unfold f_RR_alike
            rw [jk0 hL, i1, Option.bind_some, if_neg jz10, jk0 hL, i1', Option.bind_some, if_neg jz10, l1, Option.bind_some, l2, Option.bind_some, l3, p1, Option.bind_some, if_neg jz10, Option.bind_some, m2, Option.bind_some, m3, p2, Option.bind_some, if_neg jz10, Option.bind_some, l2, Option.bind_some, jk0 hL, a1]
            simp only [xc4, xc, j1, j2, j3, Option.bind_some, b1, j5]
          · have km : ∀ {α : Type} {q : Option α}, xk (jW (L.1, L.2.1, L.2.2.1, tb2) ω2 T2) (jad L (jm 0)) 12 q = q := fun {α} {q} => jkm g2
            have s1 : f_Mo_isLaw (jad L (jm 0)) (nI a) (jW (L.1, L.2.1, L.2.2.1, tb2) ω2 T2) = some 1 := (jIsL g2 (ω := ω2) h2 (k := a) ha).2
            have s2 : f_Mo_isLaw (jad L (jm 0)) (nI b) (jW (L.1, L.2.1, L.2.2.1, tb2) ω2 T2) = some 1 := (jIsL g2 (ω := ω2) h2 (k := b) hb).2
            have s3 : f_Mo_hasPattern (jad L (jm 0)) (nI a) (jW (L.1, L.2.1, L.2.2.1, tb2) ω2 T2) = some 1 := (jHasP g2 (ω := ω2) h2 (k := a) ha (b := true) cp).2
            have s4 : f_Mo_hasPattern (jad L (jm 0)) (nI b) (jW (L.1, L.2.1, L.2.2.1, tb2) ω2 T2) = some 1 := (jHasP g2 (ω := ω2) h2 (k := b) hb (b := true) cq).2
            have v1 : xgr (jW (L.1, L.2.1, L.2.2.1, tb2) ω2 T2) (jad L (jm 0)) 12 26 = some (jad L (jm 22)) := by
              have hL := g2
              have hK := h2.K
              have q : xgr (jW (L.1, L.2.1, L.2.2.1, tb2) ω2 T2) (jad (L.1, L.2.1, L.2.2.1, tb2) (jm 0)) 12 26 = some (jad (L.1, L.2.1, L.2.2.1, tb2) (jm 22)) := by simp (disch := first | omega | rfl | assumption | exact jokr (by decide) (by omega) | exact jokr4 (by omega) | exact jkt_r _ _ | exact jkt_l (by decide) | exact jfk_l (by decide) | exact jkt_t _ | exact jkt_r6 _ _ | exact jkt_t6 _ | (simp only [jok, jlen]; omega) | decide) only [jm_k hL, jm_gi hL, jm_gr hL, jm_gl hL, jm_pi hL, jm_pl hL, jn_ai hL, jn_ab hL, jn_az hL, jn_al hL, jn_ar hL, jn_an hL, jn_si hL, jn_sb hL, jn_sz hL, jn_sl hL, Option.bind_some, xc, xl, jsA_X, jsI_X, jsG_X, hK _ _, jlk, jmx]
              exact q
            have v2 : ∀ k, k < jLw.n w → jLw.pt w k → xai (jW (L.1, L.2.1, L.2.2.1, tb2) ω2 T2) (jad L (jm 22)) (nI k) = some (nI (jLw.ns w k)) := by
              intro k hk pk
              have hL := g2
              have q : xai (jW (L.1, L.2.1, L.2.2.1, tb2) ω2 T2) (jad (L.1, L.2.1, L.2.2.1, tb2) (jm 22)) (nI k) = some (nI (jLw.ns w k)) := by simp (disch := first | omega | rfl | assumption | exact jokr (by decide) (by omega) | exact jokr4 (by omega) | exact jkt_r _ _ | exact jkt_l (by decide) | exact jfk_l (by decide) | exact jkt_t _ | exact jkt_r6 _ _ | exact jkt_t6 _ | (simp only [jok, jlen]; omega) | decide) only [jm_k hL, jm_gi hL, jm_gr hL, jm_gl hL, jm_pi hL, jm_pl hL, jn_ai hL, jn_ab hL, jn_az hL, jn_al hL, jn_ar hL, jn_an hL, jn_si hL, jn_sb hL, jn_sz hL, jn_sl hL, Option.bind_some, xc, xl, hM2.ns]
              exact q
            unfold f_Mo_alike
            rw [km, s1, Option.bind_some, if_neg jz10, km, s2, Option.bind_some, if_neg jz10, km, s3, Option.bind_some, if_neg jz10, km, s4, Option.bind_some, if_neg jz10, v1, Option.bind_some, v2 a ha pa, Option.bind_some, Option.bind_some, v2 b hb pb, Option.bind_some]
            exact ex.trans k1
