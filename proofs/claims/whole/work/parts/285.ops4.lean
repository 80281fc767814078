/-! words and word: both sides -/
def jOw (α : Type) (L : jL) (ω : xS) (S : jSt) (A : jR) (w : jLw) (H : jH) (tp : Nat → Nat) (ts sw z : Nat) (f : xS → Option (α × Nat × Nat × xS)) (g : xS → Option (α × xS)) : Prop := ∃ (r : α) (c u : Nat) (tb' : Nat → Nat) (ω' : xS) (S1 S2 : jSt) (t' : Nat → Nat) (ps' wy' : Nat), f (jW L ω S) = some (r, c, u, jW (L.1, L.2.1, L.2.2.1, tb') ω' S1) ∧ g (jW (L.1, L.2.1, L.2.2.1, tb') ω' S1) = some (r, jW (L.1, L.2.1, L.2.2.1, tb') ω' S2) ∧ jRes L A w H tp ts sw z c u tb' t' S2 ps' wy'
theorem jOw_no {α : Type} {L : jL} (hL : jgood L) {ω : xS} {S : jSt} {A : jR} {w : jLw} {H : jH} {tp : Nat → Nat} {ts sw ps wy : Nat} (h : jIv L S A w H tp ts sw ps wy) {z : Nat} (hf : jfit L z) {f : xS → Option (α × Nat × Nat × xS)} {g : xS → Option (α × xS)} (r : α) (h1 : f (jW L ω S) = some (r, 0, 0, jW L ω S)) (h2 : g (jW L ω S) = some (r, jW L ω S)) : jOw α L ω S A w H tp ts sw z f g := ⟨r, 0, 0, L.2.2.2, ω, S, S, jLw.tl w, ps, wy, h1, h2, jRes_no (ω := ω) hL h hf⟩
/-- nothing has changed but longs and references -/
theorem jIv.sim {L : jL} {S T : jSt} {A : jR} {w : jLw} {H : jH} {tp : Nat → Nat} {ts sw ps wy ps' wy' : Nat} (h : jIv L S A w H tp ts sw ps wy) (e : jsim S T) (hK : jLK T sw ps' wy') (p1 : ps' ≤ 1) (w1 : wy' ≤ 1) : jIv L T A w H tp ts sw ps' wy' := by
  obtain ⟨a, b, g, x, n⟩ := S
  obtain ⟨a', b', g', x', n'⟩ := T
  obtain ⟨e1, e2, e3⟩ := e
  have e1 : a' = a := e1
  have e2 : b' = b := e2
  have e3 : n' = n := e3
  subst e1 e2 e3
  exact ⟨h.D, h.A, hK, h.RC, h.RM, h.W, h.LC, h.LM, h.H, h.HC, h.HM, p1, w1, h.T, h.P, h.Dy, h.tn⟩
theorem jRM.fr {Q : jC → Prop} {L : jL} {S T : jSt} {A : jR} (h : jRM L S A) (e : jfr Q S T) (hq : ∀ q, q ≤ 8 → ¬ Q (jm q)) : jRM L T A := by
  have e1 : ∀ q, q ≤ 8 → jgA T (jm q) = jgA S (jm q) := fun q h => e.2.2.2 _ (hq q h)
  refine ⟨?_, ?_, fun p t hp ht => ?_, fun p j hp hj => ?_, fun l hl => ?_, fun l hl => ?_, fun l hl => ?_, fun p hp => ?_, fun p t hp ht hw => ?_, fun p t hp ht => ?_⟩
  · rw [e.1]; exact h.n
  · rw [e.1]; exact h.d
  · rw [e1 _ (by omega)]; exact h.cell p t hp ht
  · rw [e1 _ (by omega)]; exact h.past p j hp hj
  · rw [e1 _ (by omega)]; exact h.bg l hl
  · rw [e1 _ (by omega)]; exact h.ln l hl
  · rw [e1 _ (by omega)]; exact h.nd l hl
  · rw [e1 _ (by omega)]; exact h.sk p hp
  · rw [e1 _ (by omega)]; exact h.wl p t hp ht hw
  · rw [e1 _ (by omega)]; exact h.ww p t hp ht
/-- nothing has changed but what the reference works on -/
theorem jIv.frM {Q : jC → Prop} {L : jL} {S T : jSt} {A : jR} {w : jLw} {H : jH} {tp : Nat → Nat} {ts sw ps wy : Nat} (h : jIv L S A w H tp ts sw ps wy) (e : jfr Q S T) (hQ : ∀ c, Q c → ∃ q, 27 ≤ q ∧ c = jm q) : jIv L T A w H tp ts sw ps wy := by
  have en : jeqn (fun c => ¬ Q c) S T := fun c hc => ⟨by rw [e.1], e.2.2.2 c hc, by rw [e.2.1]⟩
  have ev := en.v
  have nm : ∀ q, q ≤ 26 → ¬ Q (jm q) := fun q hq z => by
    obtain ⟨q', h1, h2⟩ := hQ _ z
    have : q = q' := by simpa using h2
    omega
  have nM : ∀ c, ¬ jisM c → ¬ Q c := fun c hc z => by
    obtain ⟨q', h1, h2⟩ := hQ _ z
    exact hc ⟨q', h2⟩
  obtain ⟨nw, hHC⟩ := h.HC
  obtain ⟨fr, hHM⟩ := h.HM
  have hRC : jRC L (jGs S T) A := h.RC
  have hLC : jLC L (jGs S T) w sw := h.LC
  have hHC : jHC (jGs S T) H.1 nw H.2 := hHC
  refine ⟨h.D, h.A, h.K.of e.2.2.1, hRC.same (ev.weak (fun c hc => nM c (jisR_M hc))), h.RM.fr e (fun q hq => nm q (by omega)), h.W, hLC.eqv (ev.weak (fun c hc => nM c (jisO_M (Or.inr (Or.inr (Or.inr hc)))))), h.LM.fr e (fun q _ hq => nm q (by omega)), h.H, ⟨nw, hHC.same (ev.weak (fun c hc => nM c (jisH_M hc)))⟩, ⟨fr, ?_⟩, h.p1, h.w1, ⟨h.T.s, h.T.b, ?_, fun i hi => ?_, ?_, fun i hi => ?_⟩, ?_, ?_, fun j hj => ?_⟩
  · unfold jHM at hHM ⊢
    rw [e.1, e.2.2.2 (jm 25) (nm 25 (by omega)), e.2.2.2 (jm 26) (nm 26 (by omega))]
    exact hHM
  · rw [e.1]; exact h.T.c
  · rw [e.2.2.2 (jo 2) (nM _ (fun ⟨_, z⟩ => by cases z))]; exact h.T.cb i hi
  · rw [e.1]; exact h.T.m
  · rw [e.2.2.2 (jm 9) (nm 9 (by omega))]; exact h.T.mb i hi
  · rw [e.1]; exact h.P
  · rw [e.1]; exact h.Dy
  · rw [e.2.1]; exact h.tn j hj
theorem jRes.to {L : jL} {A : jR} {w : jLw} {H : jH} {tp : Nat → Nat} {ts sw z c u : Nat} {tb' t' : Nat → Nat} {S T : jSt} {ps wy ps' wy' : Nat} (h : jRes L A w H tp ts sw z c u tb' t' S ps wy) (i : jIv (L.1, L.2.1, L.2.2.1, tb') T A (jLw.stl w t') H tp ts sw ps' wy') : jRes L A w H tp ts sw z c u tb' t' T ps' wy' := ⟨h.g, h.f, i, h.r⟩
theorem jRR_one {L : jL} (hL : jgood L) {ω : xS} {S : jSt} {A : jR} {w : jLw} {H : jH} {tp : Nat → Nat} {ts sw ps wy : Nat} (h : jIv L S A w H tp ts sw ps wy) {k z : Nat} (hk : k < jLw.n w) (hp : jLw.pt w k) (hf : jfit L z) : ∃ (c u : Nat) (tb' : Nat → Nat) (ω' : xS) (T : jSt) (t' : Nat → Nat) (ps' : Nat), f_RR_automatonOf (jad L (jo 0)) (jad L (jl (2 * k + sw) 0)) z (jW L ω S) = some (jad L (jl (2 * k + sw) 6), c, u, jW (L.1, L.2.1, L.2.2.1, tb') ω' T) ∧ jTb T (2 * k + sw) (jLw.ns w k) (jLw.nx w k) (jLw.fe w k) ∧ jRes L A w H tp ts sw z c u tb' t' T ps' wy := by
  have hs1 := h.LC.s1
  have h16 := h.W.n16
  obtain ⟨c, u, tl', ps', tb', ω', T, a1, a2, a3, a4, a5, a6, _⟩ := jRR_autoOf hL (ω := ω) h hk hp hf
  have htl := a6.LC.tl (2 * k + sw) (by omega)
  rw [jLw.stl_tl, if_pos rfl] at htl
  exact ⟨c, u, tb', ω', T, _, ps', a1, a5, a2, a3, a6, fun cc uu hr => hr.grow (by omega) a4 htl.2⟩
theorem jop_words {L : jL} (hL : jgood L) {ω : xS} {S : jSt} {A : jR} {w : jLw} {H : jH} {tp : Nat → Nat} {ts sw ps wy : Nat} (h : jIv L S A w H tp ts sw ps wy) {z : Nat} (hf : jfit L z) (x1 x2 : Int32) : jOw Int64 L ω S A w H tp ts sw z (fun ω => f_RR_words (jad L (jo 0)) x1 x2 z ω) (f_Mo_words (jad L (jm 0)) x1 x2) := by
  have hK := h.K
  have hC := h.LC
  have hM := h.LM
  have hw := h.W
  have h16 := hw.n16
  have hs1 := hC.s1
  cases c1 : jbel (jLw.n w) x1
  · refine jOw_no hL h hf (-1) ?_ ?_
    · unfold f_RR_words; rw [jk0 hL, jRR_isLaw hL h.D h.A h.K hC, c1]; rfl
    · unfold f_Mo_words; rw [jkm hL, jMo_isLaw hL hM, c1]; rfl
  · obtain ⟨k, hk, rfl⟩ := (jbel_iff (by omega)).mp c1
    obtain ⟨i1, i2⟩ := jIsL hL (ω := ω) h hk
    obtain ⟨l1, l2, l3⟩ := jlr hL (ω := ω) h hk
    have t40 : (40 : Int32).toInt = 40 := by decide
    cases cp : jpb w k
    · obtain ⟨p1, q1⟩ := jHasP hL (ω := ω) h hk cp
      refine jOw_no hL h hf (-1) ?_ ?_
      · unfold f_RR_words; rw [jk0 hL, i1, Option.bind_some, if_neg jz10, l1, Option.bind_some, l2, Option.bind_some, l3, p1]; rfl
      · unfold f_Mo_words; rw [jkm hL, i2, Option.bind_some, if_neg jz10, jkm hL, q1]; rfl
    · obtain ⟨p1, q1⟩ := jHasP hL (ω := ω) h hk cp
      have p1 : f_Law_hasPattern (jad L (jl (2 * k + sw) 0)) (jW L ω S) = some 1 := p1
      have q1 : f_Mo_hasPattern (jad L (jm 0)) (nI k) (jW L ω S) = some 1 := q1
      have hp := jpb_pt cp
      have hns := hw.ns k hk hp
      by_cases n2 : x2 < 0
      · refine jOw_no hL h hf (-1) ?_ ?_
        · unfold f_RR_words; rw [jk0 hL, i1, Option.bind_some, if_neg jz10, l1, Option.bind_some, l2, Option.bind_some, l3, p1, Option.bind_some, if_neg jz10, if_pos n2]
        · unfold f_Mo_words; rw [jkm hL, i2, Option.bind_some, if_neg jz10, jkm hL, q1, Option.bind_some, if_neg jz10, if_pos n2]
      · by_cases m2 : x2 ≤ 40
        · obtain ⟨y, _, hy, rfl⟩ := jrng (x := x2) (lo := 0) (hi := 40) (jge0 n2) (by rw [Int32.le_iff_toInt_le, t40] at m2; exact m2)
          obtain ⟨c, u, tb', ω', T, t', ps', a1, a5, R⟩ := jRR_one hL (ω := ω) h hk hp hf
          have g2 := R.g
          have h2 := R.i
          obtain ⟨T2, wy', b1, b2, b3, b4⟩ := jKW_words g2 (ω := ω') h2.K h2.w1 (by omega) a5 hns.1 hns.2 (fun m hm => hw.nx k m hk hp hm) hy
          have h3 := h2.sim b4 b3 h2.p1 b2
          have hM3 : jLM T2 w := h3.LM
          obtain ⟨T3, d1, d2⟩ := jMW_words g2 (ω := ω') h3.K (hw.lay tb') hM3 hk hp hy
          have h4 := h3.sim ⟨d2.1, d2.2.1, d2.2.2.1⟩ (h3.K.of d2.2.2.2) h3.p1 h3.w1
          refine ⟨jbw (jLw.nx w k) (fun s => Int32.toInt64 (nI (jLw.fe w k s))) y 0, c, u, tb', ω', T2, T3, t', ps', wy', ?_, ?_, R.to h4⟩
          · show f_RR_words (jad L (jo 0)) (nI k) (nI y) z (jW L ω S) = _
            have j1 : xgr (jW L ω S) (jad L (jo 0)) 11 5 = some (jad L (jo 7)) := by simp (disch := first | omega | rfl | assumption | exact jokr (by decide) (by omega) | exact jokr4 (by omega) | exact jkt_r _ _ | exact jkt_l (by decide) | exact jfk_l (by decide) | exact jkt_t _ | exact jkt_r6 _ _ | exact jkt_t6 _ | (simp only [jok, jlen]; omega) | decide) only [jm_k hL, jm_gi hL, jm_gr hL, jm_gl hL, jm_pi hL, jm_pl hL, jn_ai hL, jn_ab hL, jn_az hL, jn_al hL, jn_ar hL, jn_an hL, jn_si hL, jn_sb hL, jn_sz hL, jn_sl hL, Option.bind_some, xc, xl, jsA_X, jsI_X, jsG_X, hK _ _, jlk, jmx]
            have j2 : ∀ {α : Type} {q : Option α}, xk (jW (L.1, L.2.1, L.2.2.1, tb') ω' T) (jad L (jo 7)) 1 q = q := fun {α} {q} => jm_k g2 (c := jo 7) (by simp only [jok]; omega) rfl
            have b1 : f_AutomatonMaker_wordsOf (jad L (jo 7)) (jad L (jl (2 * k + sw) 6)) (nI y) (jW (L.1, L.2.1, L.2.2.1, tb') ω' T) = _ := b1
            unfold f_RR_words
            rw [jk0 hL, i1, Option.bind_some, if_neg jz10, l1, Option.bind_some, l2, Option.bind_some, l3, p1, Option.bind_some, if_neg jz10, if_neg n2, if_pos m2, j1, Option.bind_some, Option.bind_some, l2, Option.bind_some, jk0 hL, a1]
            simp only [xc4, xc, j2, b1]
          · have km : ∀ {α : Type} {q : Option α}, xk (jW (L.1, L.2.1, L.2.2.1, tb') ω' T2) (jad L (jm 0)) 12 q = q := fun {α} {q} => jkm g2
            have s1 : f_Mo_isLaw (jad L (jm 0)) (nI k) (jW (L.1, L.2.1, L.2.2.1, tb') ω' T2) = some 1 := (jIsL g2 (ω := ω') h3 (k := k) hk).2
            have s3 : f_Mo_hasPattern (jad L (jm 0)) (nI k) (jW (L.1, L.2.1, L.2.2.1, tb') ω' T2) = some 1 := (jHasP g2 (ω := ω') h3 (k := k) hk (b := true) cp).2
            unfold f_Mo_words
            rw [km, s1, Option.bind_some, if_neg jz10, km, s3, Option.bind_some, if_neg jz10, if_neg n2, if_pos m2]
            exact d1
        · refine jOw_no hL h hf (-1) ?_ ?_
          · unfold f_RR_words; rw [jk0 hL, i1, Option.bind_some, if_neg jz10, l1, Option.bind_some, l2, Option.bind_some, l3, p1, Option.bind_some, if_neg jz10, if_neg n2, if_neg m2]
          · unfold f_Mo_words; rw [jkm hL, i2, Option.bind_some, if_neg jz10, jkm hL, q1, Option.bind_some, if_neg jz10, if_neg n2, if_neg m2]
theorem jop_word {L : jL} (hL : jgood L) {ω : xS} {S : jSt} {A : jR} {w : jLw} {H : jH} {tp : Nat → Nat} {ts sw ps wy : Nat} (h : jIv L S A w H tp ts sw ps wy) {z : Nat} (hf : jfit L z) (x1 x2 : Int32) : jOw Int32 L ω S A w H tp ts sw z (fun ω => f_RR_word (jad L (jo 0)) x1 x2 z ω) (f_Mo_word (jad L (jm 0)) x1 x2) := by
  have hK := h.K
  have hC := h.LC
  have hM := h.LM
  have hw := h.W
  have h16 := hw.n16
  have hs1 := hC.s1
  cases c1 : jbel (jLw.n w) x1
  · refine jOw_no hL h hf (-1) ?_ ?_
    · unfold f_RR_word; rw [jk0 hL, jRR_isLaw hL h.D h.A h.K hC, c1]; rfl
    · unfold f_Mo_word; rw [jkm hL, jMo_isLaw hL hM, c1]; rfl
  · obtain ⟨k, hk, rfl⟩ := (jbel_iff (by omega)).mp c1
    obtain ⟨i1, i2⟩ := jIsL hL (ω := ω) h hk
    obtain ⟨l1, l2, l3⟩ := jlr hL (ω := ω) h hk
    by_cases n2 : 0 ≤ x2
    · have n2' : 0 ≤ x2.toInt := by rw [Int32.le_iff_toInt_le, jt0] at n2; exact n2
      obtain ⟨y, hy, rfl⟩ := jnat n2'
      cases cp : jpb w k
      · obtain ⟨p1, q1⟩ := jHasP hL (ω := ω) h hk cp
        refine jOw_no hL h hf (-2) ?_ ?_
        · unfold f_RR_word; rw [jk0 hL, i1, Option.bind_some, if_neg jz10, if_pos n2, l1, Option.bind_some, l2, Option.bind_some, l3, p1]; rfl
        · unfold f_Mo_word; rw [jkm hL, i2, Option.bind_some, if_neg jz10, if_pos n2, jkm hL, q1]; rfl
      · obtain ⟨p1, q1⟩ := jHasP hL (ω := ω) h hk cp
        have p1 : f_Law_hasPattern (jad L (jl (2 * k + sw) 0)) (jW L ω S) = some 1 := p1
        have hp := jpb_pt cp
        have hns := hw.ns k hk hp
        have hfe := fun s => hw.fe k s hk hp
        obtain ⟨cc, hB⟩ := hw.bo k hk hp
        obtain ⟨mf, hmf⟩ := jmf.ex hB
        obtain ⟨s0, hs0, hf0⟩ := hw.al k hk hp
        obtain ⟨e, he1, he2, he3⟩ := jleast (p := fun s => jLw.fe w k s = 1) hf0
        have hlow : ∀ q, q < e → jLw.fe w k q = 0 := fun q hq => by
          have := he3 q hq
          have := hfe q
          omega
        obtain ⟨len, hb⟩ := jbl2.ex hmf (e := e) (by omega)
        obtain ⟨c, u, tb', ω', T, t', ps', a1, a5, R⟩ := jRR_one hL (ω := ω) h hk hp hf
        have g2 := R.g
        have h2 := R.i
        have b1 := jAu_short g2 (ω := ω') h2.K (by omega) a5 hns.2 hB hfe hmf (by omega) he2 hlow hb hy
        have hM2 : jLM T w := h2.LM
        obtain ⟨T3, d1, d2⟩ := jWo_word g2 (ω := ω') h2.K (hw.lay tb') hM2 hk hp hB hmf (by omega) he2 hlow hb hy
        have h4 := h2.frM d2 (fun c z => ⟨42, by omega, z⟩)
        refine ⟨if y < len then nI (mf (jbk mf e (len - (y + 1))) % 9) else -2, c, u, tb', ω', T, T3, t', ps', wy, ?_, ?_, R.to h4⟩
        · show f_RR_word (jad L (jo 0)) (nI k) (nI y) z (jW L ω S) = _
          have j2 : ∀ {α : Type} {q : Option α}, xk (jW (L.1, L.2.1, L.2.2.1, tb') ω' T) (jad L (jl (2 * k + sw) 6)) 0 q = q := fun {α} {q} => jaut_k g2 (by omega)
          have b1 : f_Automaton_letterOfShortest (jad L (jl (2 * k + sw) 6)) (nI y) (jW (L.1, L.2.1, L.2.2.1, tb') ω' T) = _ := b1
          unfold f_RR_word
          rw [jk0 hL, i1, Option.bind_some, if_neg jz10, if_pos n2, l1, Option.bind_some, l2, Option.bind_some, l3, p1, Option.bind_some, if_neg jz10, Option.bind_some, l2, Option.bind_some, jk0 hL, a1]
          simp only [xc4, j2, b1, Option.bind_some]
        · have km : ∀ {α : Type} {q : Option α}, xk (jW (L.1, L.2.1, L.2.2.1, tb') ω' T) (jad L (jm 0)) 12 q = q := fun {α} {q} => jkm g2
          have s1 : f_Mo_isLaw (jad L (jm 0)) (nI k) (jW (L.1, L.2.1, L.2.2.1, tb') ω' T) = some 1 := (jIsL g2 (ω := ω') h2 (k := k) hk).2
          have s3 : f_Mo_hasPattern (jad L (jm 0)) (nI k) (jW (L.1, L.2.1, L.2.2.1, tb') ω' T) = some 1 := (jHasP g2 (ω := ω') h2 (k := k) hk (b := true) cp).2
          have v1 : xgr (jW (L.1, L.2.1, L.2.2.1, tb') ω' T) (jad L (jm 0)) 12 26 = some (jad L (jm 22)) := by
            have hL := g2
            have hK := h2.K
            have q : xgr (jW (L.1, L.2.1, L.2.2.1, tb') ω' T) (jad (L.1, L.2.1, L.2.2.1, tb') (jm 0)) 12 26 = some (jad (L.1, L.2.1, L.2.2.1, tb') (jm 22)) := by simp (disch := first | omega | rfl | assumption | exact jokr (by decide) (by omega) | exact jokr4 (by omega) | exact jkt_r _ _ | exact jkt_l (by decide) | exact jfk_l (by decide) | exact jkt_t _ | exact jkt_r6 _ _ | exact jkt_t6 _ | (simp only [jok, jlen]; omega) | decide) only [jm_k hL, jm_gi hL, jm_gr hL, jm_gl hL, jm_pi hL, jm_pl hL, jn_ai hL, jn_ab hL, jn_az hL, jn_al hL, jn_ar hL, jn_an hL, jn_si hL, jn_sb hL, jn_sz hL, jn_sl hL, Option.bind_some, xc, xl, jsA_X, jsI_X, jsG_X, hK _ _, jlk, jmx]
            exact q
          have v2 : xai (jW (L.1, L.2.1, L.2.2.1, tb') ω' T) (jad L (jm 22)) (nI k) = some (nI (jLw.ns w k)) := by
            have hL := g2
            have q : xai (jW (L.1, L.2.1, L.2.2.1, tb') ω' T) (jad (L.1, L.2.1, L.2.2.1, tb') (jm 22)) (nI k) = some (nI (jLw.ns w k)) := by simp (disch := first | omega | rfl | assumption | exact jokr (by decide) (by omega) | exact jokr4 (by omega) | exact jkt_r _ _ | exact jkt_l (by decide) | exact jfk_l (by decide) | exact jkt_t _ | exact jkt_r6 _ _ | exact jkt_t6 _ | (simp only [jok, jlen]; omega) | decide) only [jm_k hL, jm_gi hL, jm_gr hL, jm_gl hL, jm_pi hL, jm_pl hL, jn_ai hL, jn_ab hL, jn_az hL, jn_al hL, jn_ar hL, jn_an hL, jn_si hL, jn_sb hL, jn_sz hL, jn_sl hL, Option.bind_some, xc, xl, hM2.ns]
            exact q
          unfold f_Mo_word
          rw [km, s1, Option.bind_some, if_neg jz10, if_pos n2, km, s3, Option.bind_some, if_neg jz10, v1, Option.bind_some, v2, Option.bind_some]
          exact d1
    · refine jOw_no hL h hf (-1) ?_ ?_
      · unfold f_RR_word; rw [jk0 hL, i1, Option.bind_some, if_neg jz10, if_neg n2]
      · unfold f_Mo_word; rw [jkm hL, i2, Option.bind_some, if_neg jz10, if_neg n2]
