theorem jsI_fn {S : jSt} {c c' : jC} {k : Nat} {v : Int32} (h : c' ≠ c) : jgI (jsI S c k v) c' = jgI S c' := funext fun k' => jsI_ne (Or.inl h)
/-! THE CLASS'S AUTOMATON OF A LAW, made when it is asked for -/
def jLw.stl (w : jLw) (t : Nat → Nat) : jLw := (w.1, w.2.1, w.2.2.1, w.2.2.2.1, w.2.2.2.2.1, w.2.2.2.2.2.1, w.2.2.2.2.2.2.1, w.2.2.2.2.2.2.2.1, w.2.2.2.2.2.2.2.2.1, w.2.2.2.2.2.2.2.2.2.1, w.2.2.2.2.2.2.2.2.2.2.1, w.2.2.2.2.2.2.2.2.2.2.2.1, w.2.2.2.2.2.2.2.2.2.2.2.2.1, w.2.2.2.2.2.2.2.2.2.2.2.2.2.1, w.2.2.2.2.2.2.2.2.2.2.2.2.2.2.1, w.2.2.2.2.2.2.2.2.2.2.2.2.2.2.2.1, t)
theorem jLw.stl_tl (w : jLw) (t : Nat → Nat) : jLw.tl (jLw.stl w t) = t := rfl
theorem jLg.stl {L : jL} {w : jLw} (h : jLg L w) (t : Nat → Nat) : jLg L (jLw.stl w t) := h
theorem jLM.stl {S : jSt} {w : jLw} (h : jLM S w) (t : Nat → Nat) : jLM S (jLw.stl w t) := h
theorem jLg.lay {L : jL} {w : jLw} (h : jLg L w) (tb : Nat → Nat) : jLg (L.1, L.2.1, L.2.2.1, tb) w := h
/-- cells that stay but for longs -/
def jeqn (P : jC → Prop) (S T : jSt) : Prop := ∀ c, P c → jgI T c = jgI S c ∧ jgA T c = jgA S c ∧ jgN T c = jgN S c
def jGs (S T : jSt) : jSt := (S.1, S.2.1, T.2.2.1, S.2.2.2.1, S.2.2.2.2)
theorem jeqn.v {P : jC → Prop} {S T : jSt} (h : jeqn P S T) : jeqv P (jGs S T) T := fun c hc => ⟨(h c hc).1, (h c hc).2.1, rfl, (h c hc).2.2⟩
theorem jeqn.trans {P : jC → Prop} {S T U : jSt} (h : jeqn P S T) (h' : jeqn P T U) : jeqn P S U := fun c hc => ⟨(h' c hc).1.trans (h c hc).1, (h' c hc).2.1.trans (h c hc).2.1, (h' c hc).2.2.trans (h c hc).2.2⟩
theorem jeqn.weak {P Q : jC → Prop} {S T : jSt} (h : jeqn P S T) (hq : ∀ c, Q c → P c) : jeqn Q S T := fun c hc => h c (hq c hc)
theorem jeqv.n {P : jC → Prop} {S T : jSt} (h : jeqv P S T) : jeqn P S T := fun c hc => ⟨(h c hc).1, (h c hc).2.1, (h c hc).2.2.2⟩
/-- the cells that the making of automaton j leaves as they are -/
def jisE (j : Nat) : jC → Prop := fun c => ¬ jisK c ∧ c ≠ jt j ∧ c ≠ jl j 6
theorem jKM_make {L : jL} (hL : jgood L) {ω : xS} {S : jSt} {sw ps wy : Nat} (hK : jLK S sw ps wy) {w : jLw} (hw : jLg L w) (hC : jLC L S w sw) (hps : ps ≤ 1) {k z : Nat} (hk : k < jLw.n w) (hp : jLw.pt w k) (hf : jfit L z) : ∃ (c u tl' ps' : Nat) (tb' : Nat → Nat) (ω' : xS) (T : jSt), f_AutomatonMaker_make (jad L (jo 7)) (jad L (jl (2 * k + sw) 1)) (jad L (jl (2 * k + sw) 6)) z (jW L ω S) = some (c, u, jW (L.1, L.2.1, L.2.2.1, tb') ω' T) ∧ jgood (L.1, L.2.1, L.2.2.1, tb') ∧ jfit (L.1, L.2.1, L.2.2.1, tb') (z + c) ∧ jgr (jLw.tl w (2 * k + sw)) tl' c u ∧ tl' ≤ 1025 ∧ ps' ≤ 1 ∧ jLK T sw ps' wy ∧ jTb T (2 * k + sw) (jLw.ns w k) (jLw.nx w k) (jLw.fe w k) ∧ jgN T (jt (2 * k + sw)) = 10 * tl' ∧ jeqn (jisE (2 * k + sw)) S T := by
  have h16 := hw.n16
  have hs1 := hC.s1
  have hj : 2 * k + sw < 32 := by omega
  have hδ : ∀ s l, jLw.dl w k s l < 1024 := fun s l => jdl_lt (hw.sz k hk hp)
  obtain ⟨N, P', hN, hP', hnx', hfe'⟩ := hw.as k hk hp
  obtain ⟨T1, e1, a1, a2, a3⟩ := jKM_explore hL (ω := ω) hK hw hC hk hp hN
  have hE1 := a3.ex hδ hN
  have hC1 := hC.K a2
  obtain ⟨T2, q2, e2, b1, b2, b3, b4, b5⟩ := jKM_ends hL (ω := ω) a1 hw hC1 hps hk hp hE1
  have hq1 : 1 ≤ q2 := by have := b5.lt 0 hN.p; omega
  obtain ⟨T3, q3, F, ps3, e3, c1, c2, c3, c4, c5, c6⟩ := jKM_rounds hL (ω := ω) (z := z) (a1 := jad L (jl (2 * k + sw) 1)) (a2 := jad L (jl (2 * k + sw) 6)) N 0 xFU ps T2 _ q2 (by omega) (by have := hN.u; unfold xFU; omega) hq1 hps b1 b3 b4 b5
  obtain ⟨u1, u2⟩ := jNum.uniq (fun a b _ _ => Iff.rfl) c6 hP'
  subst u1
  have hq := c6.q
  have hNu := hN.u
  have eS3 : jeqv (fun c => ¬ jisK c) S T3 := (a2.trans b2).trans c3
  have tlr := hC.tl (2 * k + sw) hj
  have hN3 : jgN T3 (jt (2 * k + sw)) = 10 * jLw.tl w (2 * k + sw) := by
    rw [(eS3 _ (fun ⟨q, _, _, z⟩ => by cases z)).2.2.2]; exact tlr.1
  obtain ⟨c, u, tl', tb', ω', T4, d1, d2, d3, d4, d5, d6, d7, d8, d9, d10, d11⟩ := jAu_reserve hL (ω := ω) c1 hj hf hN3 tlr.2 (q := jLw.ns w k) (by omega)
  have hla : jgI T4 (jl (2 * k + sw) 1) 7 = nI (jLw.la w k) := by
    rw [d9, (eS3 _ (fun ⟨q, _, _, z⟩ => by cases z)).1]; exact hC.la k hk hp
  have hno : jgI T4 (jl (2 * k + sw) 1) 8 = nI (jLw.no w k) := by
    rw [d9, (eS3 _ (fun ⟨q, _, _, z⟩ => by cases z)).1]; exact hC.no k hk hp
  have hE4 : jEX T4 N (jxs (jLw.dl w k) (9 * N)) (jxg (jLw.dl w k)) := c4.same (by rw [d9]) (d8 _ (fun z => by cases z)).2 (d8 _ (fun z => by cases z)).2
  have hP4 : jPv T4 (12 + ps3) N F := fun s hs => by rw [(d8 _ (fun z => by cases z)).2]; exact c5 s hs
  obtain ⟨T5, g1, g2, g3⟩ := jCp_loop (L := (L.1, L.2.1, L.2.2.1, tb')) d2 (ω := ω') (c1.of d10) (hw.lay tb') hs1 c2 hk hp hj hE4 hP4 c6 (by omega) (by omega) hla hno
  refine ⟨c, u, tl', ps3, tb', ω', jsI T5 (jl (2 * k + sw) 6) 1 (nI (jLw.ns w k)), ?_, d2, d3, d4, d6, c2, ?_, ?_, ?_, ?_⟩
  · have g1 : f_AutomatonMaker_copyParts_5 (jad L (jo 7)) (jad L (jl (2 * k + sw) 1)) (jad L (jl (2 * k + sw) 6)) (nI (jLw.ns w k)) (jW (L.1, L.2.1, L.2.2.1, tb') ω' T4) = some (jW (L.1, L.2.1, L.2.2.1, tb') ω' (jsI T5 (jl (2 * k + sw) 6) 1 (nI (jLw.ns w k)))) := g1
    have e4 : f_AutomatonMaker_copyParts (jad L (jo 7)) (jad L (jl (2 * k + sw) 1)) (jad L (jl (2 * k + sw) 6)) (nI (jLw.ns w k)) z (jW L ω T3) = some (c, u, jW (L.1, L.2.1, L.2.2.1, tb') ω' (jsI T5 (jl (2 * k + sw) 6) 1 (nI (jLw.ns w k)))) := by
      unfold f_AutomatonMaker_copyParts
      simp (disch := first | omega | rfl | assumption | exact jokr (by decide) (by omega) | exact jokr4 (by omega) | exact jkt_r _ _ | exact jkt_l (by decide) | exact jfk_l (by decide) | exact jkt_t _ | exact jkt_r6 _ _ | exact jkt_t6 _ | (simp only [jok, jlen]; omega) | decide) only [jm_k hL, jm_gi hL, jm_gr hL, jm_gl hL, jm_pi hL, jm_pl hL, jn_ai hL, jn_ab hL, jn_az hL, jn_al hL, jn_ar hL, jn_an hL, jn_si hL, jn_sb hL, jn_sz hL, jn_sl hL, Option.bind_some, xc, xl, d1, xc3, g1]
    unfold f_AutomatonMaker_make
    simp (disch := first | omega | rfl | assumption | exact jokr (by decide) (by omega) | exact jokr4 (by omega) | exact jkt_r _ _ | exact jkt_l (by decide) | exact jfk_l (by decide) | exact jkt_t _ | exact jkt_r6 _ _ | exact jkt_t6 _ | (simp only [jok, jlen]; omega) | decide) only [jm_k hL, jm_gi hL, jm_gr hL, jm_gl hL, jm_pi hL, jm_pl hL, jn_ai hL, jn_ab hL, jn_az hL, jn_al hL, jn_ar hL, jn_an hL, jn_si hL, jn_sb hL, jn_sz hL, jn_sl hL, Option.bind_some, xc, xl, e1, e2, jlit]
    rw [e3, e4]
    simp only [xc3]
  · exact (c1.of (d10 ▸ g2.2.2.1)).sI _ _ _
  · have hN5 : jgN T5 (jt (2 * k + sw)) = 10 * tl' := by rw [g2.2.1]; exact d7
    refine ⟨?_, ?_, ?_, fun s l hs hl => ?_, fun s hs => ?_⟩
    · rw [jsI_I, if_pos ⟨rfl, rfl⟩]
    · rw [jsI_N, hN5]; omega
    · rw [jsI_N, hN5]; omega
    · obtain ⟨k', h1, h2⟩ := g3 s hs
      rw [jsI_A, h2.x l hl]
      congr 1
      have h3 := hnx' k' l h1 hl
      rw [← u2 k' h1, h2.p] at h3
      rw [h3]
      exact u2 _ ((hN.bo hδ).lt (by omega))
    · obtain ⟨k', h1, h2⟩ := g3 s hs
      rw [jsI_A, h2.e]
      congr 1
      have h3 := hfe' k' h1
      rw [← u2 k' h1, h2.p] at h3
      exact h3.symm
  · rw [jsI_N, g2.2.1]; exact d7
  · intro c hc
    have e5 := eS3 c hc.1
    refine ⟨?_, ?_, ?_⟩
    · rw [jsI_fn hc.2.2, g2.1, d9]; exact e5.1
    · rw [jsI_A, g2.2.2.2 c hc.2.1, (d8 c hc.2.1).2]; exact e5.2.1
    · rw [jsI_N, g2.2.1, (d8 c hc.2.1).1]; exact e5.2.2.2
/-- the laws of the class, with that automaton -/
theorem jLC.made {L L' : jL} {S T : jSt} {w : jLw} {sw : Nat} (hC : jLC L S w sw) {k tl' : Nat} (hk : k < jLw.n w) (h16 : jLw.n w ≤ 16) (htl : tl' ≤ 1025) (hT : jTb T (2 * k + sw) (jLw.ns w k) (jLw.nx w k) (jLw.fe w k)) (hN : jgN T (jt (2 * k + sw)) = 10 * tl') (e : jeqn (jisE (2 * k + sw)) S T) : jLC L' T (jLw.stl w (fun i => if i = 2 * k + sw then tl' else jLw.tl w i)) sw := by
  have hs1 := hC.s1
  have eI : ∀ j q, q ≠ 6 → jgI T (jl j q) = jgI S (jl j q) := fun j q hq => (e (jl j q) ⟨fun ⟨_, _, _, z⟩ => (by cases z), fun z => (by cases z), fun z => hq (by cases z; rfl)⟩).1
  have eA : ∀ j q, q ≠ 6 → jgA T (jl j q) = jgA S (jl j q) := fun j q hq => (e (jl j q) ⟨fun ⟨_, _, _, z⟩ => (by cases z), fun z => (by cases z), fun z => hq (by cases z; rfl)⟩).2.1
  have e0 : jgI T (jo 0) = jgI S (jo 0) := (e (jo 0) ⟨fun ⟨q, h1, h2, z⟩ => by
    have : 0 = q := by simpa using z
    omega, fun z => (by cases z), fun z => (by cases z)⟩).1
  have e6 : ∀ j, j ≠ 2 * k + sw → jgI T (jl j 6) = jgI S (jl j 6) := fun j hj => (e (jl j 6) ⟨fun ⟨_, _, _, z⟩ => (by cases z), fun z => (by cases z), fun z => hj (by cases z; rfl)⟩).1
  have et : ∀ j, j ≠ 2 * k + sw → jgA T (jt j) = jgA S (jt j) ∧ jgN T (jt j) = jgN S (jt j) := fun j hj => (e (jt j) ⟨fun ⟨_, _, _, z⟩ => (by cases z), fun z => hj (by cases z; rfl), fun z => (by cases z)⟩).2
  refine ⟨hs1, ?_, fun i hi => ?_, fun i hi => ?_, fun i hi => ?_, fun i hi h => ?_, fun i hi h => ?_, fun i hi h => ?_, fun i hi h => ?_, fun i hi h => ?_, fun i hi h => ?_, fun i hi h => ?_, fun i hi h => ?_, fun i l hi h hl => ?_, fun i u hi h hu => ?_, fun i u hi h hu => ?_, fun i hi h => ?_, fun j hj => ?_⟩
  · rw [e0]; exact hC.n
  · rw [eI _ _ (by decide)]; exact hC.so i hi
  · rw [eI _ _ (by decide)]; exact hC.wt i hi
  · rw [eI _ _ (by decide)]; exact hC.pl i hi
  · rw [eI _ _ (by decide)]; exact hC.lo i hi h
  · rw [eI _ _ (by decide)]; exact hC.hi i hi h
  · rw [eI _ _ (by decide)]; exact hC.sp i hi h
  · rw [eI _ _ (by decide)]; exact hC.lt i hi h
  · rw [eI _ _ (by decide)]; exact hC.sz i hi h
  · rw [eI _ _ (by decide)]; exact hC.fi i hi h
  · rw [eI _ _ (by decide)]; exact hC.la i hi h
  · rw [eI _ _ (by decide)]; exact hC.no i hi h
  · rw [eA _ _ (by decide)]; exact hC.tk i l hi h hl
  · rw [eA _ _ (by decide)]; exact hC.al i u hi h hu
  · rw [eA _ _ (by decide)]; exact hC.au i u hi h hu
  · by_cases c : i = k
    · subst c
      exact Or.inr ⟨hT.s, hT.l, hT.u, hT.x, hT.e⟩
    · rw [e6 _ (by omega), (et _ (by omega)).1, (et _ (by omega)).2]
      exact hC.au0 i hi h
  · rw [jLw.stl_tl]
    by_cases c : j = 2 * k + sw
    · subst c
      rw [if_pos rfl]
      exact ⟨hN, htl⟩
    · rw [if_neg c, (et _ c).2]
      exact hC.tl j hj
/-- all that holds, when nothing changes but the laws' tables and what the maker works on -/
theorem jIv.maker {L : jL} {S T : jSt} {A : jR} {w : jLw} {H : jH} {tp : Nat → Nat} {ts sw ps wy ps' wy' : Nat} (h : jIv L S A w H tp ts sw ps wy) {t tb : Nat → Nat} (hK : jLK T sw ps' wy') (hp : ps' ≤ 1) (hwy : wy' ≤ 1) (hC : jLC (L.1, L.2.1, L.2.2.1, tb) T (jLw.stl w t) sw) {j : Nat} (e : jeqn (jisE j) S T) : jIv (L.1, L.2.1, L.2.2.1, tb) T A (jLw.stl w t) H tp ts sw ps' wy' := by
  have ev := e.v
  have oR : ∀ c, jisR c → jisE j c := fun c hc => by
    rcases hc with ⟨q, a, b, rfl⟩ | ⟨t, p, rfl⟩
    · refine ⟨fun ⟨q', a', b', z⟩ => ?_, fun z => (by cases z), fun z => (by cases z)⟩
      have : q = q' := by simpa using z
      omega
    · exact ⟨fun ⟨q', a', b', z⟩ => (by cases z), fun z => (by cases z), fun z => (by cases z)⟩
  have oH : ∀ c, jisH c → jisE j c := fun c hc => by
    obtain ⟨q, a, b, rfl⟩ := hc
    refine ⟨fun ⟨q', a', b', z⟩ => ?_, fun z => (by cases z), fun z => (by cases z)⟩
    have : q = q' := by simpa using z
    omega
  have oM : ∀ c, jisM c → jisE j c := fun c hc => by
    obtain ⟨q, rfl⟩ := hc
    exact ⟨fun ⟨q', a', b', z⟩ => (by cases z), fun z => (by cases z), fun z => (by cases z)⟩
  have oo : ∀ q, q < 7 ∨ 15 < q → jisE j (jo q) := fun q hq => ⟨fun ⟨q', a', b', z⟩ => by
    have : q = q' := by simpa using z
    omega, fun z => (by cases z), fun z => (by cases z)⟩
  obtain ⟨nw, hHC⟩ := h.HC
  obtain ⟨fr, hHM⟩ := h.HM
  have m0 := (e (jm 0) (oM _ ⟨0, rfl⟩)).1
  have hRC : jRC L (jGs S T) A := h.RC
  have hRM : jRM L (jGs S T) A := h.RM
  have hLM : jLM (jGs S T) w := h.LM
  have hHC : jHC (jGs S T) H.1 nw H.2 := hHC
  have hHM : jHM (jGs S T) H.1 fr H.2 := hHM
  refine ⟨h.D, h.A, hK, hRC.same (ev.weak oR), hRM.same (ev.weak oM), h.W, hC, hLM.eqv (ev.weak oM), h.H, ⟨nw, hHC.same (ev.weak oH)⟩, ⟨fr, hHM.same (ev.weak oM)⟩, hp, hwy, ⟨h.T.s, h.T.b, ?_, ?_, ?_, ?_⟩, ?_, ?_, fun i hi => ?_⟩
  · rw [(e (jo 1) (oo 1 (by omega))).1]; exact h.T.c
  · intro i hi; rw [(e (jo 2) (oo 2 (by omega))).2.1]; exact h.T.cb i hi
  · rw [m0]; exact h.T.m
  · intro i hi; rw [(e (jm 9) (oM _ ⟨9, rfl⟩)).2.1]; exact h.T.mb i hi
  · rw [(e (jo 29) (oo 29 (by omega))).1, m0]; exact h.P
  · rw [(e (jo 29) (oo 29 (by omega))).1]; exact h.Dy
  · have := hC.tl i hi
    omega
theorem jRR_autoOf {L : jL} (hL : jgood L) {ω : xS} {S : jSt} {A : jR} {w : jLw} {H : jH} {tp : Nat → Nat} {ts sw ps wy : Nat} (h : jIv L S A w H tp ts sw ps wy) {k z : Nat} (hk : k < jLw.n w) (hp : jLw.pt w k) (hf : jfit L z) : ∃ (c u tl' ps' : Nat) (tb' : Nat → Nat) (ω' : xS) (T : jSt), f_RR_automatonOf (jad L (jo 0)) (jad L (jl (2 * k + sw) 0)) z (jW L ω S) = some (jad L (jl (2 * k + sw) 6), c, u, jW (L.1, L.2.1, L.2.2.1, tb') ω' T) ∧ jgood (L.1, L.2.1, L.2.2.1, tb') ∧ jfit (L.1, L.2.1, L.2.2.1, tb') (z + c) ∧ jgr (jLw.tl w (2 * k + sw)) tl' c u ∧ jTb T (2 * k + sw) (jLw.ns w k) (jLw.nx w k) (jLw.fe w k) ∧ jIv (L.1, L.2.1, L.2.2.1, tb') T A (jLw.stl w (fun i => if i = 2 * k + sw then tl' else jLw.tl w i)) H tp ts sw ps' wy ∧ jeqn (jisE (2 * k + sw)) S T := by
  have hK := h.K
  have hC := h.LC
  have hw := h.W
  have h16 := hw.n16
  have hs1 := hC.s1
  have hns := hw.ns k hk hp
  have hj : 2 * k + sw < 32 := by omega
  rcases hC.au0 k hk hp with h0 | ⟨t1, t2, t3, t4, t5⟩
  · obtain ⟨c, u, tl', ps', tb', ω', T, e1, e2, e3, e4, e5, e6, e7, e8, e9, e10⟩ := jKM_make hL (ω := ω) hK hw hC h.p1 hk hp hf
    refine ⟨c, u, tl', ps', tb', ω', T, ?_, e2, e3, e4, e8, h.maker e7 e6 h.w1 (hC.made hk h16 e5 e8 e9 e10) e10, e10⟩
    have hg : xgr (jW (L.1, L.2.1, L.2.2.1, tb') ω' T) (jad (L.1, L.2.1, L.2.2.1, tb') (jl (2 * k + sw) 0)) 4 1 = some (jad (L.1, L.2.1, L.2.2.1, tb') (jl (2 * k + sw) 6)) := by
      have hL := e2
      have hK := e7
      simp (disch := first | omega | rfl | assumption | exact jokr (by decide) (by omega) | exact jokr4 (by omega) | exact jkt_r _ _ | exact jkt_l (by decide) | exact jfk_l (by decide) | exact jkt_t _ | exact jkt_r6 _ _ | exact jkt_t6 _ | (simp only [jok, jlen]; omega) | decide) only [jm_k hL, jm_gi hL, jm_gr hL, jm_gl hL, jm_pi hL, jm_pl hL, jn_ai hL, jn_ab hL, jn_az hL, jn_al hL, jn_ar hL, jn_an hL, jn_si hL, jn_sb hL, jn_sz hL, jn_sl hL, Option.bind_some, xc, xl, jsA_X, jsI_X, jsG_X, hK _ _, jlk, jmx]
    have hg : xgr (jW (L.1, L.2.1, L.2.2.1, tb') ω' T) (jad L (jl (2 * k + sw) 0)) 4 1 = some (jad L (jl (2 * k + sw) 6)) := hg
    unfold f_RR_automatonOf
    simp (disch := first | omega | rfl | assumption | exact jokr (by decide) (by omega) | exact jokr4 (by omega) | exact jkt_r _ _ | exact jkt_l (by decide) | exact jfk_l (by decide) | exact jkt_t _ | exact jkt_r6 _ _ | exact jkt_t6 _ | (simp only [jok, jlen]; omega) | decide) only [jm_k hL, jm_gi hL, jm_gr hL, jm_gl hL, jm_pi hL, jm_pl hL, jn_ai hL, jn_ab hL, jn_az hL, jn_al hL, jn_ar hL, jn_an hL, jn_si hL, jn_sb hL, jn_sz hL, jn_sl hL, Option.bind_some, xc, xl, jsA_X, jsI_X, jsG_X, hK _ _, jlk, jmx, h0, jlit, if_true, e1, xc3, hg]
  · have hT : jTb S (2 * k + sw) (jLw.ns w k) (jLw.nx w k) (jLw.fe w k) := ⟨t1, t2, t3, t4, t5⟩
    have htl := hC.tl (2 * k + sw) hj
    refine ⟨0, 0, jLw.tl w (2 * k + sw), ps, L.2.2.2, ω, S, ?_, hL, hf, Or.inl ⟨rfl, rfl, rfl⟩, hT, h.maker hK h.p1 h.w1 (hC.made hk h16 htl.2 hT htl.1 (fun c _ => ⟨rfl, rfl, rfl⟩)) (j := 0) (fun c _ => ⟨rfl, rfl, rfl⟩), fun c _ => ⟨rfl, rfl, rfl⟩⟩
    unfold f_RR_automatonOf
    simp (disch := first | omega | rfl | assumption | exact jokr (by decide) (by omega) | exact jokr4 (by omega) | exact jkt_r _ _ | exact jkt_l (by decide) | exact jfk_l (by decide) | exact jkt_t _ | exact jkt_r6 _ _ | exact jkt_t6 _ | (simp only [jok, jlen]; omega) | decide) only [jm_k hL, jm_gi hL, jm_gr hL, jm_gl hL, jm_pi hL, jm_pl hL, jn_ai hL, jn_ab hL, jn_az hL, jn_al hL, jn_ar hL, jn_an hL, jn_si hL, jn_sb hL, jn_sz hL, jn_sl hL, Option.bind_some, xc, xl, jsA_X, jsI_X, jsG_X, hK _ _, jlk, jmx, t1, jlit, nI_eq, if_neg]
    try rfl
