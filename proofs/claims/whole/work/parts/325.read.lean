/-! READ, on both sides -/
def jgq (S T : jSt) : jSt := (T.1, T.2.1, S.2.2.1, T.2.2.2)
theorem jeqv.gl {P : jC → Prop} {S T : jSt} (h : ∀ c, P c → jgI T c = jgI S c ∧ jgA T c = jgA S c) (hn : jgN T = jgN S) : jeqv P S (jgq S T) := fun c hc => ⟨(h c hc).1, (h c hc).2, rfl, congrFun hn c⟩
theorem jRC.gl {L : jL} {S T : jSt} {A : jR} (h : jRC L S A) (e : ∀ c, jisR c → jgI T c = jgI S c ∧ jgA T c = jgA S c) (hn : jgN T = jgN S) : jRC L T A := (h.same (jeqv.gl e hn) : jRC L (jgq S T) A)
theorem jHC.gl {S T : jSt} {cn nw : Nat} {f : Nat → Nat × Nat × Nat} (h : jHC S cn nw f) (e : ∀ c, jisH c → jgI T c = jgI S c ∧ jgA T c = jgA S c) (hn : jgN T = jgN S) : jHC T cn nw f := (h.same (jeqv.gl e hn) : jHC (jgq S T) cn nw f)
theorem jLK.swapS {S : jSt} {sw ps wy : Nat} (h : jLK S sw ps wy) (hw : sw ≤ 1) : jLK (jsX (jsX S (jo 0) 6 (jo (17 - sw))) (jo 0) 7 (jo (16 + sw))) (1 - sw) ps wy := by
  intro c k
  rw [jsX_X, jsX_X]
  by_cases c7 : c = jo 0 ∧ k = 7
  · rw [if_pos c7, c7.1, c7.2]
    show jo (16 + sw) = jo (17 - (1 - sw))
    congr 1
    omega
  · rw [if_neg c7]
    by_cases c6 : c = jo 0 ∧ k = 6
    · rw [if_pos c6, c6.1, c6.2]
      show jo (17 - sw) = jo (16 + (1 - sw))
      congr 1
      omega
    · rw [if_neg c6, h c k]
      by_cases c0 : c = jo 0
      · subst c0
        rcases k with _ | _ | _ | _ | _ | _ | _ | _ | k
        · rfl
        · rfl
        · rfl
        · rfl
        · rfl
        · rfl
        · exact absurd ⟨rfl, rfl⟩ c6
        · exact absurd ⟨rfl, rfl⟩ c7
        · rfl
      · rcases c with q | ⟨t, p⟩ | ⟨j, q⟩ | j | q
        · have hq : q ≠ 0 := fun z => c0 (by rw [z])
          simp only [jlk]
          split <;> first | rfl | omega
        · rfl
        · rfl
        · rfl
        · rfl
theorem jLC.of {L : jL} {S T : jSt} {w : jLw} {sw : Nat} (h : jLC L S w sw) (n16 : jLw.n w ≤ 16) (e0 : jgI T (jo 0) 8 = jgI S (jo 0) 8) (e : ∀ k q, k < 16 → jgI T (jl (2 * k + sw) q) = jgI S (jl (2 * k + sw) q) ∧ jgA T (jl (2 * k + sw) q) = jgA S (jl (2 * k + sw) q)) (eT : ∀ j, jgA T (jt j) = jgA S (jt j)) (eN : jgN T = jgN S) : jLC L T w sw := by
  refine ⟨h.s1, by rw [e0]; exact h.n, fun k hk => ?_, fun k hk => ?_, fun k hk => ?_, fun k hk hp => ?_, fun k hk hp => ?_, fun k hk hp => ?_, fun k hk hp => ?_, fun k hk hp => ?_, fun k hk hp => ?_, fun k hk hp => ?_, fun k hk hp => ?_, fun k l hk hp hl => ?_, fun k u hk hp hu => ?_, fun k u hk hp hu => ?_, fun k hk hp => ?_, fun j hj => by rw [eN]; exact h.tl j hj⟩
  · rw [(e k 0 (by omega)).1]; exact h.so k hk
  · rw [(e k 0 (by omega)).1]; exact h.wt k hk
  · rw [(e k 0 (by omega)).1]; exact h.pl k hk
  · rw [(e k 0 (by omega)).1]; exact h.lo k hk hp
  · rw [(e k 0 (by omega)).1]; exact h.hi k hk hp
  · rw [(e k 0 (by omega)).1]; exact h.sp k hk hp
  · rw [(e k 0 (by omega)).1]; exact h.lt k hk hp
  · rw [(e k 1 (by omega)).1]; exact h.sz k hk hp
  · rw [(e k 1 (by omega)).1]; exact h.fi k hk hp
  · rw [(e k 1 (by omega)).1]; exact h.la k hk hp
  · rw [(e k 1 (by omega)).1]; exact h.no k hk hp
  · rw [(e k 2 (by omega)).2]; exact h.tk k l hk hp hl
  · rw [(e k 4 (by omega)).2]; exact h.al k u hk hp hu
  · rw [(e k 5 (by omega)).2]; exact h.au k u hk hp hu
  · rw [(e k 6 (by omega)).1, eT, eN]; exact h.au0 k hk hp
theorem jisRL_x {j : Nat} {c : jC} (h : (∃ q, c = jm q) ∨ (∃ t p, c = jr t p) ∨ (∃ i, c = jt i) ∨ (∃ i q, i ≠ j ∧ c = jl i q)) : ¬ jisRL j c := by
  rcases h with ⟨q, rfl⟩ | ⟨t, p, rfl⟩ | ⟨i, rfl⟩ | ⟨i, q, hi, rfl⟩ <;> intro z <;> rcases z with ((z | z) | z) | ((z | z | z | z | z | z | z) | z | z) | z <;> first | (cases z; omega) | cases z
theorem jIv.read {L : jL} {S S1 S2 : jSt} {A : jR} {w : jLw} {H : jH} {tp : Nat → Nat} {ts sw ps wy : Nat} (h : jIv L S A w H tp ts sw ps wy) {b n : Nat} {r : Nat × Nat × Nat} {Ds : Nat → jD} {w' : jLw} {sw' : Nat} (g1 : ∀ c, ¬ jisRT b c → c ≠ jo 1 → c ≠ jo 0 → jgI S1 c = jgI S c ∧ jgA S1 c = jgA S c) (gN : jgN S1 = jgN S) (g2 : jgI S1 (jo 1) 1 = nI 0) (g3 : jgI S1 (jo 29) 4 = if r.1 = 0 then -2 else nI r.2.1) (g4 : jgI S1 (jo 29) 2 = nI (jd L)) (hK1 : jLK S1 sw' ps wy) (m : jRM2 S1 S2 n r Ds) (hW : jLg L w') (hC : jLC L S2 w' sw') (hM : jLM S2 w') : jIv L S2 A w' H tp 0 sw' ps wy := by
  have nN : jgN S2 = jgN S := m.n.trans gN
  have nM : ∀ q, ¬ jisRT b (jm q) := fun q ⟨i, _, z⟩ => jisRL_x (Or.inl ⟨q, rfl⟩) z
  have no : ∀ q, q < 29 → ¬ jisRT b (jo q) := fun q hq ⟨i, _, z⟩ => jisRL_o hq z
  have m0 : jgI S1 (jm 0) = jgI S (jm 0) := (g1 _ (nM 0) (fun z => by cases z) (fun z => by cases z)).1
  have ma : ∀ q, jgA S1 (jm q) = jgA S (jm q) := fun q => (g1 _ (nM q) (fun z => by cases z) (fun z => by cases z)).2
  have oc : ∀ c, (∀ q, c ≠ jm q) → jgI S2 c = jgI S1 c ∧ jgA S2 c = jgA S1 c := fun c hc => ⟨m.i c (hc 0), m.a c (Or.inl (fun q _ _ => hc q))⟩
  have eR : ∀ c, jisR c → jgI S2 c = jgI S c ∧ jgA S2 c = jgA S c := fun c hc => by
    have hm : ∀ q, c ≠ jm q := fun q z => jisR_M hc ⟨q, z⟩
    have hg := g1 c (fun ⟨i, _, z⟩ => by
      rcases hc with ⟨q, q1, q2, rfl⟩ | ⟨t, p, rfl⟩
      · exact jisRL_o (by omega) z
      · exact jisRL_x (Or.inr (Or.inl ⟨t, p, rfl⟩)) z) (fun z => by
      rcases hc with ⟨q, q1, q2, rfl⟩ | ⟨t, p, rfl⟩
      · exact jone (by omega) z
      · cases z) (fun z => by
      rcases hc with ⟨q, q1, q2, rfl⟩ | ⟨t, p, rfl⟩
      · exact jone (by omega) z
      · cases z)
    exact ⟨(oc c hm).1.trans hg.1, (oc c hm).2.trans hg.2⟩
  have eH : ∀ c, jisH c → jgI S2 c = jgI S c ∧ jgA S2 c = jgA S c := fun c hc => by
    have hm : ∀ q, c ≠ jm q := fun q z => jisH_M hc ⟨q, z⟩
    obtain ⟨q, q1, q2, rfl⟩ := hc
    have hg := g1 (jo q) (no q (by omega)) (jone (by omega)) (jone (by omega))
    exact ⟨(oc _ hm).1.trans hg.1, (oc _ hm).2.trans hg.2⟩
  have ea : ∀ q, q < 10 ∨ q = 25 ∨ q = 26 → jgA S2 (jm q) = jgA S (jm q) := fun q hq => (m.a _ (by
    rcases hq with hq | rfl | rfl
    · exact Or.inl (fun q' h1 _ => jmne (by omega))
    · exact Or.inr (Or.inl rfl)
    · exact Or.inr (Or.inr rfl))).trans (ma q)
  have ek : ∀ q, (q < 34 ∧ q ≠ 20 ∧ q ≠ 11 ∧ q ≠ 12) → jgI S2 (jm 0) q = jgI S (jm 0) q := fun q hq => by rw [m.k q hq, m0]
  obtain ⟨nw, hHC⟩ := h.HC
  obtain ⟨fr, hHM⟩ := h.HM
  have o29 := (oc (jo 29) (fun q z => by cases z)).1
  refine ⟨h.D, h.A, hK1.of m.x, h.RC.gl eR nN, ⟨?_, ?_, ?_, ?_, ?_, ?_, ?_, ?_, ?_, ?_⟩, hW, hC, hM, h.H, ⟨nw, hHC.gl eH nN⟩, ⟨fr, ⟨?_, ?_, hHM.f2, ?_, ?_⟩⟩, h.p1, h.w1, ⟨Nat.zero_le _, h.T.b, ?_, fun i hi => by omega, m.t, fun i hi => by omega⟩, ?_, ?_, fun j hj => by rw [nN]; exact h.tn j hj⟩
  · rw [ek 0 (by omega)]; exact h.RM.n
  · rw [ek 1 (by omega)]; exact h.RM.d
  · rw [ea 1 (by omega)]; exact h.RM.cell
  · rw [ea 2 (by omega)]; exact h.RM.past
  · rw [ea 3 (by omega)]; exact h.RM.bg
  · rw [ea 4 (by omega)]; exact h.RM.ln
  · rw [ea 5 (by omega)]; exact h.RM.nd
  · rw [ea 6 (by omega)]; exact h.RM.sk
  · rw [ea 7 (by omega)]; exact h.RM.wl
  · rw [ea 8 (by omega)]; exact h.RM.ww
  · rw [ek 32 (by omega)]; exact hHM.k
  · rw [ek 31 (by omega)]; exact hHM.f
  · rw [ea 25 (by omega)]; exact hHM.c
  · rw [ea 26 (by omega)]; exact hHM.l
  · rw [(oc (jo 1) (fun q z => by cases z)).1]; exact g2
  · rw [o29, g3, m.p]
  · rw [o29]; exact g4
theorem jop_read {L : jL} (hL : jgood L) {ω : xS} {S : jSt} {A : jR} {w : jLw} {H : jH} {tp : Nat → Nat} {ts sw ps wy : Nat} (h : jIv L S A w H tp ts sw ps wy) : ∃ (r : Int32) (S1 S2 : jSt) (w' : jLw) (sw' : Nat), f_RR_read (jad L (jo 0)) (jW L ω S) = some (r, jW L ω S1) ∧ f_Mo_read (jad L (jm 0)) (jW L ω S1) = some (r, jW L ω S2) ∧ jIv L S2 A w' H tp 0 sw' ps wy ∧ jLw.tl w' = jLw.tl w := by
  have hd := h.D.d21
  have hs1 := h.LC.s1
  have hK := h.K
  have h16 := h.W.n16
  obtain ⟨Ds, n, r, hX⟩ := jTx.ex (tp := tp) (ts := ts) (jd L) h.T.s h.T.b 16 0 0 (Nat.zero_le _)
  obtain ⟨T, x, a1, a2, a3, a4⟩ := jRd_readLaws hL (ω := ω) h.K (b := 1 - sw) (by omega) (by omega) ⟨h.T.s, h.T.b, h.T.c, h.T.cb⟩ h.Dy hX
  have hKT := hK.of a2.1
  have nM : ∀ q, ¬ jisRT (1 - sw) (jm q) := fun q ⟨i, _, z⟩ => jisRL_x (Or.inl ⟨q, rfl⟩) z
  have no : ∀ q, q < 29 → ¬ jisRT (1 - sw) (jo q) := fun q hq ⟨i, _, z⟩ => jisRL_o hq z
  have r4 : ∀ (U : jSt), jLK U sw ps wy → xgr (jW L ω U) (jad L (jo 0)) 11 4 = some (jad L (jo 29)) := fun U hK => by simp (disch := first | omega | rfl | assumption | exact jokr (by decide) (by omega) | exact jokr4 (by omega) | exact jkt_r _ _ | exact jkt_l (by decide) | exact jfk_l (by decide) | exact jkt_t _ | exact jkt_r6 _ _ | exact jkt_t6 _ | (simp only [jok, jlen]; omega) | decide) only [jm_k hL, jm_gi hL, jm_gr hL, jm_gl hL, jm_pi hL, jm_pl hL, jn_ai hL, jn_ab hL, jn_az hL, jn_al hL, jn_ar hL, jn_an hL, jn_si hL, jn_sb hL, jn_sz hL, jn_sl hL, Option.bind_some, xc, xl, jsA_X, jsI_X, jsG_X, hK _ _, jlk, jmx]
  have r0 : ∀ (U : jSt), jLK U sw ps wy → xgr (jW L ω U) (jad L (jo 0)) 11 0 = some (jad L (jo 1)) := fun U hK => by simp (disch := first | omega | rfl | assumption | exact jokr (by decide) (by omega) | exact jokr4 (by omega) | exact jkt_r _ _ | exact jkt_l (by decide) | exact jfk_l (by decide) | exact jkt_t _ | exact jkt_r6 _ _ | exact jkt_t6 _ | (simp only [jok, jlen]; omega) | decide) only [jm_k hL, jm_gi hL, jm_gr hL, jm_gl hL, jm_pi hL, jm_pl hL, jn_ai hL, jn_ab hL, jn_az hL, jn_al hL, jn_ar hL, jn_an hL, jn_si hL, jn_sb hL, jn_sz hL, jn_sl hL, Option.bind_some, xc, xl, jsA_X, jsI_X, jsG_X, hK _ _, jlk, jmx]
  have r6 : ∀ (U : jSt), jLK U sw ps wy → xgr (jW L ω U) (jad L (jo 0)) 11 6 = some (jad L (jo (16 + sw))) := fun U hK => by simp (disch := first | omega | rfl | assumption | exact jokr (by decide) (by omega) | exact jokr4 (by omega) | exact jkt_r _ _ | exact jkt_l (by decide) | exact jfk_l (by decide) | exact jkt_t _ | exact jkt_r6 _ _ | exact jkt_t6 _ | (simp only [jok, jlen]; omega) | decide) only [jm_k hL, jm_gi hL, jm_gr hL, jm_gl hL, jm_pi hL, jm_pl hL, jn_ai hL, jn_ab hL, jn_az hL, jn_al hL, jn_ar hL, jn_an hL, jn_si hL, jn_sb hL, jn_sz hL, jn_sl hL, Option.bind_some, xc, xl, jsA_X, jsI_X, jsG_X, hK _ _, jlk, jmx]
  have r7 : ∀ (U : jSt), jLK U sw ps wy → xgr (jW L ω U) (jad L (jo 0)) 11 7 = some (jad L (jo (17 - sw))) := fun U hK => by simp (disch := first | omega | rfl | assumption | exact jokr (by decide) (by omega) | exact jokr4 (by omega) | exact jkt_r _ _ | exact jkt_l (by decide) | exact jfk_l (by decide) | exact jkt_t _ | exact jkt_r6 _ _ | exact jkt_t6 _ | (simp only [jok, jlen]; omega) | decide) only [jm_k hL, jm_gi hL, jm_gr hL, jm_gl hL, jm_pi hL, jm_pl hL, jn_ai hL, jn_ab hL, jn_az hL, jn_al hL, jn_ar hL, jn_an hL, jn_si hL, jn_sb hL, jn_sz hL, jn_sl hL, Option.bind_some, xc, xl, jsA_X, jsI_X, jsG_X, hK _ _, jlk, jmx]
  have p1 : xp (jW L ω T) (jad L (jo 1)) 9 1 (.int 0) = some (jW L ω (jsI T (jo 1) 1 0)) := by simp (disch := first | omega | rfl | assumption | exact jokr (by decide) (by omega) | exact jokr4 (by omega) | exact jkt_r _ _ | exact jkt_l (by decide) | exact jfk_l (by decide) | exact jkt_t _ | exact jkt_r6 _ _ | exact jkt_t6 _ | (simp only [jok, jlen]; omega) | decide) only [jm_pi hL]
  have e17 : 17 - sw = 16 + (1 - sw) := by omega
  have U29 : jgI (jsI T (jo 1) 1 0) (jo 29) = jgI T (jo 29) := jsI_fn (jone (by decide))
  have g29 : xgi (jW L ω (jsI T (jo 1) 1 0)) (jad L (jo 29)) 5 3 = some (nI r.1) := by
    have : jgI (jsI T (jo 1) 1 0) (jo 29) 3 = nI r.1 := by rw [U29]; exact a3.f
    simp (disch := first | omega | rfl | assumption | exact jokr (by decide) (by omega) | exact jokr4 (by omega) | exact jkt_r _ _ | exact jkt_l (by decide) | exact jfk_l (by decide) | exact jkt_t _ | exact jkt_r6 _ _ | exact jkt_t6 _ | (simp only [jok, jlen]; omega) | decide) only [jm_gi hL, this]
  have head : f_RR_read (jad L (jo 0)) (jW L ω S) = (if nI r.1 = 0 then ((xp (jW L ω (jsI T (jo 1) 1 0)) (jad L (jo 0)) 11 6 (.ref (jad L (jo (17 - sw))))).bind fun w13 => (xp w13 (jad L (jo 0)) 11 7 (.ref (jad L (jo (16 + sw))))).bind fun w14 => (xp w14 (jad L (jo 0)) 11 8 (.int x)).bind fun w15 => some (x, w15)) else some (-10 - nI r.1, jW L ω (jsI T (jo 1) 1 0))) := by
    have hKU : jLK (jsI T (jo 1) 1 0) sw ps wy := hKT
    unfold f_RR_read
    rw [r4 S hK, Option.bind_some, r7 S hK, Option.bind_some, jk29 hL, e17, a1]
    simp only [xc]
    rw [r0 T hKT, Option.bind_some, p1, Option.bind_some, r4 _ hKU, Option.bind_some, g29, Option.bind_some, r6 _ hKU, Option.bind_some, r7 _ hKU, Option.bind_some, Option.bind_some, g29, Option.bind_some, e17]
  have z4 : jgI T (jo 29) 4 = if r.1 = 0 then -2 else nI r.2.1 := by
    by_cases c : r.1 = 0
    · rw [if_pos c]; exact (a3.z c).1
    · rw [if_neg c]; exact a3.p c
  have gT : ∀ c, ¬ jisRT (1 - sw) c → jgI T c = jgI S c ∧ jgA T c = jgA S c := a2.2.2
  by_cases c : r.1 = 0
  · obtain ⟨x1, x2, x3⟩ := a4 c
    have q1 : ∀ (U : jSt) (k : Nat) (v : jC), k = 6 ∨ k = 7 → xp (jW L ω U) (jad L (jo 0)) 11 k (.ref (jad L v)) = some (jW L ω (jsX U (jo 0) k v)) := fun U k v hk => by
      rcases hk with rfl | rfl <;> simp (disch := first | omega | rfl | assumption | exact jokr (by decide) (by omega) | exact jokr4 (by omega) | exact jkt_r _ _ | exact jkt_l (by decide) | exact jfk_l (by decide) | exact jkt_t _ | exact jkt_r6 _ _ | exact jkt_t6 _ | (simp only [jok, jlen]; omega) | decide) only [jm_pr hL]
    have q8 : ∀ (U : jSt), xp (jW L ω U) (jad L (jo 0)) 11 8 (.int x) = some (jW L ω (jsI U (jo 0) 8 x)) := fun U => by simp (disch := first | omega | rfl | assumption | exact jokr (by decide) (by omega) | exact jokr4 (by omega) | exact jkt_r _ _ | exact jkt_l (by decide) | exact jfk_l (by decide) | exact jkt_t _ | exact jkt_r6 _ _ | exact jkt_t6 _ | (simp only [jok, jlen]; omega) | decide) only [jm_pi hL]
    have hK1 : jLK (jsI (jsX (jsX (jsI T (jo 1) 1 0) (jo 0) 6 (jo (17 - sw))) (jo 0) 7 (jo (16 + sw))) (jo 0) 8 x) (1 - sw) ps wy := jLK.swapS (S := jsI T (jo 1) 1 0) hKT hs1
    have hI : ∀ c, c ≠ jo 0 → jgI (jsI (jsX (jsX (jsI T (jo 1) 1 0) (jo 0) 6 (jo (17 - sw))) (jo 0) 7 (jo (16 + sw))) (jo 0) 8 x) c = jgI (jsI T (jo 1) 1 0) c := fun c hc => jsI_fn hc
    have h8 : jgI (jsI (jsX (jsX (jsI T (jo 1) 1 0) (jo 0) 6 (jo (17 - sw))) (jo 0) 7 (jo (16 + sw))) (jo 0) 8 x) (jo 0) 8 = x := by rw [jsI_c, if_pos rfl]
    have hA : jgA (jsI (jsX (jsX (jsI T (jo 1) 1 0) (jo 0) 6 (jo (17 - sw))) (jo 0) 7 (jo (16 + sw))) (jo 0) 8 x) = jgA T := rfl
    have hN : jgN (jsI (jsX (jsX (jsI T (jo 1) 1 0) (jo 0) 6 (jo (17 - sw))) (jo 0) 7 (jo (16 + sw))) (jo 0) 8 x) = jgN T := rfl
    have hrun : f_RR_read (jad L (jo 0)) (jW L ω S) = some (x, jW L ω (jsI (jsX (jsX (jsI T (jo 1) 1 0) (jo 0) 6 (jo (17 - sw))) (jo 0) 7 (jo (16 + sw))) (jo 0) 8 x)) := by
      rw [head, if_pos (show nI r.1 = (0 : Int32) by rw [c]; rfl), q1 _ 6 _ (Or.inl rfl), Option.bind_some, q1 _ 7 _ (Or.inr rfl), Option.bind_some, q8, Option.bind_some]
    generalize jsI (jsX (jsX (jsI T (jo 1) 1 0) (jo 0) 6 (jo (17 - sw))) (jo 0) 7 (jo (16 + sw))) (jo 0) 8 x = S1 at hK1 hI h8 hA hN hrun
    have g1 : ∀ c, ¬ jisRT (1 - sw) c → c ≠ jo 1 → c ≠ jo 0 → jgI S1 c = jgI S c ∧ jgA S1 c = jgA S c := fun c hc c1 c0 => ⟨by rw [hI c c0, jsI_fn c1]; exact (gT c hc).1, by rw [hA]; exact (gT c hc).2⟩
    have m0 : jgI S1 (jm 0) = jgI S (jm 0) := (g1 _ (nM 0) (fun z => by cases z) (fun z => by cases z)).1
    have m9 : jgA S1 (jm 9) = jgA S (jm 9) := (g1 _ (nM 9) (fun z => by cases z) (fun z => by cases z)).2
    obtain ⟨S2, b1, b2⟩ := jMr_read hL (ω := ω) hK1 (by omega) ⟨h.T.s, h.T.b, by rw [m0]; exact h.T.m, by rw [m9]; exact h.T.mb⟩ (by rw [m0]; exact h.RM.d) hX
    obtain ⟨y1, y2, y3⟩ := b2.y c
    have hq : ∀ k, ∃ q : Nat × (Nat → Nat) × (Nat → Nat), k < n → jD.so (Ds k) = 3 ∨ jD.so (Ds k) = 4 → jDP S2 k (jD.s (Ds k)) q.1 q.2.1 q.2.2 := fun k => by
      by_cases e : k < n ∧ (jD.so (Ds k) = 3 ∨ jD.so (Ds k) = 4)
      · obtain ⟨ns, nx, fe, p⟩ := (y3 k e.1).1.pq e.2
        exact ⟨(ns, nx, fe), fun _ _ => p⟩
      · exact ⟨(0, fun _ => 0, fun _ => 0), fun e1 e2 => absurd ⟨e1, e2⟩ e⟩
    obtain ⟨q, hq⟩ := Classical.axiomOfChoice hq
    have oc : ∀ c, (∀ q, c ≠ jm q) → jgI S2 c = jgI S1 c ∧ jgA S2 c = jgA S1 c := fun c hc => ⟨b2.i c (hc 0), b2.a c (Or.inl (fun q _ _ => hc q))⟩
    have ol : ∀ j q, jgI S2 (jl j q) = jgI T (jl j q) ∧ jgA S2 (jl j q) = jgA T (jl j q) := fun j q => by
      have e := oc (jl j q) (fun q z => by cases z)
      exact ⟨by rw [e.1, hI _ (fun z => by cases z), jsI_fn (fun z => by cases z)], by rw [e.2, hA]⟩
    have hDo := jTx.ok h.T.s c 16 0 0 (Nat.zero_le _) hX
    refine ⟨x, S1, S2, jLwN n Ds q (jLw.tl w), 1 - sw, hrun, ?_, h.read g1 (hN.trans a2.2.1) ?_ ?_ ?_ hK1 b2 (jLwN_g y2 (fun i hi => hDo i (Nat.zero_le _) hi) hq) (jLwN_C (by omega) ?_ ?_ ?_) (jLwN_M y1 y3 hq), rfl⟩
    · rw [b1, if_pos c, x1]
    · rw [hI _ (jone (by decide)), jsI_c, if_pos rfl]; rfl
    · rw [hI _ (jone (by decide)), U29]; exact z4
    · rw [hI _ (jone (by decide)), U29]; exact a3.d
    · rw [(oc (jo 0) (fun q z => by cases z)).1, h8]; exact x1
    · intro i hi
      have e := x3 i hi
      have o := ol (2 * i + (1 - sw))
      exact ⟨by rw [(o 0).1]; exact e.so, by rw [(o 0).1]; exact e.wt, by rw [(o 0).1]; exact e.pl, fun z => by rw [(o 0).1]; exact e.lo z, fun z => by rw [(o 0).1]; exact e.hi z, fun z => by rw [(o 0).1]; exact e.sp z, fun z => by rw [(o 0).1]; exact e.lt z, by rw [(o 6).1]; exact e.au, fun z => (e.pq z).of (o 1).1 (o 2).2 (o 4).2 (o 5).2⟩
    · intro j hj
      rw [b2.n, hN, a2.2.1]
      exact h.LC.tl j hj
  · have hKU : jLK (jsI T (jo 1) 1 0) sw ps wy := hKT
    have hrun : f_RR_read (jad L (jo 0)) (jW L ω S) = some (-10 - nI r.1, jW L ω (jsI T (jo 1) 1 0)) := by
      rw [head, if_neg (fun z => c ((jz0 _ a3.f4).mp z))]
    have hI : ∀ c, c ≠ jo 1 → jgI (jsI T (jo 1) 1 0) c = jgI T c := fun c hc => jsI_fn hc
    have h1 : jgI (jsI T (jo 1) 1 0) (jo 1) 1 = 0 := by rw [jsI_c, if_pos rfl]
    have hA : jgA (jsI T (jo 1) 1 0) = jgA T := rfl
    have hN : jgN (jsI T (jo 1) 1 0) = jgN T := rfl
    generalize jsI T (jo 1) 1 0 = S1 at hKU hrun hI h1 hA hN U29
    have g1 : ∀ c, ¬ jisRT (1 - sw) c → c ≠ jo 1 → c ≠ jo 0 → jgI S1 c = jgI S c ∧ jgA S1 c = jgA S c := fun c hc c1 c0 => ⟨by rw [hI c c1]; exact (gT c hc).1, by rw [hA]; exact (gT c hc).2⟩
    have m0 : jgI S1 (jm 0) = jgI S (jm 0) := (g1 _ (nM 0) (fun z => by cases z) (fun z => by cases z)).1
    have ma : ∀ q, jgA S1 (jm q) = jgA S (jm q) := fun q => (g1 _ (nM q) (fun z => by cases z) (fun z => by cases z)).2
    obtain ⟨S2, b1, b2⟩ := jMr_read hL (ω := ω) hKU (by omega) ⟨h.T.s, h.T.b, by rw [m0]; exact h.T.m, by rw [ma]; exact h.T.mb⟩ (by rw [m0]; exact h.RM.d) hX
    obtain ⟨y1, y2⟩ := b2.o c
    have oc : ∀ c, (∀ q, c ≠ jm q) → jgI S2 c = jgI S1 c ∧ jgA S2 c = jgA S1 c := fun c hc => ⟨b2.i c (hc 0), b2.a c (Or.inl (fun q _ _ => hc q))⟩
    have es : ∀ c, (∀ q, c ≠ jm q) → ¬ jisRT (1 - sw) c → c ≠ jo 1 → jgI S2 c = jgI S c ∧ jgA S2 c = jgA S c := fun c hc h2 h3 => ⟨by rw [(oc c hc).1, hI c h3]; exact (gT c h2).1, by rw [(oc c hc).2, hA]; exact (gT c h2).2⟩
    refine ⟨-10 - nI r.1, S1, S2, w, sw, hrun, ?_, h.read g1 (hN.trans a2.2.1) h1 ?_ ?_ hKU b2 h.W (h.LC.of h16 ?_ ?_ ?_ ?_) (h.LM.same ?_ ?_), rfl⟩
    · rw [b1, if_neg c]
    · rw [U29]; exact z4
    · rw [U29]; exact a3.d
    · rw [(es (jo 0) (fun q z => by cases z) (no 0 (by decide)) (jone (by decide))).1]
    · intro k q hk
      exact es _ (fun q z => by cases z) (fun ⟨i, _, z⟩ => jisRL_x (Or.inr (Or.inr (Or.inr ⟨2 * k + sw, q, by omega, rfl⟩))) z) (fun z => by cases z)
    · intro j
      exact (es _ (fun q z => by cases z) (fun ⟨i, _, z⟩ => jisRL_x (Or.inr (Or.inr (Or.inl ⟨j, rfl⟩))) z) (fun z => by cases z)).2
    · rw [b2.n, hN, a2.2.1]
    · rw [y1, m0]
    · intro q h1 h2
      rw [y2 q h1 (by omega), ma]
