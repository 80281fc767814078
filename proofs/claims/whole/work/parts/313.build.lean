/-! THE REFERENCE'S BUILD follows the machine -/
def jfB (k : Nat) (S T : jSt) : Prop := (jgX T = jgX S) ∧ (jgN T = jgN S) ∧ (∀ c, ¬ jisU c → c ≠ jm 17 → c ≠ jm 18 → jgA T c = jgA S c) ∧ (∀ i, i < 10 * k ∨ 10 * k + 10 ≤ i → jgA T (jm 17) i = jgA S (jm 17) i) ∧ (∀ i, i < 11 * k ∨ 11 * k + 11 ≤ i → jgA T (jm 18) i = jgA S (jm 18) i) ∧ (∀ c, c ≠ jm 0 → jgI T c = jgI S c) ∧ (∀ q, q ≠ 39 ∧ q ≠ 40 ∧ q ≠ 42 ∧ q ≠ 43 → jgI T (jm 0) q = jgI S (jm 0) q)
theorem jfB.x {k : Nat} {S T : jSt} (h : jfB k S T) : jgX T = jgX S := h.1
theorem jfB.n {k : Nat} {S T : jSt} (h : jfB k S T) : jgN T = jgN S := h.2.1
theorem jfB.a {k : Nat} {S T : jSt} (h : jfB k S T) : ∀ c, ¬ jisU c → c ≠ jm 17 → c ≠ jm 18 → jgA T c = jgA S c := h.2.2.1
theorem jfB.l {k : Nat} {S T : jSt} (h : jfB k S T) : ∀ i, i < 10 * k ∨ 10 * k + 10 ≤ i → jgA T (jm 17) i = jgA S (jm 17) i := h.2.2.2.1
theorem jfB.w {k : Nat} {S T : jSt} (h : jfB k S T) : ∀ i, i < 11 * k ∨ 11 * k + 11 ≤ i → jgA T (jm 18) i = jgA S (jm 18) i := h.2.2.2.2.1
theorem jfB.i {k : Nat} {S T : jSt} (h : jfB k S T) : ∀ c, c ≠ jm 0 → jgI T c = jgI S c := h.2.2.2.2.2.1
theorem jfB.k {k : Nat} {S T : jSt} (h : jfB k S T) : ∀ q, q ≠ 39 ∧ q ≠ 40 ∧ q ≠ 42 ∧ q ≠ 43 → jgI T (jm 0) q = jgI S (jm 0) q := h.2.2.2.2.2.2
theorem jfB.refl (k : Nat) (S : jSt) : jfB k S S := ⟨rfl, rfl, fun _ _ _ _ => rfl, fun _ _ => rfl, fun _ _ => rfl, fun _ _ => rfl, fun _ _ => rfl⟩
theorem jfB.trans {k : Nat} {S T U : jSt} (h : jfB k S T) (h' : jfB k T U) : jfB k S U := ⟨h'.x.trans h.x, h'.n.trans h.n, fun c h1 h2 h3 => (h'.a c h1 h2 h3).trans (h.a c h1 h2 h3), fun i hi => (h'.l i hi).trans (h.l i hi), fun i hi => (h'.w i hi).trans (h.w i hi), fun c hc => (h'.i c hc).trans (h.i c hc), fun q hq => (h'.k q hq).trans (h.k q hq)⟩
theorem jfB.sI (k : Nat) (S : jSt) {q : Nat} (v : Int32) (h : q = 39 ∨ q = 40 ∨ q = 42 ∨ q = 43) : jfB k S (jsI S (jm 0) q v) := ⟨rfl, rfl, fun _ _ _ _ => rfl, fun _ _ => rfl, fun _ _ => rfl, fun c hc => jsI_fn hc, fun q' hq => by rw [jsI_c, if_neg (by omega)]⟩
theorem jfB.sA (k : Nat) (S : jSt) {q : Nat} (i : Nat) (v : Int32) (h : 27 ≤ q) (h' : q ≤ 37) : jfB k S (jsA S (jm q) i v) := ⟨rfl, rfl, fun c hc _ _ => jsA_fn (fun z => hc (z ▸ jisU_y h h')), fun i' _ => by rw [jsA_ne (jmne (by omega))], fun i' _ => by rw [jsA_ne (jmne (by omega))], fun _ _ => rfl, fun _ _ => rfl⟩
theorem jfB.sG (k : Nat) (S : jSt) (c : jC) (i : Nat) (v : Int64) : jfB k S (jsG S c i v) := ⟨rfl, rfl, fun _ _ _ _ => rfl, fun _ _ => rfl, fun _ _ => rfl, fun _ _ => rfl, fun _ _ => rfl⟩
theorem jfB.sl (k : Nat) (S : jSt) {i : Nat} (v : Int32) (h : 10 * k ≤ i ∧ i < 10 * k + 10) : jfB k S (jsA S (jm 17) i v) := ⟨rfl, rfl, fun c _ h17 _ => jsA_fn h17, fun i' hi => by rw [jsA_c, if_neg (by omega)], fun i' _ => by rw [jsA_ne (jmne (by decide))], fun _ _ => rfl, fun _ _ => rfl⟩
theorem jfB.sw (k : Nat) (S : jSt) {i : Nat} (v : Int32) (h : 11 * k ≤ i ∧ i < 11 * k + 11) : jfB k S (jsA S (jm 18) i v) := ⟨rfl, rfl, fun c _ _ h18 => jsA_fn h18, fun i' _ => by rw [jsA_ne (jmne (by decide))], fun i' hi => by rw [jsA_c, if_neg (by omega)], fun _ _ => rfl, fun _ _ => rfl⟩
theorem jfP.B {k : Nat} {S T : jSt} (h : jfP S T) : jfB k S T := ⟨h.x, h.n, fun c _ _ _ => by rw [h.a], fun i _ => by rw [h.a], fun i _ => by rw [h.a], h.i, fun q hq => h.k q (by omega)⟩
theorem jTm.fB {k : Nat} {S T : jSt} {tp : Nat → Nat} {ts : Nat} (h : jTm S tp ts) (e : jfB k S T) : jTm T tp ts := ⟨h.s, h.b, by rw [e.k 11 (by omega)]; exact h.m, fun i hi => by rw [e.a _ (jisU_n (by omega)) (jmne (by decide)) (jmne (by decide))]; exact h.mb i hi⟩
def jBs (T : jSt) (k : Nat) (s : jPs) (x : Nat) : Prop := (jgI T (jm 0) 42 = nI x) ∧ (jgI T (jm 0) 43 = nI (jPs.sz s)) ∧ (jgI T (jm 0) 44 = nI k) ∧ (jgI T (jm 0) 39 = nI 0) ∧ (∀ p, p < jPs.sz s → jgA T (jm 17) (10 * k + p) = nI (jPs.ls s p)) ∧ (∀ p, p < 10 → jgA T (jm 18) (11 * k + p) = nI (jPs.fo s p)) ∧ (∀ e, e ≤ jPs.d s → (jgA T (jm 34) e = nI 0 ∧ jPs.en s e = (0, 0, 0)) ∨ (jgA T (jm 34) e = nI 1 ∧ jgG T (jm 31) e = lN (jeln (jPs.en s e)))) ∧ (∀ e, e ≤ jPs.d s → (jgA T (jm 35) e = nI 0 ∧ jPs.ro s e = (0, 0, 1)) ∨ (jgA T (jm 35) e = nI 1 ∧ jgG T (jm 32) e = lN (jeln (jPs.ro s e)))) ∧ (jgA T (jm 30) (jPs.d s) = nI (jPs.hs s)) ∧ (jPs.hs s = 1 → jgG T (jm 33) (jPs.d s) = lN (jeln (jPs.it s)) ∧ jgA T (jm 36) (jPs.d s) = nI (jPs.ib s)) ∧ (∀ e, e ≤ jPs.d s → jgA T (jm 37) e = nI (jPs.gf s e))
theorem jBs.x {T : jSt} {k : Nat} {s : jPs} {x : Nat} (h : jBs T k s x) : jgI T (jm 0) 42 = nI x := h.1
theorem jBs.u {T : jSt} {k : Nat} {s : jPs} {x : Nat} (h : jBs T k s x) : jgI T (jm 0) 43 = nI (jPs.sz s) := h.2.1
theorem jBs.w {T : jSt} {k : Nat} {s : jPs} {x : Nat} (h : jBs T k s x) : jgI T (jm 0) 44 = nI k := h.2.2.1
theorem jBs.f {T : jSt} {k : Nat} {s : jPs} {x : Nat} (h : jBs T k s x) : jgI T (jm 0) 39 = nI 0 := h.2.2.2.1
theorem jBs.ls {T : jSt} {k : Nat} {s : jPs} {x : Nat} (h : jBs T k s x) : ∀ p, p < jPs.sz s → jgA T (jm 17) (10 * k + p) = nI (jPs.ls s p) := h.2.2.2.2.1
theorem jBs.fo {T : jSt} {k : Nat} {s : jPs} {x : Nat} (h : jBs T k s x) : ∀ p, p < 10 → jgA T (jm 18) (11 * k + p) = nI (jPs.fo s p) := h.2.2.2.2.2.1
theorem jBs.en {T : jSt} {k : Nat} {s : jPs} {x : Nat} (h : jBs T k s x) : ∀ e, e ≤ jPs.d s → (jgA T (jm 34) e = nI 0 ∧ jPs.en s e = (0, 0, 0)) ∨ (jgA T (jm 34) e = nI 1 ∧ jgG T (jm 31) e = lN (jeln (jPs.en s e))) := h.2.2.2.2.2.2.1
theorem jBs.ro {T : jSt} {k : Nat} {s : jPs} {x : Nat} (h : jBs T k s x) : ∀ e, e ≤ jPs.d s → (jgA T (jm 35) e = nI 0 ∧ jPs.ro s e = (0, 0, 1)) ∨ (jgA T (jm 35) e = nI 1 ∧ jgG T (jm 32) e = lN (jeln (jPs.ro s e))) := h.2.2.2.2.2.2.2.1
theorem jBs.h {T : jSt} {k : Nat} {s : jPs} {x : Nat} (h : jBs T k s x) : jgA T (jm 30) (jPs.d s) = nI (jPs.hs s) := h.2.2.2.2.2.2.2.2.1
theorem jBs.it {T : jSt} {k : Nat} {s : jPs} {x : Nat} (h : jBs T k s x) : jPs.hs s = 1 → jgG T (jm 33) (jPs.d s) = lN (jeln (jPs.it s)) ∧ jgA T (jm 36) (jPs.d s) = nI (jPs.ib s) := h.2.2.2.2.2.2.2.2.2.1
theorem jBs.gf {T : jSt} {k : Nat} {s : jPs} {x : Nat} (h : jBs T k s x) : ∀ e, e ≤ jPs.d s → jgA T (jm 37) e = nI (jPs.gf s e) := h.2.2.2.2.2.2.2.2.2.2
/-- the item put to its row -/
def jpT (s : jPs) : jPs := (jPs.d s, 0, 0, jPs.en s, jsR s, jPs.it s, jPs.ib s, jPs.gf s, jPs.sz s, jPs.ls s, jsF s)
theorem jpT_ok {s : jPs} (h : jPi s) : jPi (jpT s) := by
  have k := h.kp
  exact ⟨Nat.zero_le _, Nat.zero_le _, h.g0, h.m, h.t, h.en, k.ro, fun z => absurd z (by show ¬ (0 = 1); decide), k.fz, k.fu, k.fl, fun z => absurd z (by show ¬ (0 = 1); decide), h.ls, h.ln, k.ar, fun z => absurd z (by show ¬ (0 = 1); decide)⟩
theorem jfol_M {T : jSt} {k : Nat} {s : jPs} (hfo : ∀ p, p < 10 → jgA T (jm 18) (11 * k + p) = nI (jPs.fo s p)) {x y : jG} {p : Nat} (hp : p < 10) : (if 11 * k ≤ 11 * k + p ∧ 11 * k + p < 11 * k + 10 ∧ x.2.1.testBit (11 * k + p - 11 * k) = true then jgA T (jm 18) (11 * k + p) ||| nI y.1 else jgA T (jm 18) (11 * k + p)) = nI (jfwx (jPs.fo s) x y p) := by
  rw [hfo p hp, Nat.add_sub_cancel_left]
  unfold jfwx
  by_cases c : x.2.1.testBit p = true
  · rw [if_pos ⟨by omega, by omega, c⟩, if_pos c, jorA]
  · rw [if_neg (fun z => c z.2.2), if_neg c]
theorem jMb_settle {L : jL} (hL : jgood L) {ω : xS} {S : jSt} {sw ps wy : Nat} (hK : jLK S sw ps wy) {k x : Nat} {s : jPs} (hk : k < 16) (hi : jPi s) (hz : jPs.sz s ≤ 10) (hd : jPs.d s ≤ 40) (h : jBs S k s x) : ∃ T, f_Mo_settle (jad L (jm 0)) (nI (jPs.d s)) (jW L ω S) = some (jW L ω T) ∧ jfB k S T ∧ jBs T k (jpT s) x ∧ (jPs.hs s = 1 → jgA T (jm 35) (jPs.d s) = nI 1 ∧ jgG T (jm 32) (jPs.d s) = lN (jeln (jsR s (jPs.d s)))) := by
  have hh := hi.h1
  have hhs := h.h
  unfold f_Mo_settle
  by_cases h0 : jPs.hs s = 0
  · rw [h0] at hhs
    refine ⟨S, ?_, jfB.refl _ _, ?_, fun z => by omega⟩
    · simp (disch := first | omega | rfl | assumption | exact jokr (by decide) (by omega) | exact jokr4 (by omega) | exact jkt_r _ _ | exact jkt_l (by decide) | exact jfk_l (by decide) | exact jkt_t _ | exact jkt_r6 _ _ | exact jkt_t6 _ | (simp only [jok, jlen]; omega) | decide) only [jm_k hL, jm_gi hL, jm_gr hL, jm_gl hL, jm_pi hL, jm_pl hL, jn_ai hL, jn_ab hL, jn_az hL, jn_al hL, jn_ar hL, jn_an hL, jn_si hL, jn_sb hL, jn_sz hL, jn_sl hL, Option.bind_some, xc, xl, jsA_X, jsI_X, jsG_X, hK _ _, jlk, jmx, jlit, hhs, if_true]
    · have e1 : jsR s = jPs.ro s := by unfold jsR; rw [if_neg (by omega)]
      have e2 : jsF s = jPs.fo s := by unfold jsF; rw [if_neg (by omega)]
      refine ⟨h.x, h.u, h.w, h.f, h.ls, ?_, h.en, ?_, ?_, fun z => absurd z (by show ¬ (0 = 1); decide), h.gf⟩
      · show ∀ p, p < 10 → jgA S (jm 18) (11 * k + p) = nI (jsF s p)
        rw [e2]; exact h.fo
      · show ∀ e, e ≤ jPs.d s → (jgA S (jm 35) e = nI 0 ∧ jsR s e = (0, 0, 1)) ∨ (jgA S (jm 35) e = nI 1 ∧ jgG S (jm 32) e = lN (jeln (jsR s e)))
        rw [e1]; exact h.ro
      · exact hhs
  · have h1 : jPs.hs s = 1 := by omega
    rw [h1] at hhs
    obtain ⟨it1, it2⟩ := h.it h1
    have hgi := (hi.it h1).2.2.good hz
    have hgr := (hi.ro (jPs.d s) (Nat.le_refl _)).good hz
    have hn1 : vp_nar .boolean (nI 1) = nI 1 := jnab (Nat.le_refl _)
    have hn0 : vp_nar .boolean (nI 0) = nI 0 := jnab (Nat.zero_le _)
    have e1 : jsR s = fun e => if e = jPs.d s then jcg (jPs.ro s (jPs.d s)) (jPs.it s) else jPs.ro s e := by unfold jsR; rw [if_pos h1]
    have e2 : jsF s = jfwx (jPs.fo s) (jPs.ro s (jPs.d s)) (jPs.it s) := by unfold jsF; rw [if_pos h1]
    -- the three writes at the end
    have fin : ∀ (U : jSt) (g : jG), jLK U sw ps wy → jfB k S U → jgI U = jgI S → (∀ q, q ≠ 18 → jgA U (jm q) = jgA S (jm q)) → (∀ p, p < 10 → jgA U (jm 18) (11 * k + p) = nI (jsF s p)) → (∀ c, jgG U c = jgG S c) → g = jsR s (jPs.d s) → ∃ T, T = jsA (jsA (jsG U (jm 32) (jPs.d s) (lN (jeln g))) (jm 35) (jPs.d s) (nI 1)) (jm 30) (jPs.d s) (nI 0) ∧ jfB k S T ∧ jBs T k (jpT s) x ∧ (jPs.hs s = 1 → jgA T (jm 35) (jPs.d s) = nI 1 ∧ jgG T (jm 32) (jPs.d s) = lN (jeln (jsR s (jPs.d s)))) := by
      intro U g hKU hU hI hA hF hG hg
      refine ⟨_, rfl, ((hU.trans (jfB.sG _ _ _ _ _)).trans (jfB.sA _ _ _ _ (by omega) (by omega))).trans (jfB.sA _ _ _ _ (by omega) (by omega)), ⟨?_, ?_, ?_, ?_, fun p hp => ?_, fun p hp => ?_, fun e he => ?_, fun e he => ?_, ?_, fun z => absurd z (by show ¬ (0 = 1); decide), fun e he => ?_⟩, fun _ => ⟨?_, ?_⟩⟩
      · rw [jsA_I, jsA_I, jsG_I, hI]; exact h.x
      · rw [jsA_I, jsA_I, jsG_I, hI]; exact h.u
      · rw [jsA_I, jsA_I, jsG_I, hI]; exact h.w
      · rw [jsA_I, jsA_I, jsG_I, hI]; exact h.f
      · rw [jsA_ne (jmne (by decide)), jsA_ne (jmne (by decide)), jsG_A, hA _ (by decide)]; exact h.ls p hp
      · rw [jsA_ne (jmne (by decide)), jsA_ne (jmne (by decide)), jsG_A]; exact hF p hp
      · rw [jsA_ne (jmne (by decide)), jsA_ne (jmne (by decide)), jsG_A, hA _ (by decide), jsA_G, jsA_G, jsG_o (jmne (by decide)), hG]; exact h.en e he
      · rw [jsA_ne (jmne (by decide)), jsA_c, jsG_A, hA _ (by decide), jsA_G, jsA_G, jsG_c, hG]
        by_cases c : e = jPs.d s
        · right
          rw [if_pos c, if_pos c, hg, c]
          exact ⟨rfl, rfl⟩
        · rw [if_neg c, if_neg c]
          have q := h.ro e he
          have : jPs.ro (jpT s) e = jPs.ro s e := by
            show jsR s e = jPs.ro s e
            rw [e1]; exact if_neg c
          rw [this]; exact q
      · show jgA _ (jm 30) (jPs.d s) = nI 0
        rw [jsA_c, if_pos rfl]
      · rw [jsA_ne (jmne (by decide)), jsA_ne (jmne (by decide)), jsG_A, hA _ (by decide)]; exact h.gf e he
      · rw [jsA_ne (jmne (by decide)), jsA_c, if_pos rfl]
      · rw [jsA_G, jsA_G, jsG_c, if_pos rfl, hg]
    rcases h.ro (jPs.d s) (Nat.le_refl _) with ⟨r0, r1⟩ | ⟨r0, r1⟩
    · have hg : jPs.it s = jsR s (jPs.d s) := by
        rw [e1]
        show jPs.it s = if jPs.d s = jPs.d s then jcg (jPs.ro s (jPs.d s)) (jPs.it s) else jPs.ro s (jPs.d s)
        rw [if_pos rfl, r1, jcg_none _ hgi.e]
      obtain ⟨T, t1, t2, t3, t4⟩ := fin S (jPs.it s) hK (jfB.refl _ _) rfl (fun _ _ => rfl) (fun p hp => by
        rw [e2, h.fo p hp]
        unfold jfwx
        rw [r1, if_neg (fun z => by rw [Nat.zero_testBit] at z; cases z)]) (fun _ => rfl) hg
      refine ⟨T, ?_, t2, t3, t4⟩
      rw [t1]
      simp (disch := first | omega | rfl | assumption | exact jokr (by decide) (by omega) | exact jokr4 (by omega) | exact jkt_r _ _ | exact jkt_l (by decide) | exact jfk_l (by decide) | exact jkt_t _ | exact jkt_r6 _ _ | exact jkt_t6 _ | (simp only [jok, jlen]; omega) | decide) only [jm_k hL, jm_gi hL, jm_gr hL, jm_gl hL, jm_pi hL, jm_pl hL, jn_ai hL, jn_ab hL, jn_az hL, jn_al hL, jn_ar hL, jn_an hL, jn_si hL, jn_sb hL, jn_sz hL, jn_sl hL, Option.bind_some, xc, xl, jsA_X, jsI_X, jsG_X, hK _ _, jlk, jmx, jlit, nI_eq, if_neg, if_true, hhs, r0, it1, hn1, hn0]
    · obtain ⟨T1, a1, a2, aG, a3⟩ := jMb_behind hL (ω := ω) hK hk hgr hgi h.w
      have hK1 := hK.of a2.2.2.1
      have hg : jcg (jPs.ro s (jPs.d s)) (jPs.it s) = jsR s (jPs.d s) := by
        rw [e1]
        show _ = if jPs.d s = jPs.d s then jcg (jPs.ro s (jPs.d s)) (jPs.it s) else jPs.ro s (jPs.d s)
        rw [if_pos rfl]
      have nq : ∀ q, q ≠ 18 → jgA T1 (jm q) = jgA S (jm q) := fun q hq => a2.2.2.2 _ (fun z => jmne hq z)
      have fB : jfB k S T1 := ⟨a2.2.2.1, a2.2.1, fun c _ _ h18 => a2.2.2.2 c h18, fun i _ => by rw [nq _ (by decide)], fun i hi => by rw [a3, if_neg (by omega)], fun c _ => by rw [a2.1], fun q _ => by rw [a2.1]⟩
      obtain ⟨T, t1, t2, t3, t4⟩ := fin T1 _ hK1 fB a2.1 nq (fun p hp => by rw [e2, a3]; exact jfol_M h.fo hp) (fun c => by rw [aG]) hg
      refine ⟨T, ?_, t2, t3, t4⟩
      rw [t1]
      have g1 : jgA S (jm 35) (jPs.d s) = nI 1 := r0
      simp (disch := first | omega | rfl | assumption | exact jokr (by decide) (by omega) | exact jokr4 (by omega) | exact jkt_r _ _ | exact jkt_l (by decide) | exact jfk_l (by decide) | exact jkt_t _ | exact jkt_r6 _ _ | exact jkt_t6 _ | (simp only [jok, jlen]; omega) | decide) only [jm_k hL, jm_gi hL, jm_gr hL, jm_gl hL, jm_pi hL, jm_pl hL, jn_ai hL, jn_ab hL, jn_az hL, jn_al hL, jn_ar hL, jn_an hL, jn_si hL, jn_sb hL, jn_sz hL, jn_sl hL, Option.bind_some, xc, xl, jsA_X, jsI_X, jsG_X, hK _ _, jlk, jmx, jlit, nI_eq, if_neg, hhs, r0, r1, it1]
      rw [a1]
      have hK := hK1
      simp (disch := first | omega | rfl | assumption | exact jokr (by decide) (by omega) | exact jokr4 (by omega) | exact jkt_r _ _ | exact jkt_l (by decide) | exact jfk_l (by decide) | exact jkt_t _ | exact jkt_r6 _ _ | exact jkt_t6 _ | (simp only [jok, jlen]; omega) | decide) only [jm_k hL, jm_gi hL, jm_gr hL, jm_gl hL, jm_pi hL, jm_pl hL, jn_ai hL, jn_ab hL, jn_az hL, jn_al hL, jn_ar hL, jn_an hL, jn_si hL, jn_sb hL, jn_sz hL, jn_sl hL, Option.bind_some, xc, xl, jsA_X, jsI_X, jsG_X, hK _ _, jlk, jmx, xc, hn1, hn0]
theorem jug_none (y : jG) : jug (0, 0, 0) y = y := by
  show (0 ||| y.1, 0 ||| y.2.1, 0 ||| y.2.2) = y
  rw [Nat.zero_or, Nat.zero_or, Nat.zero_or]
theorem jMb_fin1 {S T1 : jSt} {k x : Nat} {s : jPs} (h1 : jPs.hs s = 1) (a2 : jfB k S T1) (a3 : jBs T1 k (jpT s) x) : jfB k S (jsA (jsA (jsG T1 (jm 31) (jPs.d s) (lN (jeln (jpU s)))) (jm 34) (jPs.d s) (nI 1)) (jm 35) (jPs.d s) (nI 0)) ∧ jBs (jsA (jsA (jsG T1 (jm 31) (jPs.d s) (lN (jeln (jpU s)))) (jm 34) (jPs.d s) (nI 1)) (jm 35) (jPs.d s) (nI 0)) k (jpB s) x ∧ jgG (jsA (jsA (jsG T1 (jm 31) (jPs.d s) (lN (jeln (jpU s)))) (jm 34) (jPs.d s) (nI 1)) (jm 35) (jPs.d s) (nI 0)) (jm 31) (jPs.d s) = lN (jeln (jpU s)) := by
  have eF : jsF s = jpF s := by unfold jsF jpF; rw [if_pos h1]
  refine ⟨((a2.trans (jfB.sG _ _ _ _ _)).trans (jfB.sA _ _ _ _ (by omega) (by omega))).trans (jfB.sA _ _ _ _ (by omega) (by omega)), ⟨a3.x, a3.u, a3.w, a3.f, fun p hp => ?_, fun p hp => ?_, fun e he => ?_, fun e he => ?_, ?_, fun z => absurd z (by show ¬ (0 = 1); decide), fun e he => ?_⟩, ?_⟩
  · rw [jsA_ne (jmne (by decide)), jsA_ne (jmne (by decide)), jsG_A]; exact a3.ls p hp
  · rw [jsA_ne (jmne (by decide)), jsA_ne (jmne (by decide)), jsG_A]
    show _ = nI (jpF s p)
    rw [← eF]; exact a3.fo p hp
  · rw [jsA_ne (jmne (by decide)), jsA_c, jsG_A, jsA_G, jsA_G, jsG_c]
    show _ ∨ (_ ∧ _ = lN (jeln (if e = jPs.d s then jpU s else jPs.en s e)))
    by_cases c : e = jPs.d s
    · right
      rw [if_pos c, if_pos c, if_pos c]
      exact ⟨rfl, rfl⟩
    · rw [if_neg c, if_neg c, if_neg c]
      have q := a3.en e he
      show (_ ∧ (if e = jPs.d s then jpU s else jPs.en s e) = (0, 0, 0)) ∨ _
      rw [if_neg c]; exact q
  · rw [jsA_c, jsA_ne (jmne (by decide)), jsG_A, jsA_G, jsA_G, jsG_o (jmne (by decide))]
    show (_ ∧ (if e = jPs.d s then (0, 0, 1) else jPs.ro s e) = (0, 0, 1)) ∨ (_ ∧ _ = lN (jeln (if e = jPs.d s then (0, 0, 1) else jPs.ro s e)))
    by_cases c : e = jPs.d s
    · left
      rw [if_pos c, if_pos c]
      exact ⟨rfl, rfl⟩
    · rw [if_neg c, if_neg c]
      have q := a3.ro e he
      have : jPs.ro (jpT s) e = jPs.ro s e := by
        show jsR s e = jPs.ro s e
        unfold jsR
        rw [if_pos h1]
        exact if_neg c
      rw [this] at q
      exact q
  · show jgA _ (jm 30) (jPs.d s) = nI 0
    rw [jsA_ne (jmne (by decide)), jsA_ne (jmne (by decide)), jsG_A]; exact a3.h
  · rw [jsA_ne (jmne (by decide)), jsA_ne (jmne (by decide)), jsG_A]; exact a3.gf e he
  · rw [jsA_G, jsA_G, jsG_c, if_pos rfl]
theorem jMb_f69 {L : jL} (hL : jgood L) {ω : xS} {S : jSt} {sw ps wy : Nat} (hK : jLK S sw ps wy) {f l d : Nat} (hf : f < 1024) (hl : l < 1024) (hd : d ≤ 40) : f_Mo_finish_69 (jad L (jm 0)) (nI d) (nI l) (nI f) (nI d) (jad L (jm 31)) (jW L ω S) = some (jW L ω (jsA (jsA (jsG S (jm 31) d (lN (jeln (f, l, 1)))) (jm 34) d (nI 1)) (jm 35) d (nI 0))) := by
  have hn1 : vp_nar .boolean (nI 1) = nI 1 := jnab (Nat.le_refl _)
  have hn0 : vp_nar .boolean (nI 0) = nI 0 := jnab (Nat.zero_le _)
  have p1 := jpart hf hl (Nat.le_refl 1) (ω := jW L ω S)
  generalize jeln (f, l, 1) = v at p1 ⊢
  unfold f_Mo_finish_69
  simp (disch := first | omega | rfl | assumption | exact jokr (by decide) (by omega) | exact jokr4 (by omega) | exact jkt_r _ _ | exact jkt_l (by decide) | exact jfk_l (by decide) | exact jkt_t _ | exact jkt_r6 _ _ | exact jkt_t6 _ | (simp only [jok, jlen]; omega) | decide) only [jm_k hL, jm_gi hL, jm_gr hL, jm_gl hL, jm_pi hL, jm_pl hL, jn_ai hL, jn_ab hL, jn_az hL, jn_al hL, jn_ar hL, jn_an hL, jn_si hL, jn_sb hL, jn_sz hL, jn_sl hL, Option.bind_some, xc, xl, jsA_X, jsI_X, jsG_X, hK _ _, jlk, jmx, jlit, p1, hn1, hn0]
theorem jMb_fin2a {L : jL} (hL : jgood L) {ω : xS} {S : jSt} {sw ps wy : Nat} (hK : jLK S sw ps wy) {Y : jG} {d : Nat} {S0 : jSt} (hd : d ≤ 40) (a1 : f_Mo_settle (jad L (jm 0)) (nI d) (jW L ω S0) = some (jW L ω S)) (r2 : jgG S (jm 32) d = lN (jeln Y)) (q0 : jgA S (jm 34) d = nI 0) : f_Mo_finish (jad L (jm 0)) (nI d) (jW L ω S0) = some (jW L ω (jsA (jsA (jsG S (jm 31) d (lN (jeln Y))) (jm 34) d (nI 1)) (jm 35) d (nI 0))) := by
  have hn1 : vp_nar .boolean (nI 1) = nI 1 := jnab (Nat.le_refl _)
  have hn0 : vp_nar .boolean (nI 0) = nI 0 := jnab (Nat.zero_le _)
  unfold f_Mo_finish
  rw [jkm hL, a1, Option.bind_some]
  generalize jeln Y = v at r2 ⊢
  simp (disch := first | omega | rfl | assumption | exact jokr (by decide) (by omega) | exact jokr4 (by omega) | exact jkt_r _ _ | exact jkt_l (by decide) | exact jfk_l (by decide) | exact jkt_t _ | exact jkt_r6 _ _ | exact jkt_t6 _ | (simp only [jok, jlen]; omega) | decide) only [jm_k hL, jm_gi hL, jm_gr hL, jm_gl hL, jm_pi hL, jm_pl hL, jn_ai hL, jn_ab hL, jn_az hL, jn_al hL, jn_ar hL, jn_an hL, jn_si hL, jn_sb hL, jn_sz hL, jn_sl hL, Option.bind_some, xc, xl, jsA_X, jsI_X, jsG_X, hK _ _, jlk, jmx, jlit, if_true, r2, q0, hn1, hn0]
theorem jMb_fin2b {L : jL} (hL : jgood L) {ω : xS} {S : jSt} {sw ps wy : Nat} (hK : jLK S sw ps wy) {E Y : jG} {d : Nat} {S0 : jSt} (hge : jGg E) (hgy : jGg Y) (hd : d ≤ 40) (a1 : f_Mo_settle (jad L (jm 0)) (nI d) (jW L ω S0) = some (jW L ω S)) (r2 : jgG S (jm 32) d = lN (jeln Y)) (q0 : jgA S (jm 34) d = nI 1) (q1 : jgG S (jm 31) d = lN (jeln E)) (c1 : E.2.2 = 0) (c2 : Y.2.2 = 0) : f_Mo_finish (jad L (jm 0)) (nI d) (jW L ω S0) = some (jW L ω (jsA (jsA (jsG S (jm 31) d (lN (jeln (E.1 ||| Y.1, E.2.1 ||| Y.2.1, 0)))) (jm 34) d (nI 1)) (jm 35) d (nI 0))) := by
  have hn1 : vp_nar .boolean (nI 1) = nI 1 := jnab (Nat.le_refl _)
  have hn0 : vp_nar .boolean (nI 0) = nI 0 := jnab (Nat.zero_le _)
  unfold f_Mo_finish
  rw [jkm hL, a1, Option.bind_some]
  have o1 : E.1 ||| Y.1 < 1024 := Nat.or_lt_two_pow (n := 10) hge.f hgy.f
  have o2 : E.2.1 ||| Y.2.1 < 1024 := Nat.or_lt_two_pow (n := 10) hge.l hgy.l
  have n1 := jnone hge (ω := jW L ω S)
  have n2 := jnone hgy (ω := jW L ω S)
  have f1 := jfirst hge (ω := jW L ω S)
  have f2 := jfirst hgy (ω := jW L ω S)
  have l1 := jlast hge (ω := jW L ω S)
  have l2 := jlast hgy (ω := jW L ω S)
  have ee := hge.e
  have ey := hgy.e
  generalize jeln E = vE at q1 n1 f1 l1
  generalize jeln Y = vY at r2 n2 f2 l2
  have p0 := jpart o1 o2 (Nat.zero_le 1) (ω := jW L ω S)
  generalize jeln (E.1 ||| Y.1, E.2.1 ||| Y.2.1, 0) = v at p0 ⊢
  rw [c1] at n1
  rw [c2] at n2
  have g49 : xgr (jW L ω S) (jad L (jm 0)) 12 49 = some (jad L (jm 31)) := by simp (disch := first | omega | rfl | assumption | exact jokr (by decide) (by omega) | exact jokr4 (by omega) | exact jkt_r _ _ | exact jkt_l (by decide) | exact jfk_l (by decide) | exact jkt_t _ | exact jkt_r6 _ _ | exact jkt_t6 _ | (simp only [jok, jlen]; omega) | decide) only [jm_k hL, jm_gi hL, jm_gr hL, jm_gl hL, jm_pi hL, jm_pl hL, jn_ai hL, jn_ab hL, jn_az hL, jn_al hL, jn_ar hL, jn_an hL, jn_si hL, jn_sb hL, jn_sz hL, jn_sl hL, Option.bind_some, xc, xl, jsA_X, jsI_X, jsG_X, hK _ _, jlk, jmx]
  have g50 : xgr (jW L ω S) (jad L (jm 0)) 12 50 = some (jad L (jm 32)) := by simp (disch := first | omega | rfl | assumption | exact jokr (by decide) (by omega) | exact jokr4 (by omega) | exact jkt_r _ _ | exact jkt_l (by decide) | exact jfk_l (by decide) | exact jkt_t _ | exact jkt_r6 _ _ | exact jkt_t6 _ | (simp only [jok, jlen]; omega) | decide) only [jm_k hL, jm_gi hL, jm_gr hL, jm_gl hL, jm_pi hL, jm_pl hL, jn_ai hL, jn_ab hL, jn_az hL, jn_al hL, jn_ar hL, jn_an hL, jn_si hL, jn_sb hL, jn_sz hL, jn_sl hL, Option.bind_some, xc, xl, jsA_X, jsI_X, jsG_X, hK _ _, jlk, jmx]
  have g52 : xgr (jW L ω S) (jad L (jm 0)) 12 52 = some (jad L (jm 34)) := by simp (disch := first | omega | rfl | assumption | exact jokr (by decide) (by omega) | exact jokr4 (by omega) | exact jkt_r _ _ | exact jkt_l (by decide) | exact jfk_l (by decide) | exact jkt_t _ | exact jkt_r6 _ _ | exact jkt_t6 _ | (simp only [jok, jlen]; omega) | decide) only [jm_k hL, jm_gi hL, jm_gr hL, jm_gl hL, jm_pi hL, jm_pl hL, jn_ai hL, jn_ab hL, jn_az hL, jn_al hL, jn_ar hL, jn_an hL, jn_si hL, jn_sb hL, jn_sz hL, jn_sl hL, Option.bind_some, xc, xl, jsA_X, jsI_X, jsG_X, hK _ _, jlk, jmx]
  have v49 : xal (jW L ω S) (jad L (jm 31)) (nI d) = some (lN vE) := by simp (disch := first | omega | rfl | assumption | exact jokr (by decide) (by omega) | exact jokr4 (by omega) | exact jkt_r _ _ | exact jkt_l (by decide) | exact jfk_l (by decide) | exact jkt_t _ | exact jkt_r6 _ _ | exact jkt_t6 _ | (simp only [jok, jlen]; omega) | decide) only [jm_k hL, jm_gi hL, jm_gr hL, jm_gl hL, jm_pi hL, jm_pl hL, jn_ai hL, jn_ab hL, jn_az hL, jn_al hL, jn_ar hL, jn_an hL, jn_si hL, jn_sb hL, jn_sz hL, jn_sl hL, Option.bind_some, xc, xl, jsA_X, jsI_X, jsG_X, hK _ _, jlk, jmx, q1]
  have v50 : xal (jW L ω S) (jad L (jm 32)) (nI d) = some (lN vY) := by simp (disch := first | omega | rfl | assumption | exact jokr (by decide) (by omega) | exact jokr4 (by omega) | exact jkt_r _ _ | exact jkt_l (by decide) | exact jfk_l (by decide) | exact jkt_t _ | exact jkt_r6 _ _ | exact jkt_t6 _ | (simp only [jok, jlen]; omega) | decide) only [jm_k hL, jm_gi hL, jm_gr hL, jm_gl hL, jm_pi hL, jm_pl hL, jn_ai hL, jn_ab hL, jn_az hL, jn_al hL, jn_ar hL, jn_an hL, jn_si hL, jn_sb hL, jn_sz hL, jn_sl hL, Option.bind_some, xc, xl, jsA_X, jsI_X, jsG_X, hK _ _, jlk, jmx, r2]
  have v52 : xaz (jW L ω S) (jad L (jm 34)) (nI d) = some (nI 1) := by simp (disch := first | omega | rfl | assumption | exact jokr (by decide) (by omega) | exact jokr4 (by omega) | exact jkt_r _ _ | exact jkt_l (by decide) | exact jfk_l (by decide) | exact jkt_t _ | exact jkt_r6 _ _ | exact jkt_t6 _ | (simp only [jok, jlen]; omega) | decide) only [jm_k hL, jm_gi hL, jm_gr hL, jm_gl hL, jm_pi hL, jm_pl hL, jn_ai hL, jn_ab hL, jn_az hL, jn_al hL, jn_ar hL, jn_an hL, jn_si hL, jn_sb hL, jn_sz hL, jn_sl hL, Option.bind_some, xc, xl, jsA_X, jsI_X, jsG_X, hK _ _, jlk, jmx, q0]
  have w1 : ¬ nI 1 = (0 : Int32) := by decide
  have w0 : nI 0 = (0 : Int32) := rfl
  rw [g49, Option.bind_some, v49, Option.bind_some, g50, Option.bind_some, v50, Option.bind_some, Option.bind_some, g52, Option.bind_some, v52, Option.bind_some, if_neg w1, f1, Option.bind_some, f2, Option.bind_some, l1, Option.bind_some, l2, Option.bind_some, n1, Option.bind_some, jorA, jorA]
  rw [if_pos w0, n2, Option.bind_some, if_pos w0]
  have p0 : f_Mo_part (nI (E.1 ||| Y.1)) (nI (E.2.1 ||| Y.2.1)) (0 : Int32) (jW L ω S) = some (lN v) := p0
  rw [p0, Option.bind_some]
  clear o1 o2 hge hgy ee ey
  simp (disch := first | omega | rfl | assumption | exact jokr (by decide) (by omega) | exact jokr4 (by omega) | exact jkt_r _ _ | exact jkt_l (by decide) | exact jfk_l (by decide) | exact jkt_t _ | exact jkt_r6 _ _ | exact jkt_t6 _ | (simp only [jok, jlen]; omega) | decide) only [jm_k hL, jm_gi hL, jm_gr hL, jm_gl hL, jm_pi hL, jm_pl hL, jn_ai hL, jn_ab hL, jn_az hL, jn_al hL, jn_ar hL, jn_an hL, jn_si hL, jn_sb hL, jn_sz hL, jn_sl hL, Option.bind_some, xc, xl, jsA_X, jsI_X, jsG_X, hK _ _, jlk, jmx, jlit, hn1, hn0]
theorem jMb_fin2c {L : jL} (hL : jgood L) {ω : xS} {S : jSt} {sw ps wy : Nat} (hK : jLK S sw ps wy) {E Y : jG} {d : Nat} {S0 : jSt} (hge : jGg E) (hgy : jGg Y) (hd : d ≤ 40) (a1 : f_Mo_settle (jad L (jm 0)) (nI d) (jW L ω S0) = some (jW L ω S)) (r2 : jgG S (jm 32) d = lN (jeln Y)) (q0 : jgA S (jm 34) d = nI 1) (q1 : jgG S (jm 31) d = lN (jeln E)) (c1 : E.2.2 = 0) (c2 : Y.2.2 = 1) : f_Mo_finish (jad L (jm 0)) (nI d) (jW L ω S0) = some (jW L ω (jsA (jsA (jsG S (jm 31) d (lN (jeln (E.1 ||| Y.1, E.2.1 ||| Y.2.1, 1)))) (jm 34) d (nI 1)) (jm 35) d (nI 0))) := by
  have hn1 : vp_nar .boolean (nI 1) = nI 1 := jnab (Nat.le_refl _)
  have hn0 : vp_nar .boolean (nI 0) = nI 0 := jnab (Nat.zero_le _)
  unfold f_Mo_finish
  rw [jkm hL, a1, Option.bind_some]
  have o1 : E.1 ||| Y.1 < 1024 := Nat.or_lt_two_pow (n := 10) hge.f hgy.f
  have o2 : E.2.1 ||| Y.2.1 < 1024 := Nat.or_lt_two_pow (n := 10) hge.l hgy.l
  have n1 := jnone hge (ω := jW L ω S)
  have n2 := jnone hgy (ω := jW L ω S)
  have f1 := jfirst hge (ω := jW L ω S)
  have f2 := jfirst hgy (ω := jW L ω S)
  have l1 := jlast hge (ω := jW L ω S)
  have l2 := jlast hgy (ω := jW L ω S)
  have ee := hge.e
  have ey := hgy.e
  generalize jeln E = vE at q1 n1 f1 l1
  generalize jeln Y = vY at r2 n2 f2 l2
  have p1 := jMb_f69 hL (ω := ω) hK o1 o2 hd
  generalize jeln (E.1 ||| Y.1, E.2.1 ||| Y.2.1, 1) = v at p1 ⊢
  rw [c1] at n1
  rw [c2] at n2
  have g49 : xgr (jW L ω S) (jad L (jm 0)) 12 49 = some (jad L (jm 31)) := by simp (disch := first | omega | rfl | assumption | exact jokr (by decide) (by omega) | exact jokr4 (by omega) | exact jkt_r _ _ | exact jkt_l (by decide) | exact jfk_l (by decide) | exact jkt_t _ | exact jkt_r6 _ _ | exact jkt_t6 _ | (simp only [jok, jlen]; omega) | decide) only [jm_k hL, jm_gi hL, jm_gr hL, jm_gl hL, jm_pi hL, jm_pl hL, jn_ai hL, jn_ab hL, jn_az hL, jn_al hL, jn_ar hL, jn_an hL, jn_si hL, jn_sb hL, jn_sz hL, jn_sl hL, Option.bind_some, xc, xl, jsA_X, jsI_X, jsG_X, hK _ _, jlk, jmx]
  have g50 : xgr (jW L ω S) (jad L (jm 0)) 12 50 = some (jad L (jm 32)) := by simp (disch := first | omega | rfl | assumption | exact jokr (by decide) (by omega) | exact jokr4 (by omega) | exact jkt_r _ _ | exact jkt_l (by decide) | exact jfk_l (by decide) | exact jkt_t _ | exact jkt_r6 _ _ | exact jkt_t6 _ | (simp only [jok, jlen]; omega) | decide) only [jm_k hL, jm_gi hL, jm_gr hL, jm_gl hL, jm_pi hL, jm_pl hL, jn_ai hL, jn_ab hL, jn_az hL, jn_al hL, jn_ar hL, jn_an hL, jn_si hL, jn_sb hL, jn_sz hL, jn_sl hL, Option.bind_some, xc, xl, jsA_X, jsI_X, jsG_X, hK _ _, jlk, jmx]
  have g52 : xgr (jW L ω S) (jad L (jm 0)) 12 52 = some (jad L (jm 34)) := by simp (disch := first | omega | rfl | assumption | exact jokr (by decide) (by omega) | exact jokr4 (by omega) | exact jkt_r _ _ | exact jkt_l (by decide) | exact jfk_l (by decide) | exact jkt_t _ | exact jkt_r6 _ _ | exact jkt_t6 _ | (simp only [jok, jlen]; omega) | decide) only [jm_k hL, jm_gi hL, jm_gr hL, jm_gl hL, jm_pi hL, jm_pl hL, jn_ai hL, jn_ab hL, jn_az hL, jn_al hL, jn_ar hL, jn_an hL, jn_si hL, jn_sb hL, jn_sz hL, jn_sl hL, Option.bind_some, xc, xl, jsA_X, jsI_X, jsG_X, hK _ _, jlk, jmx]
  have v49 : xal (jW L ω S) (jad L (jm 31)) (nI d) = some (lN vE) := by simp (disch := first | omega | rfl | assumption | exact jokr (by decide) (by omega) | exact jokr4 (by omega) | exact jkt_r _ _ | exact jkt_l (by decide) | exact jfk_l (by decide) | exact jkt_t _ | exact jkt_r6 _ _ | exact jkt_t6 _ | (simp only [jok, jlen]; omega) | decide) only [jm_k hL, jm_gi hL, jm_gr hL, jm_gl hL, jm_pi hL, jm_pl hL, jn_ai hL, jn_ab hL, jn_az hL, jn_al hL, jn_ar hL, jn_an hL, jn_si hL, jn_sb hL, jn_sz hL, jn_sl hL, Option.bind_some, xc, xl, jsA_X, jsI_X, jsG_X, hK _ _, jlk, jmx, q1]
  have v50 : xal (jW L ω S) (jad L (jm 32)) (nI d) = some (lN vY) := by simp (disch := first | omega | rfl | assumption | exact jokr (by decide) (by omega) | exact jokr4 (by omega) | exact jkt_r _ _ | exact jkt_l (by decide) | exact jfk_l (by decide) | exact jkt_t _ | exact jkt_r6 _ _ | exact jkt_t6 _ | (simp only [jok, jlen]; omega) | decide) only [jm_k hL, jm_gi hL, jm_gr hL, jm_gl hL, jm_pi hL, jm_pl hL, jn_ai hL, jn_ab hL, jn_az hL, jn_al hL, jn_ar hL, jn_an hL, jn_si hL, jn_sb hL, jn_sz hL, jn_sl hL, Option.bind_some, xc, xl, jsA_X, jsI_X, jsG_X, hK _ _, jlk, jmx, r2]
  have v52 : xaz (jW L ω S) (jad L (jm 34)) (nI d) = some (nI 1) := by simp (disch := first | omega | rfl | assumption | exact jokr (by decide) (by omega) | exact jokr4 (by omega) | exact jkt_r _ _ | exact jkt_l (by decide) | exact jfk_l (by decide) | exact jkt_t _ | exact jkt_r6 _ _ | exact jkt_t6 _ | (simp only [jok, jlen]; omega) | decide) only [jm_k hL, jm_gi hL, jm_gr hL, jm_gl hL, jm_pi hL, jm_pl hL, jn_ai hL, jn_ab hL, jn_az hL, jn_al hL, jn_ar hL, jn_an hL, jn_si hL, jn_sb hL, jn_sz hL, jn_sl hL, Option.bind_some, xc, xl, jsA_X, jsI_X, jsG_X, hK _ _, jlk, jmx, q0]
  have w1 : ¬ nI 1 = (0 : Int32) := by decide
  have w0 : nI 0 = (0 : Int32) := rfl
  rw [g49, Option.bind_some, v49, Option.bind_some, g50, Option.bind_some, v50, Option.bind_some, Option.bind_some, g52, Option.bind_some, v52, Option.bind_some, if_neg w1, f1, Option.bind_some, f2, Option.bind_some, l1, Option.bind_some, l2, Option.bind_some, n1, Option.bind_some, jorA, jorA]
  rw [if_pos w0, n2, Option.bind_some, if_neg w1]
  exact p1
theorem jMb_fin2d {L : jL} (hL : jgood L) {ω : xS} {S : jSt} {sw ps wy : Nat} (hK : jLK S sw ps wy) {E Y : jG} {d : Nat} {S0 : jSt} (hge : jGg E) (hgy : jGg Y) (hd : d ≤ 40) (a1 : f_Mo_settle (jad L (jm 0)) (nI d) (jW L ω S0) = some (jW L ω S)) (r2 : jgG S (jm 32) d = lN (jeln Y)) (q0 : jgA S (jm 34) d = nI 1) (q1 : jgG S (jm 31) d = lN (jeln E)) (c1 : E.2.2 = 1) : f_Mo_finish (jad L (jm 0)) (nI d) (jW L ω S0) = some (jW L ω (jsA (jsA (jsG S (jm 31) d (lN (jeln (E.1 ||| Y.1, E.2.1 ||| Y.2.1, 1)))) (jm 34) d (nI 1)) (jm 35) d (nI 0))) := by
  have hn1 : vp_nar .boolean (nI 1) = nI 1 := jnab (Nat.le_refl _)
  have hn0 : vp_nar .boolean (nI 0) = nI 0 := jnab (Nat.zero_le _)
  unfold f_Mo_finish
  rw [jkm hL, a1, Option.bind_some]
  have o1 : E.1 ||| Y.1 < 1024 := Nat.or_lt_two_pow (n := 10) hge.f hgy.f
  have o2 : E.2.1 ||| Y.2.1 < 1024 := Nat.or_lt_two_pow (n := 10) hge.l hgy.l
  have n1 := jnone hge (ω := jW L ω S)
  have n2 := jnone hgy (ω := jW L ω S)
  have f1 := jfirst hge (ω := jW L ω S)
  have f2 := jfirst hgy (ω := jW L ω S)
  have l1 := jlast hge (ω := jW L ω S)
  have l2 := jlast hgy (ω := jW L ω S)
  have ee := hge.e
  have ey := hgy.e
  generalize jeln E = vE at q1 n1 f1 l1
  generalize jeln Y = vY at r2 n2 f2 l2
  have p1 := jMb_f69 hL (ω := ω) hK o1 o2 hd
  generalize jeln (E.1 ||| Y.1, E.2.1 ||| Y.2.1, 1) = v at p1 ⊢
  rw [c1] at n1
  have g49 : xgr (jW L ω S) (jad L (jm 0)) 12 49 = some (jad L (jm 31)) := by simp (disch := first | omega | rfl | assumption | exact jokr (by decide) (by omega) | exact jokr4 (by omega) | exact jkt_r _ _ | exact jkt_l (by decide) | exact jfk_l (by decide) | exact jkt_t _ | exact jkt_r6 _ _ | exact jkt_t6 _ | (simp only [jok, jlen]; omega) | decide) only [jm_k hL, jm_gi hL, jm_gr hL, jm_gl hL, jm_pi hL, jm_pl hL, jn_ai hL, jn_ab hL, jn_az hL, jn_al hL, jn_ar hL, jn_an hL, jn_si hL, jn_sb hL, jn_sz hL, jn_sl hL, Option.bind_some, xc, xl, jsA_X, jsI_X, jsG_X, hK _ _, jlk, jmx]
  have g50 : xgr (jW L ω S) (jad L (jm 0)) 12 50 = some (jad L (jm 32)) := by simp (disch := first | omega | rfl | assumption | exact jokr (by decide) (by omega) | exact jokr4 (by omega) | exact jkt_r _ _ | exact jkt_l (by decide) | exact jfk_l (by decide) | exact jkt_t _ | exact jkt_r6 _ _ | exact jkt_t6 _ | (simp only [jok, jlen]; omega) | decide) only [jm_k hL, jm_gi hL, jm_gr hL, jm_gl hL, jm_pi hL, jm_pl hL, jn_ai hL, jn_ab hL, jn_az hL, jn_al hL, jn_ar hL, jn_an hL, jn_si hL, jn_sb hL, jn_sz hL, jn_sl hL, Option.bind_some, xc, xl, jsA_X, jsI_X, jsG_X, hK _ _, jlk, jmx]
  have g52 : xgr (jW L ω S) (jad L (jm 0)) 12 52 = some (jad L (jm 34)) := by simp (disch := first | omega | rfl | assumption | exact jokr (by decide) (by omega) | exact jokr4 (by omega) | exact jkt_r _ _ | exact jkt_l (by decide) | exact jfk_l (by decide) | exact jkt_t _ | exact jkt_r6 _ _ | exact jkt_t6 _ | (simp only [jok, jlen]; omega) | decide) only [jm_k hL, jm_gi hL, jm_gr hL, jm_gl hL, jm_pi hL, jm_pl hL, jn_ai hL, jn_ab hL, jn_az hL, jn_al hL, jn_ar hL, jn_an hL, jn_si hL, jn_sb hL, jn_sz hL, jn_sl hL, Option.bind_some, xc, xl, jsA_X, jsI_X, jsG_X, hK _ _, jlk, jmx]
  have v49 : xal (jW L ω S) (jad L (jm 31)) (nI d) = some (lN vE) := by simp (disch := first | omega | rfl | assumption | exact jokr (by decide) (by omega) | exact jokr4 (by omega) | exact jkt_r _ _ | exact jkt_l (by decide) | exact jfk_l (by decide) | exact jkt_t _ | exact jkt_r6 _ _ | exact jkt_t6 _ | (simp only [jok, jlen]; omega) | decide) only [jm_k hL, jm_gi hL, jm_gr hL, jm_gl hL, jm_pi hL, jm_pl hL, jn_ai hL, jn_ab hL, jn_az hL, jn_al hL, jn_ar hL, jn_an hL, jn_si hL, jn_sb hL, jn_sz hL, jn_sl hL, Option.bind_some, xc, xl, jsA_X, jsI_X, jsG_X, hK _ _, jlk, jmx, q1]
  have v50 : xal (jW L ω S) (jad L (jm 32)) (nI d) = some (lN vY) := by simp (disch := first | omega | rfl | assumption | exact jokr (by decide) (by omega) | exact jokr4 (by omega) | exact jkt_r _ _ | exact jkt_l (by decide) | exact jfk_l (by decide) | exact jkt_t _ | exact jkt_r6 _ _ | exact jkt_t6 _ | (simp only [jok, jlen]; omega) | decide) only [jm_k hL, jm_gi hL, jm_gr hL, jm_gl hL, jm_pi hL, jm_pl hL, jn_ai hL, jn_ab hL, jn_az hL, jn_al hL, jn_ar hL, jn_an hL, jn_si hL, jn_sb hL, jn_sz hL, jn_sl hL, Option.bind_some, xc, xl, jsA_X, jsI_X, jsG_X, hK _ _, jlk, jmx, r2]
  have v52 : xaz (jW L ω S) (jad L (jm 34)) (nI d) = some (nI 1) := by simp (disch := first | omega | rfl | assumption | exact jokr (by decide) (by omega) | exact jokr4 (by omega) | exact jkt_r _ _ | exact jkt_l (by decide) | exact jfk_l (by decide) | exact jkt_t _ | exact jkt_r6 _ _ | exact jkt_t6 _ | (simp only [jok, jlen]; omega) | decide) only [jm_k hL, jm_gi hL, jm_gr hL, jm_gl hL, jm_pi hL, jm_pl hL, jn_ai hL, jn_ab hL, jn_az hL, jn_al hL, jn_ar hL, jn_an hL, jn_si hL, jn_sb hL, jn_sz hL, jn_sl hL, Option.bind_some, xc, xl, jsA_X, jsI_X, jsG_X, hK _ _, jlk, jmx, q0]
  have w1 : ¬ nI 1 = (0 : Int32) := by decide
  have w0 : nI 0 = (0 : Int32) := rfl
  rw [g49, Option.bind_some, v49, Option.bind_some, g50, Option.bind_some, v50, Option.bind_some, Option.bind_some, g52, Option.bind_some, v52, Option.bind_some, if_neg w1, f1, Option.bind_some, f2, Option.bind_some, l1, Option.bind_some, l2, Option.bind_some, n1, Option.bind_some, jorA, jorA]
  rw [if_neg w1]
  exact p1
theorem jMb_fin2 {L : jL} (hL : jgood L) {ω : xS} {S : jSt} {sw ps wy : Nat} (hK : jLK S sw ps wy) {E Y : jG} {d : Nat} {S0 : jSt} (hge : jGg E) (hgy : jGg Y) (hd : d ≤ 40) (a1 : f_Mo_settle (jad L (jm 0)) (nI d) (jW L ω S0) = some (jW L ω S)) (r2 : jgG S (jm 32) d = lN (jeln Y)) (q : (jgA S (jm 34) d = nI 0 ∧ E = (0, 0, 0)) ∨ (jgA S (jm 34) d = nI 1 ∧ jgG S (jm 31) d = lN (jeln E))) : f_Mo_finish (jad L (jm 0)) (nI d) (jW L ω S0) = some (jW L ω (jsA (jsA (jsG S (jm 31) d (lN (jeln (jug E Y)))) (jm 34) d (nI 1)) (jm 35) d (nI 0))) := by
  have ee := hge.e
  have ey := hgy.e
  have eE : ∀ v, E.2.2 ||| Y.2.2 = v → jug E Y = (E.1 ||| Y.1, E.2.1 ||| Y.2.1, v) := fun v hv => by
    rw [← hv]; rfl
  rcases q with ⟨q0, q1⟩ | ⟨q0, q1⟩
  · rw [q1, jug_none]
    exact jMb_fin2a hL hK hd a1 r2 q0
  · by_cases c1 : E.2.2 = 0
    · by_cases c2 : Y.2.2 = 0
      · rw [eE 0 (by rw [c1, c2]; rfl)]
        exact jMb_fin2b hL hK hge hgy hd a1 r2 q0 q1 c1 c2
      · rw [eE 1 (by rw [c1, show Y.2.2 = 1 by omega]; rfl)]
        exact jMb_fin2c hL hK hge hgy hd a1 r2 q0 q1 c1 (by omega)
    · rw [eE 1 (by rw [jor1 ee ey, if_pos (Or.inl (by omega))])]
      exact jMb_fin2d hL hK hge hgy hd a1 r2 q0 q1 (by omega)
theorem jMb_finish {L : jL} (hL : jgood L) {ω : xS} {S : jSt} {sw ps wy : Nat} (hK : jLK S sw ps wy) {k x : Nat} {s : jPs} (hk : k < 16) (hi : jPi s) (hz : jPs.sz s ≤ 10) (hd : jPs.d s ≤ 40) (h1 : jPs.hs s = 1) (h : jBs S k s x) : ∃ T, f_Mo_finish (jad L (jm 0)) (nI (jPs.d s)) (jW L ω S) = some (jW L ω T) ∧ jfB k S T ∧ jBs T k (jpB s) x ∧ jgG T (jm 31) (jPs.d s) = lN (jeln (jpU s)) := by
  obtain ⟨T1, a1, a2, a3, a4⟩ := jMb_settle hL (ω := ω) hK hk hi hz hd h
  obtain ⟨r1, r2⟩ := a4 h1
  have hK1 := hK.of a2.x
  have e1 : jsR s (jPs.d s) = jcg (jPs.ro s (jPs.d s)) (jPs.it s) := by
    unfold jsR
    rw [if_pos h1]
    show (if jPs.d s = jPs.d s then jcg (jPs.ro s (jPs.d s)) (jPs.it s) else jPs.ro s (jPs.d s)) = _
    rw [if_pos rfl]
  have hgy : jGg (jcg (jPs.ro s (jPs.d s)) (jPs.it s)) := by
    have := (hi.kp.ro (jPs.d s) (Nat.le_refl _)).good hz
    rw [e1] at this
    exact this
  have hge := (hi.en (jPs.d s) (Nat.le_refl _)).good hz
  rw [e1] at r2
  have hn1 : vp_nar .boolean (nI 1) = nI 1 := jnab (Nat.le_refl _)
  have hn0 : vp_nar .boolean (nI 0) = nI 0 := jnab (Nat.zero_le _)
  obtain ⟨t2, t3, t4⟩ := jMb_fin1 h1 a2 a3
  refine ⟨_, ?_, t2, t3, t4⟩
  exact jMb_fin2 hL hK1 hge hgy hd a1 r2 (a3.en (jPs.d s) (Nat.le_refl _))
