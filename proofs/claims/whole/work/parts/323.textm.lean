/-! the reference reads a text -/
theorem jLaw.pat {tp : Nat → Nat} {ts d e : Nat} {D : jD} {r : Nat × Nat × Nat} (h : jLaw tp ts d e D r) (h0 : r.1 = 0) (hp : jD.so D = 3 ∨ jD.so D = 4) : ∃ r', jPt tp ts (jtE tp ts e) (jD.s D) r' ∧ r'.1 = 0 := by
  obtain ⟨_, _, ⟨h7, _⟩ | ⟨rr, hb, _, rfl⟩⟩ := h
  · omega
  · have r0 := jNm_0 (jEx_0 h0)
    rcases hb with ⟨z, _⟩ | ⟨z, _⟩ | ⟨z, _⟩ | ⟨_, _, _, _, _, ⟨_, q⟩ | ⟨k4, q⟩⟩ | ⟨z, _⟩ | ⟨z, _⟩
    · omega
    · omega
    · omega
    · exact ⟨rr, q, r0⟩
    · exfalso
      rw [q, jEx_no (r := (0, 0, jtE tp ts e)) rfl k4] at r0
      revert r0
      show ¬ ((if jtK tp ts (jtE tp ts e) = 0 then 1 else 2) = 0)
      split <;> decide
    · omega
    · omega
def jDN (T : jSt) (k : Nat) (D : jD) : Prop := jDM T k D ∧ (jD.so D = 3 ∨ jD.so D = 4 → jPs.sz (jD.s D) ≤ 10)
theorem jDN.fr {S T : jSt} {i k : Nat} {D : jD} (h0 : jDN S i D) (e : jfV k S T) (hik : i ≠ k) : jDN T i D := by
  obtain ⟨h, hz⟩ := h0
  refine ⟨⟨by rw [e.r 10 (by omega) i hik]; exact h.so, by rw [e.r 11 (by omega) i hik]; exact h.wt, by rw [e.r 12 (by omega) i hik]; exact h.pl, by rw [e.r 13 (by omega) i hik]; exact h.lo, by rw [e.r 14 (by omega) i hik]; exact h.hi, by rw [e.r 15 (by omega) i hik]; exact h.sp, fun z => by rw [e.r 16 (by omega) i hik]; exact h.lt z, fun z => ?_⟩, hz⟩
  obtain ⟨ns, nx, fe, p⟩ := h.pq z
  have b := p.as.ns
  have hz := hz z
  exact ⟨ns, nx, fe, by rw [e.r 21 (by omega) i hik]; exact p.sz, fun q hq => by rw [e.l _ (by omega)]; exact p.ls q hq, fun q hq => by rw [e.w _ (by omega)]; exact p.fo q hq, by rw [e.r 19 (by omega) i hik]; exact p.la, by rw [e.r 20 (by omega) i hik]; exact p.no, by rw [e.r 22 (by omega) i hik]; exact p.ns, fun j hj => by rw [e.t _ (by omega)]; exact p.nx j hj, fun j hj => by rw [e.e _ (by omega)]; exact p.fe j hj, p.f1, p.as⟩
def jfT (σ : Nat) (S T : jSt) : Prop := (jgX T = jgX S) ∧ (jgN T = jgN S) ∧ (∀ c, (∀ q, 10 ≤ q → q ≤ 44 → c ≠ jm q) ∨ c = jm 25 ∨ c = jm 26 → jgA T c = jgA S c) ∧ (∀ c, c ≠ jm 0 → jgI T c = jgI S c) ∧ (∀ q, (q < 34 ∧ q ≠ 20) ∨ q = 41 ∨ 44 < q → jgI T (jm 0) q = jgI S (jm 0) q) ∧ (σ = 0 → jfN S T)
theorem jfT.x {σ : Nat} {S T : jSt} (h : jfT σ S T) : jgX T = jgX S := h.1
theorem jfT.n {σ : Nat} {S T : jSt} (h : jfT σ S T) : jgN T = jgN S := h.2.1
theorem jfT.a {σ : Nat} {S T : jSt} (h : jfT σ S T) : ∀ c, (∀ q, 10 ≤ q → q ≤ 44 → c ≠ jm q) ∨ c = jm 25 ∨ c = jm 26 → jgA T c = jgA S c := h.2.2.1
theorem jfT.i {σ : Nat} {S T : jSt} (h : jfT σ S T) : ∀ c, c ≠ jm 0 → jgI T c = jgI S c := h.2.2.2.1
theorem jfT.k {σ : Nat} {S T : jSt} (h : jfT σ S T) : ∀ q, (q < 34 ∧ q ≠ 20) ∨ q = 41 ∨ 44 < q → jgI T (jm 0) q = jgI S (jm 0) q := h.2.2.2.2.1
theorem jfT.o {σ : Nat} {S T : jSt} (h : jfT σ S T) : σ = 0 → jfN S T := h.2.2.2.2.2
theorem jfM.T {σ k : Nat} {S T : jSt} (h : jfM σ k S T) : jfT σ S T := ⟨h.2.x, h.2.n, h.2.a, h.2.i, fun q hq => h.2.k q (by omega), h.1⟩
theorem jfT.trans {σ : Nat} {S T U : jSt} (h : jfT σ S T) (h' : jfT σ T U) : jfT σ S U := ⟨h'.x.trans h.x, h'.n.trans h.n, fun c hc => (h'.a c hc).trans (h.a c hc), fun c hc => (h'.i c hc).trans (h.i c hc), fun q hq => (h'.k q hq).trans (h.k q hq), fun z => (h.o z).trans (h'.o z)⟩
theorem jfN.T {S T : jSt} (h : jfN S T) (σ : Nat) : jfT σ S T := (h.M σ 0).T
theorem jMr_texts {L : jL} (hL : jgood L) {ω : xS} {sw ps wy : Nat} {tp : Nat → Nat} {ts d σ : Nat} {Ds : Nat → jD} {n : Nat} {r : Nat × Nat × Nat} (hd : d < 2 ^ 31) (hσ : σ = 0 ∨ (σ = 1 ∧ r.1 = 0)) (m : Nat) : ∀ (k e fu : Nat) (S0 S : jSt), k + m = 16 → m + 2 ≤ fu → e ≤ ts → jLK S sw ps wy → jTm S tp ts → jAv S0 S tp (jtK tp ts e) (jtB tp ts e) (jtE tp ts e) → jgI S (jm 0) 41 = nI σ → jgI S (jm 0) 1 = nI d → jTx tp ts d Ds n r m k e → (σ = 1 → ∀ i, i < k → jDN S i (Ds i)) → ∃ T, f_Mo_text_27 fu (jad L (jm 0)) (nI k) (if jtK tp ts e = 0 ∨ jtK tp ts e = 1 then 0 else 1) (jW L ω S) = some (jW L ω T) ∧ jfT σ S T ∧ jRr T ts r ∧ (σ = 1 → jgI T (jm 0) 20 = nI n ∧ n ≤ 16 ∧ ∀ i, i < n → jDN T i (Ds i)) := by
  -- where a text ends
  have hend : ∀ (k e fu : Nat) (S0 S : jSt), k ≤ 16 → 1 ≤ fu → e ≤ ts → jAv S0 S tp (jtK tp ts e) (jtB tp ts e) (jtE tp ts e) → jgI S (jm 0) 41 = nI σ → (σ = 1 → ∀ i, i < k → jDN S i (Ds i)) → (jtK tp ts e = 1 ∧ n = k ∧ r = (0, 0, jtE tp ts e)) ∨ (jtK tp ts e = 0 ∧ r = (1, jtB tp ts e, jtE tp ts e)) → ∃ T, f_Mo_text_27 fu (jad L (jm 0)) (nI k) (if jtK tp ts e = 0 ∨ jtK tp ts e = 1 then 0 else 1) (jW L ω S) = some (jW L ω T) ∧ jfT σ S T ∧ jRr T ts r ∧ (σ = 1 → jgI T (jm 0) 20 = nI n ∧ n ≤ 16 ∧ ∀ i, i < n → jDN T i (Ds i)) := by
    intro k e fu S0 S hk hfu hes hA h41 hp hX
    obtain ⟨fu, rfl⟩ : ∃ f, fu = f + 1 := ⟨fu - 1, by omega⟩
    rw [if_pos (show jtK tp ts e = 0 ∨ jtK tp ts e = 1 by omega), f_Mo_text_27, if_pos (show (0 : Int32) = 0 from rfl), jxg_m hL (by omega) (by omega) (by omega) h41, Option.bind_some]
    rcases hX with ⟨c1, rfl, rfl⟩ | ⟨c0, rfl⟩
    · obtain ⟨o1, o2, o3, o4⟩ := hA.o (by omega)
      have hE := (jtE_le (tp := tp) hes).2.1 (by omega)
      rcases hσ with rfl | ⟨rfl, _⟩
      · rw [if_pos (show nI 0 = (0 : Int32) from rfl)]
        exact ⟨S, rfl, (jfN.refl S).T 0, ⟨o1, Nat.zero_le _, fun _ => ⟨o4, hE⟩, fun z => absurd rfl z⟩, fun z => by omega⟩
      · have pw : xp (jW L ω S) (jad L (jm 0)) 12 20 (.int (nI n)) = some (jW L ω (jsI S (jm 0) 20 (nI n))) := by simp (disch := first | omega | rfl | assumption | exact jokr (by decide) (by omega) | exact jokr4 (by omega) | exact jkt_r _ _ | exact jkt_l (by decide) | exact jfk_l (by decide) | exact jkt_t _ | exact jkt_r6 _ _ | exact jkt_t6 _ | (simp only [jok, jlen]; omega) | decide) only [jm_pi hL]
        rw [if_neg (show ¬ nI 1 = (0 : Int32) by decide), jxg_m hL (by omega) (by omega) (by omega) o1, Option.bind_some, if_pos (show nI 0 = (0 : Int32) from rfl), pw, Option.bind_some]
        have fV : jfV 17 S (jsI S (jm 0) 20 (nI n)) → ∀ i, i < n → jDN (jsI S (jm 0) 20 (nI n)) i (Ds i) := fun f i hi => (hp rfl i hi).fr f (by omega)
        refine ⟨_, rfl, ⟨rfl, rfl, fun _ _ => rfl, fun c hc => jsI_fn hc, fun q hq => by rw [jsI_c, if_neg (by omega)], fun z => by omega⟩, ⟨by rw [jsI_c, if_neg (by decide)]; exact o1, Nat.zero_le _, fun _ => ⟨by rw [jsI_c, if_neg (by decide)]; exact o4, hE⟩, fun z => absurd rfl z⟩, fun _ => ⟨by rw [jsI_c, if_pos rfl], hk, fun i hi => ?_⟩⟩
        exact hp rfl i hi
    · have s0 : σ = 0 := by
        rcases hσ with z | ⟨_, z⟩
        · exact z
        · exact absurd z (by show ¬ (1 = 0); decide)
      obtain ⟨z1, z2⟩ := hA.z c0
      rw [s0, if_pos (show nI 0 = (0 : Int32) from rfl)]
      exact ⟨S, rfl, (jfN.refl S).T 0, ⟨z1, by show 1 ≤ 4; decide, fun z => absurd z (by show ¬ (1 = 0); decide), fun _ => z2⟩, fun z => by omega⟩
  induction m with
  | zero =>
    intro k e fu S0 S hkm hfu hes hK hT hA h41 h1 hX hp
    rcases hX with h | h | ⟨c0, c1, rfl⟩
    · exact hend k e fu S0 S (by omega) (by omega) hes hA h41 hp (Or.inl h)
    · exact hend k e fu S0 S (by omega) (by omega) hes hA h41 hp (Or.inr h)
    · obtain ⟨fu, rfl⟩ : ∃ f, fu = f + 1 := ⟨fu - 1, by omega⟩
      obtain ⟨o1, o2, o3, o4⟩ := hA.o c0
      have s0 : σ = 0 := by
        rcases hσ with z | ⟨_, z⟩
        · exact z
        · exact absurd z (by show ¬ (3 = 0); decide)
      obtain ⟨T, b1, b2, b3⟩ := jMr_fails hL (ω := ω) hK (ts := ts) (x := 3) (v := jtB tp ts e) (e := jtE tp ts e) o1 (by decide) (by decide)
      have b1 : f_Mo_fails (jad L (jm 0)) 3 (nI (jtB tp ts e)) (jW L ω S) = some (0, jW L ω T) := b1
      refine ⟨T, ?_, b2.N.T σ, b3, fun z => by omega⟩
      rw [if_neg (show ¬ (jtK tp ts e = 0 ∨ jtK tp ts e = 1) by omega), f_Mo_text_27, if_neg (show ¬ (1 : Int32) = 0 by decide), if_pos (show nI k = (16 : Int32) by rw [show k = 16 by omega]; rfl), jxg_m hL (by omega) (by omega) (by omega) hA.b, Option.bind_some, jkm hL, b1]
      simp only [xc]
  | succ m ih =>
    intro k e fu S0 S hkm hfu hes hK hT hA h41 h1 hX hp
    rcases hX with h | h | ⟨c0, c1, r1, hD, hX⟩
    · exact hend k e fu S0 S (by omega) (by omega) hes hA h41 hp (Or.inl h)
    · exact hend k e fu S0 S (by omega) (by omega) hes hA h41 hp (Or.inr h)
    · obtain ⟨fu, rfl⟩ : ∃ f, fu = f + 1 := ⟨fu - 1, by omega⟩
      obtain ⟨o1, o2, o3, o4⟩ := hA.o c0
      have hσ1 : σ = 0 ∨ (σ = 1 ∧ r1.1 = 0) := by
        rcases hσ with z | ⟨z, y⟩
        · exact Or.inl z
        · rcases hX with ⟨_, q⟩ | ⟨q, _⟩
          · exact Or.inr ⟨z, by rw [← q]; exact y⟩
          · exact Or.inr ⟨z, q⟩
      have s0 : r1.1 ≠ 0 → σ = 0 := fun h => by
        rcases hσ1 with z | ⟨_, z⟩
        · exact z
        · exact absurd z h
      have rr1 : r1.1 ≠ 0 → r = r1 := fun h => by
        rcases hX with ⟨_, q⟩ | ⟨q, _⟩
        · exact q
        · exact absurd q h
      obtain ⟨T1, rw1, a1, a2, a3, a4, a5⟩ := jMr_law hL (ω := ω) hK (k := k) (by omega) hd hT hes c0 o4 o2 hA.b hA.w o1 h41 h1 hD hσ1
      have hK1 := hK.of a2.x
      have hT1 := hT.V a2.2
      have t41 : jgI T1 (jm 0) 41 = nI σ := by rw [a2.2.k 41 (by omega)]; exact h41
      have t1 : jgI T1 (jm 0) 1 = nI d := by rw [a2.2.k 1 (by omega)]; exact h1
      rw [if_neg (show ¬ (jtK tp ts e = 0 ∨ jtK tp ts e = 1) by omega), f_Mo_text_27, if_neg (show ¬ (1 : Int32) = 0 by decide), if_neg (show ¬ nI k = (16 : Int32) from fun z => by rw [jlit, nI_eq (by omega) (by omega)] at z; omega), jkm hL, a1, Option.bind_some, jxg_m hL (by omega) (by omega) (by omega) a3.f, Option.bind_some]
      by_cases w0 : rw1.1 = 0
      · obtain ⟨y1, y2⟩ := a3.z w0
        have u39 : jgI T1 (jm 0) 39 = nI 0 := by have := a3.f; rw [w0] at this; exact this
        obtain ⟨T2, b1, b2⟩ := jMt_adv hL (ω := ω) hK1 hT1 y1 y2 u39
        have hK2 := hK1.of b2.f.1
        have hT2 := hT1.f0 b2.f
        have hle := jtK_le (tp := tp) (ts := ts) (e := rw1.2.2)
        rw [if_pos (show nI rw1.1 = (0 : Int32) by rw [w0]; rfl), jkm hL, b1]
        simp only [xc]
        by_cases k0 : jtK tp ts rw1.2.2 = 0
        · obtain ⟨z1, z2⟩ := b2.z k0
          have er : r1 = (1, jtB tp ts rw1.2.2, jtE tp ts rw1.2.2) := by
            rw [a4, jEx_no w0 (by omega)]
            show ((if jtK tp ts rw1.2.2 = 0 then 1 else 2), _, _) = _
            rw [if_pos k0]
          have ne : r1.1 ≠ 0 := by rw [er]; show ¬ (1 = 0); decide
          rw [if_pos (show nI (if jtK tp ts rw1.2.2 = 0 then 0 else 1) = (0 : Int32) by rw [if_pos k0]; rfl)]
          refine ⟨T2, rfl, a2.T.trans (b2.f.N.T σ), ?_, fun z => by have := s0 ne; omega⟩
          rw [rr1 ne, er]
          exact ⟨z1, by show 1 ≤ 4; decide, fun z => absurd z (by show ¬ (1 = 0); decide), fun _ => z2⟩
        · obtain ⟨p1, p2, p3, p4⟩ := b2.o k0
          rw [if_neg (show ¬ nI (if jtK tp ts rw1.2.2 = 0 then 0 else 1) = (0 : Int32) by rw [if_neg k0]; decide), jxg_m hL (by omega) (by omega) (by omega) p2, Option.bind_some]
          by_cases k5 : jtK tp ts rw1.2.2 = 5
          · have er : r1 = (0, rw1.2.1, jtE tp ts rw1.2.2) := by rw [a4, jEx_ok w0 k5]
            have r10 : r1.1 = 0 := by rw [er]
            have hX2 : jTx tp ts d Ds n r m (k + 1) (jtE tp ts rw1.2.2) := by
              rcases hX with ⟨q, _⟩ | ⟨_, q⟩
              · exact absurd r10 q
              · rw [er] at q; exact q
            have hE := jtE5 k5
            obtain ⟨T3, g1, g2⟩ := jMt_adv hL (ω := ω) hK2 hT2 p4 hE p1
            have F3 : jf0 T1 T3 := b2.f.trans g2.f
            have hle2 := jtK_le (tp := tp) (ts := ts) (e := jtE tp ts rw1.2.2)
            obtain ⟨T, i1, i2, i3, i4⟩ := ih (k + 1) (jtE tp ts rw1.2.2) fu T2 T3 (by omega) (by omega) hE (hK2.of g2.f.1) (hT2.f0 g2.f) g2 (by rw [F3.2.2.2.2 41 (by omega)]; exact t41) (by rw [F3.2.2.2.2 1 (by omega)]; exact t1) hX2 (fun z i hi => by
              by_cases c : i = k
              · rw [c]
                refine jDN.fr (S := T1) (k := k + 1) ⟨a5 z, fun y => ?_⟩ (F3.N.V (k + 1)) (by omega)
                obtain ⟨r', q1, q2⟩ := hD.pat r10 y
                exact (q1.ok q2).2.1
              · exact ((hp z i (by omega)).fr a2.2 c).fr (F3.N.V k) c)
            refine ⟨T, ?_, (a2.T.trans (F3.N.T σ)).trans i2, i3, i4⟩
            have ek : nI k + 1 = nI (k + 1) := by rw [jlit, nI_add]
            rw [if_pos (show nI (jtK tp ts rw1.2.2 - 1) = (4 : Int32) by rw [k5]; rfl), jkm hL, g1]
            simp only [xc]
            rw [ek]
            by_cases q0 : jtK tp ts (jtE tp ts rw1.2.2) = 0
            · rw [if_pos (show jtK tp ts (jtE tp ts rw1.2.2) = 0 ∨ jtK tp ts (jtE tp ts rw1.2.2) = 1 from Or.inl q0)] at i1
              rw [if_pos (show nI (if jtK tp ts (jtE tp ts rw1.2.2) = 0 then 0 else 1) = (0 : Int32) by rw [if_pos q0]; rfl)]
              exact i1
            · obtain ⟨v1, v2, v3, v4⟩ := g2.o q0
              rw [if_neg (show ¬ nI (if jtK tp ts (jtE tp ts rw1.2.2) = 0 then 0 else 1) = (0 : Int32) by rw [if_neg q0]; decide), jxg_m hL (by omega) (by omega) (by omega) v2, Option.bind_some]
              by_cases q1 : jtK tp ts (jtE tp ts rw1.2.2) = 1
              · rw [if_pos (show jtK tp ts (jtE tp ts rw1.2.2) = 0 ∨ jtK tp ts (jtE tp ts rw1.2.2) = 1 from Or.inr q1)] at i1
                rw [if_pos (show nI (jtK tp ts (jtE tp ts rw1.2.2) - 1) = (0 : Int32) by rw [q1]; rfl)]
                exact i1
              · rw [if_neg (show ¬ (jtK tp ts (jtE tp ts rw1.2.2) = 0 ∨ jtK tp ts (jtE tp ts rw1.2.2) = 1) by omega)] at i1
                rw [if_neg (show ¬ nI (jtK tp ts (jtE tp ts rw1.2.2) - 1) = (0 : Int32) from fun z => by rw [jlit, nI_eq (by omega) (by omega)] at z; omega)]
                exact i1
          · have er : r1 = (2, jtB tp ts rw1.2.2, jtE tp ts rw1.2.2) := by
              rw [a4, jEx_no w0 k5]
              show ((if jtK tp ts rw1.2.2 = 0 then 1 else 2), _, _) = _
              rw [if_neg k0]
            have ne : r1.1 ≠ 0 := by rw [er]; show ¬ (2 = 0); decide
            obtain ⟨T3, g1, g2, g3⟩ := jMr_fails hL (ω := ω) hK2 (ts := ts) (x := 2) (v := jtB tp ts rw1.2.2) (e := jtE tp ts rw1.2.2) p1 (by decide) (by decide)
            have g1 : f_Mo_fails (jad L (jm 0)) 2 (nI (jtB tp ts rw1.2.2)) (jW L ω T2) = some (0, jW L ω T3) := g1
            refine ⟨T3, ?_, a2.T.trans ((b2.f.trans g2).N.T σ), by rw [rr1 ne, er]; exact g3, fun z => by have := s0 ne; omega⟩
            rw [if_neg (show ¬ nI (jtK tp ts rw1.2.2 - 1) = (4 : Int32) from fun z => by rw [jlit, nI_eq (by omega) (by omega)] at z; omega), jxg_m hL (by omega) (by omega) (by omega) b2.b, Option.bind_some, jkm hL, g1]
      · have er : r1 = rw1 := by rw [a4, jEx_st w0]
        have ne : r1.1 ≠ 0 := by rw [er]; exact w0
        rw [if_neg (fun z => w0 ((jz0 _ a3.f4).mp z))]
        exact ⟨T1, rfl, a2.T, by rw [rr1 ne, er]; exact a3, fun z => by have := s0 ne; omega⟩
theorem jMr_text {L : jL} (hL : jgood L) {ω : xS} {S : jSt} {sw ps wy : Nat} (hK : jLK S sw ps wy) {tp : Nat → Nat} {ts d σ : Nat} {Ds : Nat → jD} {n : Nat} {r : Nat × Nat × Nat} (hd : d < 2 ^ 31) (hσ : σ = 0 ∨ (σ = 1 ∧ r.1 = 0)) (hT : jTm S tp ts) (h39 : jgI S (jm 0) 39 = nI 0) (h41 : jgI S (jm 0) 41 = nI σ) (h1 : jgI S (jm 0) 1 = nI d) (hX : jTx tp ts d Ds n r 16 0 0) : ∃ T, f_Mo_text (jad L (jm 0)) (jW L ω S) = some (jW L ω T) ∧ jfT σ S T ∧ jRr T ts r ∧ (σ = 1 → jgI T (jm 0) 20 = nI n ∧ n ≤ 16 ∧ ∀ i, i < n → jDN T i (Ds i)) := by
  have f1 : jf0 S (jsI S (jm 0) 34 (nI 0)) := jf0.sI S _ (by omega)
  obtain ⟨T1, a1, a2⟩ := jMt_adv hL (ω := ω) (hK.of f1.1) (hT.f0 f1) (e := 0) (by rw [jsI_c, if_pos rfl]) (Nat.zero_le _) (by rw [jsI_c, if_neg (by decide)]; exact h39)
  have F := f1.trans a2.f
  have hle := jtK_le (tp := tp) (ts := ts) (e := 0)
  obtain ⟨T, i1, i2, i3, i4⟩ := jMr_texts hL (ω := ω) (sw := sw) (ps := ps) (wy := wy) hd hσ 16 0 0 xFU _ T1 (by omega) (by unfold xFU; omega) (Nat.zero_le _) (hK.of F.1) (hT.f0 F) a2 (by rw [F.2.2.2.2 41 (by omega)]; exact h41) (by rw [F.2.2.2.2 1 (by omega)]; exact h1) hX (fun _ i hi => by omega)
  refine ⟨T, ?_, (F.N.T σ).trans i2, i3, i4⟩
  have i1 : f_Mo_text_27 xFU (jad L (jm 0)) 0 _ (jW L ω T1) = _ := i1
  unfold f_Mo_text
  rw [show (0 : Int32) = nI 0 from rfl, jxp_m hL (by omega) (by omega) (by omega), Option.bind_some, jkm hL, a1]
  simp only [xc]
  rw [show nI 0 = (0 : Int32) from rfl]
  by_cases q0 : jtK tp ts 0 = 0
  · rw [if_pos (show jtK tp ts 0 = 0 ∨ jtK tp ts 0 = 1 from Or.inl q0)] at i1
    rw [if_pos (show nI (if jtK tp ts 0 = 0 then 0 else 1) = (0 : Int32) by rw [if_pos q0]; rfl)]
    exact i1
  · obtain ⟨v1, v2, v3, v4⟩ := a2.o q0
    rw [if_neg (show ¬ nI (if jtK tp ts 0 = 0 then 0 else 1) = (0 : Int32) by rw [if_neg q0]; decide), jxg_m hL (by omega) (by omega) (by omega) v2, Option.bind_some]
    by_cases q1 : jtK tp ts 0 = 1
    · rw [if_pos (show jtK tp ts 0 = 0 ∨ jtK tp ts 0 = 1 from Or.inr q1)] at i1
      rw [if_pos (show nI (jtK tp ts 0 - 1) = (0 : Int32) by rw [q1]; rfl)]
      exact i1
    · rw [if_neg (show ¬ (jtK tp ts 0 = 0 ∨ jtK tp ts 0 = 1) by omega)] at i1
      rw [if_neg (show ¬ nI (jtK tp ts 0 - 1) = (0 : Int32) from fun z => by rw [jlit, nI_eq (by omega) (by omega)] at z; omega)]
      exact i1
/-- the reference's read: what stays -/
def jRM2 (S T : jSt) (n : Nat) (r : Nat × Nat × Nat) (Ds : Nat → jD) : Prop := (jgX T = jgX S) ∧ (jgN T = jgN S) ∧ (∀ c, (∀ q, 10 ≤ q → q ≤ 44 → c ≠ jm q) ∨ c = jm 25 ∨ c = jm 26 → jgA T c = jgA S c) ∧ (∀ c, c ≠ jm 0 → jgI T c = jgI S c) ∧ (∀ q, (q < 34 ∧ q ≠ 20 ∧ q ≠ 11 ∧ q ≠ 12) → jgI T (jm 0) q = jgI S (jm 0) q) ∧ (jgI T (jm 0) 11 = nI 0) ∧ (jgI T (jm 0) 12 = if r.1 = 0 then -2 else nI r.2.1) ∧ (r.1 ≠ 0 → jgI T (jm 0) 20 = jgI S (jm 0) 20 ∧ ∀ q, 10 ≤ q → q ≤ 26 → jgA T (jm q) = jgA S (jm q)) ∧ (r.1 = 0 → jgI T (jm 0) 20 = nI n ∧ n ≤ 16 ∧ ∀ i, i < n → jDN T i (Ds i))
theorem jRM2.x {S T : jSt} {n : Nat} {r : Nat × Nat × Nat} {Ds : Nat → jD} (h : jRM2 S T n r Ds) : jgX T = jgX S := h.1
theorem jRM2.n {S T : jSt} {n : Nat} {r : Nat × Nat × Nat} {Ds : Nat → jD} (h : jRM2 S T n r Ds) : jgN T = jgN S := h.2.1
theorem jRM2.a {S T : jSt} {n : Nat} {r : Nat × Nat × Nat} {Ds : Nat → jD} (h : jRM2 S T n r Ds) : ∀ c, (∀ q, 10 ≤ q → q ≤ 44 → c ≠ jm q) ∨ c = jm 25 ∨ c = jm 26 → jgA T c = jgA S c := h.2.2.1
theorem jRM2.i {S T : jSt} {n : Nat} {r : Nat × Nat × Nat} {Ds : Nat → jD} (h : jRM2 S T n r Ds) : ∀ c, c ≠ jm 0 → jgI T c = jgI S c := h.2.2.2.1
theorem jRM2.k {S T : jSt} {n : Nat} {r : Nat × Nat × Nat} {Ds : Nat → jD} (h : jRM2 S T n r Ds) : ∀ q, (q < 34 ∧ q ≠ 20 ∧ q ≠ 11 ∧ q ≠ 12) → jgI T (jm 0) q = jgI S (jm 0) q := h.2.2.2.2.1
theorem jRM2.t {S T : jSt} {n : Nat} {r : Nat × Nat × Nat} {Ds : Nat → jD} (h : jRM2 S T n r Ds) : jgI T (jm 0) 11 = nI 0 := h.2.2.2.2.2.1
theorem jRM2.p {S T : jSt} {n : Nat} {r : Nat × Nat × Nat} {Ds : Nat → jD} (h : jRM2 S T n r Ds) : jgI T (jm 0) 12 = if r.1 = 0 then -2 else nI r.2.1 := h.2.2.2.2.2.2.1
theorem jRM2.o {S T : jSt} {n : Nat} {r : Nat × Nat × Nat} {Ds : Nat → jD} (h : jRM2 S T n r Ds) : r.1 ≠ 0 → jgI T (jm 0) 20 = jgI S (jm 0) 20 ∧ ∀ q, 10 ≤ q → q ≤ 26 → jgA T (jm q) = jgA S (jm q) := h.2.2.2.2.2.2.2.1
theorem jRM2.y {S T : jSt} {n : Nat} {r : Nat × Nat × Nat} {Ds : Nat → jD} (h : jRM2 S T n r Ds) : r.1 = 0 → jgI T (jm 0) 20 = nI n ∧ n ≤ 16 ∧ ∀ i, i < n → jDN T i (Ds i) := h.2.2.2.2.2.2.2.2
theorem jxp_m2 {L : jL} (hL : jgood L) {ω : xS} {S : jSt} {q : Nat} {v : Int32} (hq : q = 11 ∨ q = 12) : xp (jW L ω S) (jad L (jm 0)) 12 q (.int v) = some (jW L ω (jsI S (jm 0) q v)) := by
  rcases hq with rfl | rfl <;> simp (disch := first | omega | rfl | assumption | exact jokr (by decide) (by omega) | exact jokr4 (by omega) | exact jkt_r _ _ | exact jkt_l (by decide) | exact jfk_l (by decide) | exact jkt_t _ | exact jkt_r6 _ _ | exact jkt_t6 _ | (simp only [jok, jlen]; omega) | decide) only [jm_pi hL]
theorem jMr_read {L : jL} (hL : jgood L) {ω : xS} {S : jSt} {sw ps wy : Nat} (hK : jLK S sw ps wy) {tp : Nat → Nat} {ts d : Nat} {Ds : Nat → jD} {n : Nat} {r : Nat × Nat × Nat} (hd : d < 2 ^ 31) (hT : jTm S tp ts) (h1 : jgI S (jm 0) 1 = nI d) (hX : jTx tp ts d Ds n r 16 0 0) : ∃ T, f_Mo_read (jad L (jm 0)) (jW L ω S) = some (if r.1 = 0 then nI n else -10 - nI r.1, jW L ω T) ∧ jRM2 S T n r Ds := by
  have u39 : ∀ (U : jSt) (v : Int32), jgI (jsI (jsI U (jm 0) 41 v) (jm 0) 39 (nI 0)) (jm 0) 39 = nI 0 := fun U v => by rw [jsI_c, if_pos rfl]
  obtain ⟨T1, a1, a2, a3, _⟩ := jMr_text hL (ω := ω) (S := jsI (jsI S (jm 0) 41 (nI 0)) (jm 0) 39 (nI 0)) (hK.of rfl) hd (σ := 0) (Or.inl rfl) ⟨hT.s, hT.b, by rw [jsI_c, if_neg (by decide), jsI_c, if_neg (by decide)]; exact hT.m, hT.mb⟩ (u39 S _) (by rw [jsI_c, if_neg (by decide), jsI_c, if_pos rfl]) (by rw [jsI_c, if_neg (by decide), jsI_c, if_neg (by decide)]; exact h1) hX
  have s0 : ∀ q, q ≠ 41 → q ≠ 39 → jgI (jsI (jsI S (jm 0) 41 (nI 0)) (jm 0) 39 (nI 0)) (jm 0) q = jgI S (jm 0) q := fun q h1 h2 => by rw [jsI_c, if_neg h2, jsI_c, if_neg h1]
  have si : ∀ c, c ≠ jm 0 → jgI (jsI (jsI S (jm 0) 41 (nI 0)) (jm 0) 39 (nI 0)) c = jgI S c := fun c hc => by rw [jsI_fn hc, jsI_fn hc]
  have t39 := a3.f
  unfold f_Mo_read
  rw [show (0 : Int32) = nI 0 from rfl, jxp_m hL (by omega) (by omega) (by omega), Option.bind_some, jxp_m hL (by omega) (by omega) (by omega), Option.bind_some, jkm hL, a1, Option.bind_some, jxg_m hL (by omega) (by omega) (by omega) t39, Option.bind_some]
  rw [show nI 0 = (0 : Int32) from rfl]
  by_cases c : r.1 = 0
  · have T41 : jgI (jsI T1 (jm 0) 41 (nI 1)) (jm 0) 41 = nI 1 := by rw [jsI_c, if_pos rfl]
    have z39 : jgI (jsI T1 (jm 0) 41 (nI 1)) (jm 0) 39 = nI 0 := by rw [jsI_c, if_neg (by decide), t39, c]
    have f0 := a2.o rfl
    obtain ⟨T2, b1, b2, b3, b4⟩ := jMr_text hL (ω := ω) (S := jsI T1 (jm 0) 41 (nI 1)) (hK.of (show jgX T1 = jgX S from a2.x)) hd (σ := 1) (Or.inr ⟨rfl, c⟩) ⟨hT.s, hT.b, by rw [jsI_c, if_neg (by decide), a2.k 11 (by omega), s0 11 (by decide) (by decide)]; exact hT.m, fun i hi => by
      have e : jgA T1 (jm 9) = jgA S (jm 9) := a2.a _ (Or.inl (fun q h1 _ => jmne (by omega)))
      show jgA T1 (jm 9) i &&& nI 255 = _
      rw [e]; exact hT.mb i hi⟩ z39 T41 (by rw [jsI_c, if_neg (by decide), a2.k 1 (by omega), s0 1 (by decide) (by decide)]; exact h1) hX
    obtain ⟨y1, y2, y3⟩ := b4 rfl
    have w39 : jgI T2 (jm 0) 39 = nI 0 := by rw [b3.f, c]
    have w20 : xgi (jW L ω (jsI (jsI T2 (jm 0) 11 (nI 0)) (jm 0) 12 (-2))) (jad L (jm 0)) 12 20 = some (nI n) := by
      have : jgI (jsI (jsI T2 (jm 0) 11 (nI 0)) (jm 0) 12 (-2)) (jm 0) 20 = nI n := by rw [jsI_c, if_neg (by decide), jsI_c, if_neg (by decide)]; exact y1
      simp (disch := first | omega | rfl | assumption | exact jokr (by decide) (by omega) | exact jokr4 (by omega) | exact jkt_r _ _ | exact jkt_l (by decide) | exact jfk_l (by decide) | exact jkt_t _ | exact jkt_r6 _ _ | exact jkt_t6 _ | (simp only [jok, jlen]; omega) | decide) only [jm_gi hL, this]
    refine ⟨jsI (jsI T2 (jm 0) 11 (nI 0)) (jm 0) 12 (-2), ?_, ?_⟩
    · rw [if_pos (show nI r.1 = (0 : Int32) by rw [c]; rfl), show (1 : Int32) = nI 1 from rfl, jxp_m hL (by omega) (by omega) (by omega), Option.bind_some, jkm hL, b1, Option.bind_some]
      unfold f_Mo_read_30
      rw [show (0 : Int32) = nI 0 from rfl, jxp_m2 hL (Or.inl rfl), Option.bind_some, jxg_m hL (by omega) (by omega) (by omega) (show jgI (jsI T2 (jm 0) 11 (nI 0)) (jm 0) 39 = nI 0 by rw [jsI_c, if_neg (by decide)]; exact w39), Option.bind_some, if_pos rfl, jxp_m2 hL (Or.inr rfl), Option.bind_some, w20, Option.bind_some, if_pos c]
    · refine ⟨(show jgX T2 = jgX S from b2.x.trans a2.x), (show jgN T2 = jgN S from b2.n.trans a2.n), fun c hc => (show jgA T2 c = jgA S c from (b2.a c hc).trans (a2.a c hc)), fun c hc => ?_, fun q hq => ?_, ?_, ?_, fun z => absurd c z, fun _ => ⟨?_, y2, fun i hi => y3 i hi⟩⟩
      · rw [jsI_fn hc, jsI_fn hc, b2.i c hc, jsI_fn hc, a2.i c hc, si c hc]
      · rw [jsI_c, if_neg (by omega), jsI_c, if_neg (by omega), b2.k q (by omega), jsI_c, if_neg (by omega), a2.k q (by omega), s0 q (by omega) (by omega)]
      · rw [jsI_c, if_neg (by decide), jsI_c, if_pos rfl]
      · rw [jsI_c, if_pos rfl, if_pos c]
      · rw [jsI_c, if_neg (by decide), jsI_c, if_neg (by decide)]; exact y1
  · have f0 := a2.o rfl
    have w40 := a3.p c
    refine ⟨jsI (jsI T1 (jm 0) 11 (nI 0)) (jm 0) 12 (nI r.2.1), ?_, ?_⟩
    · rw [if_neg (fun z => c ((jz0 _ a3.f4).mp z))]
      unfold f_Mo_read_30
      rw [show (0 : Int32) = nI 0 from rfl, jxp_m2 hL (Or.inl rfl), Option.bind_some, jxg_m hL (by omega) (by omega) (by omega) (show jgI (jsI T1 (jm 0) 11 (nI 0)) (jm 0) 39 = nI r.1 by rw [jsI_c, if_neg (by decide)]; exact t39), Option.bind_some, if_neg (show ¬ nI r.1 = nI 0 from fun z => c ((jz0 _ a3.f4).mp z)), jxg_m hL (by omega) (by omega) (by omega) (show jgI (jsI T1 (jm 0) 11 (nI 0)) (jm 0) 40 = nI r.2.1 by rw [jsI_c, if_neg (by decide)]; exact w40), Option.bind_some, jxp_m2 hL (Or.inr rfl), Option.bind_some, jxg_m hL (by omega) (by omega) (by omega) (show jgI (jsI (jsI T1 (jm 0) 11 (nI 0)) (jm 0) 12 (nI r.2.1)) (jm 0) 39 = nI r.1 by rw [jsI_c, if_neg (by decide), jsI_c, if_neg (by decide)]; exact t39), Option.bind_some, if_neg c]
    · refine ⟨a2.x, a2.n, a2.a, fun c hc => ?_, fun q hq => ?_, ?_, ?_, fun _ => ⟨?_, fun q h1 h2 => f0.a _ (jisU_n (by omega))⟩, fun z => absurd z c⟩
      · rw [jsI_fn hc, jsI_fn hc, a2.i c hc, si c hc]
      · rw [jsI_c, if_neg (by omega), jsI_c, if_neg (by omega), a2.k q (by omega), s0 q (by omega) (by omega)]
      · rw [jsI_c, if_neg (by decide), jsI_c, if_pos rfl]
      · rw [jsI_c, if_pos rfl, if_neg c]
      · rw [jsI_c, if_neg (by decide), jsI_c, if_neg (by decide), f0.k 20 (by omega), s0 20 (by decide) (by decide)]
