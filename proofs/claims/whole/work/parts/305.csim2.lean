/-! the class's parser follows: rows end, items are repeated -/
theorem jzw {T : jSt} {j w z : Nat} {s : jPs} (B : jCB T j s w) (q2 : jgI T (jl j 1) 4 = nI z) (q1 : z ≤ 10) : w = z := by
  have := B.z.symm.trans q2
  rw [nI_eq (by have := B.z10; omega) (by omega)] at this
  exact this
theorem jysome {y : Option jG} {n : Nat} (h : y = none ↔ n = 0) (h1 : n = 1) : ∃ g, y = some g := by
  cases y with
  | none => exact absurd (h.mp rfl) (by omega)
  | some g => exact ⟨g, rfl⟩
theorem jCs_bar {L : jL} (hL : jgood L) {ω : xS} {S : jSt} {sw ps wy : Nat} (hK : jLK S sw ps wy) {j x ft : Nat} {s : jPs} (hj : j < 32) (hi : jPi s) (hd : jPs.d s ≤ 40) (h1 : jPs.hs s = 1) (h : jCs S j s x ft) : ∃ T, f_PatternParser_endRow (jad L (jo 31)) (nI 124) (jad L (jl j 1)) (jW L ω S) = some (jW L ω T) ∧ jfq (jisP j) S T ∧ jCs T j (jpB s) x ft := by
  obtain ⟨z, X, U, y, q1, q2, q3, q4, q5, q6, q7, q8, q9⟩ := h.ex hi
  obtain ⟨g, rfl⟩ := jysome q8 h1
  obtain ⟨hg, h5⟩ := q7.s g rfl
  obtain ⟨T, a1, a2, a3, a4, a5, a6, a7, _⟩ := jPp_endRow hL (ω := ω) hK hj hd q5 q3 hg h.d h5 q6 q4 q2 q1 (c := 124) (Or.inl rfl)
  obtain ⟨b1, b2, b3⟩ := a7 rfl
  refine ⟨T, a1, a2, ⟨?_, ?_, ?_, ?_, fun _ => by rw [b3, if_pos rfl], fun z => absurd z (by show ¬ (0 = 1); decide), fun c => ?_, fun c => ?_⟩⟩
  · rw [b3, if_neg (by decide)]; exact h.d
  · rw [b3, if_neg (by decide)]; exact h.x
  · rw [b3, if_neg (by decide)]; exact h.f
  · rw [b3, if_neg (by decide)]; exact h.c
  · have c : jPs.sz s ≤ 10 := c
    have A := h.A c
    obtain ⟨rfl, rfl, rfl, hy1⟩ := q9 c
    have hgi : g = jPs.it s := by have := hy1 h1; simpa using this
    subst hgi
    have hro := hi.ro (jPs.d s) (Nat.le_refl _)
    refine ⟨by rw [a3]; exact A.z, by rw [a3]; exact A.o, fun l hl => ?_, fun p hp => by rw [a5]; exact jchn_A A hro hp, fun e he => ?_, fun e he => ?_, fun e h1 he => by rw [a6]; exact A.gf e h1 he, fun z => absurd z (by show ¬ (0 = 1); decide)⟩
    · obtain ⟨t, u1, u2, u3⟩ := (A.tk l hl).x
      exact ⟨t, u1, by rw [a4]; exact u2, u3⟩
    · rw [b1]
      show _ = nI (jenc (if e = jPs.d s then jpU s else jPs.en s e))
      by_cases c2 : e = jPs.d s
      · rw [if_pos c2, if_pos c2]; rfl
      · rw [if_neg c2, if_neg c2]; exact A.en e he
    · rw [b2]
      show _ = nI (jenc (if e = jPs.d s then (0, 0, 1) else jPs.ro s e))
      by_cases c2 : e = jPs.d s
      · rw [if_pos c2, if_pos c2]
      · rw [if_neg c2, if_neg c2]; exact A.ro e he
  · have c : 10 < jPs.sz s := c
    obtain ⟨w, B⟩ := h.B c
    have ezw := jzw B q2 q1
    subst ezw
    refine ⟨w, B.z10, by rw [a3]; exact B.z, by rw [a3]; exact B.o, fun e he => ?_, fun e he => ?_, fun e h1 he => by rw [a6]; exact B.gf e h1 he, fun z => absurd z (by show ¬ (0 = 1); decide)⟩
    · rw [b1]
      by_cases c2 : e = jPs.d s
      · rw [if_pos c2]; exact ⟨_, jug_good q5 (jcg_good q3 hg), rfl⟩
      · rw [if_neg c2]; exact B.en e he
    · rw [b2]
      by_cases c2 : e = jPs.d s
      · rw [if_pos c2]; exact ⟨(0, 0, 1), ⟨by decide, by decide, by decide⟩, rfl⟩
      · rw [if_neg c2]; exact B.ro e he
theorem jCs_close {L : jL} (hL : jgood L) {ω : xS} {S : jSt} {sw ps wy : Nat} (hK : jLK S sw ps wy) {j x ft : Nat} {s : jPs} (hj : j < 32) (hi : jPi s) (hd : jPs.d s ≤ 40) (hd0 : 0 < jPs.d s) (h1 : jPs.hs s = 1) (h : jCs S j s x ft) : ∃ T, f_PatternParser_endRow (jad L (jo 31)) (nI 41) (jad L (jl j 1)) (jW L ω S) = some (jW L ω T) ∧ jfq (jisP j) S T ∧ jCs T j (jpC s) x ft := by
  obtain ⟨z, X, U, y, q1, q2, q3, q4, q5, q6, q7, q8, q9⟩ := h.ex hi
  obtain ⟨g, rfl⟩ := jysome q8 h1
  obtain ⟨hg, h5⟩ := q7.s g rfl
  obtain ⟨T, a1, a2, a3, a4, a5, a6, _, a7⟩ := jPp_endRow hL (ω := ω) hK hj hd q5 q3 hg h.d h5 q6 q4 q2 q1 (c := 41) (Or.inr (Or.inl rfl))
  obtain ⟨b1, b2, b3⟩ := a7 (by decide)
  have k8 : jgI T (jo 31) 8 = nI 0 := by rw [b3, if_neg (by decide), if_neg (by decide), if_neg (by decide), if_neg (by decide), if_pos rfl, if_neg (by decide)]
  have ko : ∀ k, k ≠ 4 → k ≠ 5 → k ≠ 6 → k ≠ 7 → k ≠ 8 → jgI T (jo 31) k = jgI S (jo 31) k := fun k h4 h5 h6 h7 h8 => by rw [b3, if_neg h4, if_neg h5, if_neg h6, if_neg h7, if_neg h8]
  refine ⟨T, a1, a2, ⟨by rw [b3, if_pos rfl]; rfl, ?_, ?_, k8, fun z => absurd z (by show ¬ (1 = 0); decide), fun _ => by rw [b3, if_neg (by decide), if_neg (by decide), if_neg (by decide), if_pos rfl]; rfl, fun c => ?_, fun c => ?_⟩⟩
  · rw [ko _ (by decide) (by decide) (by decide) (by decide) (by decide)]; exact h.x
  · rw [ko _ (by decide) (by decide) (by decide) (by decide) (by decide)]; exact h.f
  · have c : jPs.sz s ≤ 10 := c
    have A := h.A c
    obtain ⟨rfl, rfl, rfl, hy1⟩ := q9 c
    have hgi : g = jPs.it s := by have := hy1 h1; simpa using this
    subst hgi
    have hro := hi.ro (jPs.d s) (Nat.le_refl _)
    refine ⟨by rw [a3]; exact A.z, by rw [a3]; exact A.o, fun l hl => ?_, fun p hp => by rw [a5]; exact jchn_A A hro hp, fun e he => ?_, fun e he => ?_, fun e h1 he => ?_, fun _ => ⟨?_, ?_⟩⟩
    · obtain ⟨t, u1, u2, u3⟩ := (A.tk l hl).x
      exact ⟨t, u1, by rw [a4]; exact u2, u3⟩
    · rw [b1]; exact A.en e (Nat.le_trans he (Nat.sub_le _ _))
    · rw [b2]; exact A.ro e (Nat.le_trans he (Nat.sub_le _ _))
    · rw [a6]; exact A.gf e h1 (Nat.le_trans he (Nat.sub_le _ _))
    · rw [b3, if_neg (by decide), if_pos rfl]; rfl
    · rw [b3, if_neg (by decide), if_neg (by decide), if_pos rfl]; exact A.gf _ hd0 (Nat.le_refl _)
  · have c : 10 < jPs.sz s := c
    obtain ⟨w, B⟩ := h.B c
    have ezw := jzw B q2 q1
    subst ezw
    refine ⟨w, B.z10, by rw [a3]; exact B.z, by rw [a3]; exact B.o, fun e he => ?_, fun e he => ?_, fun e h1 he => ?_, fun _ => ⟨⟨_, jug_good q5 (jcg_good q3 hg), by rw [b3, if_neg (by decide), if_pos rfl]⟩, ?_⟩⟩
    · rw [b1]; exact B.en e (Nat.le_trans he (Nat.sub_le _ _))
    · rw [b2]; exact B.ro e (Nat.le_trans he (Nat.sub_le _ _))
    · rw [a6]; exact B.gf e h1 (Nat.le_trans he (Nat.sub_le _ _))
    · obtain ⟨b', hb', eb'⟩ := B.gf _ hd0 (Nat.le_refl _)
      exact ⟨b', hb', by rw [b3, if_neg (by decide), if_neg (by decide), if_pos rfl]; exact eb'⟩
theorem jCs_star {L : jL} (hL : jgood L) {ω : xS} {S : jSt} {sw ps wy : Nat} (hK : jLK S sw ps wy) {j x a ft : Nat} {s : jPs} (hj : j < 32) (hi : jPi s) (h1 : jPs.hs s = 1) (ha : a ≤ 1) (h : jCs S j s x ft) : ∃ T, f_PatternParser_repeatItem (jad L (jo 31)) (nI (10 * a)) (jad L (jl j 1)) (jW L ω S) = some (jW L ω T) ∧ jfq (jisP j) S T ∧ jCs T j (jpS s (if a = 0 then 1 else (jPs.it s).2.2)) x ft := by
  obtain ⟨z, X, U, y, q1, q2, q3, q4, q5, q6, q7, q8, q9⟩ := h.ex hi
  obtain ⟨g, rfl⟩ := jysome q8 h1
  obtain ⟨hg, h5⟩ := q7.s g rfl
  obtain ⟨T, a1, a2, a3, a4⟩ := jPp_rep0 hL (ω := ω) hK hj ha hg h5 q2 q1
  have ko : ∀ k, k ≠ 5 → k ≠ 7 → jgI T (jo 31) k = jgI S (jo 31) k := fun k h5 h7 => by rw [a4, if_neg h5, if_neg h7]
  have no : ∀ q, q ≠ 31 → ¬ (fun c => c = jo 31 ∨ c = jl j 3) (jo q) := fun q hq z => by
    rcases z with z | z
    · exact jone hq z
    · cases z
  have nl : ∀ q, q ≠ 3 → ¬ (fun c => c = jo 31 ∨ c = jl j 3) (jl j q) := fun q hq z => by
    rcases z with z | z
    · cases z
    · exact hq (by cases z; rfl)
  refine ⟨T, a1, a2.weak (fun c hc => by rcases hc with z | z <;> subst z; exact jP31 j; exact jPl3 j), ⟨?_, ?_, ?_, ?_, fun z => absurd z (by show ¬ (1 = 0); decide), fun _ => by rw [a4, if_neg (by decide), if_pos rfl]; rfl, fun c => ?_, fun c => ?_⟩⟩
  · rw [ko _ (by decide) (by decide)]; exact h.d
  · rw [ko _ (by decide) (by decide)]; exact h.x
  · rw [ko _ (by decide) (by decide)]; exact h.f
  · rw [ko _ (by decide) (by decide)]; exact h.c
  · have c : jPs.sz s ≤ 10 := c
    have A := h.A c
    obtain ⟨rfl, rfl, rfl, hy1⟩ := q9 c
    have hgi : g = jPs.it s := by have := hy1 h1; simpa using this
    subst hgi
    refine ⟨by rw [(a2.2.2 _ (nl 1 (by decide))).1]; exact A.z, by rw [(a2.2.2 _ (nl 1 (by decide))).1]; exact A.o, fun l hl => ?_, fun p hp => by rw [a3]; exact jchn_A A (hi.it h1).2.2 hp, fun e he => by rw [(a2.2.2 _ (no 32 (by decide))).2]; exact A.en e he, fun e he => by rw [(a2.2.2 _ (no 33 (by decide))).2]; exact A.ro e he, fun e h1 he => by rw [(a2.2.2 _ (no 34 (by decide))).2]; exact A.gf e h1 he, fun _ => ⟨by rw [a4, if_pos rfl]; rfl, by rw [ko _ (by decide) (by decide)]; exact (A.it h1).2⟩⟩
    obtain ⟨t, u1, u2, u3⟩ := (A.tk l hl).x
    exact ⟨t, u1, by rw [(a2.2.2 _ (nl 2 (by decide))).2]; exact u2, u3⟩
  · have c : 10 < jPs.sz s := c
    obtain ⟨w, B⟩ := h.B c
    refine ⟨w, B.z10, by rw [(a2.2.2 _ (nl 1 (by decide))).1]; exact B.z, by rw [(a2.2.2 _ (nl 1 (by decide))).1]; exact B.o, fun e he => by rw [(a2.2.2 _ (no 32 (by decide))).2]; exact B.en e he, fun e he => by rw [(a2.2.2 _ (no 33 (by decide))).2]; exact B.ro e he, fun e h1 he => by rw [(a2.2.2 _ (no 34 (by decide))).2]; exact B.gf e h1 he, fun _ => ⟨⟨(g.1, g.2.1, if a = 0 then 1 else g.2.2), ⟨hg.f, hg.l, ?_⟩, by rw [a4, if_pos rfl]⟩, ?_⟩⟩
    · show (if a = 0 then 1 else g.2.2) ≤ 1
      have := hg.e
      split <;> omega
    · rw [ko _ (by decide) (by decide)]; exact (B.it h1).2
/-- times a to b, 1 ≤ b: where the copies have room the machine's next, else overfull -/
theorem jCs_times {L : jL} (hL : jgood L) {ω : xS} {S : jSt} {sw ps wy : Nat} (hK : jLK S sw ps wy) {j x a b ft : Nat} {s s' : jPs} (hj : j < 32) (hi : jPi s) (h1 : jPs.hs s = 1) (ha : a ≤ 9) (hb : 1 ≤ b) (hb9 : b ≤ 9) (hd : jPs.d s' = jPs.d s) (hh : jPs.hs s' = 1) (hr : jPs.rp s' = 0) (hz : jPs.sz s' = jPs.ib s + b * jwd s) (hs' : jPs.ib s + b * jwd s ≤ 10 → jPs.en s' = jPs.en s ∧ jPs.ro s' = jPs.ro s ∧ jPs.gf s' = jPs.gf s ∧ jPs.it s' = jWk s a (b - 1) ∧ jPs.ib s' = jPs.ib s ∧ (∀ p, p < 10 → jPs.fo s' p = jFk s a (b - 1) p) ∧ ∀ p, p < jPs.ib s + b * jwd s → jPs.ls s' p = jLs s b p) (h : jCs S j s x ft) : ∃ T, f_PatternParser_repeatItem (jad L (jo 31)) (nI (10 * a + b)) (jad L (jl j 1)) (jW L ω S) = some (jW L ω T) ∧ jfq (jisP j) S T ∧ jCs T j s' x ft ∧ jgI T (jo 31) 11 = jgI S (jo 31) 11 := by
  obtain ⟨i1, i2, i3⟩ := hi.it h1
  have ew : jPs.ib s + jwd s = jPs.sz s := by unfold jwd; omega
  have eb : b * jwd s = (b - 1) * jwd s + jwd s := by
    have : b = (b - 1) + 1 := by omega
    rw [this, Nat.succ_mul, Nat.add_sub_cancel]
  by_cases fit : jPs.ib s + b * jwd s ≤ 10
  · have A := h.A (by omega)
    obtain ⟨g1, g2, g3, g4, g5, g6, g7⟩ := hs' fit
    obtain ⟨T, a1, a2, a3, a4, a5, a6, a7, a8, a9⟩ := jPp_repA hL (ω := ω) hK (a := a) (b := b) hj hi h1 ha hb hb9 (A.it h1).1 (A.it h1).2 A.z A.o A.tk A.fo fit
    have ko : ∀ k, k ≠ 5 → k ≠ 7 → jgI T (jo 31) k = jgI S (jo 31) k := fun k h5 h7 => by rw [a9, if_neg h5, if_neg h7]
    refine ⟨T, a1, a2, ⟨?_, ?_, ?_, ?_, fun z => absurd z (by omega), fun _ => by rw [a9, if_neg (by decide), if_pos rfl, hr], fun _ => ⟨?_, ?_, fun l hl => ?_, fun p hp => ?_, fun e he => ?_, fun e he => ?_, fun e h1 he => ?_, fun _ => ⟨?_, ?_⟩⟩, fun c => by omega⟩, ko 11 (by decide) (by decide)⟩
    · rw [ko _ (by decide) (by decide), hd]; exact h.d
    · rw [ko _ (by decide) (by decide)]; exact h.x
    · rw [ko _ (by decide) (by decide)]; exact h.f
    · rw [ko _ (by decide) (by decide)]; exact h.c
    · rw [a6, if_pos rfl, hz]
    · rw [a6, if_neg (by decide)]; exact A.o
    · obtain ⟨t, u1, u2, u3⟩ := (a7 l hl).x
      refine ⟨t, u1, u2, fun q => (u3 q).trans ?_⟩
      rw [hz]
      refine and_congr_right (fun hq => ?_)
      rw [g7 q hq]
    · rw [a8 p hp, g6 p hp]
    · rw [a3, g1]; exact A.en e (by omega)
    · rw [a4, g2]; exact A.ro e (by omega)
    · rw [a5, g3]; exact A.gf e h1 (by omega)
    · rw [a9, if_pos rfl, g4]
    · rw [ko _ (by decide) (by decide), g5]; exact (A.it h1).2
  · -- overfull
    have er : nI (10 * a + b) - nI (10 * a + b) / nI 10 * nI 10 = nI b := by rw [jrem (by omega) (by omega), show (10 * a + b) % 10 = b by omega]
    have ed : nI (10 * a + b) / nI 10 = nI a := by rw [jdiv (by omega) (by omega), show (10 * a + b) / 10 = a by omega]
    obtain ⟨z, X, U, y, q1, q2, q3, q4, q5, q6, q7, q8, q9⟩ := h.ex hi
    obtain ⟨g, rfl⟩ := jysome q8 h1
    obtain ⟨hg, h5⟩ := q7.s g rfl
    have hbeg : ∃ b0, b0 ≤ z ∧ jgI S (jo 31) 6 = nI b0 ∧ (jPs.sz s ≤ 10 → b0 = jPs.ib s) := by
      rcases Nat.lt_or_ge 10 (jPs.sz s) with c | c
      · obtain ⟨w, B⟩ := h.B c
        have ezw := jzw B q2 q1
        subst ezw
        obtain ⟨_, b0, h0, e0⟩ := B.it h1
        exact ⟨b0, h0, e0, fun z => by omega⟩
      · obtain ⟨rfl, _⟩ := q9 c
        exact ⟨_, by omega, ((h.A c).it h1).2, fun _ => rfl⟩
    obtain ⟨b0, hb0, e0, hb0'⟩ := hbeg
    have ov : ∃ T w, f_Positions_copyPlaces (jad L (jl j 1)) (nI b0) (nI (z - b0)) (nI (b - 1)) (jW L ω (jsI S (jo 31) 7 (nI 0))) = some (jW L ω T) ∧ jfq (fun c => c = jl j 1 ∨ c = jl j 2 ∨ c = jl j 3) (jsI S (jo 31) 7 (nI 0)) T ∧ jgI T (jl j 1) 4 = nI w ∧ w ≤ 10 ∧ z ≤ w ∧ jgI T (jl j 1) 5 = nI 1 := by
      have qz : jgI (jsI S (jo 31) 7 (nI 0)) (jl j 1) 4 = nI z := by rw [jsI_fn (fun z => by cases z)]; exact q2
      by_cases f2 : z + (z - b0) * (b - 1) ≤ 10
      · obtain ⟨T, a1, a2, a3⟩ := jP_copyB hL (ω := ω) (S := jsI S (jo 31) 7 (nI 0)) hK (m := b - 1) hj qz q1 hb0 (by omega) f2
        refine ⟨T, _, a1, a2, by rw [a3, if_pos rfl], f2, by omega, ?_⟩
        rw [a3, if_neg (by decide), jsI_fn (fun z => by cases z)]
        rcases Nat.lt_or_ge 10 (jPs.sz s) with c | c
        · obtain ⟨w, B⟩ := h.B c; exact B.o
        · exfalso
          obtain ⟨rfl, _⟩ := q9 c
          have := hb0' c
          subst this
          have e1 : (jPs.sz s - jPs.ib s) * (b - 1) = (b - 1) * jwd s := by rw [Nat.mul_comm]; rfl
          omega
      · exact ⟨_, z, jP_copyO hL (ω := ω) (S := jsI S (jo 31) 7 (nI 0)) hK (m := b - 1) hj qz q1 hb0 (by omega) (by omega), jfq.sI _ _ _ (Or.inl rfl), by rw [jsI_c, if_neg (by decide)]; exact qz, q1, Nat.le_refl _, by rw [jsI_c, if_pos rfl]⟩
    obtain ⟨T, w, c1, c2, c3, c4, c5, c6⟩ := ov
    have wk : ∀ c, (fun c => c = jl j 1 ∨ c = jl j 2 ∨ c = jl j 3) c → jisP j c := fun c hc => by
      rcases hc with z | z | z <;> subst z
      · exact jPl1 j
      · exact jPl2 j
      · exact jPl3 j
    have no : ∀ q, ¬ (fun c => c = jl j 1 ∨ c = jl j 2 ∨ c = jl j 3) (jo q) := fun q z => by rcases z with z | z | z <;> cases z
    have ko : ∀ k, k ≠ 7 → jgI T (jo 31) k = jgI S (jo 31) k := fun k hk => by rw [(c2.2.2 _ (no 31)).1, jsI_c, if_neg hk]
    refine ⟨T, ?_, (jfq.sI _ _ _ (jP31 j)).trans (c2.weak wk), ⟨?_, ?_, ?_, ?_, fun z => absurd z (by omega), fun _ => by rw [(c2.2.2 _ (no 31)).1, jsI_c, if_pos rfl, hr], fun c => by omega, fun _ => ⟨w, c4, c3, c6, fun e he => ?_, fun e he => ?_, fun e h1 he => ?_, fun _ => ⟨⟨g, hg, by rw [ko _ (by decide)]; exact h5⟩, b0, by omega, by rw [ko _ (by decide)]; exact e0⟩⟩⟩, ko 11 (by decide)⟩
    · have q4 : jgI (jsI S (jo 31) 7 (nI 0)) (jl j 1) 4 = nI z := by rw [jsI_fn (fun z => by cases z)]; exact q2
      have q6 : jgI (jsI S (jo 31) 7 (nI 0)) (jo 31) 6 = nI b0 := by rw [jsI_c, if_neg (by decide)]; exact e0
      have es : nI z - nI b0 = nI (z - b0) := jsub (by omega)
      have ebm : nI b - nI 1 = nI (b - 1) := jsub hb
      have er : nI (10 * a + b) - nI (10 * a + b) / 10 * 10 = nI b := er
      have ed : nI (10 * a + b) / 10 = nI a := ed
      have ebm : nI b - 1 = nI (b - 1) := ebm
      have p7 : xp (jW L ω S) (jad L (jo 31)) 6 7 (.int 0) = some (jW L ω (jsI S (jo 31) 7 (nI 0))) := by
        rw [show (0 : Int32) = nI 0 from rfl]
        simp (disch := first | omega | rfl | assumption | exact jokr (by decide) (by omega) | exact jokr4 (by omega) | exact jkt_r _ _ | exact jkt_l (by decide) | exact jfk_l (by decide) | exact jkt_t _ | exact jkt_r6 _ _ | exact jkt_t6 _ | (simp only [jok, jlen]; omega) | decide) only [jm_pi hL]
      have g4 : xgi (jW L ω (jsI S (jo 31) 7 (nI 0))) (jad L (jl j 1)) 7 4 = some (nI z) := by simp (disch := first | omega | rfl | assumption | exact jokr (by decide) (by omega) | exact jokr4 (by omega) | exact jkt_r _ _ | exact jkt_l (by decide) | exact jfk_l (by decide) | exact jkt_t _ | exact jkt_r6 _ _ | exact jkt_t6 _ | (simp only [jok, jlen]; omega) | decide) only [jm_gi hL, q4]
      have g6 : xgi (jW L ω (jsI S (jo 31) 7 (nI 0))) (jad L (jo 31)) 6 6 = some (nI b0) := by simp (disch := first | omega | rfl | assumption | exact jokr (by decide) (by omega) | exact jokr4 (by omega) | exact jkt_r _ _ | exact jkt_l (by decide) | exact jfk_l (by decide) | exact jkt_t _ | exact jkt_r6 _ _ | exact jkt_t6 _ | (simp only [jok, jlen]; omega) | decide) only [jm_gi hL, q6]
      have gov : xgi (jW L ω T) (jad L (jl j 1)) 7 5 = some (nI 1) := by simp (disch := first | omega | rfl | assumption | exact jokr (by decide) (by omega) | exact jokr4 (by omega) | exact jkt_r _ _ | exact jkt_l (by decide) | exact jfk_l (by decide) | exact jkt_t _ | exact jkt_r6 _ _ | exact jkt_t6 _ | (simp only [jok, jlen]; omega) | decide) only [jm_gi hL, c6]
      unfold f_PatternParser_repeatItem
      rw [p7, Option.bind_some, er, if_neg (show ¬ nI b = (0 : Int32) from fun z => by rw [jlit, nI_eq (by omega) (by omega)] at z; omega), g4, Option.bind_some, g6, Option.bind_some, Option.bind_some, es, ebm, jkl1 hL hj, c1, Option.bind_some, gov, Option.bind_some, if_neg (show ¬ nI 1 = (0 : Int32) by decide)]
    · rw [ko _ (by decide), hd]; exact h.d
    · rw [ko _ (by decide)]; exact h.x
    · rw [ko _ (by decide)]; exact h.f
    · rw [ko _ (by decide)]; exact h.c
    · rw [(c2.2.2 _ (no 32)).2]
      rw [hd] at he
      rcases Nat.lt_or_ge 10 (jPs.sz s) with c | c
      · obtain ⟨_, B⟩ := h.B c; exact B.en e he
      · exact ⟨_, (hi.en e he).good c, (h.A c).en e he⟩
    · rw [(c2.2.2 _ (no 33)).2]
      rw [hd] at he
      rcases Nat.lt_or_ge 10 (jPs.sz s) with c | c
      · obtain ⟨_, B⟩ := h.B c; exact B.ro e he
      · exact ⟨_, (hi.ro e he).good c, (h.A c).ro e he⟩
    · rw [(c2.2.2 _ (no 34)).2]
      rw [hd] at he
      rcases Nat.lt_or_ge 10 (jPs.sz s) with c | c
      · obtain ⟨w', B⟩ := h.B c
        have ezw := jzw B q2 q1
        subst ezw
        obtain ⟨b', hb', eb'⟩ := B.gf e h1 he
        exact ⟨b', by omega, eb'⟩
      · obtain ⟨rfl, _⟩ := q9 c
        have g1 := hi.mm he (Nat.le_refl _)
        have g2 := hi.t
        exact ⟨_, by omega, (h.A c).gf e h1 he⟩
theorem jCs_brace {L : jL} (hL : jgood L) {ω : xS} {S : jSt} {sw ps wy : Nat} (hK : jLK S sw ps wy) {j x a b ft : Nat} {s : jPs} (hj : j < 32) (hi : jPi s) (h1 : jPs.hs s = 1) (ha : a ≤ 9) (hb : 1 ≤ b) (hb9 : b ≤ 9) (h : jCs S j s x ft) : ∃ T, f_PatternParser_repeatItem (jad L (jo 31)) (nI (10 * a + b)) (jad L (jl j 1)) (jW L ω S) = some (jW L ω T) ∧ jfq (jisP j) S T ∧ jCs T j (jpR s a b) x ft ∧ jgI T (jo 31) 11 = jgI S (jo 31) 11 :=
  jCs_times hL hK hj hi h1 ha hb hb9 rfl rfl rfl rfl (fun _ => ⟨rfl, rfl, rfl, rfl, rfl, fun _ _ => rfl, fun _ _ => rfl⟩) h
theorem jCs_quest {L : jL} (hL : jgood L) {ω : xS} {S : jSt} {sw ps wy : Nat} (hK : jLK S sw ps wy) {j x ft : Nat} {s : jPs} (hj : j < 32) (hi : jPi s) (h1 : jPs.hs s = 1) (h : jCs S j s x ft) : ∃ T, f_PatternParser_repeatItem (jad L (jo 31)) (nI 1) (jad L (jl j 1)) (jW L ω S) = some (jW L ω T) ∧ jfq (jisP j) S T ∧ jCs T j (jpQ s) x ft ∧ jgI T (jo 31) 11 = jgI S (jo 31) 11 := by
  obtain ⟨i1, i2, i3⟩ := hi.it h1
  have ew : jPs.ib s + 1 * jwd s = jPs.sz s := by unfold jwd; omega
  refine jCs_times hL hK (a := 0) (b := 1) hj hi h1 (by omega) (by omega) (by omega) rfl rfl rfl ew.symm (fun _ => ⟨rfl, rfl, rfl, ?_, rfl, fun _ _ => rfl, fun p hp => ?_⟩) h
  · show ((jPs.it s).1, (jPs.it s).2.1, 1) = jWk s 0 0
    rw [jWk, jshx0, if_pos (Or.inr (Nat.le_refl _))]
  · show jPs.ls s p = jLs s 1 p
    unfold jLs
    rw [if_neg (by omega)]
/-- once: what a fault leaves -/
theorem jCs_once {L : jL} (hL : jgood L) {ω : xS} {S : jSt} {sw ps wy : Nat} (hK : jLK S sw ps wy) {j x ft : Nat} {s : jPs} (hj : j < 32) (hi : jPi s) (h1 : jPs.hs s = 1) (h : jCs S j s x ft) : ∃ T, f_PatternParser_repeatItem (jad L (jo 31)) (nI 11) (jad L (jl j 1)) (jW L ω S) = some (jW L ω T) ∧ jfq (jisP j) S T ∧ jCs T j (jpR s 1 1) x ft ∧ jgI T (jo 31) 11 = jgI S (jo 31) 11 := jCs_brace hL hK (a := 1) (b := 1) hj hi h1 (by omega) (by omega) (by omega) h
