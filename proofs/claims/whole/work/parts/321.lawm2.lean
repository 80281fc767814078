/-! the reference's law, all sorts -/
theorem jLe_st {tp : Nat → Nat} {ts : Nat} {r : Nat × Nat × Nat} (h : r.1 ≠ 0) : jLe tp ts r = (0, r) := by
  unfold jLe
  rw [if_neg (fun z => h z.1), jEx_st h]
theorem jMl_158 {L : jL} (hL : jgood L) {ω : xS} {S : jSt} {sw ps wy : Nat} (hK : jLK S sw ps wy) {tp : Nat → Nat} {ts e k : Nat} {x2 x3 x4 x5 x6 : Int32} (hT : jTm S tp ts) (hes : e ≤ ts) (h34 : jgI S (jm 0) 34 = nI e) (h39 : jgI S (jm 0) 39 = nI 0) : ∃ T, jf0 S T ∧ jRr T ts (jLe tp ts (0, 0, e)).2 ∧ ((jLe tp ts (0, 0, e)).2.1 ≠ 0 → f_Mo_law0_158 (jad L (jm 0)) (nI k) x2 x3 x4 x5 x6 (jW L ω S) = some (jW L ω T)) ∧ ((jLe tp ts (0, 0, e)).2.1 = 0 → 1 ≤ (jLe tp ts (0, 0, e)).1 ∧ f_Mo_law0_158 (jad L (jm 0)) (nI k) x2 x3 x4 x5 x6 (jW L ω S) = f_Mo_law0_218 (jad L (jm 0)) (nI k) x2 x3 x4 x5 x6 (nI (jLe tp ts (0, 0, e)).1 - nI 1) (jW L ω T)) := by
  have hts := hT.s
  have hb := hT.b
  have hle := jtK_le (tp := tp) (ts := ts) (e := e)
  have hbl := jtB_le (tp := tp) hes
  have hE := jtE_le (tp := tp) hes
  obtain ⟨T1, a1, a2⟩ := jMt_adv hL (ω := ω) hK hT h34 hes h39
  have hK1 := hK.of a2.f.1
  have hT1 := hT.f0 a2.f
  unfold f_Mo_law0_158
  rw [jkm hL, a1]
  simp only [xc]
  by_cases k0 : jtK tp ts e = 0
  · obtain ⟨z1, z2⟩ := a2.z k0
    have er : jLe tp ts (0, 0, e) = (0, 1, jtB tp ts e, jtE tp ts e) := by
      unfold jLe
      rw [if_neg (fun z => by have : jtK tp ts e = 2 := z.2; omega), jEx_no (r := (0, 0, e)) rfl (by show jtK tp ts e ≠ 2; omega)]
      show (0, (if jtK tp ts e = 0 then 1 else 2), jtB tp ts e, jtE tp ts e) = _
      rw [if_pos k0]
    rw [er, if_pos (show nI (if jtK tp ts e = 0 then 0 else 1) = (0 : Int32) by rw [if_pos k0]; rfl)]
    exact ⟨T1, a2.f, ⟨z1, by show 1 ≤ 4; decide, fun z => absurd z (by show ¬ (1 = 0); decide), fun _ => z2⟩, fun _ => rfl, fun z => absurd z (by show ¬ (1 = 0); decide)⟩
  · obtain ⟨o1, o2, o3, o4⟩ := a2.o k0
    rw [if_neg (show ¬ nI (if jtK tp ts e = 0 then 0 else 1) = (0 : Int32) by rw [if_neg k0]; decide), jxg_m hL (by omega) (by omega) (by omega) a2.b, Option.bind_some, jkm hL, jMo_look hL hK1 hT1 (by omega), Option.bind_some, jxg_m hL (by omega) (by omega) (by omega) o2, Option.bind_some]
    obtain ⟨T2, b1, b2, b3⟩ := jMr_fails hL (ω := ω) hK1 (ts := ts) (x := 2) (v := jtB tp ts e) (e := jtE tp ts e) o1 (by decide) (by decide)
    have b1 : f_Mo_fails (jad L (jm 0)) 2 (nI (jtB tp ts e)) (jW L ω T1) = some (0, jW L ω T2) := b1
    by_cases k2 : jtK tp ts e = 2
    · obtain ⟨t1, t2, t3, t4⟩ := jtk2 hes k2
      have tb := t4 (jtB tp ts e) (Nat.le_refl _) t1
      have ev : jbv tp ts (jtB tp ts e) = nI (tp (jtB tp ts e)) := by unfold jbv; rw [if_pos (by omega)]
      have e97 : nI (tp (jtB tp ts e)) - 97 = nI (tp (jtB tp ts e) - 97) := by rw [jlit, jsub (by omega)]
      rw [if_pos (show nI (jtK tp ts e - 1) = (1 : Int32) by rw [k2]; rfl), jxg_m hL (by omega) (by omega) (by omega) o3, Option.bind_some, Option.bind_some, jsub (by omega), ev, e97]
      by_cases c1 : jtE tp ts e - jtB tp ts e = 1
      · rw [if_pos (show nI (jtE tp ts e - jtB tp ts e) = (1 : Int32) by rw [c1]; rfl)]
        by_cases c2 : tp (jtB tp ts e) ≤ 104
        · have er : jLe tp ts (0, 0, e) = (tp (jtB tp ts e) - 96, 0, 0, jtE tp ts e) := by
            unfold jLe
            rw [if_pos (show (0, 0, e).1 = 0 ∧ jtK tp ts (0, 0, e).2.2 = 2 from ⟨rfl, k2⟩)]
            exact if_pos ⟨c1, c2⟩
          rw [er]
          refine ⟨T1, a2.f, ⟨o1, Nat.zero_le _, fun _ => ⟨o4, t3⟩, fun z => absurd rfl z⟩, fun z => absurd rfl z, fun _ => ⟨by show 1 ≤ tp (jtB tp ts e) - 96; omega, ?_⟩⟩
          rw [if_pos (show nI (tp (jtB tp ts e) - 97) ≤ (7 : Int32) from (nI_leI (b := 7) (by omega) (by omega)).mpr (by omega))]
          rw [show nI (tp (jtB tp ts e) - 97) = nI (tp (jtB tp ts e) - 96) - nI 1 by rw [jsub (by omega)]; congr 1]
        · have er : jLe tp ts (0, 0, e) = (0, 2, jtB tp ts e, jtE tp ts e) := by
            unfold jLe
            rw [if_pos (show (0, 0, e).1 = 0 ∧ jtK tp ts (0, 0, e).2.2 = 2 from ⟨rfl, k2⟩)]
            exact if_neg (fun z => c2 z.2)
          rw [er, if_neg (show ¬ nI (tp (jtB tp ts e) - 97) ≤ (7 : Int32) from fun z => by have := (nI_leI (b := 7) (by omega) (by omega)).mp z; omega), Option.bind_some, jkm hL, b1]
          exact ⟨T2, a2.f.trans b2, b3, fun _ => rfl, fun z => absurd z (by show ¬ (2 = 0); decide)⟩
      · have er : jLe tp ts (0, 0, e) = (0, 2, jtB tp ts e, jtE tp ts e) := by
          unfold jLe
          rw [if_pos (show (0, 0, e).1 = 0 ∧ jtK tp ts (0, 0, e).2.2 = 2 from ⟨rfl, k2⟩)]
          exact if_neg (fun z => c1 z.1)
        rw [er, if_neg (show ¬ nI (jtE tp ts e - jtB tp ts e) = (1 : Int32) from fun z => by rw [jlit, nI_eq (by omega) (by omega)] at z; exact c1 z), Option.bind_some, jkm hL, b1]
        exact ⟨T2, a2.f.trans b2, b3, fun _ => rfl, fun z => absurd z (by show ¬ (2 = 0); decide)⟩
    · have er : jLe tp ts (0, 0, e) = (0, 2, jtB tp ts e, jtE tp ts e) := by
        unfold jLe
        rw [if_neg (fun z => k2 z.2), jEx_no (r := (0, 0, e)) rfl k2]
        show (0, (if jtK tp ts e = 0 then 1 else 2), jtB tp ts e, jtE tp ts e) = _
        rw [if_neg k0]
      rw [er, if_neg (show ¬ nI (jtK tp ts e - 1) = (1 : Int32) from fun z => by rw [jlit, nI_eq (by omega) (by omega)] at z; omega), Option.bind_some, jkm hL, b1]
      exact ⟨T2, a2.f.trans b2, b3, fun _ => rfl, fun z => absurd z (by show ¬ (2 = 0); decide)⟩
/-- the reference's rows of law k -/
def jDM (T : jSt) (k : Nat) (D : jD) : Prop := (jgA T (jm 10) k = nI (jD.so D)) ∧ (jgA T (jm 11) k = nI (jD.wt D)) ∧ (jgA T (jm 12) k = nI (jD.pl D)) ∧ (jgA T (jm 13) k = nI (jD.lo D)) ∧ (jgA T (jm 14) k = nI (jD.hi D)) ∧ (jgA T (jm 15) k = nI (jD.sp D)) ∧ (jD.so D = 5 ∨ jD.so D = 6 → jgA T (jm 16) k = nI (jD.lt D) - nI 1) ∧ (jD.so D = 3 ∨ jD.so D = 4 → ∃ (ns : Nat) (nx fe : Nat → Nat), jDP T k (jD.s D) ns nx fe)
theorem jDM.so {T : jSt} {k : Nat} {D : jD} (h : jDM T k D) : jgA T (jm 10) k = nI (jD.so D) := h.1
theorem jDM.wt {T : jSt} {k : Nat} {D : jD} (h : jDM T k D) : jgA T (jm 11) k = nI (jD.wt D) := h.2.1
theorem jDM.pl {T : jSt} {k : Nat} {D : jD} (h : jDM T k D) : jgA T (jm 12) k = nI (jD.pl D) := h.2.2.1
theorem jDM.lo {T : jSt} {k : Nat} {D : jD} (h : jDM T k D) : jgA T (jm 13) k = nI (jD.lo D) := h.2.2.2.1
theorem jDM.hi {T : jSt} {k : Nat} {D : jD} (h : jDM T k D) : jgA T (jm 14) k = nI (jD.hi D) := h.2.2.2.2.1
theorem jDM.sp {T : jSt} {k : Nat} {D : jD} (h : jDM T k D) : jgA T (jm 15) k = nI (jD.sp D) := h.2.2.2.2.2.1
theorem jDM.lt {T : jSt} {k : Nat} {D : jD} (h : jDM T k D) : jD.so D = 5 ∨ jD.so D = 6 → jgA T (jm 16) k = nI (jD.lt D) - nI 1 := h.2.2.2.2.2.2.1
theorem jDM.pq {T : jSt} {k : Nat} {D : jD} (h : jDM T k D) : jD.so D = 3 ∨ jD.so D = 4 → ∃ (ns : Nat) (nx fe : Nat → Nat), jDP T k (jD.s D) ns nx fe := h.2.2.2.2.2.2.2
theorem jMr_law {L : jL} (hL : jgood L) {ω : xS} {S : jSt} {sw ps wy : Nat} (hK : jLK S sw ps wy) {tp : Nat → Nat} {ts d e k σ : Nat} {D : jD} {r : Nat × Nat × Nat} (hk : k < 16) (hd : d < 2 ^ 31) (hT : jTm S tp ts) (hes : e ≤ ts) (hk0 : jtK tp ts e ≠ 0) (h34 : jgI S (jm 0) 34 = nI (jtE tp ts e)) (h35 : jgI S (jm 0) 35 = nI (jtK tp ts e - 1)) (h36 : jgI S (jm 0) 36 = nI (jtB tp ts e)) (hw : jtK tp ts e = 2 → jgG S (jm 0) 38 = lN (jwN tp (jtB tp ts e) (jtE tp ts e - jtB tp ts e))) (h39 : jgI S (jm 0) 39 = nI 0) (h41 : jgI S (jm 0) 41 = nI σ) (h1 : jgI S (jm 0) 1 = nI d) (hD : jLaw tp ts d e D r) (hσ : σ = 0 ∨ (σ = 1 ∧ r.1 = 0)) : ∃ (T : jSt) (rw : Nat × Nat × Nat), f_Mo_law0 (jad L (jm 0)) (nI k) (jW L ω S) = some (jW L ω T) ∧ jfM σ k S T ∧ jRr T ts rw ∧ r = jEx tp ts 5 rw ∧ (σ = 1 → jDM T k D) := by
  obtain ⟨so, wt, pl, lo, hi, sp, lt, s⟩ := D
  obtain ⟨hso, hpl, hD⟩ := hD
  replace hso : jSo tp ts e so := hso
  replace hpl : pl = jtB tp ts e := hpl
  have hE := (jtE_le (tp := tp) hes).2.1 hk0
  rw [jMr_sort hL hK hT hes hk0 h35 h36 hw hso]
  unfold f_Mo_law0_123
  rcases hD with ⟨h7, rfl⟩ | ⟨rr, hD, hwt, rfl⟩
  · have h7 : so = 7 := h7
    have s0 : σ = 0 := by
      rcases hσ with z | ⟨_, z⟩
      · exact z
      · exact absurd z (by show ¬ (2 = 0); decide)
    obtain ⟨T, b1, b2, b3⟩ := jMr_fails hL (ω := ω) hK (ts := ts) (x := 2) (v := jtB tp ts e) (e := jtE tp ts e) h39 (by decide) (by decide)
    have b1 : f_Mo_fails (jad L (jm 0)) 2 (nI (jtB tp ts e)) (jW L ω S) = some (0, jW L ω T) := b1
    refine ⟨T, _, ?_, b2.N.M σ k, b3, (jEx_st (by show ¬ (2 = 0); decide)).symm, fun z => by omega⟩
    rw [h7, if_neg (show ¬ (7 : Nat) < 7 by decide), if_neg (show ¬ (0 : Int32) ≤ -1 by decide), jkm hL, b1]
    simp only [xc]
  · replace hD : jLb tp ts d so lo hi sp lt s (jtE tp ts e) rr := hD
    replace hwt : wt = (jNm tp ts 0 1000 rr).1 := hwt
    have hσ' : σ = 0 ∨ (σ = 1 ∧ (jNm tp ts 0 1000 rr).2.1 = 0) := by
      rcases hσ with z | ⟨z, y⟩
      · exact Or.inl z
      · exact Or.inr ⟨z, jEx_0 y⟩
    have hs7 : so < 7 := by
      rcases hD with ⟨z, _⟩ | ⟨z, _⟩ | ⟨z, _⟩ | ⟨z, _⟩ | ⟨z, _⟩ | ⟨z, _⟩ <;> omega
    have r1 : jRr S ts (0, 0, jtE tp ts e) := ⟨h39, Nat.zero_le _, fun _ => ⟨h34, hE⟩, fun z => absurd rfl z⟩
    rw [if_pos hs7, if_pos (show (0 : Int32) ≤ nI so from (nI_leI (a := 0) (by omega) (by omega)).mpr (Nat.zero_le _))]
    -- rows to a law
    have rows : ∀ (T : jSt) (x4 x5 x6 x7 : Int32), jRow T k (nI (jtB tp ts e)) (nI so) x4 x5 x6 x7 (nI (jNm tp ts 0 1000 rr).1) → x4 = nI lo → x5 = nI hi → x6 = nI sp → (so = 5 ∨ so = 6 → x7 = nI lt - nI 1) → (so = 3 ∨ so = 4 → ∃ (ns : Nat) (nx fe : Nat → Nat), jDP T k s ns nx fe) → jDM T k (so, wt, pl, lo, hi, sp, lt, s) := by
      intro T x4 x5 x6 x7 h e4 e5 e6 e7 ep
      exact ⟨h.so, by rw [h.wt, ← hwt]; rfl, by rw [h.pl, ← hpl]; rfl, by rw [h.lo, e4]; rfl, by rw [h.hi, e5]; rfl, by rw [h.sp, e6]; rfl, fun z => by rw [h.lt, e7 z]; rfl, ep⟩
    rcases hD with ⟨rfl, rfl, rfl, rfl, rfl, rfl⟩ | ⟨rfl, c1, rfl, rfl, rfl, rfl⟩ | ⟨rfl, a, b, c, ha, hb, hc, c1, c2, c3, rfl, rfl⟩ | ⟨hso34, rfl, rfl, rfl, rfl, hD⟩ | ⟨rfl, rfl, rfl, rfl, c4, rfl⟩ | ⟨rfl, a, b, c, ha, hb, hc, c1, c2, rfl, c4, rfl⟩
    · obtain ⟨T, b1, b2, b3, b4, b5⟩ := jMl_wt hL (ω := ω) hK (x2 := nI (jtB tp ts e)) (x3 := nI 0) (x4 := 0) (x5 := 0) (x6 := 0) (x7 := 0) hk hT r1 h41 hσ'
      refine ⟨T, _, ?_, b2, b3, rfl, fun z => rows T _ _ _ _ (b5 z) rfl rfl rfl (fun y => by omega) (fun y => by omega)⟩
      unfold f_Mo_law0_218
      rw [if_neg (show ¬ nI 0 = (5 : Int32) by decide), if_neg (show ¬ nI 0 = (6 : Int32) by decide), if_neg (show ¬ nI 0 = (1 : Int32) by decide), if_neg (show ¬ nI 0 = (2 : Int32) by decide), if_neg (show ¬ nI 0 = (6 : Int32) by decide), if_neg (show ¬ nI 0 = (3 : Int32) by decide), if_neg (show ¬ nI 0 = (4 : Int32) by decide)]
      exact b1
    · obtain ⟨T1, x, e1, a1, a2, a3⟩ := jMr_number hL (ω := ω) hK hT r1 (lo := 0) (hi := 10000) (by decide) (by decide)
      have e1 : f_Mo_number (jad L (jm 0)) 0 10000 (jW L ω S) = some (x, jW L ω T1) := e1
      obtain ⟨T, b1, b2, b3, b4, b5⟩ := jMl_wt hL (ω := ω) (hK.of a1.1) (x2 := nI (jtB tp ts e)) (x3 := nI 1) (x4 := x) (x5 := 0) (x6 := 0) (x7 := 0) hk (hT.f0 a1) a2 (by rw [a1.2.2.2.2 41 (by omega)]; exact h41) hσ'
      refine ⟨T, _, ?_, (a1.N.M σ k).trans b2, b3, rfl, fun z => rows T _ _ _ _ (b5 z) ?_ rfl rfl (fun y => by omega) (fun y => by omega)⟩
      · unfold f_Mo_law0_218
        rw [if_neg (show ¬ nI 1 = (5 : Int32) by decide), if_neg (show ¬ nI 1 = (6 : Int32) by decide), if_pos (show nI 1 = (1 : Int32) from rfl), jkm hL, e1]
        simp only [xc]
        exact b1
      · rw [c1]
        refine a3 ?_
        rcases hσ' with y | ⟨_, y⟩
        · omega
        · exact jNm_0 y
    · obtain ⟨T, b1, b2, b3, b4⟩ := jMl_259 hL (ω := ω) hK (so := 2) (H := 99999) (x2 := nI (jtB tp ts e)) (x7 := 0) (y0 := 99999) hk hd hT r1 h41 h1 (Or.inl ⟨rfl, rfl, rfl⟩) ha hb (show c = if 2 = 2 then jNm tp ts 1 d b.2 else (0, b.2) by rw [if_pos rfl]; exact hc) hσ'
      refine ⟨T, _, ?_, b2, b3, rfl, fun z => rows T _ _ _ _ (b4 z) (by rw [c1]) (by rw [c2]) (by rw [c3]) (fun y => by omega) (fun y => by omega)⟩
      unfold f_Mo_law0_218
      rw [if_neg (show ¬ nI 2 = (5 : Int32) by decide), if_neg (show ¬ nI 2 = (6 : Int32) by decide), if_neg (show ¬ nI 2 = (1 : Int32) by decide), if_pos (show nI 2 = (2 : Int32) from rfl), if_pos (show nI 2 = (2 : Int32) from rfl)]
      exact b1
    · -- a pattern
      have d331 : ∀ X : Option xS, f_Mo_law0_331 (jad L (jm 0)) (nI k) (nI (jtB tp ts e)) (nI so) 0 0 0 0 (jW L ω S) = X → (if nI so = 5 then f_Mo_law0_158 (jad L (jm 0)) (nI k) (nI (jtB tp ts e)) (nI so) 0 0 0 (jW L ω S) else if nI so = 6 then f_Mo_law0_158 (jad L (jm 0)) (nI k) (nI (jtB tp ts e)) (nI so) 0 0 0 (jW L ω S) else f_Mo_law0_218 (jad L (jm 0)) (nI k) (nI (jtB tp ts e)) (nI so) 0 0 0 0 (jW L ω S)) = X := by
        intro X hX
        unfold f_Mo_law0_218
        rcases hso34 with z | z
        · rw [z] at hX ⊢
          rw [if_neg (show ¬ nI 3 = (5 : Int32) by decide), if_neg (show ¬ nI 3 = (6 : Int32) by decide), if_neg (show ¬ nI 3 = (1 : Int32) by decide), if_neg (show ¬ nI 3 = (2 : Int32) by decide), if_neg (show ¬ nI 3 = (6 : Int32) by decide), if_pos (show nI 3 = (3 : Int32) from rfl)]
          exact hX
        · rw [z] at hX ⊢
          rw [if_neg (show ¬ nI 4 = (5 : Int32) by decide), if_neg (show ¬ nI 4 = (6 : Int32) by decide), if_neg (show ¬ nI 4 = (1 : Int32) by decide), if_neg (show ¬ nI 4 = (2 : Int32) by decide), if_neg (show ¬ nI 4 = (6 : Int32) by decide), if_neg (show ¬ nI 4 = (3 : Int32) by decide), if_pos (show nI 4 = (4 : Int32) from rfl)]
          exact hX
      have hle := jtK_le (tp := tp) (ts := ts) (e := jtE tp ts e)
      obtain ⟨T1, a1, a2⟩ := jMt_adv hL (ω := ω) hK hT h34 hE h39
      have hK1 := hK.of a2.f.1
      have hT1 := hT.f0 a2.f
      have t41 : jgI T1 (jm 0) 41 = nI σ := by rw [a2.f.2.2.2.2 41 (by omega)]; exact h41
      have hrrσ : σ = 0 ∨ (σ = 1 ∧ rr.1 = 0) := by
        rcases hσ' with z | ⟨z, y⟩
        · exact Or.inl z
        · exact Or.inr ⟨z, jNm_0 y⟩
      rcases hD with ⟨k4, hD⟩ | ⟨k4, hrr⟩
      · obtain ⟨o1, o2, o3, o4⟩ := a2.o (by omega)
        obtain ⟨T2, p1, p2, p3, p4⟩ := jMp_pattern hL (ω := ω) hK1 hk hT1 hE k4 hD a2.b o3 o4 o1 t41 hrrσ
        have hT2 := hT1.V p2.2
        have u41 : jgI T2 (jm 0) 41 = nI σ := by rw [p2.2.k 41 (by omega)]; exact t41
        obtain ⟨T, b1, b2, b3, b4, b5⟩ := jMl_wt hL (ω := ω) (hK1.of p2.x) (x2 := nI (jtB tp ts e)) (x3 := nI so) (x4 := 0) (x5 := 0) (x6 := 0) (x7 := 0) hk hT2 p3 u41 hσ'
        refine ⟨T, _, d331 _ ?_, ((a2.f.N.M σ k).trans p2).trans b2, b3, rfl, fun z => rows T _ _ _ _ (b5 z) rfl rfl rfl (fun y => by omega) (fun _ => ?_)⟩
        · unfold f_Mo_law0_331
          rw [jkm hL, a1]
          simp only [xc]
          rw [if_neg (show ¬ nI (if jtK tp ts (jtE tp ts e) = 0 then 0 else 1) = (0 : Int32) by rw [if_neg (by omega)]; decide), jxg_m hL (by omega) (by omega) (by omega) o2, Option.bind_some, if_pos (show nI (jtK tp ts (jtE tp ts e) - 1) = (3 : Int32) by rw [k4]; rfl), jkm hL, p1, Option.bind_some]
          exact b1
        · obtain ⟨ns, nx, fe, hDP⟩ := p4 z
          exact ⟨ns, nx, fe, hDP.of (fun q h1 h2 => b4 q h1 (by omega))⟩
      · have hne : rr.1 ≠ 0 := by
          rw [hrr, jEx_no (r := (0, 0, jtE tp ts e)) rfl k4]
          show ¬ ((if jtK tp ts (jtE tp ts e) = 0 then 1 else 2) = 0)
          split <;> decide
        have s0 : σ = 0 := by
          rcases hrrσ with z | ⟨_, z⟩
          · exact z
          · exact absurd z hne
        rw [jNm_st hne]
        by_cases k0 : jtK tp ts (jtE tp ts e) = 0
        · have er : rr = (1, jtB tp ts (jtE tp ts e), jtE tp ts (jtE tp ts e)) := by
            rw [hrr, jEx_no (r := (0, 0, jtE tp ts e)) rfl k4]
            show ((if jtK tp ts (jtE tp ts e) = 0 then 1 else 2), _, _) = _
            rw [if_pos k0]
          obtain ⟨z1, z2⟩ := a2.z k0
          refine ⟨T1, rr, d331 _ ?_, a2.f.N.M σ k, ?_, rfl, fun z => by omega⟩
          · unfold f_Mo_law0_331
            rw [jkm hL, a1]
            simp only [xc]
            rw [if_pos (show nI (if jtK tp ts (jtE tp ts e) = 0 then 0 else 1) = (0 : Int32) by rw [if_pos k0]; rfl)]
          · rw [er]
            exact ⟨z1, by show 1 ≤ 4; decide, fun z => absurd z (by show ¬ (1 = 0); decide), fun _ => z2⟩
        · have er : rr = (2, jtB tp ts (jtE tp ts e), jtE tp ts (jtE tp ts e)) := by
            rw [hrr, jEx_no (r := (0, 0, jtE tp ts e)) rfl k4]
            show ((if jtK tp ts (jtE tp ts e) = 0 then 1 else 2), _, _) = _
            rw [if_neg k0]
          obtain ⟨o1, o2, o3, o4⟩ := a2.o k0
          obtain ⟨T2, b1, b2, b3⟩ := jMr_fails hL (ω := ω) hK1 (ts := ts) (x := 2) (v := jtB tp ts (jtE tp ts e)) (e := jtE tp ts (jtE tp ts e)) o1 (by decide) (by decide)
          have b1 : f_Mo_fails (jad L (jm 0)) 2 (nI (jtB tp ts (jtE tp ts e))) (jW L ω T1) = some (0, jW L ω T2) := b1
          refine ⟨T2, rr, d331 _ ?_, (a2.f.trans b2).N.M σ k, by rw [er]; exact b3, rfl, fun z => by omega⟩
          unfold f_Mo_law0_331
          rw [jkm hL, a1]
          simp only [xc]
          rw [if_neg (show ¬ nI (if jtK tp ts (jtE tp ts e) = 0 then 0 else 1) = (0 : Int32) by rw [if_neg k0]; decide), jxg_m hL (by omega) (by omega) (by omega) o2, Option.bind_some, if_neg (show ¬ nI (jtK tp ts (jtE tp ts e) - 1) = (3 : Int32) from fun z => by rw [jlit, nI_eq (by omega) (by omega)] at z; omega), jxg_m hL (by omega) (by omega) (by omega) a2.b, Option.bind_some, jkm hL, b1]
    · obtain ⟨T1, a1, a2, a3, a4⟩ := jMl_158 hL (ω := ω) hK (k := k) (x2 := nI (jtB tp ts e)) (x3 := nI 5) (x4 := 0) (x5 := 0) (x6 := 0) hT hE h34 h39
      rw [if_pos (show nI 5 = (5 : Int32) from rfl)]
      by_cases cl : (jLe tp ts (0, 0, jtE tp ts e)).2.1 = 0
      · obtain ⟨l1, l2⟩ := a4 cl
        obtain ⟨T, b1, b2, b3, b4, b5⟩ := jMl_wt hL (ω := ω) (hK.of a1.1) (x2 := nI (jtB tp ts e)) (x3 := nI 5) (x4 := 0) (x5 := 0) (x6 := 0) (x7 := nI (jLe tp ts (0, 0, jtE tp ts e)).1 - nI 1) hk (hT.f0 a1) a2 (by rw [a1.2.2.2.2 41 (by omega)]; exact h41) hσ'
        refine ⟨T, _, ?_, (a1.N.M σ k).trans b2, b3, rfl, fun z => rows T _ _ _ _ (b5 z) rfl rfl rfl (fun _ => by rw [c4]) (fun y => by omega)⟩
        rw [l2]
        unfold f_Mo_law0_218
        rw [if_neg (show ¬ nI 5 = (1 : Int32) by decide), if_neg (show ¬ nI 5 = (2 : Int32) by decide), if_neg (show ¬ nI 5 = (6 : Int32) by decide), if_neg (show ¬ nI 5 = (3 : Int32) by decide), if_neg (show ¬ nI 5 = (4 : Int32) by decide)]
        exact b1
      · have s0 : σ = 0 := by
          rcases hσ' with z | ⟨_, z⟩
          · exact z
          · exact absurd (jNm_0 z) cl
        rw [jNm_st cl]
        exact ⟨T1, _, a3 cl, a1.N.M σ k, a2, rfl, fun z => by omega⟩
    · obtain ⟨T1, a1, a2, a3, a4⟩ := jMl_158 hL (ω := ω) hK (k := k) (x2 := nI (jtB tp ts e)) (x3 := nI 6) (x4 := 0) (x5 := 0) (x6 := 0) hT hE h34 h39
      rw [if_neg (show ¬ nI 6 = (5 : Int32) by decide), if_pos (show nI 6 = (6 : Int32) from rfl)]
      rw [← ha] at a2 a3 a4
      by_cases cl : a.2.1 = 0
      · obtain ⟨l1, l2⟩ := a4 cl
        obtain ⟨T, b1, b2, b3, b4⟩ := jMl_259 hL (ω := ω) (hK.of a1.1) (so := 6) (H := 8) (x2 := nI (jtB tp ts e)) (x7 := nI a.1 - nI 1) (y0 := 8) hk hd (hT.f0 a1) a2 (by rw [a1.2.2.2.2 41 (by omega)]; exact h41) (by rw [a1.2.2.2.2 1 (by omega)]; exact h1) (Or.inr ⟨rfl, rfl, rfl⟩) hb hc (show (0, c.2) = if 6 = 2 then jNm tp ts 1 d c.2 else (0, c.2) by rw [if_neg (by decide)]) hσ'
        refine ⟨T, _, ?_, (a1.N.M σ k).trans b2, b3, rfl, fun z => rows T _ _ _ _ (b4 z) (by rw [c1]) (by rw [c2]) rfl (fun _ => by rw [c4]) (fun y => by omega)⟩
        rw [l2]
        unfold f_Mo_law0_218
        rw [if_neg (show ¬ nI 6 = (1 : Int32) by decide), if_neg (show ¬ nI 6 = (2 : Int32) by decide), if_pos (show nI 6 = (6 : Int32) from rfl), if_neg (show ¬ nI 6 = (2 : Int32) by decide)]
        exact b1
      · have hb2 : b.2 = a.2 := by rw [hb, jNm_st cl]
        have hc2 : c.2 = a.2 := by rw [hc, hb2, jNm_st cl]
        have s0 : σ = 0 := by
          rcases hσ' with z | ⟨_, z⟩
          · exact z
          · rw [hc2] at z; exact absurd (jNm_0 z) cl
        rw [hc2, jNm_st cl]
        exact ⟨T1, _, a3 cl, a1.N.M σ k, a2, rfl, fun z => by omega⟩
