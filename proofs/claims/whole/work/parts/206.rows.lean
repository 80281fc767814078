/-! rows of letters, and rests -/
theorem jMo_rowAt {L : jL} (hL : jgood L) (hD : jdim L) {ω : xS} {S : jSt} {A : jR} (hA : jRg A) {sw ps wy : Nat} (hK : jLK S sw ps wy) (h : jRM L S A) {p i : Nat} (hp : p < jn L) (hi : i < 7 + jd L) : f_Mo_rowAt (jad L (jm 0)) (nI p) (nI i - nI 7) (jW L ω S) = some (nI (jR.row A p i) - nI 1) := by
  have h1 := hD.n8
  have h2 := hD.d21
  unfold f_Mo_rowAt
  by_cases h7 : 7 ≤ i
  · rw [jsub h7]
    simp (disch := first | omega | rfl | assumption | exact jokr (by decide) (by omega) | exact jokr4 (by omega) | exact jkt_r _ _ | exact jkt_l (by decide) | exact jfk_l (by decide) | exact jkt_t _ | exact jkt_r6 _ _ | exact jkt_t6 _ | (simp only [jok, jlen]; omega) | decide) only [jm_k hL, jm_gi hL, jm_gr hL, jm_gl hL, jm_pi hL, jm_pl hL, jn_ai hL, jn_ab hL, jn_az hL, jn_al hL, jn_ar hL, jn_an hL, jn_si hL, jn_sb hL, jn_sz hL, jn_sl hL, Option.bind_some, xc, xl, jsA_X, jsI_X, jsG_X, hK _ _, jlk, jmx, jlit, jlitl, jmul, nI_add, lN_add, nI_leI, nI_ltI, nI_eq, jm1, jm1g, jm1e, jm1c, h.cell]
    rw [if_pos (Nat.zero_le _), show 7 + (i - 7) = i by omega]
  · have e : nI (7 * p) - (nI i - nI 7) - nI 1 = nI (7 * p + (6 - i)) := by
      rw [← nI_add, ← jsub (show i ≤ 6 by omega), show nI 7 = nI 6 + nI 1 from rfl]
      generalize nI (7 * p) = a
      generalize nI i = b
      generalize nI 6 = c6
      generalize nI 1 = c1
      grind
    simp (disch := first | omega | rfl | assumption | exact jokr (by decide) (by omega) | exact jokr4 (by omega) | exact jkt_r _ _ | exact jkt_l (by decide) | exact jfk_l (by decide) | exact jkt_t _ | exact jkt_r6 _ _ | exact jkt_t6 _ | (simp only [jok, jlen]; omega) | decide) only [jlit, jsle, jm_k hL, jm_gi hL, jm_gr hL, jm_gl hL, jm_pi hL, jm_pl hL, jn_ai hL, jn_ab hL, jn_az hL, jn_al hL, jn_ar hL, jn_an hL, jn_si hL, jn_sb hL, jn_sz hL, jn_sl hL, Option.bind_some, xc, xl, jsA_X, jsI_X, jsG_X, hK _ _, jlk, jmx, jmul, e, h.past]
    rw [if_neg (by omega)]
/-- the place behind the last shift ahead of place i, 0 if there is none -/
def jrf (row : Nat → Nat) : Nat → Nat
  | 0 => 0
  | i + 1 => if row i = 0 then jrf row i else i + 1
theorem jrf_le (row : Nat → Nat) : ∀ i, jrf row i ≤ i
  | 0 => Nat.le_refl _
  | i + 1 => by
    rw [jrf]
    have := jrf_le row i
    split <;> omega
theorem jrf_nz (row : Nat → Nat) : ∀ i, jrf row i ≠ 0 → row (jrf row i - 1) ≠ 0
  | 0, h => absurd rfl h
  | i + 1, h => by
    rw [jrf] at h ⊢
    split at h
    · rename_i e; rw [if_pos e]; exact jrf_nz row i h
    · rename_i e; rw [if_neg e, Nat.add_sub_cancel]; exact e
/-- a rest that is too short ends at place i -/
def jsr (A : jR) (p least i : Nat) : Nat := if 7 ≤ i ∧ jR.row A p i ≠ 0 ∧ jrf (jR.row A p) i ≠ 0 ∧ (i - (jrf (jR.row A p) i - 1)) * 1440 + jR.bg A (jR.row A p i) < least + (jR.bg A (jR.row A p (jrf (jR.row A p) i - 1)) + jR.ln A (jR.row A p (jrf (jR.row A p) i - 1))) then 1 else 0
/-- how the reference writes the place of the last shift -/
def jbf (f : Nat) : Int32 := if f = 0 then -99 else nI (f - 1) - nI 7
theorem jbf_le {f : Nat} (h : f < 100) : (jbf f ≤ -nI 99) ↔ f = 0 := by
  show (jbf f ≤ -99) ↔ f = 0
  unfold jbf
  by_cases h0 : f = 0
  · rw [if_pos h0]; exact ⟨fun _ => h0, fun _ => by decide⟩
  · rw [if_neg h0, Int32.le_iff_toInt_le, jsT (by omega) (by omega), show (-99 : Int32).toInt = -99 by decide]
    omega
theorem jMo_restOf {L : jL} (hL : jgood L) (hD : jdim L) {ω : xS} {S : jSt} {A : jR} (hA : jRg A) {sw ps wy : Nat} (hK : jLK S sw ps wy) (h : jRM L S A) {k p lo : Nat} (hp : p < jn L) (hk : k < 16) (hlo : lo ≤ 99999) (hl : jgA S (jm 13) k = nI lo) : f_Mo_restOf (jad L (jm 0)) (nI k) (nI p) (jW L ω S) = some (lN (jsm (jsr A p lo) (7 + jd L))) := by
  have h1 := hD.n8
  have h2 := hD.d21
  unfold f_Mo_restOf
  refine jlpx (fun n i (x : Int64 × Int32) => f_Mo_restOf_10 n (jad L (jm 0)) (nI k) (nI p) x.1 x.2 (nI i - nI 7) (jW L ω S)) (fun i => (lN (jsm (jsr A p lo) i), jbf (jrf (jR.row A p) i))) (lo := 0) (hi := 7 + jd L) (Nat.zero_le _) (by omega) ?_ ?_
  · intro n i _ hi
    have hr := hA.row p i
    have hf := jrf_le (jR.row A p) i
    have e1 : nI i - nI 7 + nI 1 = nI (i + 1) - nI 7 := by
      rw [← nI_add]
      generalize nI i = a
      generalize nI 7 = b
      generalize nI 1 = c
      grind
    show f_Mo_restOf_10 (n + 1) _ _ _ _ _ _ _ = f_Mo_restOf_10 n _ _ _ _ _ _ _
    rw [f_Mo_restOf_10]
    simp (disch := first | omega | rfl | assumption | exact jokr (by decide) (by omega) | exact jokr4 (by omega) | exact jkt_r _ _ | exact jkt_l (by decide) | exact jfk_l (by decide) | exact jkt_t _ | exact jkt_r6 _ _ | exact jkt_t6 _ | (simp only [jok, jlen]; omega) | decide) only [jm_k hL, jm_gi hL, jm_gr hL, jm_gl hL, jm_pi hL, jm_pl hL, jn_ai hL, jn_ab hL, jn_az hL, jn_al hL, jn_ar hL, jn_an hL, jn_si hL, jn_sb hL, jn_sz hL, jn_sl hL, Option.bind_some, xc, xl, h.d, jsle, jslt, if_neg, jMo_rowAt hL hD hA hK h, jlit, jm1g, jbf_le, e1]
    by_cases h0 : jR.row A p i = 0
    · rw [if_neg (by omega)]
      have a1 : jsr A p lo i = 0 := by unfold jsr; rw [if_neg (fun q => q.2.1 h0)]
      have a2 : jrf (jR.row A p) (i + 1) = jrf (jR.row A p) i := by rw [jrf, if_pos h0]
      rw [jsm, a1, a2]
      try rfl
    · rw [if_pos (by omega)]
      have a2 : jrf (jR.row A p) (i + 1) = i + 1 := by rw [jrf, if_neg h0]
      have a3 : jbf (i + 1) = nI i - nI 7 := by unfold jbf; rw [if_neg (by omega), Nat.add_sub_cancel]
      rw [jsm, a2, a3]
      by_cases h3 : jrf (jR.row A p) i = 0
      · rw [if_pos h3]
        have a1 : jsr A p lo i = 0 := by unfold jsr; rw [if_neg (fun q => q.2.2.1 h3)]
        rw [a1]
        try rfl
      · rw [if_neg h3]
        by_cases h4 : i < 7
        · rw [if_pos h4]
          have a1 : jsr A p lo i = 0 := by unfold jsr; rw [if_neg (fun q => by omega)]
          rw [a1]
          try rfl
        · rw [if_neg h4]
          have hb := jrf_nz (jR.row A p) i h3
          have a4 : jbf (jrf (jR.row A p) i) = nI (jrf (jR.row A p) i - 1) - nI 7 := by unfold jbf; rw [if_neg h3]
          have hr2 := hA.row p (jrf (jR.row A p) i - 1)
          have g1 := hA.bg (jR.row A p i)
          have g2 := hA.bg (jR.row A p (jrf (jR.row A p) i - 1))
          have g3 := hA.ln (jR.row A p (jrf (jR.row A p) i - 1))
          have a5 : ∀ r, r ≠ 0 → r - 1 + 1 = r := fun r hr => by omega
          simp (disch := first | omega | rfl | assumption | exact jokr (by decide) (by omega) | exact jokr4 (by omega) | exact jkt_r _ _ | exact jkt_l (by decide) | exact jfk_l (by decide) | exact jkt_t _ | exact jkt_r6 _ _ | exact jkt_t6 _ | (simp only [jok, jlen]; omega) | decide) only [jm_k hL, jm_gi hL, jm_gr hL, jm_gl hL, jm_pi hL, jm_pl hL, jn_ai hL, jn_ab hL, jn_az hL, jn_al hL, jn_ar hL, jn_an hL, jn_si hL, jn_sb hL, jn_sz hL, jn_sl hL, Option.bind_some, xc, xl, jsA_X, jsI_X, jsG_X, hK _ _, jlk, jmx, a4, jMo_rowAt hL hD hA hK h, jm1s, h.bg, h.ln, a5, hl]
          have a6 : nI 1440 * (nI i - nI 7) + nI (jR.bg A (jR.row A p i)) - (nI 1440 * (nI (jrf (jR.row A p) i - 1) - nI 7) + nI (jR.bg A (jR.row A p (jrf (jR.row A p) i - 1))) + nI (jR.ln A (jR.row A p (jrf (jR.row A p) i - 1)))) = nI ((i - (jrf (jR.row A p) i - 1)) * 1440 + jR.bg A (jR.row A p i)) - nI (jR.bg A (jR.row A p (jrf (jR.row A p) i - 1)) + jR.ln A (jR.row A p (jrf (jR.row A p) i - 1))) := by
            rw [← nI_add, ← nI_add, ← jmul, ← jsub (show jrf (jR.row A p) i - 1 ≤ i by omega)]
            generalize nI i = a
            generalize nI (jrf (jR.row A p) i - 1) = b
            generalize nI (jR.bg A (jR.row A p i)) = d1
            generalize nI (jR.bg A (jR.row A p (jrf (jR.row A p) i - 1))) = d2
            generalize nI (jR.ln A (jR.row A p (jrf (jR.row A p) i - 1))) = d3
            generalize nI 1440 = e
            generalize nI 7 = s7
            grind
          rw [a6]
          simp (disch := first | omega | rfl | assumption | exact jokr (by decide) (by omega) | exact jokr4 (by omega) | exact jkt_r _ _ | exact jkt_l (by decide) | exact jfk_l (by decide) | exact jkt_t _ | exact jkt_r6 _ _ | exact jkt_t6 _ | (simp only [jok, jlen]; omega) | decide) only [jsle, jlitl, lN_add]
          by_cases h5 : lo + (jR.bg A (jR.row A p (jrf (jR.row A p) i - 1)) + jR.ln A (jR.row A p (jrf (jR.row A p) i - 1))) ≤ (i - (jrf (jR.row A p) i - 1)) * 1440 + jR.bg A (jR.row A p i)
          · rw [if_pos h5]
            have a1 : jsr A p lo i = 0 := by unfold jsr; rw [if_neg (fun q => by omega)]
            rw [a1]
            try rfl
          · rw [if_neg h5]
            have a1 : jsr A p lo i = 1 := by unfold jsr; rw [if_pos ⟨by omega, h0, h3, by omega⟩]
            rw [a1]
            try rfl
  · intro n
    show f_Mo_restOf_10 (n + 1) _ _ _ _ _ _ _ = _
    rw [f_Mo_restOf_10]
    simp (disch := first | omega | rfl | assumption | exact jokr (by decide) (by omega) | exact jokr4 (by omega) | exact jkt_r _ _ | exact jkt_l (by decide) | exact jfk_l (by decide) | exact jkt_t _ | exact jkt_r6 _ _ | exact jkt_t6 _ | (simp only [jok, jlen]; omega) | decide) only [jm_k hL, jm_gi hL, jm_gr hL, jm_gl hL, jm_pi hL, jm_pl hL, jn_ai hL, jn_ab hL, jn_az hL, jn_al hL, jn_ar hL, jn_an hL, jn_si hL, jn_sb hL, jn_sz hL, jn_sl hL, Option.bind_some, xc, xl, h.d, jsle]
    rw [if_pos (by omega)]
