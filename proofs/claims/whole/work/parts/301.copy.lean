/-! THE CLASS COPIES PLACES -/
theorem jshlA {a p : Nat} (hp : p < 32) (h : a * 2 ^ p < 2 ^ 32) : nI a <<< (nI p &&& nI 31) = nI (a <<< p) := by rw [jshl hp h, Nat.shiftLeft_eq]
theorem jmask {b w : Nat} (h : b + w ≤ 10) : ((nI 1 <<< (nI w &&& nI 31)) - nI 1) <<< (nI b &&& nI 31) = nI ((2 ^ w - 1) <<< b) := by
  have hw : 2 ^ w ≤ 2 ^ 10 := Nat.pow_le_pow_right (by decide) (by omega)
  have hb : 2 ^ b ≤ 2 ^ 10 := Nat.pow_le_pow_right (by decide) (by omega)
  have h1 := Nat.two_pow_pos w
  rw [jsh1 (by omega), jsub (by omega)]
  refine jshlA (by omega) ?_
  have : (2 ^ w - 1) * 2 ^ b ≤ 2 ^ 10 * 2 ^ 10 := Nat.mul_le_mul (by omega) hb
  omega
theorem jmask_tb {b w q : Nat} : ((2 ^ w - 1) <<< b).testBit q = true ↔ b ≤ q ∧ q < b + w := by
  rw [jshl_tb, Nat.testBit_two_pow_sub_one, decide_eq_true_iff]
  omega
theorem jP_copyB {L : jL} (hL : jgood L) {ω : xS} {S : jSt} {sw ps wy : Nat} (hK : jLK S sw ps wy) {j z b m : Nat} (hj : j < 32) (hz : jgI S (jl j 1) 4 = nI z) (hz10 : z ≤ 10) (hb : b ≤ z) (hm : m ≤ 8) (hfit : z + (z - b) * m ≤ 10) : ∃ T, f_Positions_copyPlaces (jad L (jl j 1)) (nI b) (nI (z - b)) (nI m) (jW L ω S) = some (jW L ω T) ∧ jfq (fun c => c = jl j 1 ∨ c = jl j 2 ∨ c = jl j 3) S T ∧ ∀ k, jgI T (jl j 1) k = if k = 4 then nI (z + (z - b) * m) else jgI S (jl j 1) k := by
  have hmask := jmask (b := b) (w := z - b) (by omega)
  unfold f_Positions_copyPlaces
  have loop : ∀ dd c n (U : jSt), m ≤ c + dd → c ≤ m → dd + 1 ≤ n → jfq (fun c => c = jl j 1 ∨ c = jl j 2 ∨ c = jl j 3) S U → jgI U = jgI S → ∃ T, f_Positions_copyPlaces_31 n (jad L (jl j 1)) (nI b) (nI (z - b)) (nI m) (nI ((2 ^ (z - b) - 1) <<< b)) (nI ((c + 1) * (z - b))) (jW L ω U) = some (jW L ω T) ∧ jfq (fun c => c = jl j 1 ∨ c = jl j 2 ∨ c = jl j 3) S T ∧ ∀ k, jgI T (jl j 1) k = if k = 4 then nI (z + (z - b) * m) else jgI S (jl j 1) k := by
    intro dd
    induction dd with
    | zero =>
      intro c n U h1 h2 h3 hU hI
      obtain ⟨n, rfl⟩ : ∃ n', n = n' + 1 := ⟨n - 1, by omega⟩
      obtain rfl : c = m := by omega
      have uz : jgI U (jl j 1) 4 = nI z := by rw [hI]; exact hz
      have em : (c + 1) * (z - b) = c * (z - b) + (z - b) := Nat.succ_mul _ _
      have ec : (z - b) * c = c * (z - b) := Nat.mul_comm _ _
      refine ⟨jsI U (jl j 1) 4 (nI (z + (z - b) * c)), ?_, hU.trans (jfq.sI _ _ _ (Or.inl rfl)), fun k => by rw [jsI_c, hI]⟩
      rw [f_Positions_copyPlaces_31]
      by_cases c0 : z - b = 0
      · have e1 : ¬ (z - b) * c < (c + 1) * (z - b) := by rw [c0]; omega
        simp (disch := first | omega | rfl | assumption | exact jokr (by decide) (by omega) | exact jokr4 (by omega) | exact jkt_r _ _ | exact jkt_l (by decide) | exact jfk_l (by decide) | exact jkt_t _ | exact jkt_r6 _ _ | exact jkt_t6 _ | (simp only [jok, jlen]; omega) | decide) only [jm_k hL, jm_gi hL, jm_gr hL, jm_gl hL, jm_pi hL, jm_pl hL, jn_ai hL, jn_ab hL, jn_az hL, jn_al hL, jn_ar hL, jn_an hL, jn_si hL, jn_sb hL, jn_sz hL, jn_sl hL, Option.bind_some, xc, xl, jlit, jmul, nI_ltI, nI_leI, nI_add, if_neg, if_pos, uz]
      · simp (disch := first | omega | rfl | assumption | exact jokr (by decide) (by omega) | exact jokr4 (by omega) | exact jkt_r _ _ | exact jkt_l (by decide) | exact jfk_l (by decide) | exact jkt_t _ | exact jkt_r6 _ _ | exact jkt_t6 _ | (simp only [jok, jlen]; omega) | decide) only [jm_k hL, jm_gi hL, jm_gr hL, jm_gl hL, jm_pi hL, jm_pl hL, jn_ai hL, jn_ab hL, jn_az hL, jn_al hL, jn_ar hL, jn_an hL, jn_si hL, jn_sb hL, jn_sz hL, jn_sl hL, Option.bind_some, xc, xl, jlit, jmul, nI_ltI, nI_add, if_pos, uz]
    | succ dd ih =>
      intro c n U h1 h2 h3 hU hI
      obtain ⟨n, rfl⟩ : ∃ n', n = n' + 1 := ⟨n - 1, by omega⟩
      have uz : jgI U (jl j 1) 4 = nI z := by rw [hI]; exact hz
      have em : (c + 1) * (z - b) = c * (z - b) + (z - b) := Nat.succ_mul _ _
      by_cases cm : c = m
      · subst cm
        have ec : (z - b) * c = c * (z - b) := Nat.mul_comm _ _
        refine ⟨jsI U (jl j 1) 4 (nI (z + (z - b) * c)), ?_, hU.trans (jfq.sI _ _ _ (Or.inl rfl)), fun k => by rw [jsI_c, hI]⟩
        rw [f_Positions_copyPlaces_31]
        by_cases c0 : z - b = 0
        · have e1 : ¬ (z - b) * c < (c + 1) * (z - b) := by rw [c0]; omega
          simp (disch := first | omega | rfl | assumption | exact jokr (by decide) (by omega) | exact jokr4 (by omega) | exact jkt_r _ _ | exact jkt_l (by decide) | exact jfk_l (by decide) | exact jkt_t _ | exact jkt_r6 _ _ | exact jkt_t6 _ | (simp only [jok, jlen]; omega) | decide) only [jm_k hL, jm_gi hL, jm_gr hL, jm_gl hL, jm_pi hL, jm_pl hL, jn_ai hL, jn_ab hL, jn_az hL, jn_al hL, jn_ar hL, jn_an hL, jn_si hL, jn_sb hL, jn_sz hL, jn_sl hL, Option.bind_some, xc, xl, jlit, jmul, nI_ltI, nI_leI, nI_add, if_neg, if_pos, uz]
        · simp (disch := first | omega | rfl | assumption | exact jokr (by decide) (by omega) | exact jokr4 (by omega) | exact jkt_r _ _ | exact jkt_l (by decide) | exact jfk_l (by decide) | exact jkt_t _ | exact jkt_r6 _ _ | exact jkt_t6 _ | (simp only [jok, jlen]; omega) | decide) only [jm_k hL, jm_gi hL, jm_gr hL, jm_gl hL, jm_pi hL, jm_pl hL, jn_ai hL, jn_ab hL, jn_az hL, jn_al hL, jn_ar hL, jn_an hL, jn_si hL, jn_sb hL, jn_sz hL, jn_sl hL, Option.bind_some, xc, xl, jlit, jmul, nI_ltI, nI_add, if_pos, uz]
      · have hle : (c + 1) * (z - b) ≤ m * (z - b) := Nat.mul_le_mul_right _ (by omega)
        have ec : (z - b) * m = m * (z - b) := Nat.mul_comm _ _
        rw [f_Positions_copyPlaces_31]
        by_cases c0 : z - b = 0
        · refine ⟨jsI U (jl j 1) 4 (nI (z + (z - b) * m)), ?_, hU.trans (jfq.sI _ _ _ (Or.inl rfl)), fun k => by rw [jsI_c, hI]⟩
          simp (disch := first | omega | rfl | assumption | exact jokr (by decide) (by omega) | exact jokr4 (by omega) | exact jkt_r _ _ | exact jkt_l (by decide) | exact jfk_l (by decide) | exact jkt_t _ | exact jkt_r6 _ _ | exact jkt_t6 _ | (simp only [jok, jlen]; omega) | decide) only [jm_k hL, jm_gi hL, jm_gr hL, jm_gl hL, jm_pi hL, jm_pl hL, jn_ai hL, jn_ab hL, jn_az hL, jn_al hL, jn_ar hL, jn_an hL, jn_si hL, jn_sb hL, jn_sz hL, jn_sl hL, Option.bind_some, xc, xl, jlit, jmul, nI_ltI, nI_leI, nI_add, if_neg, if_pos, uz]
        · obtain ⟨n1, T1, e1, a1, a2⟩ := jlpI (fun n' i (T : jSt) => f_Positions_copyPlaces_46 (f_Positions_copyPlaces_31 n) n' (jad L (jl j 1)) (nI b) (nI (z - b)) (nI m) (nI ((2 ^ (z - b) - 1) <<< b)) (nI ((c + 1) * (z - b))) (nI i) (jW L ω T)) (fun i T => jfq (fun c => c = jl j 1 ∨ c = jl j 2 ∨ c = jl j 3) S T ∧ jgI T = jgI S) (lo := 0) (hi := 9) (Nat.zero_le _) (by omega) (by
            intro n' i T _ hi ⟨b1, b2⟩
            have hK := hK.of b1.1
            refine ⟨jsA T (jl j 2) i (jgA T (jl j 2) i ||| ((jgA T (jl j 2) i &&& nI ((2 ^ (z - b) - 1) <<< b)) <<< (nI ((c + 1) * (z - b)) &&& nI 31))), ?_, b1.trans (jfq.sA _ _ _ (Or.inr (Or.inl rfl))), b2⟩
            show f_Positions_copyPlaces_46 _ (n' + 1) _ _ _ _ _ _ _ _ = f_Positions_copyPlaces_46 _ n' _ _ _ _ _ _ _ _
            rw [f_Positions_copyPlaces_46]
            simp (disch := first | omega | rfl | assumption | exact jokr (by decide) (by omega) | exact jokr4 (by omega) | exact jkt_r _ _ | exact jkt_l (by decide) | exact jfk_l (by decide) | exact jkt_t _ | exact jkt_r6 _ _ | exact jkt_t6 _ | (simp only [jok, jlen]; omega) | decide) only [jm_k hL, jm_gi hL, jm_gr hL, jm_gl hL, jm_pi hL, jm_pl hL, jn_ai hL, jn_ab hL, jn_az hL, jn_al hL, jn_ar hL, jn_an hL, jn_si hL, jn_sb hL, jn_sz hL, jn_sl hL, Option.bind_some, xc, xl, jsA_X, jsI_X, jsG_X, hK _ _, jlk, jmx, jlit, nI_add, nI_leI, if_neg]) U ⟨hU, hI⟩
          obtain ⟨n2, T2, e2, d1, d2⟩ := jlpI (fun n' i (T : jSt) => f_Positions_copyPlaces_85 (f_Positions_copyPlaces_31 n) n' (jad L (jl j 1)) (nI b) (nI (z - b)) (nI m) (nI ((2 ^ (z - b) - 1) <<< b)) (nI ((c + 1) * (z - b))) (nI i) (jW L ω T)) (fun i T => jfq (fun c => c = jl j 1 ∨ c = jl j 2 ∨ c = jl j 3) S T ∧ jgI T = jgI S) (lo := b) (hi := z) hb (by omega) (by
            intro n' i T h4 hi ⟨b1, b2⟩
            have hK := hK.of b1.1
            refine ⟨jsA T (jl j 3) (i + (c + 1) * (z - b)) (jgA T (jl j 3) i <<< (nI ((c + 1) * (z - b)) &&& nI 31)), ?_, b1.trans (jfq.sA _ _ _ (Or.inr (Or.inr rfl))), b2⟩
            show f_Positions_copyPlaces_85 _ (n' + 1) _ _ _ _ _ _ _ _ = f_Positions_copyPlaces_85 _ n' _ _ _ _ _ _ _ _
            rw [f_Positions_copyPlaces_85]
            simp (disch := first | omega | rfl | assumption | exact jokr (by decide) (by omega) | exact jokr4 (by omega) | exact jkt_r _ _ | exact jkt_l (by decide) | exact jfk_l (by decide) | exact jkt_t _ | exact jkt_r6 _ _ | exact jkt_t6 _ | (simp only [jok, jlen]; omega) | decide) only [jm_k hL, jm_gi hL, jm_gr hL, jm_gl hL, jm_pi hL, jm_pl hL, jn_ai hL, jn_ab hL, jn_az hL, jn_al hL, jn_ar hL, jn_an hL, jn_si hL, jn_sb hL, jn_sz hL, jn_sl hL, Option.bind_some, xc, xl, jsA_X, jsI_X, jsG_X, hK _ _, jlk, jmx, jlit, nI_add, nI_leI, if_neg]) T1 ⟨a1, a2⟩
          obtain ⟨T3, g1, g2, g3⟩ := ih (c + 1) n T2 (by omega) (by omega) (by omega) d1 d2
          refine ⟨T3, ?_, g2, g3⟩
          simp (disch := first | omega | rfl | assumption | exact jokr (by decide) (by omega) | exact jokr4 (by omega) | exact jkt_r _ _ | exact jkt_l (by decide) | exact jfk_l (by decide) | exact jkt_t _ | exact jkt_r6 _ _ | exact jkt_t6 _ | (simp only [jok, jlen]; omega) | decide) only [jlit, jmul, nI_ltI, nI_leI, if_neg]
          refine e1.trans ?_
          show f_Positions_copyPlaces_46 _ (n1 + 1) _ _ _ _ _ _ _ _ = _
          rw [f_Positions_copyPlaces_46]
          simp (disch := first | omega | rfl | assumption | exact jokr (by decide) (by omega) | exact jokr4 (by omega) | exact jkt_r _ _ | exact jkt_l (by decide) | exact jfk_l (by decide) | exact jkt_t _ | exact jkt_r6 _ _ | exact jkt_t6 _ | (simp only [jok, jlen]; omega) | decide) only [jlit, nI_leI, if_pos]
          refine e2.trans ?_
          show f_Positions_copyPlaces_85 _ (n2 + 1) _ _ _ _ _ _ _ _ = _
          rw [f_Positions_copyPlaces_85]
          simp (disch := first | omega | rfl | assumption | exact jokr (by decide) (by omega) | exact jokr4 (by omega) | exact jkt_r _ _ | exact jkt_l (by decide) | exact jfk_l (by decide) | exact jkt_t _ | exact jkt_r6 _ _ | exact jkt_t6 _ | (simp only [jok, jlen]; omega) | decide) only [jlit, nI_add, nI_leI, if_pos]
          rw [show (c + 1) * (z - b) + (z - b) = (c + 1 + 1) * (z - b) from (Nat.succ_mul (c + 1) (z - b)).symm]
          exact g1
  obtain ⟨T, g1, g2, g3⟩ := loop m 0 xFU S (by omega) (Nat.zero_le _) (by unfold xFU; omega) (jfq.refl _ _) rfl
  refine ⟨T, ?_, g2, g3⟩
  have g4 : xgi (jW L ω S) (jad L (jl j 1)) 7 4 = some (nI z) := by simp (disch := first | omega | rfl | assumption | exact jokr (by decide) (by omega) | exact jokr4 (by omega) | exact jkt_r _ _ | exact jkt_l (by decide) | exact jfk_l (by decide) | exact jkt_t _ | exact jkt_r6 _ _ | exact jkt_t6 _ | (simp only [jok, jlen]; omega) | decide) only [jm_gi hL, hz]
  rw [g4, Option.bind_some]
  simp (disch := first | omega | rfl | assumption | exact jokr (by decide) (by omega) | exact jokr4 (by omega) | exact jkt_r _ _ | exact jkt_l (by decide) | exact jfk_l (by decide) | exact jkt_t _ | exact jkt_r6 _ _ | exact jkt_t6 _ | (simp only [jok, jlen]; omega) | decide) only [jlit, jmul, nI_add, nI_leI, if_pos, hmask]
  rw [Nat.zero_add, Nat.one_mul] at g1
  exact g1
theorem jP_copyO {L : jL} (hL : jgood L) {ω : xS} {S : jSt} {sw ps wy : Nat} (hK : jLK S sw ps wy) {j z b m : Nat} (hj : j < 32) (hz : jgI S (jl j 1) 4 = nI z) (hz10 : z ≤ 10) (hb : b ≤ z) (hm : m ≤ 8) (hfit : 10 < z + (z - b) * m) : f_Positions_copyPlaces (jad L (jl j 1)) (nI b) (nI (z - b)) (nI m) (jW L ω S) = some (jW L ω (jsI S (jl j 1) 5 (nI 1))) := by
  have hle : (z - b) * m ≤ 10 * 8 := Nat.mul_le_mul (by omega) hm
  unfold f_Positions_copyPlaces
  have g4 : xgi (jW L ω S) (jad L (jl j 1)) 7 4 = some (nI z) := by simp (disch := first | omega | rfl | assumption | exact jokr (by decide) (by omega) | exact jokr4 (by omega) | exact jkt_r _ _ | exact jkt_l (by decide) | exact jfk_l (by decide) | exact jkt_t _ | exact jkt_r6 _ _ | exact jkt_t6 _ | (simp only [jok, jlen]; omega) | decide) only [jm_gi hL, hz]
  rw [g4, Option.bind_some]
  simp (disch := first | omega | rfl | assumption | exact jokr (by decide) (by omega) | exact jokr4 (by omega) | exact jkt_r _ _ | exact jkt_l (by decide) | exact jfk_l (by decide) | exact jkt_t _ | exact jkt_r6 _ _ | exact jkt_t6 _ | (simp only [jok, jlen]; omega) | decide) only [jm_k hL, jm_gi hL, jm_gr hL, jm_gl hL, jm_pi hL, jm_pl hL, jn_ai hL, jn_ab hL, jn_az hL, jn_al hL, jn_ar hL, jn_an hL, jn_si hL, jn_sb hL, jn_sz hL, jn_sl hL, Option.bind_some, xc, xl, jlit, jmul, nI_add, nI_leI, if_neg]
