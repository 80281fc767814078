/-! copies, as numbers -/
def jlq (ls : Nat → Nat) (z b : Nat) : Nat → Nat := fun q => if z ≤ q then ls (b + (q - b) % (z - b)) else ls q
def jfq2 (fo : Nat → Nat) (z b : Nat) : Nat → Nat := fun p => fo (b + (p - b) % (z - b)) <<< (p - (b + (p - b) % (z - b)))
def jTk (S : jSt) (j z : Nat) (ls : Nat → Nat) (l : Nat) : Prop := (∃ t, t < 1024 ∧ jgA S (jl j 2) l = nI t ∧ ∀ q, t.testBit q = true ↔ q < z ∧ jbit (ls q) l = 1)
theorem jTk.x {S : jSt} {j z : Nat} {ls : Nat → Nat} {l : Nat} (h : jTk S j z ls l) : ∃ t, t < 1024 ∧ jgA S (jl j 2) l = nI t ∧ ∀ q, t.testBit q = true ↔ q < z ∧ jbit (ls q) l = 1 := h
theorem jP_copyA {L : jL} (hL : jgood L) {ω : xS} {S : jSt} {sw ps wy : Nat} (hK : jLK S sw ps wy) {j z b m : Nat} {ls fo : Nat → Nat} (hj : j < 32) (hz : jgI S (jl j 1) 4 = nI z) (hz10 : z ≤ 10) (hb : b < z) (hm : m ≤ 8) (hfit : z + (z - b) * m ≤ 10) (htk : ∀ l, l < 9 → jTk S j z ls l) (hfo : ∀ p, p < 10 → jgA S (jl j 3) p = nI (fo p)) (hfl : ∀ p, p < 10 → fo p < 1024) : ∃ T, f_Positions_copyPlaces (jad L (jl j 1)) (nI b) (nI (z - b)) (nI m) (jW L ω S) = some (jW L ω T) ∧ jfq (fun c => c = jl j 1 ∨ c = jl j 2 ∨ c = jl j 3) S T ∧ (∀ k, jgI T (jl j 1) k = if k = 4 then nI (z + (z - b) * m) else jgI S (jl j 1) k) ∧ (∀ l, l < 9 → jTk T j (z + (z - b) * m) (jlq ls z b) l) ∧ ∀ p, p < 10 → jgA T (jl j 3) p = nI (if z ≤ p ∧ p < z + (z - b) * m then jfq2 fo z b p else fo p) := by
  have hmask := jmask (b := b) (w := z - b) (by omega)
  have hmr : z + m * (z - b) ≤ 10 := by rw [Nat.mul_comm]; exact hfit
  rw [show z + (z - b) * m = z + m * (z - b) by rw [Nat.mul_comm]]
  unfold f_Positions_copyPlaces
  have loop : ∀ dd c n (U : jSt), m ≤ c + dd → c ≤ m → dd + 1 ≤ n → jfq (fun c => c = jl j 1 ∨ c = jl j 2 ∨ c = jl j 3) S U → jgI U = jgI S → (∀ l, l < 9 → jTk U j (z + c * (z - b)) (jlq ls z b) l) → (∀ p, p < 10 → jgA U (jl j 3) p = nI (if z ≤ p ∧ p < z + c * (z - b) then jfq2 fo z b p else fo p)) → ∃ T, f_Positions_copyPlaces_31 n (jad L (jl j 1)) (nI b) (nI (z - b)) (nI m) (nI ((2 ^ (z - b) - 1) <<< b)) (nI ((c + 1) * (z - b))) (jW L ω U) = some (jW L ω T) ∧ jfq (fun c => c = jl j 1 ∨ c = jl j 2 ∨ c = jl j 3) S T ∧ (∀ k, jgI T (jl j 1) k = if k = 4 then nI (z + m * (z - b)) else jgI S (jl j 1) k) ∧ (∀ l, l < 9 → jTk T j (z + m * (z - b)) (jlq ls z b) l) ∧ ∀ p, p < 10 → jgA T (jl j 3) p = nI (if z ≤ p ∧ p < z + m * (z - b) then jfq2 fo z b p else fo p) := by
    intro dd
    induction dd with
    | zero =>
      intro c n U h1 h2 h3 hU hI ht hF
      obtain ⟨n, rfl⟩ : ∃ n', n = n' + 1 := ⟨n - 1, by omega⟩
      obtain rfl : c = m := by omega
      have uz : jgI U (jl j 1) 4 = nI z := by rw [hI]; exact hz
      have em : (c + 1) * (z - b) = c * (z - b) + (z - b) := Nat.succ_mul _ _
      have ec : (z - b) * c = c * (z - b) := Nat.mul_comm _ _
      refine ⟨jsI U (jl j 1) 4 (nI (z + c * (z - b))), ?_, hU.trans (jfq.sI _ _ _ (Or.inl rfl)), fun k => by rw [jsI_c, hI], ht, hF⟩
      rw [f_Positions_copyPlaces_31]
      simp (disch := first | omega | rfl | assumption | exact jokr (by decide) (by omega) | exact jokr4 (by omega) | exact jkt_r _ _ | exact jkt_l (by decide) | exact jfk_l (by decide) | exact jkt_t _ | exact jkt_r6 _ _ | exact jkt_t6 _ | (simp only [jok, jlen]; omega) | decide) only [jm_k hL, jm_gi hL, jm_gr hL, jm_gl hL, jm_pi hL, jm_pl hL, jn_ai hL, jn_ab hL, jn_az hL, jn_al hL, jn_ar hL, jn_an hL, jn_si hL, jn_sb hL, jn_sz hL, jn_sl hL, Option.bind_some, xc, xl, jlit, jmul, nI_ltI, nI_add, if_pos, uz, ec]
    | succ dd ih =>
      intro c n U h1 h2 h3 hU hI ht hF
      obtain ⟨n, rfl⟩ : ∃ n', n = n' + 1 := ⟨n - 1, by omega⟩
      have uz : jgI U (jl j 1) 4 = nI z := by rw [hI]; exact hz
      have em : (c + 1) * (z - b) = c * (z - b) + (z - b) := Nat.succ_mul _ _
      by_cases cm : c = m
      · subst cm
        have ec : (z - b) * c = c * (z - b) := Nat.mul_comm _ _
        refine ⟨jsI U (jl j 1) 4 (nI (z + c * (z - b))), ?_, hU.trans (jfq.sI _ _ _ (Or.inl rfl)), fun k => by rw [jsI_c, hI], ht, hF⟩
        rw [f_Positions_copyPlaces_31]
        simp (disch := first | omega | rfl | assumption | exact jokr (by decide) (by omega) | exact jokr4 (by omega) | exact jkt_r _ _ | exact jkt_l (by decide) | exact jfk_l (by decide) | exact jkt_t _ | exact jkt_r6 _ _ | exact jkt_t6 _ | (simp only [jok, jlen]; omega) | decide) only [jm_k hL, jm_gi hL, jm_gr hL, jm_gl hL, jm_pi hL, jm_pl hL, jn_ai hL, jn_ab hL, jn_az hL, jn_al hL, jn_ar hL, jn_an hL, jn_si hL, jn_sb hL, jn_sz hL, jn_sl hL, Option.bind_some, xc, xl, jlit, jmul, nI_ltI, nI_add, if_pos, uz, ec]
      · have hle : (c + 1) * (z - b) ≤ m * (z - b) := Nat.mul_le_mul_right _ (by omega)
        have ec : (z - b) * m = m * (z - b) := Nat.mul_comm _ _
        have zc : z + (c + 1) * (z - b) = z + c * (z - b) + (z - b) := by omega
        rw [f_Positions_copyPlaces_31]
        obtain ⟨n1, T1, e1, a1, a2, a3, a4, a5⟩ := jlpI (fun n' i (T : jSt) => f_Positions_copyPlaces_46 (f_Positions_copyPlaces_31 n) n' (jad L (jl j 1)) (nI b) (nI (z - b)) (nI m) (nI ((2 ^ (z - b) - 1) <<< b)) (nI ((c + 1) * (z - b))) (nI i) (jW L ω T)) (fun i T => jfq (fun c => c = jl j 1 ∨ c = jl j 2 ∨ c = jl j 3) S T ∧ jgI T = jgI S ∧ (∀ l, l < 9 → l < i → jTk T j (z + (c + 1) * (z - b)) (jlq ls z b) l) ∧ (∀ l, l < 9 → i ≤ l → jTk T j (z + c * (z - b)) (jlq ls z b) l) ∧ jgA T (jl j 3) = jgA U (jl j 3)) (lo := 0) (hi := 9) (Nat.zero_le _) (by omega) (by
          intro n' i T _ hi ⟨b1, b2, b3, b4, b5⟩
          have hK := hK.of b1.1
          obtain ⟨t, t1, t2, t3⟩ := (b4 i hi (Nat.le_refl _)).x
          have hsm : (t &&& ((2 ^ (z - b) - 1) <<< b)) * 2 ^ ((c + 1) * (z - b)) < 2 ^ 32 := by
            have q1 : t &&& ((2 ^ (z - b) - 1) <<< b) ≤ t := Nat.and_le_left
            have q2 : 2 ^ ((c + 1) * (z - b)) ≤ 2 ^ 10 := Nat.pow_le_pow_right (by decide) (by omega)
            have : (t &&& ((2 ^ (z - b) - 1) <<< b)) * 2 ^ ((c + 1) * (z - b)) ≤ 2 ^ 10 * 2 ^ 10 := Nat.mul_le_mul (by omega) q2
            omega
          have hval : jgA T (jl j 2) i ||| ((jgA T (jl j 2) i &&& nI ((2 ^ (z - b) - 1) <<< b)) <<< (nI ((c + 1) * (z - b)) &&& nI 31)) = nI (t ||| ((t &&& ((2 ^ (z - b) - 1) <<< b)) <<< ((c + 1) * (z - b)))) := by
            rw [t2, jandA, jshlA (by omega) hsm, jorA]
          have htb : ∀ q, (t ||| ((t &&& ((2 ^ (z - b) - 1) <<< b)) <<< ((c + 1) * (z - b)))).testBit q = true ↔ q < z + (c + 1) * (z - b) ∧ jbit (jlq ls z b q) i = 1 := by
            intro q
            rw [Nat.testBit_or, Bool.or_eq_true, t3, jshl_tb, Nat.testBit_and, Bool.and_eq_true, jmask_tb, t3]
            constructor
            · rintro (⟨q1, q2⟩ | ⟨q1, ⟨q2, q3⟩, q4, q5⟩)
              · exact ⟨by omega, q2⟩
              · refine ⟨by omega, ?_⟩
                have e : jlq ls z b q = jlq ls z b (q - (c + 1) * (z - b)) := by
                  unfold jlq
                  rw [if_pos (by omega), if_neg (by omega)]
                  congr 1
                  have : q - b = (q - (c + 1) * (z - b) - b) + (c + 1) * (z - b) := by omega
                  rw [this, Nat.add_mul_mod_self_right, Nat.mod_eq_of_lt (by omega)]
                  omega
                rw [e]; exact q3
            · rintro ⟨q1, q2⟩
              rcases Nat.lt_or_ge q (z + c * (z - b)) with r | r
              · exact Or.inl ⟨r, q2⟩
              · right
                refine ⟨by omega, ⟨by omega, ?_⟩, by omega, by omega⟩
                have e : jlq ls z b q = jlq ls z b (q - (c + 1) * (z - b)) := by
                  unfold jlq
                  rw [if_pos (by omega), if_neg (by omega)]
                  congr 1
                  have : q - b = (q - (c + 1) * (z - b) - b) + (c + 1) * (z - b) := by omega
                  rw [this, Nat.add_mul_mod_self_right, Nat.mod_eq_of_lt (by omega)]
                  omega
                rw [← e]; exact q2
          refine ⟨jsA T (jl j 2) i (nI (t ||| ((t &&& ((2 ^ (z - b) - 1) <<< b)) <<< ((c + 1) * (z - b))))), ?_, b1.trans (jfq.sA _ _ _ (Or.inr (Or.inl rfl))), b2, fun l hl hli => ?_, fun l hl hli => ?_, ?_⟩
          · show f_Positions_copyPlaces_46 _ (n' + 1) _ _ _ _ _ _ _ _ = f_Positions_copyPlaces_46 _ n' _ _ _ _ _ _ _ _
            rw [f_Positions_copyPlaces_46, ← hval]
            simp (disch := first | omega | rfl | assumption | exact jokr (by decide) (by omega) | exact jokr4 (by omega) | exact jkt_r _ _ | exact jkt_l (by decide) | exact jfk_l (by decide) | exact jkt_t _ | exact jkt_r6 _ _ | exact jkt_t6 _ | (simp only [jok, jlen]; omega) | decide) only [jm_k hL, jm_gi hL, jm_gr hL, jm_gl hL, jm_pi hL, jm_pl hL, jn_ai hL, jn_ab hL, jn_az hL, jn_al hL, jn_ar hL, jn_an hL, jn_si hL, jn_sb hL, jn_sz hL, jn_sl hL, Option.bind_some, xc, xl, jsA_X, jsI_X, jsG_X, hK _ _, jlk, jmx, jlit, nI_add, nI_leI, if_neg]
          · by_cases e : l = i
            · subst e
              refine ⟨_, jFr.lt (b := 10) (fun q hq => ?_), by rw [jsA_c, if_pos rfl], htb⟩
              have := ((htb q).mp hq).1
              omega
            · obtain ⟨t', u1, u2, u3⟩ := (b3 l hl (by omega)).x
              exact ⟨t', u1, by rw [jsA_c, if_neg e]; exact u2, u3⟩
          · obtain ⟨t', u1, u2, u3⟩ := (b4 l hl (by omega)).x
            exact ⟨t', u1, by rw [jsA_c, if_neg (by omega)]; exact u2, u3⟩
          · rw [jsA_fn (fun z => by cases z)]; exact b5) U ⟨hU, hI, fun l _ hli => absurd hli (Nat.not_lt_zero l), fun l hl _ => ht l hl, rfl⟩
        obtain ⟨n2, T2, e2, d1, d2, d3, d4⟩ := jlpI (fun n' i (T : jSt) => f_Positions_copyPlaces_85 (f_Positions_copyPlaces_31 n) n' (jad L (jl j 1)) (nI b) (nI (z - b)) (nI m) (nI ((2 ^ (z - b) - 1) <<< b)) (nI ((c + 1) * (z - b))) (nI i) (jW L ω T)) (fun i T => jfq (fun c => c = jl j 1 ∨ c = jl j 2 ∨ c = jl j 3) S T ∧ jgI T = jgI S ∧ jgA T (jl j 2) = jgA T1 (jl j 2) ∧ ∀ p, p < 10 → jgA T (jl j 3) p = nI (if z ≤ p ∧ p < i + (c + 1) * (z - b) then jfq2 fo z b p else fo p)) (lo := b) (hi := z) (by omega) (by omega) (by
          intro n' i T h4 hi ⟨b1, b2, b3, b4⟩
          have hK := hK.of b1.1
          have hfi := hfl i (by omega)
          have q2 : 2 ^ ((c + 1) * (z - b)) ≤ 2 ^ 10 := Nat.pow_le_pow_right (by decide) (by omega)
          have hsm : fo i * 2 ^ ((c + 1) * (z - b)) < 2 ^ 32 := by
            have : fo i * 2 ^ ((c + 1) * (z - b)) ≤ 2 ^ 10 * 2 ^ 10 := Nat.mul_le_mul (by omega) q2
            omega
          have hv : jgA T (jl j 3) i = nI (fo i) := by rw [b4 i (by omega), if_neg (by omega)]
          have hF2 : jfq2 fo z b (i + (c + 1) * (z - b)) = fo i <<< ((c + 1) * (z - b)) := by
            unfold jfq2
            have e0 : (i + (c + 1) * (z - b) - b) % (z - b) = i - b := by
              have : i + (c + 1) * (z - b) - b = (i - b) + (c + 1) * (z - b) := by omega
              rw [this, Nat.add_mul_mod_self_right, Nat.mod_eq_of_lt (by omega)]
            rw [e0, show b + (i - b) = i by omega, Nat.add_sub_cancel_left]
          refine ⟨jsA T (jl j 3) (i + (c + 1) * (z - b)) (nI (fo i <<< ((c + 1) * (z - b)))), ?_, b1.trans (jfq.sA _ _ _ (Or.inr (Or.inr rfl))), b2, ?_, fun p hp => ?_⟩
          · show f_Positions_copyPlaces_85 _ (n' + 1) _ _ _ _ _ _ _ _ = f_Positions_copyPlaces_85 _ n' _ _ _ _ _ _ _ _
            rw [f_Positions_copyPlaces_85]
            simp (disch := first | omega | rfl | assumption | exact jokr (by decide) (by omega) | exact jokr4 (by omega) | exact jkt_r _ _ | exact jkt_l (by decide) | exact jfk_l (by decide) | exact jkt_t _ | exact jkt_r6 _ _ | exact jkt_t6 _ | (simp only [jok, jlen]; omega) | decide) only [jm_k hL, jm_gi hL, jm_gr hL, jm_gl hL, jm_pi hL, jm_pl hL, jn_ai hL, jn_ab hL, jn_az hL, jn_al hL, jn_ar hL, jn_an hL, jn_si hL, jn_sb hL, jn_sz hL, jn_sl hL, Option.bind_some, xc, xl, jsA_X, jsI_X, jsG_X, hK _ _, jlk, jmx, jlit, nI_add, nI_leI, if_neg, hv, jshlA]
          · rw [jsA_fn (fun z => by cases z)]; exact b3
          · rw [jsA_c]
            by_cases e : p = i + (c + 1) * (z - b)
            · rw [if_pos e, e, if_pos (by omega), hF2]
            · rw [if_neg e, b4 p hp]
              by_cases c2 : z ≤ p ∧ p < i + (c + 1) * (z - b)
              · rw [if_pos c2, if_pos (by omega)]
              · rw [if_neg c2, if_neg (by omega)]) T1 ⟨a1, a2, rfl, fun p hp => by rw [a5, hF p hp, show b + (c + 1) * (z - b) = z + c * (z - b) by omega]⟩
        obtain ⟨T3, g1, g2, g3, g4, g5⟩ := ih (c + 1) n T2 (by omega) (by omega) (by omega) d1 d2 (fun l hl => by
          obtain ⟨t', u1, u2, u3⟩ := (a3 l hl hl).x
          exact ⟨t', u1, by rw [d3]; exact u2, u3⟩) d4
        refine ⟨T3, ?_, g2, g3, g4, g5⟩
        simp (disch := first | omega | rfl | assumption | exact jokr (by decide) (by omega) | exact jokr4 (by omega) | exact jkt_r _ _ | exact jkt_l (by decide) | exact jfk_l (by decide) | exact jkt_t _ | exact jkt_r6 _ _ | exact jkt_t6 _ | (simp only [jok, jlen]; omega) | decide) only [jlit, jmul, nI_ltI, nI_leI, if_neg, ec]
        refine e1.trans ?_
        show f_Positions_copyPlaces_46 _ (n1 + 1) _ _ _ _ _ _ _ _ = _
        rw [f_Positions_copyPlaces_46]
        simp (disch := first | omega | rfl | assumption | exact jokr (by decide) (by omega) | exact jokr4 (by omega) | exact jkt_r _ _ | exact jkt_l (by decide) | exact jfk_l (by decide) | exact jkt_t _ | exact jkt_r6 _ _ | exact jkt_t6 _ | (simp only [jok, jlen]; omega) | decide) only [jlit, nI_leI, if_pos]
        refine e2.trans ?_
        show f_Positions_copyPlaces_85 _ (n2 + 1) _ _ _ _ _ _ _ _ = _
        rw [f_Positions_copyPlaces_85]
        simp (disch := first | omega | rfl | assumption | exact jokr (by decide) (by omega) | exact jokr4 (by omega) | exact jkt_r _ _ | exact jkt_l (by decide) | exact jfk_l (by decide) | exact jkt_t _ | exact jkt_r6 _ _ | exact jkt_t6 _ | (simp only [jok, jlen]; omega) | decide) only [jlit, nI_add, nI_leI, if_pos]
        rw [show (c + 1) * (z - b) + (z - b) = (c + 1 + 1) * (z - b) from (Nat.succ_mul (c + 1) (z - b)).symm]
        exact g1
  have ht0 : ∀ l, l < 9 → jTk S j (z + 0 * (z - b)) (jlq ls z b) l := fun l hl => by
    obtain ⟨t, u1, u2, u3⟩ := (htk l hl).x
    refine ⟨t, u1, u2, fun q => (u3 q).trans ?_⟩
    rw [Nat.zero_mul, Nat.add_zero]
    refine and_congr_right (fun hq => ?_)
    unfold jlq
    rw [if_neg (by omega)]
  obtain ⟨T, g1, g2, g3, g4, g5⟩ := loop m 0 xFU S (by omega) (Nat.zero_le _) (by unfold xFU; omega) (jfq.refl _ _) rfl ht0 (fun p hp => by rw [if_neg (by omega)]; exact hfo p hp)
  refine ⟨T, ?_, g2, g3, g4, g5⟩
  have g4' : xgi (jW L ω S) (jad L (jl j 1)) 7 4 = some (nI z) := by simp (disch := first | omega | rfl | assumption | exact jokr (by decide) (by omega) | exact jokr4 (by omega) | exact jkt_r _ _ | exact jkt_l (by decide) | exact jfk_l (by decide) | exact jkt_t _ | exact jkt_r6 _ _ | exact jkt_t6 _ | (simp only [jok, jlen]; omega) | decide) only [jm_gi hL, hz]
  rw [g4', Option.bind_some]
  simp (disch := first | omega | rfl | assumption | exact jokr (by decide) (by omega) | exact jokr4 (by omega) | exact jkt_r _ _ | exact jkt_l (by decide) | exact jfk_l (by decide) | exact jkt_t _ | exact jkt_r6 _ _ | exact jkt_t6 _ | (simp only [jok, jlen]; omega) | decide) only [jlit, jmul, nI_add, nI_leI, if_pos, hmask]
  rw [Nat.zero_add, Nat.one_mul] at g1
  exact g1
