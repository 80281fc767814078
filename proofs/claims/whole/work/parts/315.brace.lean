/-! the reference's build: braces -/
theorem jmskM {b z i : Nat} (hb : b ≤ z) : (2 ^ z - 2 ^ b).testBit i = (decide (b ≤ i) && decide (i < z)) := by
  have e : 2 ^ z - 2 ^ b = (2 ^ (z - b) - 1) <<< b := by
    rw [Nat.shiftLeft_eq, Nat.sub_mul, Nat.one_mul, ← Nat.pow_add, show z - b + b = z by omega]
  rw [e, Nat.testBit_shiftLeft, Nat.testBit_two_pow_sub_one]
  by_cases c : b ≤ i
  · rw [decide_eq_true c, Bool.true_and, Bool.true_and]
    by_cases c2 : i < z
    · rw [decide_eq_true c2, decide_eq_true (show i - b < z - b by omega)]
    · rw [decide_eq_false c2, decide_eq_false (show ¬ i - b < z - b by omega)]
  · rw [decide_eq_false c, Bool.false_and, Bool.false_and]
theorem jMb_copy {L : jL} (hL : jgood L) {ω : xS} {S : jSt} {sw ps wy : Nat} (hK : jLK S sw ps wy) {K : Nat → Int64 → Int32 → Int32 → Int32 → Int32 → Int32 → Int64 → Int32 → xS → Option (Int64 × xS)} {x1 x9 : Int64} {x5 x6 : Int32} {k i b z m : Nat} (hk : k < 16) (hbz : b < z) (hi1 : 1 ≤ i) (hfit : b + i * (z - b) + (z - b) ≤ 10) (h44 : jgI S (jm 0) 44 = nI k) : ∃ n T, f_Mo_often_180 K xFU (jad L (jm 0)) x1 (nI b) x5 x6 (nI (z - b)) (nI m) x9 (nI i) (nI b) (jW L ω S) = f_Mo_often_180 K (n + 1) (jad L (jm 0)) x1 (nI b) x5 x6 (nI (z - b)) (nI m) x9 (nI i) (nI z) (jW L ω T) ∧ jfr (fun c => c = jm 17 ∨ c = jm 18) S T ∧ jgG T = jgG S ∧ (∀ q, jgA T (jm 17) q = if 10 * k + b + i * (z - b) ≤ q ∧ q < 10 * k + z + i * (z - b) then jgA S (jm 17) (q - i * (z - b)) else jgA S (jm 17) q) ∧ ∀ q, jgA T (jm 18) q = if 11 * k + b + i * (z - b) ≤ q ∧ q < 11 * k + z + i * (z - b) then (jgA S (jm 18) (q - i * (z - b)) &&& nI m) <<< (nI (i * (z - b)) &&& nI 31) else jgA S (jm 18) q := by
  have hw : 1 * (z - b) ≤ i * (z - b) := Nat.mul_le_mul_right _ hi1
  have em := jmul i (z - b)
  generalize hc : i * (z - b) = c at *
  refine jlpI (fun n p (T : jSt) => f_Mo_often_180 K n (jad L (jm 0)) x1 (nI b) x5 x6 (nI (z - b)) (nI m) x9 (nI i) (nI p) (jW L ω T)) (fun p T => jfr (fun c => c = jm 17 ∨ c = jm 18) S T ∧ jgG T = jgG S ∧ (∀ q, jgA T (jm 17) q = if 10 * k + b + c ≤ q ∧ q < 10 * k + p + c then jgA S (jm 17) (q - c) else jgA S (jm 17) q) ∧ ∀ q, jgA T (jm 18) q = if 11 * k + b + c ≤ q ∧ q < 11 * k + p + c then (jgA S (jm 18) (q - c) &&& nI m) <<< (nI c &&& nI 31) else jgA S (jm 18) q) (lo := b) (hi := z) (by omega) (by omega) (by
    intro n p T hp1 hp2 ⟨b1, bG, b2, b3⟩
    have hK := hK.of b1.2.2.1
    have h44' : jgI T (jm 0) 44 = nI k := by rw [b1.1]; exact h44
    have r17 : jgA T (jm 17) (10 * k + p) = jgA S (jm 17) (10 * k + p) := by rw [b2, if_neg (by omega)]
    have r18 : jgA T (jm 18) (11 * k + p) = jgA S (jm 18) (11 * k + p) := by rw [b3, if_neg (by omega)]
    refine ⟨jsA (jsA T (jm 17) (10 * k + p + c) (jgA T (jm 17) (10 * k + p))) (jm 18) (11 * k + p + c) ((jgA T (jm 18) (11 * k + p) &&& nI m) <<< (nI c &&& nI 31)), ?_, (b1.trans (jfr.sA _ _ _ (Or.inl rfl))).trans (jfr.sA _ _ _ (Or.inr rfl)), bG, fun q => ?_, fun q => ?_⟩
    · show f_Mo_often_180 K (n + 1) _ _ _ _ _ _ _ _ _ _ _ = f_Mo_often_180 K n _ _ _ _ _ _ _ _ _ _ _
      have n18 : jgA (jsA T (jm 17) (10 * k + p + c) (jgA T (jm 17) (10 * k + p))) (jm 18) (11 * k + p) = jgA T (jm 18) (11 * k + p) := jsA_ne (jmne (by decide))
      rw [f_Mo_often_180, nI_add, if_neg (fun y => by rw [nI_leI (by omega) (by omega)] at y; omega)]
      simp (disch := first | omega | rfl | assumption | exact jokr (by decide) (by omega) | exact jokr4 (by omega) | exact jkt_r _ _ | exact jkt_l (by decide) | exact jfk_l (by decide) | exact jkt_t _ | exact jkt_r6 _ _ | exact jkt_t6 _ | (simp only [jok, jlen]; omega) | decide) only [jm_k hL, jm_gi hL, jm_gr hL, jm_gl hL, jm_pi hL, jm_pl hL, jn_ai hL, jn_ab hL, jn_az hL, jn_al hL, jn_ar hL, jn_an hL, jn_si hL, jn_sb hL, jn_sz hL, jn_sl hL, Option.bind_some, xc, xl, jsA_X, jsI_X, jsG_X, hK _ _, jlk, jmx, jlit, jmul, nI_add, jsA_I, h44', em, n18]
    · rw [jsA_ne (jmne (by decide)), jsA_c, r17, b2 q]
      by_cases e : q = 10 * k + p + c
      · rw [if_pos e, if_pos (by omega), e, show 10 * k + p + c - c = 10 * k + p by omega]
      · rw [if_neg e]
        by_cases e2 : 10 * k + b + c ≤ q ∧ q < 10 * k + p + c
        · rw [if_pos e2, if_pos (by omega)]
        · rw [if_neg e2, if_neg (by omega)]
    · rw [jsA_c, jsA_ne (jmne (by decide)), r18, b3 q]
      by_cases e : q = 11 * k + p + c
      · rw [if_pos e, if_pos (by omega), e, show 11 * k + p + c - c = 11 * k + p by omega]
      · rw [if_neg e]
        by_cases e2 : 11 * k + b + c ≤ q ∧ q < 11 * k + p + c
        · rw [if_pos e2, if_pos (by omega)]
        · rw [if_neg e2, if_neg (by omega)]) S ⟨jfr.refl _ _, rfl, fun q => by rw [if_neg (by omega)], fun q => by rw [if_neg (by omega)]⟩
/-- i copies stand -/
def jBr (S T : jSt) (k : Nat) (s : jPs) (a i : Nat) : Prop := (jfB k S T) ∧ (jgI T (jm 0) 43 = nI (jPs.ib s + i * jwd s)) ∧ (∀ q, q ≠ 43 → jgI T (jm 0) q = jgI S (jm 0) q) ∧ (∀ q, q ≠ 17 → q ≠ 18 → jgA T (jm q) = jgA S (jm q)) ∧ (jgG T = jgG S) ∧ (∀ p, p < jPs.ib s + i * jwd s → jgA T (jm 17) (10 * k + p) = nI (jLs s i p)) ∧ (∀ p, p < 10 → jgA T (jm 18) (11 * k + p) = nI (jFk s a (i - 1) p))
theorem jBr.b {S T : jSt} {k : Nat} {s : jPs} {a i : Nat} (h : jBr S T k s a i) : jfB k S T := h.1
theorem jBr.u {S T : jSt} {k : Nat} {s : jPs} {a i : Nat} (h : jBr S T k s a i) : jgI T (jm 0) 43 = nI (jPs.ib s + i * jwd s) := h.2.1
theorem jBr.I {S T : jSt} {k : Nat} {s : jPs} {a i : Nat} (h : jBr S T k s a i) : ∀ q, q ≠ 43 → jgI T (jm 0) q = jgI S (jm 0) q := h.2.2.1
theorem jBr.A {S T : jSt} {k : Nat} {s : jPs} {a i : Nat} (h : jBr S T k s a i) : ∀ q, q ≠ 17 → q ≠ 18 → jgA T (jm q) = jgA S (jm q) := h.2.2.2.1
theorem jBr.G {S T : jSt} {k : Nat} {s : jPs} {a i : Nat} (h : jBr S T k s a i) : jgG T = jgG S := h.2.2.2.2.1
theorem jBr.ls {S T : jSt} {k : Nat} {s : jPs} {a i : Nat} (h : jBr S T k s a i) : ∀ p, p < jPs.ib s + i * jwd s → jgA T (jm 17) (10 * k + p) = nI (jLs s i p) := h.2.2.2.2.2.1
theorem jBr.fo {S T : jSt} {k : Nat} {s : jPs} {a i : Nat} (h : jBr S T k s a i) : ∀ p, p < 10 → jgA T (jm 18) (11 * k + p) = nI (jFk s a (i - 1) p) := h.2.2.2.2.2.2
theorem jmod_blk {w i r : Nat} (hr : r < w) : (r + i * w) % w = r := by
  rw [Nat.add_mul_mod_self_right, Nat.mod_eq_of_lt hr]
/-- a block's followers, copied -/
theorem jblk {s : jPs} (hi : jPi s) (h1 : jPs.hs s = 1) (a j : Nat) {p : Nat} (hp1 : jPs.ib s ≤ p) (hp2 : p < jPs.sz s) : jFk s a j p &&& (2 ^ jPs.sz s - 2 ^ jPs.ib s) = jPs.fo s p := by
  obtain ⟨i1, i2, i3⟩ := hi.it h1
  have J := jJk_ok hi h1 a j
  apply Nat.eq_of_testBit_eq
  intro i
  rw [Nat.testBit_and, jmskM (by omega)]
  cases z : (jPs.fo s p).testBit i
  · by_cases c : i < jPs.sz s
    · cases y : (jFk s a j p).testBit i
      · rfl
      · have := J.n p i hp2 c y
        rw [z] at this; cases this
    · rw [decide_eq_false c, Bool.and_false, Bool.and_false]
  · have c1 := hi.fi h1 p i hp1 z
    have c2 := hi.fu p i z
    rw [J.o p i z, decide_eq_true c1, decide_eq_true c2]; rfl
theorem jMb_turn {L : jL} (hL : jgood L) {ω : xS} {S : jSt} {sw ps wy : Nat} (hK : jLK S sw ps wy) {S0 : jSt} {k a b i n : Nat} {s : jPs} (hk : k < 16) (hi : jPi s) (h1 : jPs.hs s = 1) (ha : a ≤ 9) (hb9 : b ≤ 9) (hi1 : 1 ≤ i) (hib : i < b) (hfit : jPs.ib s + b * jwd s ≤ 10) (h44 : jgI S0 (jm 0) 44 = nI k) (h : jBr S0 S k s a i) : ∃ T, f_Mo_often_170 (n + 1) (jad L (jm 0)) (lN (jeln (jPs.it s))) (nI (jPs.ib s)) (nI a) (nI b) (nI (jwd s)) (nI (2 ^ jPs.sz s - 2 ^ jPs.ib s)) (lN (jeln (jWk s a (i - 1)))) (nI i) (jW L ω S) = f_Mo_often_170 n (jad L (jm 0)) (lN (jeln (jPs.it s))) (nI (jPs.ib s)) (nI a) (nI b) (nI (jwd s)) (nI (2 ^ jPs.sz s - 2 ^ jPs.ib s)) (lN (jeln (jWk s a (i + 1 - 1)))) (nI (i + 1)) (jW L ω T) ∧ jBr S0 T k s a (i + 1) := by
  obtain ⟨i1, i2, i3⟩ := hi.it h1
  have ew : jPs.ib s + jwd s = jPs.sz s := by unfold jwd; omega
  have hw1 : 1 ≤ jwd s := by omega
  have hm1 : (i + 1) * jwd s ≤ b * jwd s := Nat.mul_le_mul_right _ (by omega)
  have hm2 : (i + 1) * jwd s = i * jwd s + jwd s := Nat.succ_mul i (jwd s)
  have hm3 : 1 * jwd s ≤ i * jwd s := Nat.mul_le_mul_right _ hi1
  have hsz : jPs.sz s ≤ 10 := by omega
  have w44 : jgI S (jm 0) 44 = nI k := by rw [h.I 44 (by decide)]; exact h44
  obtain ⟨m, T1, c1, c2, cG, c3, c4⟩ := jMb_copy hL (ω := ω) (S := S) hK (K := f_Mo_often_170 n) (x1 := lN (jeln (jPs.it s))) (x9 := lN (jeln (jWk s a (i - 1)))) (x5 := nI a) (x6 := nI b) (i := i) (b := jPs.ib s) (z := jPs.sz s) (m := 2 ^ jPs.sz s - 2 ^ jPs.ib s) hk i2 hi1 (by show jPs.ib s + i * jwd s + jwd s ≤ 10; omega) w44
  have hwd : jPs.sz s - jPs.ib s = jwd s := rfl
  rw [hwd] at c1 c3 c4
  have hK1 := hK.of c2.2.2.1
  have hgi := i3.good hsz
  have hgW : jGg (jWk s a (i - 1)) := (jJk_ok hi h1 a (i - 1)).w.good (by
    have : (i - 1) * jwd s + jwd s = i * jwd s := by rw [← Nat.succ_mul]; congr 1; omega
    omega)
  have hgS : jGg (jshx s a i) := (jshx_fr hi h1 a i).good (by omega)
  -- the room counted
  have e2 : ∀ T2 : jSt, T2 = jsI T1 (jm 0) 43 (nI (jPs.ib s + (i + 1) * jwd s)) → ∃ T, f_Mo_behind (jad L (jm 0)) (lN (jeln (jWk s a (i - 1)))) (lN (jeln (jshx s a i))) (jW L ω T2) = some (lN (jeln (jWk s a i)), jW L ω T) ∧ jBr S0 T k s a (i + 1) := by
    intro T2 hT2
    have hI2 : ∀ q, q ≠ 43 → jgI T2 (jm 0) q = jgI S (jm 0) q := fun q hq => by rw [hT2, jsI_c, if_neg hq, c2.1]
    have hA2 : jgA T2 = jgA T1 := by rw [hT2]; rfl
    have hG2 : jgG T2 = jgG S := by rw [hT2, jsI_G, cG]
    have hX2 : jgX T2 = jgX S := by rw [hT2]; exact c2.2.2.1
    obtain ⟨T, a1, a2, aG, a3⟩ := jMb_behind hL (ω := ω) (hK.of hX2) hk hgW hgS (by rw [hI2 44 (by decide)]; exact w44)
    have eW : jcg (jWk s a (i - 1)) (jshx s a i) = jWk s a i := by
      have : i = (i - 1) + 1 := by omega
      rw [this, jWk, Nat.add_sub_cancel]
    rw [eW] at a1
    have nq : ∀ q, q ≠ 18 → jgA T (jm q) = jgA T1 (jm q) := fun q hq => by rw [a2.2.2.2 _ (fun z => jmne hq z), hA2]
    have t17 : ∀ q, q ≠ 17 → q ≠ 18 → jgA T (jm q) = jgA S (jm q) := fun q h17 h18 => by rw [nq q h18, c2.2.2.2 _ (fun z => by rcases z with z | z; exact jmne h17 z; exact jmne h18 z)]
    have fB : jfB k S T := by
      refine ⟨by rw [a2.2.2.1, hX2], by rw [a2.2.1, hT2]; exact c2.2.1, fun c _ h17 h18 => by rw [a2.2.2.2 c h18, hA2, c2.2.2.2 c (fun z => by rcases z with z | z; exact h17 z; exact h18 z)], fun q hq => ?_, fun q hq => ?_, fun c hc => by rw [a2.1, hT2, jsI_fn hc, c2.1], fun q hq => by rw [a2.1]; exact hI2 q (by omega)⟩
      · rw [nq _ (by decide), c3, if_neg (by omega)]
      · rw [a3, if_neg (by omega), hA2, c4, if_neg (by omega)]
    refine ⟨T, a1, h.b.trans fB, ?_, fun q hq => by rw [a2.1, hI2 q hq, h.I q hq], fun q h17 h18 => by rw [t17 q h17 h18, h.A q h17 h18], by rw [aG, hG2, h.G], fun p hp => ?_, fun p hp => ?_⟩
    · rw [a2.1, hT2, jsI_c, if_pos rfl]
    · rw [nq _ (by decide), c3]
      by_cases cb : jPs.ib s + i * jwd s ≤ p
      · rw [if_pos (by omega), show 10 * k + p - i * jwd s = 10 * k + (p - i * jwd s) by omega, h.ls _ (by omega)]
        unfold jLs
        rw [if_neg (by omega), if_pos (by omega), show p - jPs.ib s = (p - i * jwd s - jPs.ib s) + i * jwd s by omega, jmod_blk (by omega), show jPs.ib s + (p - i * jwd s - jPs.ib s) = p - i * jwd s by omega]
      · rw [if_neg (by omega), h.ls p (by omega)]
        unfold jLs
        by_cases cz : jPs.sz s ≤ p
        · rw [if_pos (by omega), if_pos (by omega)]
        · rw [if_neg (by omega), if_neg (by omega)]
    · rw [a3, hA2, Nat.add_sub_cancel_left, Nat.add_sub_cancel]
      have e0 : jgA T1 (jm 18) (11 * k + p) = nI (jcb s i (jFk s a (i - 1)) p) := by
        rw [c4]
        unfold jcb
        by_cases cb : jPs.ib s + i * jwd s ≤ p ∧ p < jPs.ib s + i * jwd s + jwd s
        · have hfl : jPs.fo s (p - i * jwd s) < 1024 := by
            have := jFr.lt (b := jPs.sz s) (fun q hq => hi.fu (p - i * jwd s) q hq)
            have h3 : 2 ^ jPs.sz s ≤ 2 ^ 10 := Nat.pow_le_pow_right (by decide) hsz
            omega
          have hp2 : 2 ^ (i * jwd s) ≤ 2 ^ 10 := Nat.pow_le_pow_right (by decide) (by omega)
          rw [if_pos (by omega), if_pos cb, show 11 * k + p - i * jwd s = 11 * k + (p - i * jwd s) by omega, h.fo _ (by omega), jandA, jblk hi h1 a (i - 1) (by omega) (by omega), jshlA (by omega) (Nat.lt_of_le_of_lt (Nat.mul_le_mul (Nat.le_of_lt hfl) hp2) (by decide))]
        · rw [if_neg (by omega), if_neg cb, h.fo p hp]
      rw [e0]
      have eF : jFk s a i = jfwx (jcb s i (jFk s a (i - 1))) (jWk s a (i - 1)) (jshx s a i) := by
        have : i = (i - 1) + 1 := by omega
        rw [this, jFk, Nat.add_sub_cancel]
      rw [eF]
      unfold jfwx
      by_cases cc : (jWk s a (i - 1)).2.1.testBit p = true
      · rw [if_pos ⟨by omega, by omega, cc⟩, if_pos cc, jorA]
      · rw [if_neg (fun z => cc z.2.2), if_neg cc]
  obtain ⟨T, b1, b2⟩ := e2 _ rfl
  refine ⟨T, ?_, b2⟩
  have hes := hgi.e
  have u43 : jgI T1 (jm 0) 43 = nI (jPs.ib s + i * jwd s) := by rw [c2.1]; exact h.u
  have g43 : xgi (jW L ω T1) (jad L (jm 0)) 12 43 = some (nI (jPs.ib s + i * jwd s)) := by simp (disch := first | omega | rfl | assumption | exact jokr (by decide) (by omega) | exact jokr4 (by omega) | exact jkt_r _ _ | exact jkt_l (by decide) | exact jfk_l (by decide) | exact jkt_t _ | exact jkt_r6 _ _ | exact jkt_t6 _ | (simp only [jok, jlen]; omega) | decide) only [jm_gi hL, u43]
  have p43 : ∀ v : Int32, xp (jW L ω T1) (jad L (jm 0)) 12 43 (.int v) = some (jW L ω (jsI T1 (jm 0) 43 v)) := fun v => by simp (disch := first | omega | rfl | assumption | exact jokr (by decide) (by omega) | exact jokr4 (by omega) | exact jkt_r _ _ | exact jkt_l (by decide) | exact jfk_l (by decide) | exact jkt_t _ | exact jkt_r6 _ _ | exact jkt_t6 _ | (simp only [jok, jlen]; omega) | decide) only [jm_pi hL]
  have hp2 : 2 ^ (i * jwd s) ≤ 2 ^ 10 := Nat.pow_le_pow_right (by decide) (by omega)
  have s1 : nI (jPs.it s).1 <<< ((nI i * nI (jwd s)) &&& 31) = nI ((jPs.it s).1 <<< (i * jwd s)) := by
    rw [jmul, show (31 : Int32) = nI 31 from rfl]
    exact jshlA (by omega) (Nat.lt_of_le_of_lt (Nat.mul_le_mul (Nat.le_of_lt hgi.f) hp2) (by decide))
  have s2 : nI (jPs.it s).2.1 <<< ((nI i * nI (jwd s)) &&& 31) = nI ((jPs.it s).2.1 <<< (i * jwd s)) := by
    rw [jmul, show (31 : Int32) = nI 31 from rfl]
    exact jshlA (by omega) (Nat.lt_of_le_of_lt (Nat.mul_le_mul (Nat.le_of_lt hgi.l) hp2) (by decide))
  have p0 : ∀ ω, f_Mo_part (nI ((jPs.it s).1 <<< (i * jwd s))) (nI ((jPs.it s).2.1 <<< (i * jwd s))) 0 ω = some (lN (jeln ((jPs.it s).1 <<< (i * jwd s), (jPs.it s).2.1 <<< (i * jwd s), 0))) := fun ω => jpart hgS.f hgS.l (Nat.zero_le _)
  have p1 : ∀ ω, f_Mo_part (nI ((jPs.it s).1 <<< (i * jwd s))) (nI ((jPs.it s).2.1 <<< (i * jwd s))) 1 ω = some (lN (jeln ((jPs.it s).1 <<< (i * jwd s), (jPs.it s).2.1 <<< (i * jwd s), 1))) := fun ω => jpart hgS.f hgS.l (Nat.le_refl _)
  have et : nI (jPs.ib s) + nI (jwd s) = nI (jPs.sz s) := by rw [nI_add, ew]
  have eu : nI (jPs.ib s + i * jwd s) + nI (jwd s) = nI (jPs.ib s + (i + 1) * jwd s) := by rw [nI_add]; congr 1; omega
  have ei : nI i + 1 = nI (i + 1) := by rw [jlit, nI_add]
  rw [f_Mo_often_170, if_neg (fun z => by rw [nI_leI (by omega) (by omega)] at z; omega), c1, f_Mo_often_180, et, if_pos ((nI_leI (by omega) (by omega)).mpr (Nat.le_refl _)), g43, Option.bind_some, p43, Option.bind_some, eu, jfirst hgi, Option.bind_some, jlast hgi, Option.bind_some, jnone hgi, Option.bind_some, s1, s2, ei, Nat.add_sub_cancel]
  by_cases c0 : (jPs.it s).2.2 = 0
  · rw [if_pos (show nI (jPs.it s).2.2 = (0 : Int32) by rw [c0]; rfl)]
    by_cases ca : i < a
    · have es : jshx s a i = ((jPs.it s).1 <<< (i * jwd s), (jPs.it s).2.1 <<< (i * jwd s), 0) := by
        unfold jshx
        rw [if_neg (by omega)]
      rw [es] at b1
      rw [if_pos ((nI_ltI (by omega) (by omega)).mpr ca), p0, Option.bind_some, jkm hL, b1]
      simp only [xc]
    · have es : jshx s a i = ((jPs.it s).1 <<< (i * jwd s), (jPs.it s).2.1 <<< (i * jwd s), 1) := by
        unfold jshx
        rw [if_pos (by omega)]
      rw [es] at b1
      rw [if_neg (fun z => ca ((nI_ltI (by omega) (by omega)).mp z)), p1, Option.bind_some, jkm hL, b1]
      simp only [xc]
  · have es : jshx s a i = ((jPs.it s).1 <<< (i * jwd s), (jPs.it s).2.1 <<< (i * jwd s), 1) := by
      unfold jshx
      rw [if_pos (by omega)]
    rw [es] at b1
    rw [if_neg (show ¬ nI (jPs.it s).2.2 = (0 : Int32) by rw [show (jPs.it s).2.2 = 1 by omega]; decide), p1, Option.bind_some, jkm hL, b1]
    simp only [xc]
