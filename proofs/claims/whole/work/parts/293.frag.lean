/-! FRAGMENTS of a pattern: first places, last places, whether the empty row is a word. Both sides' numbers for them. -/
abbrev jG : Type := Nat × Nat × Nat
def jGg (x : jG) : Prop := (x.1 < 1024) ∧ (x.2.1 < 1024) ∧ (x.2.2 ≤ 1)
theorem jGg.f {x : jG} (h : jGg x) : x.1 < 1024 := h.1
theorem jGg.l {x : jG} (h : jGg x) : x.2.1 < 1024 := h.2.1
theorem jGg.e {x : jG} (h : jGg x) : x.2.2 ≤ 1 := h.2.2
def jenc (x : jG) : Nat := x.1 ||| (x.2.1 <<< 10) ||| (x.2.2 <<< 20)
theorem jtb_lt {a n i : Nat} (h : a < 2 ^ n) (hi : n ≤ i) : a.testBit i = false := Nat.testBit_lt_two_pow (Nat.lt_of_lt_of_le h (Nat.pow_le_pow_right (by decide) hi))
theorem jenc_tb {x : jG} (h : jGg x) (i : Nat) : (jenc x).testBit i = if i < 10 then x.1.testBit i else if i < 20 then x.2.1.testBit (i - 10) else x.2.2.testBit (i - 20) := by
  have hf := h.f
  have hl := h.l
  unfold jenc
  rw [Nat.testBit_or, Nat.testBit_or, Nat.testBit_shiftLeft, Nat.testBit_shiftLeft]
  by_cases c1 : i < 10
  · rw [if_pos c1, decide_eq_false (show ¬ 10 ≤ i by omega), decide_eq_false (show ¬ 20 ≤ i by omega)]
    simp
  · rw [if_neg c1, jtb_lt (n := 10) hf (by omega), decide_eq_true (show 10 ≤ i by omega)]
    by_cases c2 : i < 20
    · rw [if_pos c2, decide_eq_false (show ¬ 20 ≤ i by omega)]
      simp
    · rw [if_neg c2, decide_eq_true (show 20 ≤ i by omega), jtb_lt (n := 10) (i := i - 10) hl (by omega)]
      simp
theorem je1 {e i : Nat} (h : e ≤ 1) : e.testBit i = (decide (i = 0) && decide (e = 1)) := by
  have : e = 0 ∨ e = 1 := by omega
  rcases this with rfl | rfl
  · simp
  · rw [show (1 : Nat) = 2 ^ 0 from rfl, Nat.testBit_two_pow]
    simp [eq_comm]
theorem jenc_lt {x : jG} (h : jGg x) : jenc x < 2 ^ 21 := by
  have hf := h.f
  have hl := h.l
  have he := h.e
  unfold jenc
  refine Nat.or_lt_two_pow (Nat.or_lt_two_pow (by omega) ?_) ?_
  · rw [Nat.shiftLeft_eq]; omega
  · rw [Nat.shiftLeft_eq]; omega
theorem jm1023 (i : Nat) : (1023 : Nat).testBit i = decide (i < 10) := Nat.testBit_two_pow_sub_one (n := 10) (i := i)
theorem jmE (i : Nat) : (1048576 : Nat).testBit i = decide (20 = i) := Nat.testBit_two_pow (n := 20) (m := i)
theorem jmL (i : Nat) : (1047552 : Nat).testBit i = (decide (10 ≤ i) && decide (i < 20)) := by
  rw [show (1047552 : Nat) = 1023 <<< 10 from rfl, Nat.testBit_shiftLeft, jm1023]
  by_cases c : 10 ≤ i
  · rw [decide_eq_true c]
    by_cases c2 : i < 20
    · rw [decide_eq_true c2, decide_eq_true (show i - 10 < 10 by omega)]
    · rw [decide_eq_false c2, decide_eq_false (show ¬ i - 10 < 10 by omega)]
  · rw [decide_eq_false c]; rfl
theorem jenc_F {x : jG} (h : jGg x) : jenc x &&& 1023 = x.1 := Nat.eq_of_testBit_eq fun i => by
  rw [Nat.testBit_and, jenc_tb h, jm1023]
  by_cases c1 : i < 10
  · rw [if_pos c1, decide_eq_true c1, Bool.and_true]
  · rw [decide_eq_false c1, Bool.and_false, jtb_lt (n := 10) h.f (by omega)]
theorem jenc_L {x : jG} (h : jGg x) : jenc x &&& 1047552 = x.2.1 <<< 10 := Nat.eq_of_testBit_eq fun i => by
  rw [Nat.testBit_and, jenc_tb h, jmL, Nat.testBit_shiftLeft]
  by_cases c1 : i < 10
  · rw [decide_eq_false (show ¬ 10 ≤ i by omega)]; simp
  · rw [if_neg c1, decide_eq_true (show 10 ≤ i by omega)]
    by_cases c2 : i < 20
    · rw [if_pos c2, decide_eq_true c2]; simp
    · rw [decide_eq_false c2, jtb_lt (n := 10) (i := i - 10) h.l (by omega)]; simp
theorem jenc_E {x : jG} (h : jGg x) : jenc x &&& 1048576 = x.2.2 <<< 20 := Nat.eq_of_testBit_eq fun i => by
  rw [Nat.testBit_and, jenc_tb h, jmE, Nat.testBit_shiftLeft]
  by_cases c1 : i < 20
  · rw [decide_eq_false (show ¬ 20 = i by omega), decide_eq_false (show ¬ 20 ≤ i by omega)]; simp
  · rw [if_neg (by omega), if_neg c1, decide_eq_true (show 20 ≤ i by omega), je1 h.e]
    by_cases c2 : 20 = i
    · rw [decide_eq_true c2]; simp
    · rw [decide_eq_false c2, decide_eq_false (show ¬ i - 20 = 0 by omega)]; simp
theorem jenc_E0 {x : jG} (h : jGg x) : jenc x &&& 1048576 = 0 ↔ x.2.2 = 0 := by
  have he := h.e
  rw [jenc_E h, Nat.shiftLeft_eq]
  omega
theorem jenc_or (x y : jG) : jenc x ||| jenc y = jenc (x.1 ||| y.1, x.2.1 ||| y.2.1, x.2.2 ||| y.2.2) := Nat.eq_of_testBit_eq fun i => by
  unfold jenc
  simp only [Nat.testBit_or, Nat.testBit_shiftLeft]
  cases x.1.testBit i <;> cases y.1.testBit i <;> cases decide (10 ≤ i) <;> cases decide (20 ≤ i) <;> cases x.2.1.testBit (i - 10) <;> cases y.2.1.testBit (i - 10) <;> cases x.2.2.testBit (i - 20) <;> cases y.2.2.testBit (i - 20) <;> rfl
theorem jenc_at {x : jG} (h : jGg x) {p : Nat} (hp : p < 10) : jbit (jenc x) (10 + p) = 1 ↔ x.2.1.testBit p = true := by
  rw [jbit_tb, jenc_tb h, if_neg (by omega), if_pos (by omega), show 10 + p - 10 = p by omega]
/-- one behind the other; their union; with the empty row -/
def jcg (x y : jG) : jG := (x.1 ||| (if x.2.2 = 1 then y.1 else 0), y.2.1 ||| (if y.2.2 = 1 then x.2.1 else 0), if x.2.2 = 1 ∧ y.2.2 = 1 then 1 else 0)
def jug (x y : jG) : jG := (x.1 ||| y.1, x.2.1 ||| y.2.1, x.2.2 ||| y.2.2)
theorem jcg_good {x y : jG} (h : jGg x) (h' : jGg y) : jGg (jcg x y) := by
  refine ⟨?_, ?_, ?_⟩
  · show x.1 ||| (if x.2.2 = 1 then y.1 else 0) < 2 ^ 10
    refine Nat.or_lt_two_pow h.f ?_
    split
    · exact h'.f
    · decide
  · show y.2.1 ||| (if y.2.2 = 1 then x.2.1 else 0) < 2 ^ 10
    refine Nat.or_lt_two_pow h'.l ?_
    split
    · exact h.l
    · decide
  · show (if x.2.2 = 1 ∧ y.2.2 = 1 then 1 else 0) ≤ 1
    split <;> omega
theorem jor1 {a b : Nat} (ha : a ≤ 1) (hb : b ≤ 1) : a ||| b = (if a = 1 ∨ b = 1 then 1 else 0) := by
  have h1 : a = 0 ∨ a = 1 := by omega
  have h2 : b = 0 ∨ b = 1 := by omega
  rcases h1 with rfl | rfl <;> rcases h2 with rfl | rfl <;> rfl
theorem jug_good {x y : jG} (h : jGg x) (h' : jGg y) : jGg (jug x y) := by
  refine ⟨Nat.or_lt_two_pow (n := 10) h.f h'.f, Nat.or_lt_two_pow (n := 10) h.l h'.l, ?_⟩
  show x.2.2 ||| y.2.2 ≤ 1
  rw [jor1 h.e h'.e]
  split <;> omega
theorem jcg_none (y : jG) (hy : y.2.2 ≤ 1) : jcg (0, 0, 1) y = y := by
  unfold jcg
  have h1 : (0 ||| if (1 : Nat) = 1 then y.1 else 0) = y.1 := by rw [if_pos rfl, Nat.zero_or]
  have h2 : (y.2.1 ||| if y.2.2 = 1 then 0 else 0) = y.2.1 := by rw [ite_self, Nat.or_zero]
  have h3 : (if (1 : Nat) = 1 ∧ y.2.2 = 1 then 1 else 0) = y.2.2 := by
    by_cases c : y.2.2 = 1
    · rw [if_pos ⟨rfl, c⟩, c]
    · rw [if_neg (fun z => c z.2)]; omega
  show ((0 ||| if (1 : Nat) = 1 then y.1 else 0), (y.2.1 ||| if y.2.2 = 1 then 0 else 0), (if (1 : Nat) = 1 ∧ y.2.2 = 1 then 1 else 0)) = y
  rw [h1, h2, h3]
/-- the class's number of a chain -/
theorem jenc_chain {x y : jG} (h : jGg x) (h' : jGg y) : (((jenc x &&& 1023) ||| (if jenc x &&& 1048576 = 0 then 0 else jenc y &&& 1023)) ||| ((jenc y &&& 1047552) ||| (if jenc y &&& 1048576 = 0 then 0 else jenc x &&& 1047552))) ||| ((jenc x &&& jenc y) &&& 1048576) = jenc (jcg x y) := by
  have he := h.e
  have he' := h'.e
  have e3 : (jenc x &&& jenc y) &&& 1048576 = (if x.2.2 = 1 ∧ y.2.2 = 1 then 1 else 0) <<< 20 := by
    have : (jenc x &&& jenc y) &&& 1048576 = (jenc x &&& 1048576) &&& (jenc y &&& 1048576) := Nat.eq_of_testBit_eq fun i => by
      simp only [Nat.testBit_and]
      cases (jenc x).testBit i <;> cases (jenc y).testBit i <;> cases (1048576 : Nat).testBit i <;> rfl
    rw [this, jenc_E h, jenc_E h']
    have h1 : x.2.2 = 0 ∨ x.2.2 = 1 := by omega
    have h2 : y.2.2 = 0 ∨ y.2.2 = 1 := by omega
    rcases h1 with h1 | h1 <;> rcases h2 with h2 | h2 <;> rw [h1, h2] <;> rfl
  have e1 : (if jenc x &&& 1048576 = 0 then 0 else jenc y &&& 1023) = (if x.2.2 = 1 then y.1 else 0) := by
    by_cases c : x.2.2 = 0
    · rw [if_pos ((jenc_E0 h).mpr c), if_neg (by omega)]
    · rw [if_neg (fun z => c ((jenc_E0 h).mp z)), if_pos (by omega), jenc_F h']
  have e2 : (if jenc y &&& 1048576 = 0 then 0 else jenc x &&& 1047552) = (if y.2.2 = 1 then x.2.1 else 0) <<< 10 := by
    by_cases c : y.2.2 = 0
    · rw [if_pos ((jenc_E0 h').mpr c), if_neg (by omega)]; rfl
    · rw [if_neg (fun z => c ((jenc_E0 h').mp z)), if_pos (by omega), jenc_L h]
  rw [e1, e2, e3, jenc_F h, jenc_L h', ← Nat.shiftLeft_or_distrib]
  rfl
theorem jorA (a b : Nat) : nI a ||| nI b = nI (a ||| b) := by
  apply Int32.toBitVec_inj.mp
  rw [Int32.toBitVec_or]
  apply BitVec.eq_of_getLsbD_eq
  intro i hi
  show (BitVec.ofNat 32 a ||| BitVec.ofNat 32 b).getLsbD i = (BitVec.ofNat 32 (a ||| b)).getLsbD i
  rw [BitVec.getLsbD_or, BitVec.getLsbD_ofNat, BitVec.getLsbD_ofNat, BitVec.getLsbD_ofNat, Nat.testBit_or]
  cases decide (i < 32) <;> rfl
theorem jandA (a b : Nat) : nI a &&& nI b = nI (a &&& b) := by
  apply Int32.toBitVec_inj.mp
  rw [Int32.toBitVec_and]
  apply BitVec.eq_of_getLsbD_eq
  intro i hi
  show (BitVec.ofNat 32 a &&& BitVec.ofNat 32 b).getLsbD i = (BitVec.ofNat 32 (a &&& b)).getLsbD i
  rw [BitVec.getLsbD_and, BitVec.getLsbD_ofNat, BitVec.getLsbD_ofNat, BitVec.getLsbD_ofNat, Nat.testBit_and]
  cases decide (i < 32) <;> simp
/-! THE CLASS'S POSITIONS -/
theorem jlt20 {v : Nat} (h : v < 2 ^ 21) : v < 2 ^ 31 := by omega
theorem jP_chain {L : jL} (hL : jgood L) {ω : xS} {S : jSt} {sw ps wy : Nat} (hK : jLK S sw ps wy) {j z : Nat} (hj : j < 32) (hz : jgI S (jl j 1) 4 = nI z) (hz10 : z ≤ 10) {x y : jG} (hx : jGg x) (hy : jGg y) : ∃ T, f_Positions_chain (jad L (jl j 1)) (nI (jenc x)) (nI (jenc y)) (jW L ω S) = some (nI (jenc (jcg x y)), jW L ω T) ∧ jfr (fun c => c = jl j 3) S T ∧ ∀ p, jgA T (jl j 3) p = if p < z ∧ x.2.1.testBit p = true then jgA S (jl j 3) p ||| nI y.1 else jgA S (jl j 3) p := by
  have hxl := jenc_lt hx
  have hyl := jenc_lt hy
  have l3 : jenc x &&& 1048576 ≤ 1048576 := Nat.and_le_right
  have l4 : jenc y &&& 1048576 ≤ 1048576 := Nat.and_le_right
  obtain ⟨n, T, e1, a1, a2⟩ := jlpI (fun n i (T : jSt) => f_Positions_chain_2 n (jad L (jl j 1)) (nI (jenc x)) (nI (jenc y)) (nI i) (jW L ω T)) (fun i T => jfr (fun c => c = jl j 3) S T ∧ ∀ p, jgA T (jl j 3) p = if p < i ∧ x.2.1.testBit p = true then jgA S (jl j 3) p ||| nI y.1 else jgA S (jl j 3) p) (lo := 0) (hi := z) (Nat.zero_le _) (by omega) (by
    intro n i T _ hi ⟨b1, b2⟩
    have hK := hK.of b1.2.2.1
    have hz' : jgI T (jl j 1) 4 = nI z := by rw [b1.1]; exact hz
    have hbt := jbt0 (a := jenc x) (p := 10 + i) (by omega) (by omega)
    have hat := jenc_at hx (p := i) (by omega)
    have hb2 := jbit_lt (jenc x) (10 + i)
    by_cases c : x.2.1.testBit i = true
    · refine ⟨jsA T (jl j 3) i (jgA T (jl j 3) i ||| nI y.1), ?_, b1.trans (jfr.sA _ _ _ rfl), fun p => ?_⟩
      · show f_Positions_chain_2 (n + 1) _ _ _ _ _ = f_Positions_chain_2 n _ _ _ _ _
        rw [f_Positions_chain_2]
        simp (disch := first | omega | rfl | assumption | exact jokr (by decide) (by omega) | exact jokr4 (by omega) | exact jkt_r _ _ | exact jkt_l (by decide) | exact jfk_l (by decide) | exact jkt_t _ | exact jkt_r6 _ _ | exact jkt_t6 _ | (simp only [jok, jlen]; omega) | decide) only [jm_k hL, jm_gi hL, jm_gr hL, jm_gl hL, jm_pi hL, jm_pl hL, jn_ai hL, jn_ab hL, jn_az hL, jn_al hL, jn_ar hL, jn_an hL, jn_si hL, jn_sb hL, jn_sz hL, jn_sl hL, Option.bind_some, xc, xl, jsA_X, jsI_X, jsG_X, hK _ _, jlk, jmx, jlit, nI_add, nI_leI, if_neg, hz', jandA (jenc y), jenc_F hy]
        rw [if_neg (fun z => by have := hbt.mp z; have := hat.mpr c; omega)]
      · rw [jsA_c]
        by_cases e : p = i
        · rw [if_pos e, e, if_pos ⟨by omega, c⟩, b2 i, if_neg (by omega)]
        · rw [if_neg e, b2 p]
          by_cases c2 : p < i ∧ x.2.1.testBit p = true
          · rw [if_pos c2, if_pos ⟨by omega, c2.2⟩]
          · rw [if_neg c2, if_neg (fun z => c2 ⟨by omega, z.2⟩)]
    · refine ⟨T, ?_, b1, fun p => ?_⟩
      · show f_Positions_chain_2 (n + 1) _ _ _ _ _ = f_Positions_chain_2 n _ _ _ _ _
        rw [f_Positions_chain_2]
        simp (disch := first | omega | rfl | assumption | exact jokr (by decide) (by omega) | exact jokr4 (by omega) | exact jkt_r _ _ | exact jkt_l (by decide) | exact jfk_l (by decide) | exact jkt_t _ | exact jkt_r6 _ _ | exact jkt_t6 _ | (simp only [jok, jlen]; omega) | decide) only [jm_k hL, jm_gi hL, jm_gr hL, jm_gl hL, jm_pi hL, jm_pl hL, jn_ai hL, jn_ab hL, jn_az hL, jn_al hL, jn_ar hL, jn_an hL, jn_si hL, jn_sb hL, jn_sz hL, jn_sl hL, Option.bind_some, xc, xl, jsA_X, jsI_X, jsG_X, hK _ _, jlk, jmx, jlit, nI_add, nI_leI, if_neg, hz']
        have hb0 : jbit (jenc x) (10 + i) = 0 := by
          have : ¬ jbit (jenc x) (10 + i) = 1 := fun z => c (hat.mp z)
          omega
        rw [if_pos (hbt.mpr hb0)]
      · rw [b2 p]
        by_cases c2 : p < i ∧ x.2.1.testBit p = true
        · rw [if_pos c2, if_pos ⟨by omega, c2.2⟩]
        · rw [if_neg c2, if_neg (fun z => c2 ⟨by
            rcases Nat.lt_or_ge p i with q | q
            · exact q
            · exact absurd (show x.2.1.testBit i = true by rw [show i = p by omega]; exact z.2) c, z.2⟩)]) S ⟨jfr.refl _ _, fun p => by rw [if_neg (by omega)]⟩
  refine ⟨T, ?_, a1, a2⟩
  unfold f_Positions_chain
  refine e1.trans ?_
  show f_Positions_chain_2 (n + 1) _ _ _ _ _ = _
  rw [f_Positions_chain_2]
  have hK := hK.of a1.2.2.1
  have hz' : jgI T (jl j 1) 4 = nI z := by rw [a1.1]; exact hz
  rw [← jenc_chain hx hy]
  simp (disch := first | omega | rfl | assumption | exact jokr (by decide) (by omega) | exact jokr4 (by omega) | exact jkt_r _ _ | exact jkt_l (by decide) | exact jfk_l (by decide) | exact jkt_t _ | exact jkt_r6 _ _ | exact jkt_t6 _ | (simp only [jok, jlen]; omega) | decide) only [jm_k hL, jm_gi hL, jm_gr hL, jm_gl hL, jm_pi hL, jm_pl hL, jn_ai hL, jn_ab hL, jn_az hL, jn_al hL, jn_ar hL, jn_an hL, jn_si hL, jn_sb hL, jn_sz hL, jn_sl hL, Option.bind_some, xc, xl, jsA_X, jsI_X, jsG_X, hK _ _, jlk, jmx, jlit, nI_leI, if_pos, hz', jandA, nI_eq]
  unfold f_Positions_chain_62
  by_cases c1 : jenc x &&& 1048576 = 0
  · rw [if_pos c1, if_pos c1]
    by_cases c2 : jenc y &&& 1048576 = 0
    · simp (disch := first | omega | rfl | assumption | exact jokr (by decide) (by omega) | exact jokr4 (by omega) | exact jkt_r _ _ | exact jkt_l (by decide) | exact jfk_l (by decide) | exact jkt_t _ | exact jkt_r6 _ _ | exact jkt_t6 _ | (simp only [jok, jlen]; omega) | decide) only [jlit, jandA, jorA, nI_eq, if_pos]
    · simp (disch := first | omega | rfl | assumption | exact jokr (by decide) (by omega) | exact jokr4 (by omega) | exact jkt_r _ _ | exact jkt_l (by decide) | exact jfk_l (by decide) | exact jkt_t _ | exact jkt_r6 _ _ | exact jkt_t6 _ | (simp only [jok, jlen]; omega) | decide) only [jlit, jandA, jorA, nI_eq, if_neg]
  · rw [if_neg c1, if_neg c1]
    by_cases c2 : jenc y &&& 1048576 = 0
    · simp (disch := first | omega | rfl | assumption | exact jokr (by decide) (by omega) | exact jokr4 (by omega) | exact jkt_r _ _ | exact jkt_l (by decide) | exact jfk_l (by decide) | exact jkt_t _ | exact jkt_r6 _ _ | exact jkt_t6 _ | (simp only [jok, jlen]; omega) | decide) only [jlit, jandA, jorA, nI_eq, if_pos]
    · simp (disch := first | omega | rfl | assumption | exact jokr (by decide) (by omega) | exact jokr4 (by omega) | exact jkt_r _ _ | exact jkt_l (by decide) | exact jfk_l (by decide) | exact jkt_t _ | exact jkt_r6 _ _ | exact jkt_t6 _ | (simp only [jok, jlen]; omega) | decide) only [jlit, jandA, jorA, nI_eq, if_neg]
