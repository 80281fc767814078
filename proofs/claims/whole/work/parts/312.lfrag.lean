/-! THE REFERENCE'S FRAGMENTS: longs -/
theorem jlorA (a b : Nat) : lN a ||| lN b = lN (a ||| b) := by
  apply Int64.toBitVec_inj.mp
  rw [Int64.toBitVec_or]
  apply BitVec.eq_of_getLsbD_eq
  intro i hi
  show (BitVec.ofNat 64 a ||| BitVec.ofNat 64 b).getLsbD i = (BitVec.ofNat 64 (a ||| b)).getLsbD i
  rw [BitVec.getLsbD_or, BitVec.getLsbD_ofNat, BitVec.getLsbD_ofNat, BitVec.getLsbD_ofNat, Nat.testBit_or]
  cases decide (i < 64) <;> rfl
theorem jlandA (a b : Nat) : lN a &&& lN b = lN (a &&& b) := by
  apply Int64.toBitVec_inj.mp
  rw [Int64.toBitVec_and]
  apply BitVec.eq_of_getLsbD_eq
  intro i hi
  show (BitVec.ofNat 64 a &&& BitVec.ofNat 64 b).getLsbD i = (BitVec.ofNat 64 (a &&& b)).getLsbD i
  rw [BitVec.getLsbD_and, BitVec.getLsbD_ofNat, BitVec.getLsbD_ofNat, BitVec.getLsbD_ofNat, Nat.testBit_and]
  cases decide (i < 64) <;> simp
def jeln (x : jG) : Nat := x.1 ||| (x.2.1 <<< 16) ||| (x.2.2 <<< 32)
theorem jeln_tb {x : jG} (h : jGg x) (i : Nat) : (jeln x).testBit i = if i < 16 then x.1.testBit i else if i < 32 then x.2.1.testBit (i - 16) else x.2.2.testBit (i - 32) := by
  have hf := h.f
  have hl := h.l
  unfold jeln
  rw [Nat.testBit_or, Nat.testBit_or, Nat.testBit_shiftLeft, Nat.testBit_shiftLeft]
  by_cases c1 : i < 16
  · rw [if_pos c1, decide_eq_false (show ¬ 16 ≤ i by omega), decide_eq_false (show ¬ 32 ≤ i by omega)]
    simp
  · rw [if_neg c1, jtb_lt (n := 10) (i := i) hf (by omega), decide_eq_true (show 16 ≤ i by omega)]
    by_cases c2 : i < 32
    · rw [if_pos c2, decide_eq_false (show ¬ 32 ≤ i by omega)]
      simp
    · rw [if_neg c2, decide_eq_true (show 32 ≤ i by omega), jtb_lt (n := 10) (i := i - 16) hl (by omega)]
      simp
theorem jeln_lt {x : jG} (h : jGg x) : jeln x < 2 ^ 33 := by
  have hf := h.f
  have hl := h.l
  have he := h.e
  unfold jeln
  refine Nat.or_lt_two_pow (Nat.or_lt_two_pow (by omega) ?_) ?_
  · rw [Nat.shiftLeft_eq]; omega
  · rw [Nat.shiftLeft_eq]; omega
theorem j65535 (i : Nat) : (65535 : Nat).testBit i = decide (i < 16) := Nat.testBit_two_pow_sub_one (n := 16) (i := i)
theorem jfirst {x : jG} (h : jGg x) {ω : xS} : f_Mo_firstOf (lN (jeln x)) ω = some (nI x.1) := by
  have hf := h.f
  unfold f_Mo_firstOf
  have e : jeln x &&& 65535 = x.1 := Nat.eq_of_testBit_eq fun i => by
    rw [Nat.testBit_and, jeln_tb h, j65535]
    by_cases c1 : i < 16
    · rw [if_pos c1, decide_eq_true c1, Bool.and_true]
    · rw [decide_eq_false c1, Bool.and_false, jtb_lt (n := 10) (i := i) hf (by omega)]
  rw [show (65535 : Int64) = lN 65535 from rfl, jlandA, e, jl2i (by omega)]
theorem jlast {x : jG} (h : jGg x) {ω : xS} : f_Mo_lastOf (lN (jeln x)) ω = some (nI x.2.1) := by
  have hl := h.l
  have hlt := jeln_lt h
  unfold f_Mo_lastOf
  have e : (jeln x / 2 ^ 16) &&& 65535 = x.2.1 := Nat.eq_of_testBit_eq fun i => by
    rw [Nat.testBit_and, ← Nat.shiftRight_eq_div_pow, Nat.testBit_shiftRight, jeln_tb h, j65535, if_neg (by omega)]
    by_cases c1 : i < 16
    · rw [if_pos (by omega), decide_eq_true c1, Bool.and_true, show 16 + i - 16 = i by omega]
    · rw [decide_eq_false c1, Bool.and_false, jtb_lt (n := 10) (i := i) hl (by omega)]
  rw [show (65535 : Int64) = lN 65535 from rfl, show (16 : Int32) = nI 16 from rfl, jlshr (by omega) (by omega), jlandA, e, jl2i (by omega)]
theorem jnone {x : jG} (h : jGg x) {ω : xS} : f_Mo_noneOf (lN (jeln x)) ω = some (nI x.2.2) := by
  have he := h.e
  have hlt := jeln_lt h
  unfold f_Mo_noneOf
  have e : jeln x / 2 ^ 32 = x.2.2 := Nat.eq_of_testBit_eq fun i => by
    rw [← Nat.shiftRight_eq_div_pow, Nat.testBit_shiftRight, jeln_tb h, if_neg (by omega), if_neg (by omega), show 32 + i - 32 = i by omega]
  rw [show (32 : Int32) = nI 32 from rfl, jlshr (by omega) (by omega), e, show (1 : Int64) = lN 1 from rfl]
  have hc : lg_cmp (lN x.2.2) (lN 1) = 0 ↔ x.2.2 = 1 := (jceq _ _).trans (jlN_eq (by omega) (by omega))
  by_cases c : x.2.2 = 1
  · rw [if_pos (hc.mpr c), c]; rfl
  · rw [if_neg (fun z => c (hc.mp z)), show x.2.2 = 0 by omega]; rfl
theorem jpart {f l e : Nat} (hf : f < 1024) (hl : l < 1024) (he : e ≤ 1) {ω : xS} : f_Mo_part (nI f) (nI l) (nI e) ω = some (lN (jeln (f, l, e))) := by
  unfold f_Mo_part
  have h2 : xlshl (lN l) (nI 16) = lN (l <<< 16) := by
    rw [jlshl (by omega) (by omega), Nat.shiftLeft_eq]
  have e2 : ∀ c, f ||| l <<< 16 ||| c = f ||| (l <<< 16) ||| c := fun _ => rfl
  have hb : (1 <<< 32 : Nat) = 4294967296 := by decide
  have h0 : (0 <<< 32 : Nat) = 0 := by decide
  by_cases c : e = 0
  · rw [if_pos (show nI e = (0 : Int32) by rw [c]; rfl), ji2l (by omega), ji2l (by omega), show (16 : Int32) = nI 16 from rfl, h2, jlitl 0, jlorA, jlorA]
    unfold jeln
    rw [c, h0]
  · have c1 : e = 1 := by omega
    rw [if_neg (show ¬ nI e = (0 : Int32) by rw [c1]; decide), ji2l (by omega), ji2l (by omega), show (16 : Int32) = nI 16 from rfl, h2, jlitl 4294967296, jlorA, jlorA]
    unfold jeln
    rw [c1, hb]
/-- follow |= -/
theorem jMb_join {L : jL} (hL : jgood L) {ω : xS} {S : jSt} {sw ps wy : Nat} (hK : jLK S sw ps wy) {k x y : Nat} (hk : k < 16) (hx : x < 1024) (hy : y < 1024) (h44 : jgI S (jm 0) 44 = nI k) : ∃ T, f_Mo_join (jad L (jm 0)) (nI x) (nI y) (jW L ω S) = some (jW L ω T) ∧ jfr (fun c => c = jm 18) S T ∧ jgG T = jgG S ∧ ∀ i, jgA T (jm 18) i = if 11 * k ≤ i ∧ i < 11 * k + 10 ∧ x.testBit (i - 11 * k) = true then jgA S (jm 18) i ||| nI y else jgA S (jm 18) i := by
  obtain ⟨n, T, e1, a1, aG, a2⟩ := jlpI (fun n p (T : jSt) => f_Mo_join_2 n (jad L (jm 0)) (nI x) (nI y) (nI p) (jW L ω T)) (fun p T => jfr (fun c => c = jm 18) S T ∧ jgG T = jgG S ∧ ∀ i, jgA T (jm 18) i = if 11 * k ≤ i ∧ i < 11 * k + p ∧ x.testBit (i - 11 * k) = true then jgA S (jm 18) i ||| nI y else jgA S (jm 18) i) (lo := 0) (hi := 10) (Nat.zero_le _) (by omega) (by
    intro n p T _ hp ⟨b1, bG, b2⟩
    have hK := hK.of b1.2.2.1
    have h44' : jgI T (jm 0) 44 = nI k := by rw [b1.1]; exact h44
    have hbt := jbt1 (a := x) (p := p) (by omega) (by omega)
    have hjt := jbit_tb x p
    by_cases c : x.testBit p = true
    · refine ⟨jsA T (jm 18) (11 * k + p) (jgA T (jm 18) (11 * k + p) ||| nI y), ?_, b1.trans (jfr.sA _ _ _ rfl), bG, fun i => ?_⟩
      · show f_Mo_join_2 (n + 1) _ _ _ _ _ = f_Mo_join_2 n _ _ _ _ _
        rw [f_Mo_join_2]
        simp (disch := first | omega | rfl | assumption | exact jokr (by decide) (by omega) | exact jokr4 (by omega) | exact jkt_r _ _ | exact jkt_l (by decide) | exact jfk_l (by decide) | exact jkt_t _ | exact jkt_r6 _ _ | exact jkt_t6 _ | (simp only [jok, jlen]; omega) | decide) only [jm_k hL, jm_gi hL, jm_gr hL, jm_gl hL, jm_pi hL, jm_pl hL, jn_ai hL, jn_ab hL, jn_az hL, jn_al hL, jn_ar hL, jn_an hL, jn_si hL, jn_sb hL, jn_sz hL, jn_sl hL, Option.bind_some, xc, xl, jsA_X, jsI_X, jsG_X, hK _ _, jlk, jmx, jlit, jmul, nI_add, nI_leI, if_neg, h44']
        rw [if_pos (hbt.mpr (hjt.mpr c))]
      · rw [jsA_c]
        by_cases e : i = 11 * k + p
        · rw [if_pos e, e, if_pos ⟨by omega, by omega, by rw [show 11 * k + p - 11 * k = p by omega]; exact c⟩, b2, if_neg (by omega)]
        · rw [if_neg e, b2 i]
          by_cases c2 : 11 * k ≤ i ∧ i < 11 * k + p ∧ x.testBit (i - 11 * k) = true
          · rw [if_pos c2, if_pos ⟨c2.1, by omega, c2.2.2⟩]
          · rw [if_neg c2, if_neg (fun z => c2 ⟨z.1, by omega, z.2.2⟩)]
    · refine ⟨T, ?_, b1, bG, fun i => ?_⟩
      · show f_Mo_join_2 (n + 1) _ _ _ _ _ = f_Mo_join_2 n _ _ _ _ _
        rw [f_Mo_join_2]
        simp (disch := first | omega | rfl | assumption | exact jokr (by decide) (by omega) | exact jokr4 (by omega) | exact jkt_r _ _ | exact jkt_l (by decide) | exact jfk_l (by decide) | exact jkt_t _ | exact jkt_r6 _ _ | exact jkt_t6 _ | (simp only [jok, jlen]; omega) | decide) only [jlit, nI_add, nI_leI, if_neg]
        rw [if_neg (fun z => c (hjt.mp (hbt.mp z)))]
      · rw [b2 i]
        by_cases c2 : 11 * k ≤ i ∧ i < 11 * k + p ∧ x.testBit (i - 11 * k) = true
        · rw [if_pos c2, if_pos ⟨c2.1, by omega, c2.2.2⟩]
        · rw [if_neg c2, if_neg (fun z => c2 ⟨z.1, by
            rcases Nat.lt_or_ge i (11 * k + p) with q | q
            · exact q
            · exact absurd (show x.testBit p = true by rw [show p = i - 11 * k by omega]; exact z.2.2) c, z.2.2⟩)]) S ⟨jfr.refl _ _, rfl, fun i => by rw [if_neg (by omega)]⟩
  refine ⟨T, ?_, a1, aG, a2⟩
  unfold f_Mo_join
  refine e1.trans ?_
  show f_Mo_join_2 (n + 1) _ _ _ _ _ = _
  rw [f_Mo_join_2]
  simp (disch := first | omega | rfl | assumption | exact jokr (by decide) (by omega) | exact jokr4 (by omega) | exact jkt_r _ _ | exact jkt_l (by decide) | exact jfk_l (by decide) | exact jkt_t _ | exact jkt_r6 _ _ | exact jkt_t6 _ | (simp only [jok, jlen]; omega) | decide) only [jlit, nI_leI, if_pos]
theorem jMb_behind {L : jL} (hL : jgood L) {ω : xS} {S : jSt} {sw ps wy : Nat} (hK : jLK S sw ps wy) {k : Nat} {x y : jG} (hk : k < 16) (hx : jGg x) (hy : jGg y) (h44 : jgI S (jm 0) 44 = nI k) : ∃ T, f_Mo_behind (jad L (jm 0)) (lN (jeln x)) (lN (jeln y)) (jW L ω S) = some (lN (jeln (jcg x y)), jW L ω T) ∧ jfr (fun c => c = jm 18) S T ∧ jgG T = jgG S ∧ ∀ i, jgA T (jm 18) i = if 11 * k ≤ i ∧ i < 11 * k + 10 ∧ x.2.1.testBit (i - 11 * k) = true then jgA S (jm 18) i ||| nI y.1 else jgA S (jm 18) i := by
  obtain ⟨T, a1, a2, aG, a3⟩ := jMb_join hL (ω := ω) hK hk hx.l hy.f h44
  refine ⟨T, ?_, a2, aG, a3⟩
  have hg := jcg_good hx hy
  have hex := hx.e
  have hey := hy.e
  have p0 : ∀ (f l : Nat), f < 1024 → l < 1024 → f_Mo_part (nI f) (nI l) 0 (jW L ω T) = some (lN (jeln (f, l, 0))) := fun f l h1 h2 => jpart h1 h2 (Nat.zero_le _)
  have p1 : ∀ (f l : Nat), f < 1024 → l < 1024 → f_Mo_part (nI f) (nI l) 1 (jW L ω T) = some (lN (jeln (f, l, 1))) := fun f l h1 h2 => jpart h1 h2 (Nat.le_refl _)
  have o1 : x.1 ||| y.1 < 1024 := Nat.or_lt_two_pow (n := 10) hx.f hy.f
  have o2 : y.2.1 ||| x.2.1 < 1024 := Nat.or_lt_two_pow (n := 10) hy.l hx.l
  have ex : x.2.2 = 0 ∨ x.2.2 = 1 := by omega
  have ey : y.2.2 = 0 ∨ y.2.2 = 1 := by omega
  have z0 : ∀ a : Nat, nI a ||| (0 : Int32) = nI a := fun a => by
    rw [show (0 : Int32) = nI 0 from rfl, jorA, Nat.or_zero]
  unfold f_Mo_behind f_Mo_behind_51 jcg
  rcases ex with ex | ex
  · have cx : (nI x.2.2 = (0 : Int32)) = True := eq_true (by rw [ex]; rfl)
    rcases ey with ey | ey
    · have cy : (nI y.2.2 = (0 : Int32)) = True := eq_true (by rw [ey]; rfl)
      simp only [jlast hx, jlast hy, jfirst hx, jfirst hy, jnone hx, jnone hy, Option.bind_some, jkm hL, a1, cx, cy, if_true, z0, jorA, p0 _ _ hx.f hy.l]
      rw [if_neg (show ¬ x.2.2 = 1 by omega), if_neg (show ¬ y.2.2 = 1 by omega), if_neg (show ¬ (x.2.2 = 1 ∧ y.2.2 = 1) by omega), Nat.or_zero, Nat.or_zero]
    · have cy : (nI y.2.2 = (0 : Int32)) = False := eq_false (by rw [ey]; decide)
      simp only [jlast hx, jlast hy, jfirst hx, jfirst hy, jnone hx, jnone hy, Option.bind_some, jkm hL, a1, cx, cy, if_true, if_false, z0, jorA, p0 _ _ hx.f o2]
      rw [if_neg (show ¬ x.2.2 = 1 by omega), if_pos ey, if_neg (show ¬ (x.2.2 = 1 ∧ y.2.2 = 1) by omega), Nat.or_zero]
  · have cx : (nI x.2.2 = (0 : Int32)) = False := eq_false (by rw [ex]; decide)
    rcases ey with ey | ey
    · have cy : (nI y.2.2 = (0 : Int32)) = True := eq_true (by rw [ey]; rfl)
      simp only [jlast hx, jlast hy, jfirst hx, jfirst hy, jnone hx, jnone hy, Option.bind_some, jkm hL, a1, cx, cy, if_true, if_false, z0, jorA, p0 _ _ o1 hy.l]
      rw [if_pos ex, if_neg (show ¬ y.2.2 = 1 by omega), if_neg (show ¬ (x.2.2 = 1 ∧ y.2.2 = 1) by omega), Nat.or_zero]
    · have cy : (nI y.2.2 = (0 : Int32)) = False := eq_false (by rw [ey]; decide)
      simp only [jlast hx, jlast hy, jfirst hx, jfirst hy, jnone hx, jnone hy, Option.bind_some, jkm hL, a1, cx, cy, if_false, jorA, p1 _ _ o1 o2]
      rw [if_pos ex, if_pos ey, if_pos (show x.2.2 = 1 ∧ y.2.2 = 1 from ⟨ex, ey⟩)]
