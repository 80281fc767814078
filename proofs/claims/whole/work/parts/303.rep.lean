/-! THE CLASS REPEATS an item -/
theorem jlpN {σ R : Type} (N : Nat) (F : Nat → Nat → σ → R) (Inv : Nat → σ → Prop) {lo hi : Nat} (hlo : lo ≤ hi) (hb : hi - lo + 1 ≤ N) (h : ∀ n i s, lo ≤ i → i < hi → Inv i s → ∃ s', F (n + 1) i s = F n (i + 1) s' ∧ Inv (i + 1) s') (s : σ) (h0 : Inv lo s) : ∃ n s', F N lo s = F (n + 1) hi s' ∧ Inv hi s' := by
  have key : ∀ m n i s, lo ≤ i → i + m = hi → Inv i s → ∃ s', F (n + m) i s = F n hi s' ∧ Inv hi s' := by
    intro m
    induction m with
    | zero =>
      intro n i s h1 h2 h3
      rw [Nat.add_zero] at h2
      subst h2
      exact ⟨s, rfl, h3⟩
    | succ m ih =>
      intro n i s h1 h2 h3
      obtain ⟨s', e, h4⟩ := h (n + m) i s h1 (by omega) h3
      obtain ⟨s2, e2, h5⟩ := ih n (i + 1) s' (by omega) (by omega) h4
      exact ⟨s2, by rw [show n + (m + 1) = n + m + 1 by omega, e, e2], h5⟩
  obtain ⟨s', e, h1⟩ := key (hi - lo) (N - (hi - lo + 1) + 1) lo s (Nat.le_refl _) (by omega) h0
  exact ⟨N - (hi - lo + 1), s', by rw [← e]; congr 1; omega, h1⟩
theorem jnotE (a : Nat) (h : a < 2 ^ 21) : nI a &&& (-1048577) = nI (a &&& 1048575) := by
  apply Int32.toBitVec_inj.mp
  rw [Int32.toBitVec_and]
  apply BitVec.eq_of_getLsbD_eq
  intro i hi
  have e1 : (-1048577 : Int32).toBitVec.getLsbD i = !decide (20 = i) := by
    have hall : ∀ i, i < 32 → (-1048577 : Int32).toBitVec.getLsbD i = !decide (20 = i) := by decide +kernel
    exact hall i hi
  have e2 : (1048575 : Nat).testBit i = decide (i < 20) := Nat.testBit_two_pow_sub_one (n := 20) (i := i)
  show ((BitVec.ofNat 32 a) &&& (-1048577 : Int32).toBitVec).getLsbD i = (BitVec.ofNat 32 (a &&& 1048575)).getLsbD i
  rw [BitVec.getLsbD_and, e1, BitVec.getLsbD_ofNat, BitVec.getLsbD_ofNat, Nat.testBit_and, e2]
  by_cases c : i < 20
  · rw [decide_eq_true c, decide_eq_false (show ¬ 20 = i by omega)]; simp
  · rw [decide_eq_false c]
    by_cases c2 : 20 = i
    · rw [decide_eq_true c2]; simp
    · rw [jtb_lt (n := 21) (i := i) h (by omega)]; simp
theorem jenc_noE {y : jG} (h : jGg y) : jenc y &&& 1048575 = jenc (y.1, y.2.1, 0) := Nat.eq_of_testBit_eq fun i => by
  have e2 : (1048575 : Nat).testBit i = decide (i < 20) := Nat.testBit_two_pow_sub_one (n := 20) (i := i)
  have h0 : jGg (y.1, y.2.1, 0) := ⟨h.f, h.l, Nat.zero_le _⟩
  rw [Nat.testBit_and, jenc_tb h, jenc_tb h0, e2]
  by_cases c1 : i < 10
  · rw [if_pos c1, if_pos c1, decide_eq_true (show i < 20 by omega)]; simp
  · rw [if_neg c1, if_neg c1]
    by_cases c2 : i < 20
    · rw [if_pos c2, if_pos c2, decide_eq_true c2]; simp
    · rw [if_neg c2, if_neg c2, decide_eq_false c2]; simp
theorem jenc_shl (f l c : Nat) : jenc (f, l, 0) <<< c = jenc (f <<< c, l <<< c, 0) := Nat.eq_of_testBit_eq fun i => by
  unfold jenc
  simp only [Nat.testBit_or, Nat.testBit_shiftLeft, Nat.zero_shiftLeft, Nat.zero_testBit, Bool.or_false, Bool.and_false]
  by_cases h1 : c ≤ i
  · rw [decide_eq_true h1]
    by_cases h2 : 10 ≤ i - c
    · rw [decide_eq_true h2, decide_eq_true (show 10 ≤ i by omega), decide_eq_true (show c ≤ i - 10 by omega), show i - c - 10 = i - 10 - c by omega]
      simp
    · rw [decide_eq_false h2]
      by_cases h3 : 10 ≤ i
      · rw [decide_eq_true h3, decide_eq_false (show ¬ c ≤ i - 10 by omega)]; simp
      · rw [decide_eq_false h3]; simp
  · rw [decide_eq_false h1]
    by_cases h3 : 10 ≤ i
    · rw [decide_eq_false (show ¬ c ≤ i - 10 by omega)]; simp
    · rw [decide_eq_false h3]; simp
theorem jenc_E1 (f l e : Nat) : jenc (f, l, 0) ||| (e <<< 20) = jenc (f, l, e) := by
  unfold jenc
  simp only [Nat.zero_shiftLeft, Nat.or_zero]
theorem jenc_or1 {f l e : Nat} (he : e ≤ 1) : jenc (f, l, e) ||| 1048576 = jenc (f, l, 1) := by
  have : jenc (f, l, e) ||| 1048576 = jenc (f, l, e) ||| jenc (0, 0, 1) := rfl
  rw [this, jenc_or]
  show jenc (f ||| 0, l ||| 0, e ||| 1) = _
  rw [Nat.or_zero, Nat.or_zero, jor1 he (Nat.le_refl _), if_pos (Or.inr rfl)]
theorem jcopy {y : jG} (h : jGg y) {i w : Nat} (hc : i * w ≤ 10) : ((nI (jenc y) &&& (-1048577)) <<< ((nI i * nI w) &&& nI 31)) ||| (nI (jenc y) &&& nI 1048576) = nI (jenc (y.1 <<< (i * w), y.2.1 <<< (i * w), y.2.2)) := by
  have hl := jenc_lt h
  have h0 : jGg (y.1, y.2.1, 0) := ⟨h.f, h.l, Nat.zero_le _⟩
  have hl0 := jenc_lt h0
  have q2 : 2 ^ (i * w) ≤ 2 ^ 10 := Nat.pow_le_pow_right (by decide) hc
  have hsm : jenc (y.1, y.2.1, 0) * 2 ^ (i * w) < 2 ^ 32 := by
    have : jenc (y.1, y.2.1, 0) ≤ 2 ^ 20 := by
      have q : jenc (y.1, y.2.1, 0) < 2 ^ 20 := by
        unfold jenc
        have hf := h.f
        have hll := h.l
        refine Nat.or_lt_two_pow (Nat.or_lt_two_pow (by show y.1 < 2 ^ 20; omega) ?_) (by show 0 <<< 20 < 2 ^ 20; decide)
        show y.2.1 <<< 10 < 2 ^ 20
        rw [Nat.shiftLeft_eq]; omega
      omega
    have : jenc (y.1, y.2.1, 0) * 2 ^ (i * w) ≤ 2 ^ 20 * 2 ^ 10 := Nat.mul_le_mul this q2
    omega
  rw [jnotE _ hl, jenc_noE h, jmul, jshlA (by omega) hsm, jandA, jenc_E h, jorA, jenc_shl, jenc_E1]
theorem jPp_rep0 {L : jL} (hL : jgood L) {ω : xS} {S : jSt} {sw ps wy : Nat} (hK : jLK S sw ps wy) {j z a : Nat} (hj : j < 32) (ha : a ≤ 1) {y : jG} (hy : jGg y) (h5 : jgI S (jo 31) 5 = nI (jenc y)) (hz : jgI S (jl j 1) 4 = nI z) (hz10 : z ≤ 10) : ∃ T, f_PatternParser_repeatItem (jad L (jo 31)) (nI (10 * a)) (jad L (jl j 1)) (jW L ω S) = some (jW L ω T) ∧ jfq (fun c => c = jo 31 ∨ c = jl j 3) S T ∧ (∀ p, jgA T (jl j 3) p = jchn S j z y y p) ∧ ∀ k, jgI T (jo 31) k = if k = 5 then nI (jenc (y.1, y.2.1, if a = 0 then 1 else y.2.2)) else if k = 7 then nI 0 else jgI S (jo 31) k := by
  have hz' : jgI (jsI S (jo 31) 7 (nI 0)) (jl j 1) 4 = nI z := by rw [jsI_fn (fun z => by cases z)]; exact hz
  obtain ⟨T1, a1, a2, a3⟩ := jP_chain hL (ω := ω) (S := jsI S (jo 31) 7 (nI 0)) hK hj hz' hz10 hy hy
  have i5 : jgI (jsI S (jo 31) 7 (nI 0)) (jo 31) 5 = nI (jenc y) := by rw [jsI_c, if_neg (by decide)]; exact h5
  have j5 : jgI T1 (jo 31) 5 = nI (jenc y) := by rw [a2.1]; exact i5
  have er : nI (10 * a) - nI (10 * a) / nI 10 * nI 10 = nI 0 := by rw [jrem (by omega) (by omega), Nat.mul_mod_right]
  have ed : nI (10 * a) / nI 10 = nI a := by rw [jdiv (by omega) (by omega), Nat.mul_div_cancel_left _ (by decide)]
  refine ⟨jsI T1 (jo 31) 5 (nI (jenc (y.1, y.2.1, if a = 0 then 1 else y.2.2))), ?_, ((jfq.sI _ _ _ (Or.inl rfl)).trans (a2.q.weak (fun c hc => Or.inr hc))).trans (jfq.sI _ _ _ (Or.inl rfl)), fun p => ?_, fun k => ?_⟩
  · have p7 : xp (jW L ω S) (jad L (jo 31)) 6 7 (.int 0) = some (jW L ω (jsI S (jo 31) 7 (nI 0))) := by
      rw [show (0 : Int32) = nI 0 from rfl]
      simp (disch := first | omega | rfl | assumption | exact jokr (by decide) (by omega) | exact jokr4 (by omega) | exact jkt_r _ _ | exact jkt_l (by decide) | exact jfk_l (by decide) | exact jkt_t _ | exact jkt_r6 _ _ | exact jkt_t6 _ | (simp only [jok, jlen]; omega) | decide) only [jm_pi hL]
    have er : nI (10 * a) - nI (10 * a) / 10 * 10 = 0 := er
    have ed : nI (10 * a) / 10 = nI a := ed
    have gi5 : xgi (jW L ω (jsI S (jo 31) 7 (nI 0))) (jad L (jo 31)) 6 5 = some (nI (jenc y)) := by simp (disch := first | omega | rfl | assumption | exact jokr (by decide) (by omega) | exact jokr4 (by omega) | exact jkt_r _ _ | exact jkt_l (by decide) | exact jfk_l (by decide) | exact jkt_t _ | exact jkt_r6 _ _ | exact jkt_t6 _ | (simp only [jok, jlen]; omega) | decide) only [jm_gi hL, i5]
    have gj5 : xgi (jW L ω T1) (jad L (jo 31)) 6 5 = some (nI (jenc y)) := by simp (disch := first | omega | rfl | assumption | exact jokr (by decide) (by omega) | exact jokr4 (by omega) | exact jkt_r _ _ | exact jkt_l (by decide) | exact jfk_l (by decide) | exact jkt_t _ | exact jkt_r6 _ _ | exact jkt_t6 _ | (simp only [jok, jlen]; omega) | decide) only [jm_gi hL, j5]
    have p5 : ∀ v : Int32, xp (jW L ω T1) (jad L (jo 31)) 6 5 (.int v) = some (jW L ω (jsI T1 (jo 31) 5 v)) := fun v => by simp (disch := first | omega | rfl | assumption | exact jokr (by decide) (by omega) | exact jokr4 (by omega) | exact jkt_r _ _ | exact jkt_l (by decide) | exact jfk_l (by decide) | exact jkt_t _ | exact jkt_r6 _ _ | exact jkt_t6 _ | (simp only [jok, jlen]; omega) | decide) only [jm_pi hL]
    unfold f_PatternParser_repeatItem
    rw [p7, Option.bind_some, if_pos er, gi5, Option.bind_some, Option.bind_some, jkl1 hL hj, a1]
    simp only [xc]
    rw [gj5, Option.bind_some, ed]
    by_cases c : a = 0
    · rw [if_pos (show nI a = (0 : Int32) by rw [c]; rfl), if_pos c, p5, Option.bind_some, show (1048576 : Int32) = nI 1048576 from rfl, jorA, jenc_or1 hy.e]
    · rw [if_neg (show ¬ nI a = (0 : Int32) from fun z => by rw [jlit, nI_eq (by omega) (by omega)] at z; exact c z), if_neg c, p5, Option.bind_some, show (0 : Int32) = nI 0 from rfl, jorA, Nat.or_zero]
  · rw [jsI_A]; exact a3 p
  · rw [jsI_c]
    by_cases c5 : k = 5
    · rw [if_pos c5, if_pos c5]
    · rw [if_neg c5, if_neg c5, a2.1, jsI_c]
/-- braces, or once or not, where there is room for the copies -/
theorem jPp_repA {L : jL} (hL : jgood L) {ω : xS} {S : jSt} {sw ps wy : Nat} (hK : jLK S sw ps wy) {j a b : Nat} {s : jPs} (hj : j < 32) (hi : jPi s) (h1 : jPs.hs s = 1) (ha : a ≤ 9) (hb : 1 ≤ b) (hb9 : b ≤ 9) (h5 : jgI S (jo 31) 5 = nI (jenc (jPs.it s))) (h6 : jgI S (jo 31) 6 = nI (jPs.ib s)) (hz : jgI S (jl j 1) 4 = nI (jPs.sz s)) (hov : jgI S (jl j 1) 5 = nI 0) (htk : ∀ l, l < 9 → jTk S j (jPs.sz s) (jPs.ls s) l) (hfo : ∀ p, p < 10 → jgA S (jl j 3) p = nI (jPs.fo s p)) (hfit : jPs.ib s + b * jwd s ≤ 10) : ∃ T, f_PatternParser_repeatItem (jad L (jo 31)) (nI (10 * a + b)) (jad L (jl j 1)) (jW L ω S) = some (jW L ω T) ∧ jfq (jisP j) S T ∧ jgA T (jo 32) = jgA S (jo 32) ∧ jgA T (jo 33) = jgA S (jo 33) ∧ jgA T (jo 34) = jgA S (jo 34) ∧ (∀ k, jgI T (jl j 1) k = if k = 4 then nI (jPs.ib s + b * jwd s) else jgI S (jl j 1) k) ∧ (∀ l, l < 9 → jTk T j (jPs.ib s + b * jwd s) (jLs s b) l) ∧ (∀ p, p < 10 → jgA T (jl j 3) p = nI (jFk s a (b - 1) p)) ∧ ∀ k, jgI T (jo 31) k = if k = 5 then nI (jenc (jWk s a (b - 1))) else if k = 7 then nI 0 else jgI S (jo 31) k := by
  obtain ⟨i1, i2, i3⟩ := hi.it h1
  have ew : jPs.ib s + jwd s = jPs.sz s := by unfold jwd; omega
  have hwd : jPs.sz s - jPs.ib s = jwd s := rfl
  have hw1 : 1 ≤ jwd s := by omega
  have eb : b * jwd s = (b - 1) * jwd s + jwd s := by
    have : b = (b - 1) + 1 := by omega
    rw [this, Nat.succ_mul, Nat.add_sub_cancel]
  have hsz : jPs.sz s ≤ 10 := by omega
  have hfl : ∀ p, p < 10 → jPs.fo s p < 1024 := fun p _ => by
    have := jFr.lt (b := jPs.sz s) (fun i h => hi.fu p i h)
    have h3 : 2 ^ jPs.sz s ≤ 2 ^ 10 := Nat.pow_le_pow_right (by decide) hsz
    omega
  have f0 : jfq (jisP j) S (jsI S (jo 31) 7 (nI 0)) := jfq.sI _ _ _ (jP31 j)
  have ez : jPs.sz s + (jPs.sz s - jPs.ib s) * (b - 1) = jPs.ib s + b * jwd s := by
    rw [hwd, Nat.mul_comm]; omega
  obtain ⟨T1, a1, a2, a3, a4, a5⟩ := jP_copyA hL (ω := ω) (S := jsI S (jo 31) 7 (nI 0)) hK (m := b - 1) (ls := jPs.ls s) (fo := jPs.fo s) hj (by rw [jsI_fn (fun z => by cases z)]; exact hz) hsz i2 (by omega) (by rw [ez]; exact hfit) htk hfo hfl
  rw [ez] at a3 a4 a5
  have wk : ∀ c, (fun c => c = jl j 1 ∨ c = jl j 2 ∨ c = jl j 3) c → jisP j c := fun c hc => by
    rcases hc with z | z | z <;> subst z
    · exact jPl1 j
    · exact jPl2 j
    · exact jPl3 j
  have no31 : ¬ (fun c => c = jl j 1 ∨ c = jl j 2 ∨ c = jl j 3) (jo 31) := fun z => by rcases z with z | z | z <;> cases z
  have no : ∀ q, ¬ (fun c => c = jl j 1 ∨ c = jl j 2 ∨ c = jl j 3) (jo q) := fun q z => by rcases z with z | z | z <;> cases z
  have hK1 := hK.of (f0.trans (a2.weak wk)).1
  have I31 : jgI T1 (jo 31) = jgI (jsI S (jo 31) 7 (nI 0)) (jo 31) := (a2.2.2 _ no31).1
  have t5 : jgI T1 (jo 31) 5 = nI (jenc (jPs.it s)) := by rw [I31, jsI_c, if_neg (by decide)]; exact h5
  have tov : jgI T1 (jl j 1) 5 = nI 0 := by rw [a3, if_neg (by decide), jsI_fn (fun z => by cases z)]; exact hov
  have tz : jgI T1 (jl j 1) 4 = nI (jPs.ib s + b * jwd s) := by rw [a3, if_pos rfl]
  have hgi : jGg (jPs.it s) := i3.good hsz
  have hgW : ∀ k, k < b → jGg (jWk s a k) := fun k hk => by
    have J := (jJk_ok hi h1 a k).w
    have : k * jwd s ≤ (b - 1) * jwd s := Nat.mul_le_mul_right _ (by omega)
    exact J.good (by omega)
  have hgS : ∀ k, k < b → jGg (jshx s a k) := fun k hk => by
    have J := jshx_fr hi h1 a k
    have : k * jwd s ≤ (b - 1) * jwd s := Nat.mul_le_mul_right _ (by omega)
    exact J.good (by omega)
  -- the copy that is chained
  have cp : ∀ i, i < b → (if nI a ≤ nI i then (((nI (jenc (jPs.it s)) &&& (-1048577)) <<< ((nI i * nI (jwd s)) &&& nI 31)) ||| (nI (jenc (jPs.it s)) &&& nI 1048576)) ||| nI 1048576 else (((nI (jenc (jPs.it s)) &&& (-1048577)) <<< ((nI i * nI (jwd s)) &&& nI 31)) ||| (nI (jenc (jPs.it s)) &&& nI 1048576))) = nI (jenc (jshx s a i)) := fun i hib => by
    have hc : i * jwd s ≤ (b - 1) * jwd s := Nat.mul_le_mul_right _ (by omega)
    rw [jcopy hgi (by omega)]
    unfold jshx
    by_cases c : a ≤ i
    · rw [if_pos ((nI_leI (by omega) (by omega)).mpr c), if_pos (Or.inr c), jorA, jenc_or1 hgi.e]
    · rw [if_neg (fun z => c ((nI_leI (by omega) (by omega)).mp z))]
      have he := hgi.e
      by_cases c2 : (jPs.it s).2.2 = 1
      · rw [if_pos (Or.inl c2), c2]
      · rw [if_neg (by omega), show (jPs.it s).2.2 = 0 by omega]
  -- one turn
  have turn : ∀ (n i : Nat) (T : jSt) (w : jG), i < b → jLK T sw ps wy → jGg w → jgI T = jgI T1 → ∃ T', f_PatternParser_repeatItem_94 (n + 1) (jad L (jo 31)) (jad L (jl j 1)) (nI a) (nI b) (nI (jwd s)) (nI (jenc w)) (nI i) (jW L ω T) = f_PatternParser_repeatItem_94 n (jad L (jo 31)) (jad L (jl j 1)) (nI a) (nI b) (nI (jwd s)) (nI (jenc (jcg w (jshx s a i)))) (nI (i + 1)) (jW L ω T') ∧ jfr (fun c => c = jl j 3) T T' ∧ ∀ p, jgA T' (jl j 3) p = if p < jPs.ib s + b * jwd s ∧ w.2.1.testBit p = true then jgA T (jl j 3) p ||| nI (jshx s a i).1 else jgA T (jl j 3) p := by
    intro n i T w hib hKT hw hI
    obtain ⟨T', c1, c2, c3⟩ := jP_chain hL (ω := ω) hKT hj (z := jPs.ib s + b * jwd s) (by rw [hI]; exact tz) hfit hw (hgS i hib)
    refine ⟨T', ?_, c2, c3⟩
    have u5 : xgi (jW L ω T) (jad L (jo 31)) 6 5 = some (nI (jenc (jPs.it s))) := by
      have : jgI T (jo 31) 5 = nI (jenc (jPs.it s)) := by rw [hI]; exact t5
      simp (disch := first | omega | rfl | assumption | exact jokr (by decide) (by omega) | exact jokr4 (by omega) | exact jkt_r _ _ | exact jkt_l (by decide) | exact jfk_l (by decide) | exact jkt_t _ | exact jkt_r6 _ _ | exact jkt_t6 _ | (simp only [jok, jlen]; omega) | decide) only [jm_gi hL, this]
    rw [f_PatternParser_repeatItem_94, if_neg (fun z => by rw [nI_leI (by omega) (by omega)] at z; omega), u5, Option.bind_some, Option.bind_some]
    have hcp := cp i hib
    by_cases c : nI a ≤ nI i
    · rw [if_pos c] at hcp ⊢
      rw [jkl1 hL hj, show (1048576 : Int32) = nI 1048576 from rfl, show (31 : Int32) = nI 31 from rfl, hcp, c1]
      simp only [xc]
      rw [show nI i + 1 = nI (i + 1) by rw [jlit, nI_add]]
    · rw [if_neg c] at hcp ⊢
      rw [jkl1 hL hj, show (1048576 : Int32) = nI 1048576 from rfl, show (31 : Int32) = nI 31 from rfl, hcp, c1]
      simp only [xc]
      rw [show nI i + 1 = nI (i + 1) by rw [jlit, nI_add]]
  obtain ⟨T2, g1, g2, g3⟩ := turn 999999 0 T1 (0, 0, 1) (by omega) hK1 ⟨by decide, by decide, Nat.le_refl _⟩ rfl
  have hnone : jcg (0, 0, 1) (jshx s a 0) = jWk s a 0 := jcg_none _ (hgS 0 (by omega)).e
  have g3' : jgA T2 (jl j 3) = jgA T1 (jl j 3) := funext fun p => by
    rw [g3 p, if_neg (fun z => by have := z.2; rw [Nat.zero_testBit] at this; cases this)]
  rw [hnone] at g1
  obtain ⟨n, T3, e1, d1, d2⟩ := jlpN 999999 (fun n i (T : jSt) => f_PatternParser_repeatItem_94 n (jad L (jo 31)) (jad L (jl j 1)) (nI a) (nI b) (nI (jwd s)) (nI (jenc (jWk s a (i - 1)))) (nI i) (jW L ω T)) (fun i T => jfr (fun c => c = jl j 3) T1 T ∧ ∀ p, p < 10 → jgA T (jl j 3) p = nI (if jPs.ib s + i * jwd s ≤ p ∧ p < jPs.ib s + b * jwd s then jfq2 (jPs.fo s) (jPs.sz s) (jPs.ib s) p else jFk s a (i - 1) p)) (lo := 1) (hi := b) hb (by omega) (by
    intro n i T hi1 hi2 ⟨b1, b2⟩
    obtain ⟨T', c1, c2, c3⟩ := turn n i T (jWk s a (i - 1)) hi2 (hK1.of b1.2.2.1) (hgW _ (by omega)) b1.1
    have ei : i = (i - 1) + 1 := by omega
    have hWi : jcg (jWk s a (i - 1)) (jshx s a i) = jWk s a i := by
      have q : jWk s a ((i - 1) + 1) = jcg (jWk s a (i - 1)) (jshx s a ((i - 1) + 1)) := rfl
      rw [← ei] at q
      exact q.symm
    rw [hWi] at c1
    refine ⟨T', ?_, b1.trans c2, fun p hp => ?_⟩
    · show f_PatternParser_repeatItem_94 (n + 1) _ _ _ _ _ _ _ _ = f_PatternParser_repeatItem_94 n _ _ _ _ _ _ _ _
      rw [Nat.add_sub_cancel]
      exact c1
    · have hF : jFk s a i = jfwx (jcb s i (jFk s a (i - 1))) (jWk s a (i - 1)) (jshx s a i) := by
        have q : jFk s a ((i - 1) + 1) = jfwx (jcb s ((i - 1) + 1) (jFk s a (i - 1))) (jWk s a (i - 1)) (jshx s a ((i - 1) + 1)) := rfl
        rw [← ei] at q
        exact q
      have J := jJk_ok hi h1 a (i - 1)
      have em : i * jwd s = (i - 1) * jwd s + jwd s := by
        have q := Nat.succ_mul (i - 1) (jwd s)
        rw [show (i - 1).succ = i by omega] at q
        exact q
      have em2 : (i + 1) * jwd s = i * jwd s + jwd s := Nat.succ_mul _ _
      have hile : i * jwd s ≤ (b - 1) * jwd s := Nat.mul_le_mul_right _ (by omega)
      rw [c3 p, b2 p hp, Nat.add_sub_cancel, hF]
      by_cases q1 : jPs.ib s + i * jwd s ≤ p ∧ p < jPs.ib s + b * jwd s
      · rw [if_neg (show ¬ (p < jPs.ib s + b * jwd s ∧ (jWk s a (i - 1)).2.1.testBit p = true) from fun z => by have := (J.w.l p z.2).2; omega), if_pos q1]
        by_cases q2 : jPs.ib s + (i + 1) * jwd s ≤ p
        · rw [if_pos ⟨q2, q1.2⟩]
        · rw [if_neg (fun z => q2 z.1)]
          unfold jfwx
          rw [if_neg (fun z => by have := (J.w.l p z).2; omega)]
          unfold jcb jfq2
          rw [if_pos ⟨q1.1, by omega⟩]
          have e0 : (p - jPs.ib s) % (jPs.sz s - jPs.ib s) = p - jPs.ib s - i * jwd s := by
            have : p - jPs.ib s = (p - jPs.ib s - i * jwd s) + i * jwd s := by omega
            rw [hwd]
            rw [this, Nat.add_mul_mod_self_right, Nat.mod_eq_of_lt (by omega), ← this]
          rw [e0, show jPs.ib s + (p - jPs.ib s - i * jwd s) = p - i * jwd s by omega, show p - (p - i * jwd s) = i * jwd s by omega]
      · rw [if_neg q1, if_neg (show ¬ (jPs.ib s + (i + 1) * jwd s ≤ p ∧ p < jPs.ib s + b * jwd s) from fun z => q1 ⟨by omega, z.2⟩)]
        have hcb : jcb s i (jFk s a (i - 1)) p = jFk s a (i - 1) p := by
          unfold jcb
          rw [if_neg (fun z => by
            rcases Nat.lt_or_ge p (jPs.ib s + b * jwd s) with y | y
            · exact q1 ⟨z.1, y⟩
            · omega)]
        unfold jfwx
        rw [hcb]
        by_cases q3 : (jWk s a (i - 1)).2.1.testBit p = true
        · have := (J.w.l p q3).2
          rw [if_pos ⟨by omega, q3⟩, if_pos q3, jorA]
        · rw [if_neg (fun z => q3 z.2), if_neg q3]) T2 ⟨g2, fun p hp => by
    rw [g3', a5 p hp, Nat.sub_self, Nat.one_mul, ew]
    rfl⟩
  have hz3 : jgI T3 = jgI T1 := d1.1
  refine ⟨jsI T3 (jo 31) 5 (nI (jenc (jWk s a (b - 1)))), ?_, ((f0.trans (a2.weak wk)).trans (d1.q.weak (fun c hc => hc ▸ jPl3 j))).trans (jfq.sI _ _ _ (jP31 j)), ?_, ?_, ?_, fun k => ?_, fun l hl => ?_, fun p hp => ?_, fun k => ?_⟩
  · have er : nI (10 * a + b) - nI (10 * a + b) / nI 10 * nI 10 = nI b := by rw [jrem (by omega) (by omega), show (10 * a + b) % 10 = b by omega]
    have ed : nI (10 * a + b) / nI 10 = nI a := by rw [jdiv (by omega) (by omega), show (10 * a + b) / 10 = a by omega]
    have q4 : jgI (jsI S (jo 31) 7 (nI 0)) (jl j 1) 4 = nI (jPs.sz s) := by rw [jsI_fn (fun z => by cases z)]; exact hz
    have q6 : jgI (jsI S (jo 31) 7 (nI 0)) (jo 31) 6 = nI (jPs.ib s) := by rw [jsI_c, if_neg (by decide)]; exact h6
    have es : nI (jPs.sz s) - nI (jPs.ib s) = nI (jPs.sz s - jPs.ib s) := jsub (by omega)
    have ebm : nI b - nI 1 = nI (b - 1) := jsub hb
    have er : nI (10 * a + b) - nI (10 * a + b) / 10 * 10 = nI b := er
    have ed : nI (10 * a + b) / 10 = nI a := ed
    have ebm : nI b - 1 = nI (b - 1) := ebm
    have p7 : xp (jW L ω S) (jad L (jo 31)) 6 7 (.int 0) = some (jW L ω (jsI S (jo 31) 7 (nI 0))) := by
      rw [show (0 : Int32) = nI 0 from rfl]
      simp (disch := first | omega | rfl | assumption | exact jokr (by decide) (by omega) | exact jokr4 (by omega) | exact jkt_r _ _ | exact jkt_l (by decide) | exact jfk_l (by decide) | exact jkt_t _ | exact jkt_r6 _ _ | exact jkt_t6 _ | (simp only [jok, jlen]; omega) | decide) only [jm_pi hL]
    have g4 : xgi (jW L ω (jsI S (jo 31) 7 (nI 0))) (jad L (jl j 1)) 7 4 = some (nI (jPs.sz s)) := by simp (disch := first | omega | rfl | assumption | exact jokr (by decide) (by omega) | exact jokr4 (by omega) | exact jkt_r _ _ | exact jkt_l (by decide) | exact jfk_l (by decide) | exact jkt_t _ | exact jkt_r6 _ _ | exact jkt_t6 _ | (simp only [jok, jlen]; omega) | decide) only [jm_gi hL, q4]
    have g6 : xgi (jW L ω (jsI S (jo 31) 7 (nI 0))) (jad L (jo 31)) 6 6 = some (nI (jPs.ib s)) := by simp (disch := first | omega | rfl | assumption | exact jokr (by decide) (by omega) | exact jokr4 (by omega) | exact jkt_r _ _ | exact jkt_l (by decide) | exact jfk_l (by decide) | exact jkt_t _ | exact jkt_r6 _ _ | exact jkt_t6 _ | (simp only [jok, jlen]; omega) | decide) only [jm_gi hL, q6]
    have gov : xgi (jW L ω T1) (jad L (jl j 1)) 7 5 = some (nI 0) := by simp (disch := first | omega | rfl | assumption | exact jokr (by decide) (by omega) | exact jokr4 (by omega) | exact jkt_r _ _ | exact jkt_l (by decide) | exact jfk_l (by decide) | exact jkt_t _ | exact jkt_r6 _ _ | exact jkt_t6 _ | (simp only [jok, jlen]; omega) | decide) only [jm_gi hL, tov]
    unfold f_PatternParser_repeatItem
    rw [p7, Option.bind_some, er, if_neg (show ¬ nI b = (0 : Int32) from fun z => by rw [jlit, nI_eq (by omega) (by omega)] at z; omega), g4, Option.bind_some, g6, Option.bind_some, Option.bind_some, es, ebm, jkl1 hL hj, a1, Option.bind_some, gov, Option.bind_some, if_pos (show nI 0 = (0 : Int32) from rfl), ed]
    rw [hwd]
    show f_PatternParser_repeatItem_94 (999999 + 1) (jad L (jo 31)) (jad L (jl j 1)) (nI a) (nI b) (nI (jwd s)) (nI (jenc (0, 0, 1))) (nI 0) (jW L ω T1) = _
    rw [g1]
    refine e1.trans ?_
    show f_PatternParser_repeatItem_94 (n + 1) _ _ _ _ _ _ _ _ = _
    rw [f_PatternParser_repeatItem_94]
    simp (disch := first | omega | rfl | assumption | exact jokr (by decide) (by omega) | exact jokr4 (by omega) | exact jkt_r _ _ | exact jkt_l (by decide) | exact jfk_l (by decide) | exact jkt_t _ | exact jkt_r6 _ _ | exact jkt_t6 _ | (simp only [jok, jlen]; omega) | decide) only [jm_k hL, jm_gi hL, jm_gr hL, jm_gl hL, jm_pi hL, jm_pl hL, jn_ai hL, jn_ab hL, jn_az hL, jn_al hL, jn_ar hL, jn_an hL, jn_si hL, jn_sb hL, jn_sz hL, jn_sl hL, Option.bind_some, xc, xl, nI_leI, if_pos]
  · rw [jsI_A, d1.2.2.2 _ (fun z => by cases z), (a2.2.2 _ (no 32)).2, jsI_A]
  · rw [jsI_A, d1.2.2.2 _ (fun z => by cases z), (a2.2.2 _ (no 33)).2, jsI_A]
  · rw [jsI_A, d1.2.2.2 _ (fun z => by cases z), (a2.2.2 _ (no 34)).2, jsI_A]
  · rw [jsI_fn (fun z => by cases z), hz3, a3, jsI_fn (fun z => by cases z)]
  · obtain ⟨t, u1, u2, u3⟩ := (a4 l hl).x
    refine ⟨t, u1, ?_, fun q => (u3 q).trans ?_⟩
    · rw [jsI_A, d1.2.2.2 _ (fun z => by cases z)]; exact u2
    · refine and_congr_right (fun hq => ?_)
      have : jlq (jPs.ls s) (jPs.sz s) (jPs.ib s) q = jLs s b q := by
        unfold jlq jLs
        by_cases c : jPs.sz s ≤ q
        · rw [if_pos c, if_pos ⟨c, hq⟩, hwd]
        · rw [if_neg c, if_neg (fun z => c z.1)]
      rw [this]
  · rw [jsI_A, d2 p hp, if_neg (by omega)]
  · rw [jsI_c]
    by_cases c5 : k = 5
    · rw [if_pos c5, if_pos c5]
    · rw [if_neg c5, if_neg c5, hz3, I31, jsI_c]
