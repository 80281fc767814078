/-! THE CLASS'S PARSER, its steps on whatever fragments stand there -/
def jisP (j : Nat) : jC → Prop := fun c => c = jo 31 ∨ c = jo 32 ∨ c = jo 33 ∨ c = jo 34 ∨ c = jl j 1 ∨ c = jl j 2 ∨ c = jl j 3
theorem jP31 (j : Nat) : jisP j (jo 31) := Or.inl rfl
theorem jP32 (j : Nat) : jisP j (jo 32) := Or.inr (Or.inl rfl)
theorem jP33 (j : Nat) : jisP j (jo 33) := Or.inr (Or.inr (Or.inl rfl))
theorem jP34 (j : Nat) : jisP j (jo 34) := Or.inr (Or.inr (Or.inr (Or.inl rfl)))
theorem jPl1 (j : Nat) : jisP j (jl j 1) := Or.inr (Or.inr (Or.inr (Or.inr (Or.inl rfl))))
theorem jPl2 (j : Nat) : jisP j (jl j 2) := Or.inr (Or.inr (Or.inr (Or.inr (Or.inr (Or.inl rfl)))))
theorem jPl3 (j : Nat) : jisP j (jl j 3) := Or.inr (Or.inr (Or.inr (Or.inr (Or.inr (Or.inr rfl)))))
/-- followers after a chain -/
def jchn (S : jSt) (j z : Nat) (x y : jG) : Nat → Int32 := fun p => if p < z ∧ x.2.1.testBit p = true then jgA S (jl j 3) p ||| nI y.1 else jgA S (jl j 3) p
theorem jfr.q {Q : jC → Prop} {S T : jSt} (h : jfr Q S T) : jfq Q S T := ⟨h.2.2.1, h.2.1, fun c hc => ⟨by rw [h.1], h.2.2.2 c hc⟩⟩
theorem jenc_ne {x : jG} (h : jGg x) : ¬ nI (jenc x) = (-1 : Int32) := fun z => by
  have hl := jenc_lt h
  have := congrArg Int32.toInt z
  rw [nI_toInt (by omega)] at this
  have h1 : (-1 : Int32).toInt = -1 := by decide
  omega
/-- rows[depth] = chain(rows[depth], item) -/
theorem jPp_settle {L : jL} (hL : jgood L) {ω : xS} {S : jSt} {sw ps wy : Nat} (hK : jLK S sw ps wy) {j d z : Nat} (hj : j < 32) (hd : d ≤ 40) {x y : jG} (hx : jGg x) (hy : jGg y) (h4 : jgI S (jo 31) 4 = nI d) (h5 : jgI S (jo 31) 5 = nI (jenc y)) (hr : jgA S (jo 33) d = nI (jenc x)) (hz : jgI S (jl j 1) 4 = nI z) (hz10 : z ≤ 10) {R : Type} {k : xS → Option R} : ∃ T, ((xgr (jW L ω S) (jad L (jo 31)) 6 2).bind fun t3 => (xgi (jW L ω S) (jad L (jo 31)) 6 4).bind fun t4 => (xgr (jW L ω S) (jad L (jo 31)) 6 2).bind fun t5 => (xgi (jW L ω S) (jad L (jo 31)) 6 4).bind fun t6 => (xai (jW L ω S) t5 t6).bind fun t7 => (xgi (jW L ω S) (jad L (jo 31)) 6 5).bind fun t8 => xc (xk (jW L ω S) (jad L (jl j 1)) 7 (f_Positions_chain (jad L (jl j 1)) t7 t8 (jW L ω S))) fun t10 w11 => (xsi w11 t3 t4 t10).bind fun w12 => k w12) = k (jW L ω T) ∧ jfq (fun c => c = jo 33 ∨ c = jl j 3) S T ∧ jgI T = jgI S ∧ (∀ e, jgA T (jo 33) e = if e = d then nI (jenc (jcg x y)) else jgA S (jo 33) e) ∧ ∀ p, jgA T (jl j 3) p = jchn S j z x y p := by
  obtain ⟨T1, a1, a2, a3⟩ := jP_chain hL (ω := ω) hK hj hz hz10 hx hy
  have hK1 := hK.of a2.2.2.1
  refine ⟨jsA T1 (jo 33) d (nI (jenc (jcg x y))), ?_, (a2.q.weak (fun c hc => Or.inr hc)).trans (jfq.sA _ _ _ (Or.inl rfl)), a2.1, fun e => ?_, fun p => ?_⟩
  · simp (disch := first | omega | rfl | assumption | exact jokr (by decide) (by omega) | exact jokr4 (by omega) | exact jkt_r _ _ | exact jkt_l (by decide) | exact jfk_l (by decide) | exact jkt_t _ | exact jkt_r6 _ _ | exact jkt_t6 _ | (simp only [jok, jlen]; omega) | decide) only [jm_k hL, jm_gi hL, jm_gr hL, jm_gl hL, jm_pi hL, jm_pl hL, jn_ai hL, jn_ab hL, jn_az hL, jn_al hL, jn_ar hL, jn_an hL, jn_si hL, jn_sb hL, jn_sz hL, jn_sl hL, Option.bind_some, xc, xl, jsA_X, jsI_X, jsG_X, hK _ _, jlk, jmx, h4, h5, hr, a1]
  · rw [jsA_c]
    by_cases c : e = d
    · rw [if_pos c, if_pos c]
    · rw [if_neg c, if_neg c, a2.2.2.2 (jo 33) (fun z => by cases z)]
  · rw [jsA_ne (fun z => by cases z)]; exact a3 p
/-- what a step leaves of the row and the followers: with an item, without -/
def jrow (S : jSt) (d : Nat) (x : jG) : Option jG → Nat → Int32
  | none => jgA S (jo 33)
  | some y => fun e => if e = d then nI (jenc (jcg x y)) else jgA S (jo 33) e
def jfol (S : jSt) (j z : Nat) (x : jG) : Option jG → Nat → Int32
  | none => jgA S (jl j 3)
  | some y => jchn S j z x y
def jItm (S : jSt) (y : Option jG) : Prop := (y = none → jgI S (jo 31) 5 = -1) ∧ (∀ g, y = some g → jGg g ∧ jgI S (jo 31) 5 = nI (jenc g))
theorem jItm.n {S : jSt} {y : Option jG} (h : jItm S y) : y = none → jgI S (jo 31) 5 = -1 := h.1
theorem jItm.s {S : jSt} {y : Option jG} (h : jItm S y) : ∀ g, y = some g → jGg g ∧ jgI S (jo 31) 5 = nI (jenc g) := h.2
theorem jPp_open {L : jL} (hL : jgood L) {ω : xS} {S : jSt} {sw ps wy : Nat} (hK : jLK S sw ps wy) {j d z : Nat} (hj : j < 32) (hd : d < 40) {x : jG} {y : Option jG} (hx : jGg x) (hy : jItm S y) (h4 : jgI S (jo 31) 4 = nI d) (hr : jgA S (jo 33) d = nI (jenc x)) (hz : jgI S (jl j 1) 4 = nI z) (hz10 : z ≤ 10) : ∃ T, f_PatternParser_openGroup (jad L (jo 31)) (jad L (jl j 1)) (jW L ω S) = some (jW L ω T) ∧ jfq (jisP j) S T ∧ jgI T (jl j 1) = jgI S (jl j 1) ∧ jgA T (jl j 2) = jgA S (jl j 2) ∧ (∀ p, jgA T (jl j 3) p = jfol S j z x y p) ∧ (∀ e, jgA T (jo 32) e = if e = d + 1 then nI 0 else jgA S (jo 32) e) ∧ (∀ e, jgA T (jo 33) e = if e = d + 1 then nI (jenc (0, 0, 1)) else jrow S d x y e) ∧ (∀ e, jgA T (jo 34) e = if e = d + 1 then nI z else jgA S (jo 34) e) ∧ ∀ k, jgI T (jo 31) k = if k = 4 then nI (d + 1) else if k = 5 then -1 else jgI S (jo 31) k := by
  have e34 : ∀ U : jSt, jLK U sw ps wy → jgI U (jo 31) 4 = nI d → jgI U (jl j 1) 4 = nI z → ∃ T, f_PatternParser_openGroup_34 (jad L (jo 31)) (jad L (jl j 1)) (jW L ω U) = some (jW L ω T) ∧ jfq (jisP j) U T ∧ jgI T (jl j 1) = jgI U (jl j 1) ∧ jgA T (jl j 2) = jgA U (jl j 2) ∧ jgA T (jl j 3) = jgA U (jl j 3) ∧ (∀ e, jgA T (jo 32) e = if e = d + 1 then nI 0 else jgA U (jo 32) e) ∧ (∀ e, jgA T (jo 33) e = if e = d + 1 then nI (jenc (0, 0, 1)) else jgA U (jo 33) e) ∧ (∀ e, jgA T (jo 34) e = if e = d + 1 then nI z else jgA U (jo 34) e) ∧ ∀ k, jgI T (jo 31) k = if k = 4 then nI (d + 1) else if k = 5 then -1 else jgI U (jo 31) k := by
    intro U hK u4 uz
    have v4 : jgI (jsI U (jo 31) 4 (nI (d + 1))) (jo 31) 4 = nI (d + 1) := by rw [jsI_c, if_pos rfl]
    have vz : jgI (jsI U (jo 31) 4 (nI (d + 1))) (jl j 1) 4 = nI z := by rw [jsI_fn (fun z => by cases z)]; exact uz
    refine ⟨jsI (jsA (jsA (jsA (jsI U (jo 31) 4 (nI (d + 1))) (jo 32) (d + 1) (nI 0)) (jo 33) (d + 1) (nI 1048576)) (jo 34) (d + 1) (nI z)) (jo 31) 5 (-1), ?_, ((((jfq.sI _ _ _ (jP31 j)).trans (jfq.sA _ _ _ (jP32 j))).trans (jfq.sA _ _ _ (jP33 j))).trans (jfq.sA _ _ _ (jP34 j))).trans (jfq.sI _ _ _ (jP31 j)), ?_, ?_, ?_, fun e => ?_, fun e => ?_, fun e => ?_, fun k => ?_⟩
    · unfold f_PatternParser_openGroup_34
      simp (disch := first | omega | rfl | assumption | exact jokr (by decide) (by omega) | exact jokr4 (by omega) | exact jkt_r _ _ | exact jkt_l (by decide) | exact jfk_l (by decide) | exact jkt_t _ | exact jkt_r6 _ _ | exact jkt_t6 _ | (simp only [jok, jlen]; omega) | decide) only [jm_k hL, jm_gi hL, jm_gr hL, jm_gl hL, jm_pi hL, jm_pl hL, jn_ai hL, jn_ab hL, jn_az hL, jn_al hL, jn_ar hL, jn_an hL, jn_si hL, jn_sb hL, jn_sz hL, jn_sl hL, Option.bind_some, xc, xl, jsA_X, jsI_X, jsG_X, hK _ _, jlk, jmx, jlit, nI_add, u4, v4, vz, jsA_I]
    · rw [jsI_fn (fun z => by cases z), jsA_I, jsA_I, jsA_I, jsI_fn (fun z => by cases z)]
    · rw [jsI_A, jsA_fn (fun z => by cases z), jsA_fn (fun z => by cases z), jsA_fn (fun z => by cases z), jsI_A]
    · rw [jsI_A, jsA_fn (fun z => by cases z), jsA_fn (fun z => by cases z), jsA_fn (fun z => by cases z), jsI_A]
    · rw [jsI_A, jsA_ne (jone (by decide)), jsA_ne (jone (by decide)), jsA_c, jsI_A]
    · rw [jsI_A, jsA_ne (jone (by decide)), jsA_c, jsA_ne (jone (by decide)), jsI_A]
      rfl
    · rw [jsI_A, jsA_c, jsA_ne (jone (by decide)), jsA_ne (jone (by decide)), jsI_A]
    · rw [jsI_c, jsA_I, jsA_I, jsA_I, jsI_c]
      by_cases c4 : k = 4
      · rw [if_pos c4, if_neg (by omega), if_pos c4]
      · rw [if_neg c4, if_neg c4]
  unfold f_PatternParser_openGroup
  cases y with
  | none =>
    have h5 := hy.n rfl
    obtain ⟨T, b1, b2, b3, b4, b5, b6, b7, b8, b9⟩ := e34 S hK h4 hz
    refine ⟨T, ?_, b2, b3, b4, fun p => by rw [b5]; rfl, b6, b7, b8, b9⟩
    have g5 : xgi (jW L ω S) (jad L (jo 31)) 6 5 = some (-1) := by simp (disch := first | omega | rfl | assumption | exact jokr (by decide) (by omega) | exact jokr4 (by omega) | exact jkt_r _ _ | exact jkt_l (by decide) | exact jfk_l (by decide) | exact jkt_t _ | exact jkt_r6 _ _ | exact jkt_t6 _ | (simp only [jok, jlen]; omega) | decide) only [jm_gi hL, h5]
    rw [g5, Option.bind_some, if_pos rfl]
    exact b1
  | some g =>
    obtain ⟨hg, h5⟩ := hy.s g rfl
    obtain ⟨T1, a1, a2, a3, a4, a5⟩ := jPp_settle hL (ω := ω) hK hj (by omega) hx hg h4 h5 hr hz hz10 (k := fun w => f_PatternParser_openGroup_34 (jad L (jo 31)) (jad L (jl j 1)) w)
    obtain ⟨T, b1, b2, b3, b4, b5, b6, b7, b8, b9⟩ := e34 T1 (hK.of a2.1) (by rw [a3]; exact h4) (by rw [a3]; exact hz)
    have n32 : ¬ (fun c => c = jo 33 ∨ c = jl j 3) (jo 32) := fun z => by rcases z with z | z <;> first | exact absurd z (jone (by decide)) | cases z
    have n34 : ¬ (fun c => c = jo 33 ∨ c = jl j 3) (jo 34) := fun z => by rcases z with z | z <;> first | exact absurd z (jone (by decide)) | cases z
    have nl2 : ¬ (fun c => c = jo 33 ∨ c = jl j 3) (jl j 2) := fun z => by rcases z with z | z <;> first | exact absurd z (jone (by decide)) | cases z
    refine ⟨T, ?_, (a2.weak (fun c hc => by rcases hc with z | z <;> subst z; exact jP33 j; exact jPl3 j)).trans b2, by rw [b3, a3], by rw [b4, (a2.2.2 _ nl2).2], fun p => by rw [b5]; exact a5 p, fun e => by rw [b6, (a2.2.2 _ n32).2], fun e => ?_, fun e => by rw [b8, (a2.2.2 _ n34).2], fun k => by rw [b9, a3]⟩
    · have g5 : xgi (jW L ω S) (jad L (jo 31)) 6 5 = some (nI (jenc g)) := by simp (disch := first | omega | rfl | assumption | exact jokr (by decide) (by omega) | exact jokr4 (by omega) | exact jkt_r _ _ | exact jkt_l (by decide) | exact jfk_l (by decide) | exact jkt_t _ | exact jkt_r6 _ _ | exact jkt_t6 _ | (simp only [jok, jlen]; omega) | decide) only [jm_gi hL, h5]
      refine Eq.trans ?_ (a1.trans b1)
      rw [g5, Option.bind_some, if_neg (jenc_ne hg)]
    · rw [b7]
      by_cases c : e = d + 1
      · rw [if_pos c, if_pos c]
      · rw [if_neg c, if_neg c]; exact a4 e
theorem jPp_endRow {L : jL} (hL : jgood L) {ω : xS} {S : jSt} {sw ps wy : Nat} (hK : jLK S sw ps wy) {j d z : Nat} (hj : j < 32) (hd : d ≤ 40) {u x y : jG} (hu : jGg u) (hx : jGg x) (hy : jGg y) (h4 : jgI S (jo 31) 4 = nI d) (h5 : jgI S (jo 31) 5 = nI (jenc y)) (he : jgA S (jo 32) d = nI (jenc u)) (hr : jgA S (jo 33) d = nI (jenc x)) (hz : jgI S (jl j 1) 4 = nI z) (hz10 : z ≤ 10) {c : Nat} (hc : c = 124 ∨ c = 41 ∨ c = 34) : ∃ T, f_PatternParser_endRow (jad L (jo 31)) (nI c) (jad L (jl j 1)) (jW L ω S) = some (jW L ω T) ∧ jfq (jisP j) S T ∧ jgI T (jl j 1) = jgI S (jl j 1) ∧ jgA T (jl j 2) = jgA S (jl j 2) ∧ (∀ p, jgA T (jl j 3) p = jchn S j z x y p) ∧ jgA T (jo 34) = jgA S (jo 34) ∧ (c = 124 → (∀ e, jgA T (jo 32) e = if e = d then nI (jenc (jug u (jcg x y))) else jgA S (jo 32) e) ∧ (∀ e, jgA T (jo 33) e = if e = d then nI (jenc (0, 0, 1)) else jgA S (jo 33) e) ∧ ∀ k, jgI T (jo 31) k = if k = 5 then -1 else jgI S (jo 31) k) ∧ (c ≠ 124 → jgA T (jo 32) = jgA S (jo 32) ∧ jgA T (jo 33) = jgA S (jo 33) ∧ ∀ k, jgI T (jo 31) k = if k = 4 then nI (d - 1) else if k = 5 then nI (jenc (jug u (jcg x y))) else if k = 6 then jgA S (jo 34) d else if k = 7 then nI 1 else if k = 8 then nI (if c = 34 then 1 else 0) else jgI S (jo 31) k) := by
  obtain ⟨T1, a1, a2, a3⟩ := jP_chain hL (ω := ω) hK hj hz hz10 hx hy
  have hK1 := hK.of a2.2.2.1
  have n : ∀ c', c' ≠ jl j 3 → jgA T1 c' = jgA S c' := fun c' hc' => a2.2.2.2 c' hc'
  have i4 : jgI T1 (jo 31) 4 = nI d := by rw [a2.1]; exact h4
  have eor : nI (jenc u) ||| nI (jenc (jcg x y)) = nI (jenc (jug u (jcg x y))) := by rw [jorA, jenc_or]; rfl
  have mx : xmax (nI 0) (nI d - nI 1) = nI (d - 1) := by
    rcases Nat.eq_zero_or_pos d with q | q
    · subst q; decide
    · rw [jsub q, jmax (by omega) (by omega), Nat.zero_max]
  have r1 : xgr (jW L ω S) (jad L (jo 31)) 6 1 = some (jad L (jo 32)) := by simp (disch := first | omega | rfl | assumption | exact jokr (by decide) (by omega) | exact jokr4 (by omega) | exact jkt_r _ _ | exact jkt_l (by decide) | exact jfk_l (by decide) | exact jkt_t _ | exact jkt_r6 _ _ | exact jkt_t6 _ | (simp only [jok, jlen]; omega) | decide) only [jm_k hL, jm_gi hL, jm_gr hL, jm_gl hL, jm_pi hL, jm_pl hL, jn_ai hL, jn_ab hL, jn_az hL, jn_al hL, jn_ar hL, jn_an hL, jn_si hL, jn_sb hL, jn_sz hL, jn_sl hL, Option.bind_some, xc, xl, jsA_X, jsI_X, jsG_X, hK _ _, jlk, jmx]
  have r2 : xgr (jW L ω S) (jad L (jo 31)) 6 2 = some (jad L (jo 33)) := by simp (disch := first | omega | rfl | assumption | exact jokr (by decide) (by omega) | exact jokr4 (by omega) | exact jkt_r _ _ | exact jkt_l (by decide) | exact jfk_l (by decide) | exact jkt_t _ | exact jkt_r6 _ _ | exact jkt_t6 _ | (simp only [jok, jlen]; omega) | decide) only [jm_k hL, jm_gi hL, jm_gr hL, jm_gl hL, jm_pi hL, jm_pl hL, jn_ai hL, jn_ab hL, jn_az hL, jn_al hL, jn_ar hL, jn_an hL, jn_si hL, jn_sb hL, jn_sz hL, jn_sl hL, Option.bind_some, xc, xl, jsA_X, jsI_X, jsG_X, hK _ _, jlk, jmx]
  have g4 : xgi (jW L ω S) (jad L (jo 31)) 6 4 = some (nI d) := by simp (disch := first | omega | rfl | assumption | exact jokr (by decide) (by omega) | exact jokr4 (by omega) | exact jkt_r _ _ | exact jkt_l (by decide) | exact jfk_l (by decide) | exact jkt_t _ | exact jkt_r6 _ _ | exact jkt_t6 _ | (simp only [jok, jlen]; omega) | decide) only [jm_gi hL, h4]
  have g5 : xgi (jW L ω S) (jad L (jo 31)) 6 5 = some (nI (jenc y)) := by simp (disch := first | omega | rfl | assumption | exact jokr (by decide) (by omega) | exact jokr4 (by omega) | exact jkt_r _ _ | exact jkt_l (by decide) | exact jfk_l (by decide) | exact jkt_t _ | exact jkt_r6 _ _ | exact jkt_t6 _ | (simp only [jok, jlen]; omega) | decide) only [jm_gi hL, h5]
  have a32 : xai (jW L ω S) (jad L (jo 32)) (nI d) = some (nI (jenc u)) := by simp (disch := first | omega | rfl | assumption | exact jokr (by decide) (by omega) | exact jokr4 (by omega) | exact jkt_r _ _ | exact jkt_l (by decide) | exact jfk_l (by decide) | exact jkt_t _ | exact jkt_r6 _ _ | exact jkt_t6 _ | (simp only [jok, jlen]; omega) | decide) only [jn_ai hL, he]
  have a33 : xai (jW L ω S) (jad L (jo 33)) (nI d) = some (nI (jenc x)) := by simp (disch := first | omega | rfl | assumption | exact jokr (by decide) (by omega) | exact jokr4 (by omega) | exact jkt_r _ _ | exact jkt_l (by decide) | exact jfk_l (by decide) | exact jkt_t _ | exact jkt_r6 _ _ | exact jkt_t6 _ | (simp only [jok, jlen]; omega) | decide) only [jn_ai hL, hr]
  unfold f_PatternParser_endRow
  rw [r1, Option.bind_some, g4, Option.bind_some, a32, Option.bind_some, r2, Option.bind_some, Option.bind_some, a33, Option.bind_some, g5, Option.bind_some, jkl1 hL hj, a1]
  simp only [xc]
  rcases hc with hc | hc
  · subst hc
    refine ⟨jsI (jsA (jsA T1 (jo 32) d (nI (jenc (jug u (jcg x y))))) (jo 33) d (nI 1048576)) (jo 31) 5 (-1), ?_, (((a2.q.weak (fun c hc => hc ▸ jPl3 j)).trans (jfq.sA _ _ _ (jP32 j))).trans (jfq.sA _ _ _ (jP33 j))).trans (jfq.sI _ _ _ (jP31 j)), ?_, ?_, fun p => ?_, ?_, fun _ => ⟨fun e => ?_, fun e => ?_, fun k => ?_⟩, fun z => absurd rfl z⟩
    · have hK := hK1
      rw [if_pos (show nI 124 = (124 : Int32) from rfl)]
      simp (disch := first | omega | rfl | assumption | exact jokr (by decide) (by omega) | exact jokr4 (by omega) | exact jkt_r _ _ | exact jkt_l (by decide) | exact jfk_l (by decide) | exact jkt_t _ | exact jkt_r6 _ _ | exact jkt_t6 _ | (simp only [jok, jlen]; omega) | decide) only [jm_k hL, jm_gi hL, jm_gr hL, jm_gl hL, jm_pi hL, jm_pl hL, jn_ai hL, jn_ab hL, jn_az hL, jn_al hL, jn_ar hL, jn_an hL, jn_si hL, jn_sb hL, jn_sz hL, jn_sl hL, Option.bind_some, xc, xl, jsA_X, jsI_X, jsG_X, hK _ _, jlk, jmx, jlit, jsA_I, i4, eor]
    · rw [jsI_fn (fun z => by cases z), jsA_I, jsA_I, a2.1]
    · rw [jsI_A, jsA_fn (fun z => by cases z), jsA_fn (fun z => by cases z), n _ (fun z => by cases z)]
    · rw [jsI_A, jsA_ne (fun z => by cases z), jsA_ne (fun z => by cases z)]; exact a3 p
    · rw [jsI_A, jsA_fn (jone (by decide)), jsA_fn (jone (by decide)), n _ (fun z => by cases z)]
    · rw [jsI_A, jsA_ne (jone (by decide)), jsA_c, n _ (fun z => by cases z)]
    · rw [jsI_A, jsA_c, jsA_ne (jone (by decide)), n _ (fun z => by cases z)]; rfl
    · rw [jsI_c, jsA_I, jsA_I, a2.1]
  · have hne : c ≠ 124 := by omega
    have n124 : ¬ nI c = (124 : Int32) := fun z => by rw [jlit, nI_eq (by omega) (by omega)] at z; exact hne z
    rw [if_neg n124]
    have fin : ∀ v, v ≤ 1 → ∃ T, (xp (jW L ω (jsI (jsI (jsI T1 (jo 31) 5 (nI (jenc (jug u (jcg x y))))) (jo 31) 6 (jgA S (jo 34) d)) (jo 31) 7 (nI 1))) (jad L (jo 31)) 6 8 (.int (nI v))).bind (fun w22 => (xgi w22 (jad L (jo 31)) 6 4).bind fun t23 => (xp w22 (jad L (jo 31)) 6 4 (.int (xmax 0 (t23 - 1)))).bind fun w24 => some w24) = some (jW L ω T) ∧ jfq (jisP j) S T ∧ jgI T (jl j 1) = jgI S (jl j 1) ∧ jgA T = jgA T1 ∧ ∀ k, jgI T (jo 31) k = if k = 4 then nI (d - 1) else if k = 5 then nI (jenc (jug u (jcg x y))) else if k = 6 then jgA S (jo 34) d else if k = 7 then nI 1 else if k = 8 then nI v else jgI S (jo 31) k := by
      intro v hv
      have w4 : jgI (jsI (jsI (jsI (jsI T1 (jo 31) 5 (nI (jenc (jug u (jcg x y))))) (jo 31) 6 (jgA S (jo 34) d)) (jo 31) 7 (nI 1)) (jo 31) 8 (nI v)) (jo 31) 4 = nI d := by rw [jsI_c, if_neg (by decide), jsI_c, if_neg (by decide), jsI_c, if_neg (by decide), jsI_c, if_neg (by decide)]; exact i4
      refine ⟨jsI (jsI (jsI (jsI (jsI T1 (jo 31) 5 (nI (jenc (jug u (jcg x y))))) (jo 31) 6 (jgA S (jo 34) d)) (jo 31) 7 (nI 1)) (jo 31) 8 (nI v)) (jo 31) 4 (nI (d - 1)), ?_, (((((a2.q.weak (fun c hc => hc ▸ jPl3 j)).trans (jfq.sI _ _ _ (jP31 j))).trans (jfq.sI _ _ _ (jP31 j))).trans (jfq.sI _ _ _ (jP31 j))).trans (jfq.sI _ _ _ (jP31 j))).trans (jfq.sI _ _ _ (jP31 j)), ?_, rfl, fun k => ?_⟩
      · simp (disch := first | omega | rfl | assumption | exact jokr (by decide) (by omega) | exact jokr4 (by omega) | exact jkt_r _ _ | exact jkt_l (by decide) | exact jfk_l (by decide) | exact jkt_t _ | exact jkt_r6 _ _ | exact jkt_t6 _ | (simp only [jok, jlen]; omega) | decide) only [jm_k hL, jm_gi hL, jm_gr hL, jm_gl hL, jm_pi hL, jm_pl hL, jn_ai hL, jn_ab hL, jn_az hL, jn_al hL, jn_ar hL, jn_an hL, jn_si hL, jn_sb hL, jn_sz hL, jn_sl hL, Option.bind_some, xc, xl, jlit, w4, mx]
      · rw [jsI_fn (fun z => by cases z), jsI_fn (fun z => by cases z), jsI_fn (fun z => by cases z), jsI_fn (fun z => by cases z), jsI_fn (fun z => by cases z), a2.1]
      · rw [jsI_c]
        by_cases c4 : k = 4
        · rw [if_pos c4, if_pos c4]
        · rw [if_neg c4, if_neg c4, jsI_c]
          by_cases c8 : k = 8
          · rw [if_pos c8, if_neg (by omega), if_neg (by omega), if_neg (by omega), if_pos c8]
          · rw [if_neg c8, jsI_c]
            by_cases c7 : k = 7
            · rw [if_pos c7, if_neg (by omega), if_neg (by omega), if_pos c7]
            · rw [if_neg c7, jsI_c]
              by_cases c6 : k = 6
              · rw [if_pos c6, if_neg (by omega), if_pos c6]
              · rw [if_neg c6, jsI_c]
                by_cases c5 : k = 5
                · rw [if_pos c5, if_pos c5]
                · rw [if_neg c5, if_neg c5, if_neg c6, if_neg c7, if_neg c8, a2.1]
    have g34 : jgA T1 (jo 34) d = jgA S (jo 34) d := by rw [n _ (fun z => by cases z)]
    have hK := hK1
    have p5 : xp (jW L ω T1) (jad L (jo 31)) 6 5 (.int (nI (jenc u) ||| nI (jenc (jcg x y)))) = some (jW L ω (jsI T1 (jo 31) 5 (nI (jenc (jug u (jcg x y)))))) := by rw [eor]; simp (disch := first | omega | rfl | assumption | exact jokr (by decide) (by omega) | exact jokr4 (by omega) | exact jkt_r _ _ | exact jkt_l (by decide) | exact jfk_l (by decide) | exact jkt_t _ | exact jkt_r6 _ _ | exact jkt_t6 _ | (simp only [jok, jlen]; omega) | decide) only [jm_pi hL]
    have r3 : xgr (jW L ω (jsI T1 (jo 31) 5 (nI (jenc (jug u (jcg x y)))))) (jad L (jo 31)) 6 3 = some (jad L (jo 34)) := by simp (disch := first | omega | rfl | assumption | exact jokr (by decide) (by omega) | exact jokr4 (by omega) | exact jkt_r _ _ | exact jkt_l (by decide) | exact jfk_l (by decide) | exact jkt_t _ | exact jkt_r6 _ _ | exact jkt_t6 _ | (simp only [jok, jlen]; omega) | decide) only [jm_k hL, jm_gi hL, jm_gr hL, jm_gl hL, jm_pi hL, jm_pl hL, jn_ai hL, jn_ab hL, jn_az hL, jn_al hL, jn_ar hL, jn_an hL, jn_si hL, jn_sb hL, jn_sz hL, jn_sl hL, Option.bind_some, xc, xl, jsA_X, jsI_X, jsG_X, hK _ _, jlk, jmx]
    have k4 : jgI (jsI T1 (jo 31) 5 (nI (jenc (jug u (jcg x y))))) (jo 31) 4 = nI d := by rw [jsI_c, if_neg (by decide)]; exact i4
    have g4' : xgi (jW L ω (jsI T1 (jo 31) 5 (nI (jenc (jug u (jcg x y)))))) (jad L (jo 31)) 6 4 = some (nI d) := by simp (disch := first | omega | rfl | assumption | exact jokr (by decide) (by omega) | exact jokr4 (by omega) | exact jkt_r _ _ | exact jkt_l (by decide) | exact jfk_l (by decide) | exact jkt_t _ | exact jkt_r6 _ _ | exact jkt_t6 _ | (simp only [jok, jlen]; omega) | decide) only [jm_gi hL, k4]
    have ai : xai (jW L ω (jsI T1 (jo 31) 5 (nI (jenc (jug u (jcg x y)))))) (jad L (jo 34)) (nI d) = some (jgA S (jo 34) d) := by simp (disch := first | omega | rfl | assumption | exact jokr (by decide) (by omega) | exact jokr4 (by omega) | exact jkt_r _ _ | exact jkt_l (by decide) | exact jfk_l (by decide) | exact jkt_t _ | exact jkt_r6 _ _ | exact jkt_t6 _ | (simp only [jok, jlen]; omega) | decide) only [jn_ai hL, jsI_A, g34]
    have p6 : xp (jW L ω (jsI T1 (jo 31) 5 (nI (jenc (jug u (jcg x y)))))) (jad L (jo 31)) 6 6 (.int (jgA S (jo 34) d)) = some (jW L ω (jsI (jsI T1 (jo 31) 5 (nI (jenc (jug u (jcg x y))))) (jo 31) 6 (jgA S (jo 34) d))) := by simp (disch := first | omega | rfl | assumption | exact jokr (by decide) (by omega) | exact jokr4 (by omega) | exact jkt_r _ _ | exact jkt_l (by decide) | exact jfk_l (by decide) | exact jkt_t _ | exact jkt_r6 _ _ | exact jkt_t6 _ | (simp only [jok, jlen]; omega) | decide) only [jm_pi hL]
    have p7 : xp (jW L ω (jsI (jsI T1 (jo 31) 5 (nI (jenc (jug u (jcg x y))))) (jo 31) 6 (jgA S (jo 34) d))) (jad L (jo 31)) 6 7 (.int 1) = some (jW L ω (jsI (jsI (jsI T1 (jo 31) 5 (nI (jenc (jug u (jcg x y))))) (jo 31) 6 (jgA S (jo 34) d)) (jo 31) 7 (nI 1))) := by
      rw [show (1 : Int32) = nI 1 from rfl]
      simp (disch := first | omega | rfl | assumption | exact jokr (by decide) (by omega) | exact jokr4 (by omega) | exact jkt_r _ _ | exact jkt_l (by decide) | exact jfk_l (by decide) | exact jkt_t _ | exact jkt_r6 _ _ | exact jkt_t6 _ | (simp only [jok, jlen]; omega) | decide) only [jm_pi hL]
    rw [p5, Option.bind_some, r3, Option.bind_some, g4', Option.bind_some, ai, Option.bind_some, p6, Option.bind_some, p7, Option.bind_some]
    rcases hc with hc | hc
    · subst hc
      obtain ⟨T, b1, b2, b3, b4, b5⟩ := fin 0 (Nat.zero_le _)
      refine ⟨T, ?_, b2, b3, by rw [b4, n _ (fun z => by cases z)], fun p => by rw [b4]; exact a3 p, by rw [b4, n _ (fun z => by cases z)], fun z => absurd z (by decide), fun _ => ⟨by rw [b4, n _ (fun z => by cases z)], by rw [b4, n _ (fun z => by cases z)], b5⟩⟩
      rw [if_neg (show ¬ nI 41 = (34 : Int32) by decide)]
      exact b1
    · subst hc
      obtain ⟨T, b1, b2, b3, b4, b5⟩ := fin 1 (Nat.le_refl _)
      refine ⟨T, ?_, b2, b3, by rw [b4, n _ (fun z => by cases z)], fun p => by rw [b4]; exact a3 p, by rw [b4, n _ (fun z => by cases z)], fun z => absurd z (by decide), fun _ => ⟨by rw [b4, n _ (fun z => by cases z)], by rw [b4, n _ (fun z => by cases z)], b5⟩⟩
      rw [if_pos (show nI 34 = (34 : Int32) from rfl)]
      exact b1
