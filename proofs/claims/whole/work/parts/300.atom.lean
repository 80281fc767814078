/-! the class adds an atom -/
theorem jPp_atom {L : jL} (hL : jgood L) {ω : xS} {S : jSt} {sw ps wy : Nat} (hK : jLK S sw ps wy) {j d z b : Nat} (hj : j < 32) (hd : d ≤ 40) {x : jG} {y : Option jG} (hx : jGg x) (hy : jItm S y) (h4 : jgI S (jo 31) 4 = nI d) (hr : jgA S (jo 33) d = nI (jenc x)) (hz : jgI S (jl j 1) 4 = nI z) (hz10 : z ≤ 10) (hb : b < 512) : ∃ T, f_PatternParser_addAtom (jad L (jo 31)) (nI b) (jad L (jl j 1)) (jW L ω S) = some (jW L ω T) ∧ jfq (jisP j) S T ∧ jgA T (jo 32) = jgA S (jo 32) ∧ jgA T (jo 34) = jgA S (jo 34) ∧ (∀ e, jgA T (jo 33) e = jrow S d x y e) ∧ (∀ p, jgA T (jl j 3) p = jfol S j z x y p) ∧ (z < 10 → (∀ k, jgI T (jl j 1) k = if k = 4 then nI (z + 1) else jgI S (jl j 1) k) ∧ (∀ l, l < 9 → jgA T (jl j 2) l = if b.testBit l = true then jgA S (jl j 2) l ||| nI (2 ^ z) else jgA S (jl j 2) l) ∧ ∀ k, jgI T (jo 31) k = if k = 5 then nI (jenc (2 ^ z, 2 ^ z, 0)) else if k = 6 then nI z else if k = 7 then nI 1 else jgI S (jo 31) k) ∧ (z = 10 → (∀ k, jgI T (jl j 1) k = if k = 5 then nI 1 else jgI S (jl j 1) k) ∧ ∀ k, jgI T (jo 31) k = if k = 5 then nI (jenc (0, 0, 1)) else if k = 6 then nI z else if k = 7 then nI 1 else jgI S (jo 31) k) := by
  have tail : ∀ U : jSt, jLK U sw ps wy → jgI U (jl j 1) 4 = nI z → ∃ T, ((xgi (jW L ω U) (jad L (jl j 1)) 7 4).bind fun t3 => (xp (jW L ω U) (jad L (jo 31)) 6 6 (.int t3)).bind fun w4 => xc (xk w4 (jad L (jl j 1)) 7 (f_Positions_add (jad L (jl j 1)) (nI b) w4)) fun t6 w7 => (xp w7 (jad L (jo 31)) 6 5 (.int t6)).bind fun w8 => (xp w8 (jad L (jo 31)) 6 7 (.int 1)).bind fun w9 => some w9) = some (jW L ω T) ∧ jfq (fun c => c = jo 31 ∨ c = jl j 1 ∨ c = jl j 2) U T ∧ (z < 10 → (∀ k, jgI T (jl j 1) k = if k = 4 then nI (z + 1) else jgI U (jl j 1) k) ∧ (∀ l, l < 9 → jgA T (jl j 2) l = if b.testBit l = true then jgA U (jl j 2) l ||| nI (2 ^ z) else jgA U (jl j 2) l) ∧ ∀ k, jgI T (jo 31) k = if k = 5 then nI (jenc (2 ^ z, 2 ^ z, 0)) else if k = 6 then nI z else if k = 7 then nI 1 else jgI U (jo 31) k) ∧ (z = 10 → (∀ k, jgI T (jl j 1) k = if k = 5 then nI 1 else jgI U (jl j 1) k) ∧ ∀ k, jgI T (jo 31) k = if k = 5 then nI (jenc (0, 0, 1)) else if k = 6 then nI z else if k = 7 then nI 1 else jgI U (jo 31) k) := by
    intro U hK uz
    have vz : jgI (jsI U (jo 31) 6 (nI z)) (jl j 1) 4 = nI z := by rw [jsI_fn (fun z => by cases z)]; exact uz
    have g4 : xgi (jW L ω U) (jad L (jl j 1)) 7 4 = some (nI z) := by simp (disch := first | omega | rfl | assumption | exact jokr (by decide) (by omega) | exact jokr4 (by omega) | exact jkt_r _ _ | exact jkt_l (by decide) | exact jfk_l (by decide) | exact jkt_t _ | exact jkt_r6 _ _ | exact jkt_t6 _ | (simp only [jok, jlen]; omega) | decide) only [jm_gi hL, uz]
    have p6 : xp (jW L ω U) (jad L (jo 31)) 6 6 (.int (nI z)) = some (jW L ω (jsI U (jo 31) 6 (nI z))) := by simp (disch := first | omega | rfl | assumption | exact jokr (by decide) (by omega) | exact jokr4 (by omega) | exact jkt_r _ _ | exact jkt_l (by decide) | exact jfk_l (by decide) | exact jkt_t _ | exact jkt_r6 _ _ | exact jkt_t6 _ | (simp only [jok, jlen]; omega) | decide) only [jm_pi hL]
    have p5 : ∀ (V : jSt) (v : Int32), xp (jW L ω V) (jad L (jo 31)) 6 5 (.int v) = some (jW L ω (jsI V (jo 31) 5 v)) := fun V v => by simp (disch := first | omega | rfl | assumption | exact jokr (by decide) (by omega) | exact jokr4 (by omega) | exact jkt_r _ _ | exact jkt_l (by decide) | exact jfk_l (by decide) | exact jkt_t _ | exact jkt_r6 _ _ | exact jkt_t6 _ | (simp only [jok, jlen]; omega) | decide) only [jm_pi hL]
    have p7 : ∀ (V : jSt) (v : Int32), xp (jW L ω V) (jad L (jo 31)) 6 7 (.int v) = some (jW L ω (jsI V (jo 31) 7 v)) := fun V v => by simp (disch := first | omega | rfl | assumption | exact jokr (by decide) (by omega) | exact jokr4 (by omega) | exact jkt_r _ _ | exact jkt_l (by decide) | exact jfk_l (by decide) | exact jkt_t _ | exact jkt_r6 _ _ | exact jkt_t6 _ | (simp only [jok, jlen]; omega) | decide) only [jm_pi hL]
    rw [g4, Option.bind_some, p6, Option.bind_some, jkl1 hL hj]
    have I31 : ∀ (V : jSt) (w : Int32), jgI V (jo 31) = jgI (jsI U (jo 31) 6 (nI z)) (jo 31) → ∀ k, jgI (jsI (jsI V (jo 31) 5 w) (jo 31) 7 (nI 1)) (jo 31) k = if k = 5 then w else if k = 6 then nI z else if k = 7 then nI 1 else jgI U (jo 31) k := fun V w hV k => by
      rw [jsI_c]
      by_cases c7 : k = 7
      · rw [if_pos c7, if_neg (by omega), if_neg (by omega), if_pos c7]
      · rw [if_neg c7, jsI_c]
        by_cases c5 : k = 5
        · rw [if_pos c5, if_pos c5]
        · rw [if_neg c5, if_neg c5, hV, jsI_c]
          by_cases c6 : k = 6
          · rw [if_pos c6, if_pos c6]
          · rw [if_neg c6, if_neg c6, if_neg c7]
    rcases Nat.lt_or_ge z 10 with c | c
    · obtain ⟨T1, a1, a2, a3, a4⟩ := jP_add hL (ω := ω) (S := jsI U (jo 31) 6 (nI z)) hK (b := b) hj vz c hb
      have fA : jfq (fun c => c = jo 31 ∨ c = jl j 1 ∨ c = jl j 2) U T1 := jfq.trans (jfq.sI U 6 (nI z) (Or.inl rfl)) (a2.weak (fun c hc => Or.inr hc))
      refine ⟨jsI (jsI T1 (jo 31) 5 (nI (jenc (2 ^ z, 2 ^ z, 0)))) (jo 31) 7 (nI 1), ?_, (fA.trans (jfq.sI _ _ _ (Or.inl rfl))).trans (jfq.sI _ _ _ (Or.inl rfl)), fun _ => ⟨fun k => ?_, fun l hl => ?_, I31 T1 _ ?_⟩, fun z => by omega⟩
      · rw [a1]
        simp only [xc]
        rw [p5, Option.bind_some, show (1 : Int32) = nI 1 from rfl, p7, Option.bind_some]
      · rw [jsI_fn (fun z => by cases z), jsI_fn (fun z => by cases z), a3, jsI_c, jsI_fn (fun z => by cases z)]
      · rw [jsI_A, jsI_A]; exact a4 l hl
      · rw [a3, jsI_fn (fun z => by cases z)]
    · have hz10' : z = 10 := by omega
      have a1 := jP_add10 hL (ω := ω) (S := jsI U (jo 31) 6 (nI z)) hK (v := nI b) hj vz hz10'
      have fA : jfq (fun c => c = jo 31 ∨ c = jl j 1 ∨ c = jl j 2) U (jsI (jsI U (jo 31) 6 (nI z)) (jl j 1) 5 (nI 1)) := jfq.trans (jfq.sI U 6 (nI z) (Or.inl rfl)) (jfq.sI _ _ _ (Or.inr (Or.inl rfl)))
      refine ⟨jsI (jsI (jsI (jsI U (jo 31) 6 (nI z)) (jl j 1) 5 (nI 1)) (jo 31) 5 (nI (jenc (0, 0, 1)))) (jo 31) 7 (nI 1), ?_, (fA.trans (jfq.sI _ _ _ (Or.inl rfl))).trans (jfq.sI _ _ _ (Or.inl rfl)), fun z => by omega, fun _ => ⟨fun k => ?_, I31 _ _ ?_⟩⟩
      · rw [a1]
        simp only [xc]
        rw [p5, Option.bind_some, show (1 : Int32) = nI 1 from rfl, p7, Option.bind_some]
      · rw [jsI_fn (fun z => by cases z), jsI_fn (fun z => by cases z), jsI_c, jsI_fn (fun z => by cases z)]
      · rw [jsI_fn (fun z => by cases z)]
  have wk : ∀ c, (fun c => c = jo 31 ∨ c = jl j 1 ∨ c = jl j 2) c → jisP j c := fun c hc => by
    rcases hc with z | z | z <;> subst z
    · exact jP31 j
    · exact jPl1 j
    · exact jPl2 j
  have n32 : ¬ (fun c => c = jo 31 ∨ c = jl j 1 ∨ c = jl j 2) (jo 32) := fun z => by rcases z with z | z | z <;> first | exact absurd z (jone (by decide)) | cases z
  have n33 : ¬ (fun c => c = jo 31 ∨ c = jl j 1 ∨ c = jl j 2) (jo 33) := fun z => by rcases z with z | z | z <;> first | exact absurd z (jone (by decide)) | cases z
  have n34 : ¬ (fun c => c = jo 31 ∨ c = jl j 1 ∨ c = jl j 2) (jo 34) := fun z => by rcases z with z | z | z <;> first | exact absurd z (jone (by decide)) | cases z
  have nl3 : ¬ (fun c => c = jo 31 ∨ c = jl j 1 ∨ c = jl j 2) (jl j 3) := fun z => by rcases z with z | z | z <;> first | exact absurd z (jone (by decide)) | cases z
  unfold f_PatternParser_addAtom
  cases y with
  | none =>
    have h5 := hy.n rfl
    obtain ⟨T, b1, b2, b3, b4⟩ := tail S hK hz
    refine ⟨T, ?_, b2.weak wk, (b2.2.2 _ n32).2, (b2.2.2 _ n34).2, fun e => by rw [(b2.2.2 _ n33).2]; rfl, fun p => by rw [(b2.2.2 _ nl3).2]; rfl, b3, b4⟩
    have g5 : xgi (jW L ω S) (jad L (jo 31)) 6 5 = some (-1) := by simp (disch := first | omega | rfl | assumption | exact jokr (by decide) (by omega) | exact jokr4 (by omega) | exact jkt_r _ _ | exact jkt_l (by decide) | exact jfk_l (by decide) | exact jkt_t _ | exact jkt_r6 _ _ | exact jkt_t6 _ | (simp only [jok, jlen]; omega) | decide) only [jm_gi hL, h5]
    rw [g5, Option.bind_some, if_pos rfl]
    exact b1
  | some g =>
    obtain ⟨hg, h5⟩ := hy.s g rfl
    obtain ⟨T1, a1, a2, a3, a4, a5⟩ := jPp_settle hL (ω := ω) hK hj hd hx hg h4 h5 hr hz hz10 (k := fun w => (xgi w (jad L (jl j 1)) 7 4).bind fun t3 => (xp w (jad L (jo 31)) 6 6 (.int t3)).bind fun w4 => xc (xk w4 (jad L (jl j 1)) 7 (f_Positions_add (jad L (jl j 1)) (nI b) w4)) fun t6 w7 => (xp w7 (jad L (jo 31)) 6 5 (.int t6)).bind fun w8 => (xp w8 (jad L (jo 31)) 6 7 (.int 1)).bind fun w9 => some w9)
    obtain ⟨T, b1, b2, b3, b4⟩ := tail T1 (hK.of a2.1) (by rw [a3]; exact hz)
    have m32 : ¬ (fun c => c = jo 33 ∨ c = jl j 3) (jo 32) := fun z => by rcases z with z | z <;> first | exact absurd z (jone (by decide)) | cases z
    have m34 : ¬ (fun c => c = jo 33 ∨ c = jl j 3) (jo 34) := fun z => by rcases z with z | z <;> first | exact absurd z (jone (by decide)) | cases z
    have ml2 : ¬ (fun c => c = jo 33 ∨ c = jl j 3) (jl j 2) := fun z => by rcases z with z | z <;> first | exact absurd z (jone (by decide)) | cases z
    refine ⟨T, ?_, (a2.weak (fun c hc => by rcases hc with z | z <;> subst z; exact jP33 j; exact jPl3 j)).trans (b2.weak wk), by rw [(b2.2.2 _ n32).2, (a2.2.2 _ m32).2], by rw [(b2.2.2 _ n34).2, (a2.2.2 _ m34).2], fun e => by rw [(b2.2.2 _ n33).2]; exact a4 e, fun p => by rw [(b2.2.2 _ nl3).2]; exact a5 p, fun q => ?_, fun q => ?_⟩
    · have g5 : xgi (jW L ω S) (jad L (jo 31)) 6 5 = some (nI (jenc g)) := by simp (disch := first | omega | rfl | assumption | exact jokr (by decide) (by omega) | exact jokr4 (by omega) | exact jkt_r _ _ | exact jkt_l (by decide) | exact jfk_l (by decide) | exact jkt_t _ | exact jkt_r6 _ _ | exact jkt_t6 _ | (simp only [jok, jlen]; omega) | decide) only [jm_gi hL, h5]
      refine Eq.trans ?_ (a1.trans b1)
      rw [g5, Option.bind_some, if_neg (jenc_ne hg)]
    · have := b3 q
      rw [a3, (a2.2.2 _ ml2).2] at this
      exact this
    · have := b4 q
      rw [a3] at this
      exact this
