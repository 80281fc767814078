/-! the class's choice; braces on both sides -/
theorem jk31 {L : jL} (hL : jgood L) {ω : xS} {S : jSt} {α : Type} {q : Option α} : xk (jW L ω S) (jad L (jo 31)) 6 q = q := jm_k hL (by simp only [jok]; omega) rfl
theorem jkt1 {L : jL} (hL : jgood L) {ω : xS} {S : jSt} {α : Type} {q : Option α} : xk (jW L ω S) (jad L (jo 1)) 9 q = q := jm_k hL (by simp only [jok]; omega) rfl
def jis31 : jC → Prop := fun c => c = jo 31
theorem jn31 {q : Nat} (h : q ≠ 31) : ¬ jis31 (jo q) := fun z => jone h z
theorem jPp_refuse {L : jL} (hL : jgood L) {ω : xS} {S : jSt} {sw ps wy : Nat} (hK : jLK S sw ps wy) {x v : Nat} : f_PatternParser_refuse (jad L (jo 31)) (nI x) (nI v) (jW L ω S) = some (jW L ω (jsI (jsI S (jo 31) 10 (nI x)) (jo 31) 11 (nI v))) := by
  unfold f_PatternParser_refuse
  simp (disch := first | omega | rfl | assumption | exact jokr (by decide) (by omega) | exact jokr4 (by omega) | exact jkt_r _ _ | exact jkt_l (by decide) | exact jfk_l (by decide) | exact jkt_t _ | exact jkt_r6 _ _ | exact jkt_t6 _ | (simp only [jok, jlen]; omega) | decide) only [jm_k hL, jm_gi hL, jm_gr hL, jm_gl hL, jm_pi hL, jm_pl hL, jn_ai hL, jn_ab hL, jn_az hL, jn_al hL, jn_ar hL, jn_an hL, jn_si hL, jn_sb hL, jn_sz hL, jn_sl hL, Option.bind_some, xc, xl]
/-- the parser's numbers but for next, fault and its place -/
def jfC (S T : jSt) : Prop := jfq jis31 S T ∧ jgA T = jgA S ∧ ∀ k, k < 9 → jgI T (jo 31) k = jgI S (jo 31) k
theorem jfC.refl (S : jSt) : jfC S S := ⟨jfq.refl _ _, rfl, fun _ _ => rfl⟩
theorem jfC.trans {S T U : jSt} (h : jfC S T) (h' : jfC T U) : jfC S U := ⟨h.1.trans h'.1, h'.2.1.trans h.2.1, fun k hk => (h'.2.2 k hk).trans (h.2.2 k hk)⟩
theorem jfC.sI (S : jSt) {k : Nat} (v : Int32) (h : 9 ≤ k) : jfC S (jsI S (jo 31) k v) := ⟨jfq.sI _ _ _ rfl, rfl, fun k' hk => by rw [jsI_c, if_neg (by omega)]⟩
theorem jTc.fC {S T : jSt} {tp : Nat → Nat} {ts : Nat} (h : jTc S tp ts) (e : jfC S T) : jTc T tp ts := h.fq e.1 (jn31 (by omega)) (jn31 (by omega))
theorem jPp_choice {L : jL} (hL : jgood L) {ω : xS} {S : jSt} {sw ps wy : Nat} (hK : jLK S sw ps wy) {tp : Nat → Nat} {ts q t x : Nat} (hT : jTc S tp ts) (hP : jPx tp ts q t) (hq : q < x) (hx : x < t) (hp : jgI S (jo 31) 9 = nI x) (hf : jgI S (jo 31) 10 = nI 0) : ∃ T v, f_PatternParser_choice (jad L (jo 31)) (jW L ω S) = some (v, jW L ω T) ∧ jfC S T ∧ (jcO tp ts x → v = nI (jcL tp ts x) ∧ jgI T (jo 31) 10 = nI 0 ∧ jgI T (jo 31) 9 = nI (jcE tp ts x)) ∧ (¬ jcO tp ts x → jgI T (jo 31) 10 = nI 2 ∧ jgI T (jo 31) 11 = nI (jcE tp ts x)) := by
  obtain ⟨r, h1, h2, h3, h4, h5⟩ := jchoice hP hq hx
  have hs := hP.s
  have ht := hP.t
  have hl := hP.l
  have g9 : ∀ (U : jSt) (y : Nat), jgI U (jo 31) 9 = nI y → xgi (jW L ω U) (jad L (jo 31)) 6 9 = some (nI y) := fun U y h => by simp (disch := first | omega | rfl | assumption | exact jokr (by decide) (by omega) | exact jokr4 (by omega) | exact jkt_r _ _ | exact jkt_l (by decide) | exact jfk_l (by decide) | exact jkt_t _ | exact jkt_r6 _ _ | exact jkt_t6 _ | (simp only [jok, jlen]; omega) | decide) only [jm_gi hL, h]
  have g0 : ∀ (U : jSt), jfC S U → xgr (jW L ω U) (jad L (jo 31)) 6 0 = some (jad L (jo 1)) := fun U hU => by
    have hK := hK.of hU.1.1
    simp (disch := first | omega | rfl | assumption | exact jokr (by decide) (by omega) | exact jokr4 (by omega) | exact jkt_r _ _ | exact jkt_l (by decide) | exact jfk_l (by decide) | exact jkt_t _ | exact jkt_r6 _ _ | exact jkt_t6 _ | (simp only [jok, jlen]; omega) | decide) only [jm_k hL, jm_gi hL, jm_gr hL, jm_gl hL, jm_pi hL, jm_pl hL, jn_ai hL, jn_ab hL, jn_az hL, jn_al hL, jn_ar hL, jn_an hL, jn_si hL, jn_sb hL, jn_sz hL, jn_sl hL, Option.bind_some, xc, xl, jsA_X, jsI_X, jsG_X, hK _ _, jlk, jmx]
  have lk : ∀ (U : jSt) (y : Nat), jfC S U → y ≤ ts → xk (jW L ω U) (jad L (jo 1)) 9 (f_Tape_byteAt (jad L (jo 1)) (nI y) (jW L ω U)) = some (jbv tp ts y) := fun U y hU hy => by rw [jkt1 hL, jTape_at hL (hK.of hU.1.1) (hT.fC hU) (by omega)]
  have p9 : ∀ (U : jSt) (v : Int32), xp (jW L ω U) (jad L (jo 31)) 6 9 (.int v) = some (jW L ω (jsI U (jo 31) 9 v)) := fun U v => by simp (disch := first | omega | rfl | assumption | exact jokr (by decide) (by omega) | exact jokr4 (by omega) | exact jkt_r _ _ | exact jkt_l (by decide) | exact jfk_l (by decide) | exact jkt_t _ | exact jkt_r6 _ _ | exact jkt_t6 _ | (simp only [jok, jlen]; omega) | decide) only [jm_pi hL]
  have e108 : ∀ (U : jSt) (o : Int32), (o = 0 ∨ o = 1) → (o = 1 ↔ tp (x + 1) = 94) → jfC S U → jgI U (jo 31) 10 = nI 0 → jgI U (jo 31) 9 = nI (jcE tp ts x) → ∃ T v, f_PatternParser_choice_108 (jad L (jo 31)) o (nI (jcR tp ts x)) (jW L ω U) = some (v, jW L ω T) ∧ jfC S T ∧ (jcO tp ts x → v = nI (jcL tp ts x) ∧ jgI T (jo 31) 10 = nI 0 ∧ jgI T (jo 31) 9 = nI (jcE tp ts x)) ∧ (¬ jcO tp ts x → jgI T (jo 31) 10 = nI 2 ∧ jgI T (jo 31) 11 = nI (jcE tp ts x)) := by
    intro U o ho ho1 hU u10 u9
    have e139 : ¬ jcO tp ts x → ∃ T v, f_PatternParser_choice_139 (jad L (jo 31)) o (nI (jcR tp ts x)) (jW L ω U) = some (v, jW L ω T) ∧ jfC S T ∧ (jcO tp ts x → v = nI (jcL tp ts x) ∧ jgI T (jo 31) 10 = nI 0 ∧ jgI T (jo 31) 9 = nI (jcE tp ts x)) ∧ (¬ jcO tp ts x → jgI T (jo 31) 10 = nI 2 ∧ jgI T (jo 31) 11 = nI (jcE tp ts x)) := by
      intro hno
      have rf : f_PatternParser_refuse (jad L (jo 31)) 2 (nI (jcE tp ts x)) (jW L ω U) = some (jW L ω (jsI (jsI U (jo 31) 10 (nI 2)) (jo 31) 11 (nI (jcE tp ts x)))) := jPp_refuse hL (hK.of hU.1.1)
      have fr : jfC S (jsI (jsI U (jo 31) 10 (nI 2)) (jo 31) 11 (nI (jcE tp ts x))) := (hU.trans (jfC.sI _ _ (by omega))).trans (jfC.sI _ _ (by omega))
      have q1 : jgI (jsI (jsI U (jo 31) 10 (nI 2)) (jo 31) 11 (nI (jcE tp ts x))) (jo 31) 10 = nI 2 := by rw [jsI_c, if_neg (by decide), jsI_c, if_pos rfl]
      have q2 : jgI (jsI (jsI U (jo 31) 10 (nI 2)) (jo 31) 11 (nI (jcE tp ts x))) (jo 31) 11 = nI (jcE tp ts x) := by rw [jsI_c, if_pos rfl]
      unfold f_PatternParser_choice_139
      rw [g9 U _ u9, Option.bind_some, jk31 hL, rf, Option.bind_some]
      rcases ho with rfl | rfl
      · rw [if_pos rfl]
        exact ⟨_, _, rfl, fr, fun z => absurd z hno, fun _ => ⟨q1, q2⟩⟩
      · rw [if_neg jz10]
        exact ⟨_, _, rfl, fr, fun z => absurd z hno, fun _ => ⟨q1, q2⟩⟩
    unfold f_PatternParser_choice_108
    by_cases c0 : jcR tp ts x = 0
    · rw [if_pos (show nI (jcR tp ts x) = (0 : Int32) by rw [c0]; rfl)]
      refine e139 (fun z => ?_)
      have hlt2 := (r.b _ (Nat.le_refl _) z.1).2
      exact jbs_pos (by have := z.1; omega) hlt2 c0
    · have hlt : jcB tp x < jcE tp ts x := by
        rcases Nat.lt_or_ge (jcB tp x) (jcE tp ts x) with z | z
        · exact z
        · exfalso
          apply c0
          unfold jcR
          rw [show jcE tp ts x - jcB tp x = 0 by omega]
          rfl
      rw [if_neg (show ¬ nI (jcR tp ts x) = (0 : Int32) from fun z => by rw [jlit, nI_eq (by omega) (by omega)] at z; exact c0 z), g0 U hU, Option.bind_some, g9 U _ u9, Option.bind_some, lk U _ hU (by omega), Option.bind_some]
      by_cases c1 : tp (jcE tp ts x) = 93
      · rw [if_pos (show jbv tp ts (jcE tp ts x) = 93 from (jbv_eq (v := 93) hP.b (by omega)).mpr ⟨by omega, c1⟩)]
        rcases ho with rfl | rfl
        · have hn : ¬ tp (x + 1) = 94 := fun z => by have := ho1.mpr z; revert this; decide
          have hyes : jcO tp ts x := ⟨hlt, c1, fun z => hn z.1⟩
          rw [if_pos rfl, if_pos rfl]
          refine ⟨U, _, rfl, hU, fun _ => ⟨?_, u10, u9⟩, fun z => absurd hyes z⟩
          unfold jcL
          rw [if_neg hn]
        · have hn : tp (x + 1) = 94 := ho1.mp rfl
          rw [if_neg jz10]
          by_cases c2 : jcR tp ts x = 511
          · rw [if_pos (show nI (jcR tp ts x) = (511 : Int32) by rw [c2]; rfl)]
            exact e139 (fun z => z.2.2 ⟨hn, c2⟩)
          · have hyes : jcO tp ts x := ⟨hlt, c1, fun z => c2 z.2⟩
            rw [if_neg (show ¬ nI (jcR tp ts x) = (511 : Int32) from fun z => by rw [jlit, nI_eq (by omega) (by omega)] at z; exact c2 z), if_neg jz10]
            refine ⟨U, _, rfl, hU, fun _ => ⟨?_, u10, u9⟩, fun z => absurd hyes z⟩
            unfold jcL
            rw [if_pos hn]
            exact jxor511 _ h5
      · rw [if_neg (show ¬ jbv tp ts (jcE tp ts x) = 93 from fun z => c1 ((jbv_eq (v := 93) hP.b (by omega)).mp z).2)]
        exact e139 (fun z => c1 z.2.1)
  have e50 : ∀ (U : jSt) (o : Int32), (o = 0 ∨ o = 1) → (o = 1 ↔ tp (x + 1) = 94) → jfC S U → jgI U (jo 31) 10 = nI 0 → jgI U (jo 31) 9 = nI (jcB tp x) → ∃ T v, f_PatternParser_choice_50 xFU (jad L (jo 31)) o 0 0 (jW L ω U) = some (v, jW L ω T) ∧ jfC S T ∧ (jcO tp ts x → v = nI (jcL tp ts x) ∧ jgI T (jo 31) 10 = nI 0 ∧ jgI T (jo 31) 9 = nI (jcE tp ts x)) ∧ (¬ jcO tp ts x → jgI T (jo 31) 10 = nI 2 ∧ jgI T (jo 31) 11 = nI (jcE tp ts x)) := by
    intro U o ho ho1 hU u10 u9
    obtain ⟨n, T1, e1, a1, a2, a3⟩ := jlpI (fun n i (T : jSt) => f_PatternParser_choice_50 n (jad L (jo 31)) o (nI (jbs tp (jcB tp x) (i - jcB tp x))) (nI (i - jcB tp x)) (jW L ω T)) (fun i T => jfC S T ∧ jgI T (jo 31) 10 = nI 0 ∧ jgI T (jo 31) 9 = nI i) (lo := jcB tp x) (hi := jcE tp ts x) (by omega) (by omega) (by
      intro n i T hi1 hi2 ⟨b1, b2, b3⟩
      obtain ⟨w1, w2⟩ := r.b i hi1 hi2
      have hlb : jlb (tp i) ≠ 0 := fun z => by rw [(jlb_0 _).mp z] at w2; cases w2
      have hlt := jlb_lt (tp i)
      refine ⟨jsI T (jo 31) 9 (nI (i + 1)), ?_, b1.trans (jfC.sI _ _ (by omega)), by rw [jsI_c, if_neg (by decide)]; exact b2, by rw [jsI_c, if_pos rfl]⟩
      show f_PatternParser_choice_50 (n + 1) _ _ _ _ _ = f_PatternParser_choice_50 n _ _ _ _ _
      rw [f_PatternParser_choice_50, if_neg (show ¬ (40 : Int32) ≤ nI (i - jcB tp x) from fun z => by have := (nI_leI (a := 40) (by omega) (by omega)).mp z; omega), g0 T b1, Option.bind_some, g9 _ _ b3, Option.bind_some, lk _ _ b1 (by omega), Option.bind_some, jk31 hL, jPp_letterBit hP.b, Option.bind_some, if_pos w1, if_neg (show ¬ nI (jlb (tp i)) = (0 : Int32) from fun z => by rw [jlit, nI_eq (by omega) (by omega)] at z; exact hlb z), Option.bind_some, Option.bind_some, lk _ _ b1 (by omega), Option.bind_some, jk31 hL, jPp_letterBit hP.b, Option.bind_some, if_pos w1, Option.bind_some, p9, Option.bind_some, jorA, show i + 1 - jcB tp x = (i - jcB tp x) + 1 by omega, jbs, show jcB tp x + (i - jcB tp x) = i by omega, show nI i + 1 = nI (i + 1) by rw [jlit, nI_add], show nI (i - jcB tp x) + 1 = nI (i - jcB tp x + 1) by rw [jlit, nI_add]]) _ ⟨hU, u10, u9⟩
    have e1 : f_PatternParser_choice_50 xFU (jad L (jo 31)) o 0 0 (jW L ω U) = f_PatternParser_choice_50 (n + 1) (jad L (jo 31)) o (nI (jcR tp ts x)) (nI (jcE tp ts x - jcB tp x)) (jW L ω T1) := by
      have e1 := e1
      rw [Nat.sub_self] at e1
      exact e1
    have hno : ¬ (jcE tp ts x < ts ∧ jltr (tp (jcE tp ts x)) = true) := fun z => by rw [r.c z.1] at z; cases z.2
    rw [e1, f_PatternParser_choice_50]
    have hl0 : jlb (tp (jcE tp ts x)) = 0 := (jlb_0 _).mpr (by
      cases z : jltr (tp (jcE tp ts x))
      · rfl
      · exact absurd ⟨by omega, z⟩ hno)
    rw [if_neg (show ¬ (40 : Int32) ≤ nI (jcE tp ts x - jcB tp x) from fun z => by have := (nI_leI (a := 40) (by omega) (by omega)).mp z; omega), g0 T1 a1, Option.bind_some, g9 _ _ a3, Option.bind_some, lk _ _ a1 (by omega), Option.bind_some, jk31 hL, jPp_letterBit hP.b, Option.bind_some, if_pos (show jcE tp ts x < ts by omega), hl0, if_pos (show nI 0 = (0 : Int32) from rfl)]
    exact e108 T1 o ho ho1 a1 a2 a3
  have hS1 : jfC S (jsI S (jo 31) 9 (nI (x + 1))) := jfC.sI _ _ (by omega)
  have v9 : jgI (jsI S (jo 31) 9 (nI (x + 1))) (jo 31) 9 = nI (x + 1) := by rw [jsI_c, if_pos rfl]
  have v10 : jgI (jsI S (jo 31) 9 (nI (x + 1))) (jo 31) 10 = nI 0 := by rw [jsI_c, if_neg (by decide)]; exact hf
  unfold f_PatternParser_choice
  rw [g9 _ _ hp, Option.bind_some, show nI x + 1 = nI (x + 1) by rw [jlit, nI_add], p9, Option.bind_some, g0 _ hS1, Option.bind_some, g9 _ _ v9, Option.bind_some, lk _ _ hS1 (by omega), Option.bind_some]
  by_cases c : tp (x + 1) = 94
  · rw [if_pos (show jbv tp ts (x + 1) = 94 from (jbv_eq (v := 94) hP.b (by omega)).mpr ⟨by omega, c⟩)]
    unfold f_PatternParser_choice_31
    rw [if_neg jz10, g9 _ _ v9, Option.bind_some, p9, Option.bind_some, show nI (x + 1) + 1 = nI (x + 2) by rw [jlit, nI_add]]
    refine e50 _ 1 (Or.inr rfl) ⟨fun _ => c, fun _ => rfl⟩ (hS1.trans (jfC.sI _ _ (by omega))) (by rw [jsI_c, if_neg (by decide)]; exact v10) ?_
    unfold jcB
    rw [if_pos c, jsI_c, if_pos rfl]
  · rw [if_neg (show ¬ jbv tp ts (x + 1) = 94 from fun z => c ((jbv_eq (v := 94) hP.b (by omega)).mp z).2)]
    unfold f_PatternParser_choice_31
    rw [if_pos rfl]
    refine e50 _ 0 (Or.inl rfl) ⟨fun z => absurd z (by decide), fun z => absurd z c⟩ hS1 v10 ?_
    unfold jcB
    rw [if_neg c]; exact v9
/-! braces: fault and place, 0 where they are good -/
def jbrF (tp : Nat → Nat) (x : Nat) : Nat × Nat := if jdig (tp (x + 1)) = false then (2, x + 1) else if tp (x + 2) ≠ 44 then (2, x + 2) else if jdig (tp (x + 3)) = false then (2, x + 3) else if tp (x + 3) = 48 ∨ tp (x + 3) < tp (x + 1) then (4, x + 3) else if tp (x + 4) ≠ 125 then (2, x + 4) else (0, 0)
theorem jnd (c : Nat) : jdig c = false ↔ ¬ (48 ≤ c ∧ c ≤ 57) := by
  unfold jdig
  exact decide_eq_false_iff_not
theorem jd48a : ∀ c, c < 256 → (nI c - nI 48 < nI 0 ↔ c < 48) := by decide +kernel
theorem jd48b {tp : Nat → Nat} {ts i : Nat} (hb : ∀ i, tp i < 256) (h : i < ts) : (jbv tp ts i - nI 48 < nI 0 ↔ tp i < 48) := by
  unfold jbv
  rw [if_pos h]
  exact jd48a _ (hb i)
theorem jPx.in {tp : Nat → Nat} {ts q t x : Nat} (h : jPx tp ts q t) (hq : q < x) (hx : x ≤ t) (hc : tp x ≠ 34) : x < t := by
  rcases Nat.lt_or_ge x t with z | z
  · exact z
  · exact absurd (by rw [show x = t by omega]; exact h.c) hc
theorem jPp_braces {L : jL} (hL : jgood L) {ω : xS} {S : jSt} {sw ps wy : Nat} (hK : jLK S sw ps wy) {tp : Nat → Nat} {ts q t x : Nat} (hT : jTc S tp ts) (hP : jPx tp ts q t) (hq : q < x) (hx : x < t) (hp : jgI S (jo 31) 9 = nI x) (hf : jgI S (jo 31) 10 = nI 0) : ∃ T, f_PatternParser_timesInBraces (jad L (jo 31)) (jW L ω S) = some (nI (if (jbrF tp x).1 = 0 then 10 * (tp (x + 1) - 48) + (tp (x + 3) - 48) else 11), jW L ω T) ∧ jfC S T ∧ jgI T (jo 31) 9 = nI (x + 4) ∧ jgI T (jo 31) 10 = nI (jbrF tp x).1 ∧ ((jbrF tp x).1 ≠ 0 → jgI T (jo 31) 11 = nI (jbrF tp x).2) := by
  have hs := hP.s
  have ht := hP.t
  have hb := hP.b
  have g9 : ∀ (U : jSt) (y : Nat), jgI U (jo 31) 9 = nI y → xgi (jW L ω U) (jad L (jo 31)) 6 9 = some (nI y) := fun U y h => by simp (disch := first | omega | rfl | assumption | exact jokr (by decide) (by omega) | exact jokr4 (by omega) | exact jkt_r _ _ | exact jkt_l (by decide) | exact jfk_l (by decide) | exact jkt_t _ | exact jkt_r6 _ _ | exact jkt_t6 _ | (simp only [jok, jlen]; omega) | decide) only [jm_gi hL, h]
  have gp := g9 S x hp
  have g0 : xgr (jW L ω S) (jad L (jo 31)) 6 0 = some (jad L (jo 1)) := by simp (disch := first | omega | rfl | assumption | exact jokr (by decide) (by omega) | exact jokr4 (by omega) | exact jkt_r _ _ | exact jkt_l (by decide) | exact jfk_l (by decide) | exact jkt_t _ | exact jkt_r6 _ _ | exact jkt_t6 _ | (simp only [jok, jlen]; omega) | decide) only [jm_k hL, jm_gi hL, jm_gr hL, jm_gl hL, jm_pi hL, jm_pl hL, jn_ai hL, jn_ab hL, jn_az hL, jn_al hL, jn_ar hL, jn_an hL, jn_si hL, jn_sb hL, jn_sz hL, jn_sl hL, Option.bind_some, xc, xl, jsA_X, jsI_X, jsG_X, hK _ _, jlk, jmx]
  have lk : ∀ y, y ≤ 2000 → xk (jW L ω S) (jad L (jo 1)) 9 (f_Tape_byteAt (jad L (jo 1)) (nI y) (jW L ω S)) = some (jbv tp ts y) := fun y hy => by rw [jkt1 hL, jTape_at hL hK hT (by omega)]
  have ad : ∀ k, nI x + nI k = nI (x + k) := fun k => by rw [nI_add]
  -- the end: with a fault, without
  have bad : ∀ (a b : Int32) (f p : Nat), f ≠ 0 → f ≤ 4 → jbrF tp x = (f, p) → ((xk (jW L ω S) (jad L (jo 31)) 6 (f_PatternParser_refuse (jad L (jo 31)) (nI f) (nI p) (jW L ω S))).bind fun w => f_PatternParser_timesInBraces_166 (jad L (jo 31)) a b w) = some (nI 11, jW L ω (jsI (jsI (jsI S (jo 31) 10 (nI f)) (jo 31) 11 (nI p)) (jo 31) 9 (nI (x + 4)))) := by
    intro a b f p h0 h4 _
    have q9 : jgI (jsI (jsI S (jo 31) 10 (nI f)) (jo 31) 11 (nI p)) (jo 31) 9 = nI x := by rw [jsI_c, if_neg (by decide), jsI_c, if_neg (by decide)]; exact hp
    have q10 : jgI (jsI (jsI (jsI S (jo 31) 10 (nI f)) (jo 31) 11 (nI p)) (jo 31) 9 (nI (x + 4))) (jo 31) 10 = nI f := by rw [jsI_c, if_neg (by decide), jsI_c, if_neg (by decide), jsI_c, if_pos rfl]
    rw [jk31 hL, jPp_refuse hL hK, Option.bind_some]
    unfold f_PatternParser_timesInBraces_166
    simp (disch := first | omega | rfl | assumption | exact jokr (by decide) (by omega) | exact jokr4 (by omega) | exact jkt_r _ _ | exact jkt_l (by decide) | exact jfk_l (by decide) | exact jkt_t _ | exact jkt_r6 _ _ | exact jkt_t6 _ | (simp only [jok, jlen]; omega) | decide) only [jm_k hL, jm_gi hL, jm_gr hL, jm_gl hL, jm_pi hL, jm_pl hL, jn_ai hL, jn_ab hL, jn_az hL, jn_al hL, jn_ar hL, jn_an hL, jn_si hL, jn_sb hL, jn_sz hL, jn_sl hL, Option.bind_some, xc, xl, jlit, nI_add, q9, q10]
    rw [if_neg (fun z => by rw [nI_eq (by omega) (by omega)] at z; exact h0 z)]
  have good : jbrF tp x = (0, 0) → f_PatternParser_timesInBraces_166 (jad L (jo 31)) (nI (tp (x + 1) - 48)) (nI (tp (x + 3) - 48)) (jW L ω S) = some (nI (10 * (tp (x + 1) - 48) + (tp (x + 3) - 48)), jW L ω (jsI S (jo 31) 9 (nI (x + 4)))) := by
    intro _
    have q10 : jgI (jsI S (jo 31) 9 (nI (x + 4))) (jo 31) 10 = nI 0 := by rw [jsI_c, if_neg (by decide)]; exact hf
    unfold f_PatternParser_timesInBraces_166
    simp (disch := first | omega | rfl | assumption | exact jokr (by decide) (by omega) | exact jokr4 (by omega) | exact jkt_r _ _ | exact jkt_l (by decide) | exact jfk_l (by decide) | exact jkt_t _ | exact jkt_r6 _ _ | exact jkt_t6 _ | (simp only [jok, jlen]; omega) | decide) only [jm_k hL, jm_gi hL, jm_gr hL, jm_gl hL, jm_pi hL, jm_pl hL, jn_ai hL, jn_ab hL, jn_az hL, jn_al hL, jn_ar hL, jn_an hL, jn_si hL, jn_sb hL, jn_sz hL, jn_sl hL, Option.bind_some, xc, xl, jlit, nI_add, hp, q10, if_true, jmul]
  have pack : ∀ f p, f ≠ 0 → f ≤ 4 → jbrF tp x = (f, p) → f_PatternParser_timesInBraces (jad L (jo 31)) (jW L ω S) = some (nI 11, jW L ω (jsI (jsI (jsI S (jo 31) 10 (nI f)) (jo 31) 11 (nI p)) (jo 31) 9 (nI (x + 4)))) → ∃ T, f_PatternParser_timesInBraces (jad L (jo 31)) (jW L ω S) = some (nI (if (jbrF tp x).1 = 0 then 10 * (tp (x + 1) - 48) + (tp (x + 3) - 48) else 11), jW L ω T) ∧ jfC S T ∧ jgI T (jo 31) 9 = nI (x + 4) ∧ jgI T (jo 31) 10 = nI (jbrF tp x).1 ∧ ((jbrF tp x).1 ≠ 0 → jgI T (jo 31) 11 = nI (jbrF tp x).2) := by
    intro f p h0 h4 hbr he
    rw [hbr]
    refine ⟨_, by rw [he, if_neg h0], ((jfC.sI _ _ (by omega)).trans (jfC.sI _ _ (by omega))).trans (jfC.sI _ _ (by omega)), by rw [jsI_c, if_pos rfl], ?_, fun _ => ?_⟩
    · rw [jsI_c, if_neg (by decide), jsI_c, if_neg (by decide), jsI_c, if_pos rfl]
    · rw [jsI_c, if_neg (by decide), jsI_c, if_pos rfl]
  have hd1 : ∀ i, i < ts → 48 ≤ tp i → jbv tp ts i - 48 = nI (tp i - 48) := fun i h1 h2 => by
    unfold jbv
    rw [if_pos h1, jlit, jsub h2]
  have l1 := lk (x + 1) (by omega)
  have l2 := lk (x + 2) (by omega)
  have l3 := lk (x + 3) (by omega)
  have l4 := lk (x + 4) (by omega)
  have hbb1 := hb (x + 1)
  have hbb3 := hb (x + 3)
  by_cases k1 : jdig (tp (x + 1)) = false
  · have k1' := (jnd _).mp k1
    have hbr : jbrF tp x = (2, x + 1) := by unfold jbrF; rw [if_pos k1]
    refine pack 2 (x + 1) (by omega) (by omega) hbr ?_
    unfold f_PatternParser_timesInBraces
    simp only [g0, gp, jlit, ad, Option.bind_some, l1, l3]
    by_cases z : tp (x + 1) < 48
    · rw [if_pos ((jd48b hb (by omega)).mpr z)]
      exact bad _ _ 2 (x + 1) (by omega) (by omega) hbr
    · rw [if_neg (fun y => z ((jd48b hb (by omega)).mp y)), ← jlit 48, hd1 (x + 1) (by omega) (by omega), if_neg (fun y => by rw [nI_leI (by omega) (by omega)] at y; omega)]
      exact bad _ _ 2 (x + 1) (by omega) (by omega) hbr
  · have k1' : 48 ≤ tp (x + 1) ∧ tp (x + 1) ≤ 57 := by
      by_cases z : 48 ≤ tp (x + 1) ∧ tp (x + 1) ≤ 57
      · exact z
      · exact absurd ((jnd _).mpr z) k1
    have x1 : x + 1 < t := hP.in (by omega) (by omega) (by omega)
    have pre : ∀ X, (if jbv tp ts (x + 2) = nI 44 then (if jbv tp ts (x + 3) - nI 48 < nI 0 then ((xgi (jW L ω S) (jad L (jo 31)) 6 9).bind fun t21 => (xk (jW L ω S) (jad L (jo 31)) 6 (f_PatternParser_refuse (jad L (jo 31)) 2 (t21 + 3) (jW L ω S))).bind fun w24 => f_PatternParser_timesInBraces_166 (jad L (jo 31)) (nI (tp (x + 1) - 48)) (jbv tp ts (x + 3) - 48) w24) else (if jbv tp ts (x + 3) - 48 ≤ 9 then (if jbv tp ts (x + 3) - 48 = 0 then ((xgi (jW L ω S) (jad L (jo 31)) 6 9).bind fun t27 => (xk (jW L ω S) (jad L (jo 31)) 6 (f_PatternParser_refuse (jad L (jo 31)) 4 (t27 + 3) (jW L ω S))).bind fun w30 => f_PatternParser_timesInBraces_166 (jad L (jo 31)) (nI (tp (x + 1) - 48)) (jbv tp ts (x + 3) - 48) w30) else (if nI (tp (x + 1) - 48) ≤ jbv tp ts (x + 3) - 48 then ((xgr (jW L ω S) (jad L (jo 31)) 6 0).bind fun t32 => (xgi (jW L ω S) (jad L (jo 31)) 6 9).bind fun t33 => (xk (jW L ω S) t32 9 (f_Tape_byteAt t32 (t33 + 4) (jW L ω S))).bind fun t35 => if t35 = 125 then f_PatternParser_timesInBraces_166 (jad L (jo 31)) (nI (tp (x + 1) - 48)) (jbv tp ts (x + 3) - 48) (jW L ω S) else ((xgi (jW L ω S) (jad L (jo 31)) 6 9).bind fun t37 => (xk (jW L ω S) (jad L (jo 31)) 6 (f_PatternParser_refuse (jad L (jo 31)) 2 (t37 + 4) (jW L ω S))).bind fun w40 => f_PatternParser_timesInBraces_166 (jad L (jo 31)) (nI (tp (x + 1) - 48)) (jbv tp ts (x + 3) - 48) w40)) else ((xgi (jW L ω S) (jad L (jo 31)) 6 9).bind fun t41 => (xk (jW L ω S) (jad L (jo 31)) 6 (f_PatternParser_refuse (jad L (jo 31)) 4 (t41 + 3) (jW L ω S))).bind fun w44 => f_PatternParser_timesInBraces_166 (jad L (jo 31)) (nI (tp (x + 1) - 48)) (jbv tp ts (x + 3) - 48) w44))) else ((xgi (jW L ω S) (jad L (jo 31)) 6 9).bind fun t45 => (xk (jW L ω S) (jad L (jo 31)) 6 (f_PatternParser_refuse (jad L (jo 31)) 2 (t45 + 3) (jW L ω S))).bind fun w48 => f_PatternParser_timesInBraces_166 (jad L (jo 31)) (nI (tp (x + 1) - 48)) (jbv tp ts (x + 3) - 48) w48))) else ((xgi (jW L ω S) (jad L (jo 31)) 6 9).bind fun t49 => (xk (jW L ω S) (jad L (jo 31)) 6 (f_PatternParser_refuse (jad L (jo 31)) 2 (t49 + 2) (jW L ω S))).bind fun w52 => f_PatternParser_timesInBraces_166 (jad L (jo 31)) (nI (tp (x + 1) - 48)) (jbv tp ts (x + 3) - 48) w52)) = X → f_PatternParser_timesInBraces (jad L (jo 31)) (jW L ω S) = X := by
      intro X hX
      unfold f_PatternParser_timesInBraces
      rw [g0, Option.bind_some, gp, Option.bind_some, show nI x + 1 = nI (x + 1) from ad 1, l1, Option.bind_some, Option.bind_some, Option.bind_some, show nI x + 3 = nI (x + 3) from ad 3, l3, Option.bind_some, if_neg (show ¬ jbv tp ts (x + 1) - 48 < 0 from fun y => by have := (jd48b hb (by omega)).mp y; omega), hd1 (x + 1) (by omega) k1'.1, if_pos (show nI (tp (x + 1) - 48) ≤ (9 : Int32) from (nI_leI (b := 9) (by omega) (by omega)).mpr (by omega)), Option.bind_some, Option.bind_some, show nI x + 2 = nI (x + 2) from ad 2, l2, Option.bind_some]
      simp only [gp, g0, Option.bind_some] at hX
      simp only [Option.bind_some]
      exact hX
    by_cases k2 : tp (x + 2) = 44
    · have x2 : x + 2 < t := hP.in (by omega) (by omega) (by omega)
      have t2 : jbv tp ts (x + 2) = nI 44 := (jbv_eq hb (by omega)).mpr ⟨by omega, k2⟩
      by_cases k3 : jdig (tp (x + 3)) = false
      · have k3' := (jnd _).mp k3
        have hbr : jbrF tp x = (2, x + 3) := by unfold jbrF; rw [if_neg k1, if_neg (fun z => z k2), if_pos k3]
        refine pack 2 (x + 3) (by omega) (by omega) hbr (pre _ ?_)
        rw [if_pos t2]
        by_cases z : tp (x + 3) < 48
        · rw [if_pos ((jd48b hb (by omega)).mpr z), gp, Option.bind_some, show nI x + 3 = nI (x + 3) from ad 3]
          exact bad _ _ 2 (x + 3) (by omega) (by omega) hbr
        · rw [if_neg (fun y => z ((jd48b hb (by omega)).mp y)), hd1 (x + 3) (by omega) (by omega), if_neg (show ¬ nI (tp (x + 3) - 48) ≤ (9 : Int32) from fun y => by have := (nI_leI (b := 9) (by omega) (by omega)).mp y; omega), gp, Option.bind_some, show nI x + 3 = nI (x + 3) from ad 3]
          exact bad _ _ 2 (x + 3) (by omega) (by omega) hbr
      · have k3' : 48 ≤ tp (x + 3) ∧ tp (x + 3) ≤ 57 := by
          by_cases z : 48 ≤ tp (x + 3) ∧ tp (x + 3) ≤ 57
          · exact z
          · exact absurd ((jnd _).mpr z) k3
        have x3 : x + 3 < t := hP.in (by omega) (by omega) (by omega)
        have e3 := hd1 (x + 3) (by omega) k3'.1
        have n3 : ¬ jbv tp ts (x + 3) - nI 48 < nI 0 := fun y => by have := (jd48b hb (by omega)).mp y; omega
        have p3 : nI (tp (x + 3) - 48) ≤ (9 : Int32) := (nI_leI (b := 9) (by omega) (by omega)).mpr (by omega)
        by_cases k4 : tp (x + 3) = 48 ∨ tp (x + 3) < tp (x + 1)
        · have hbr : jbrF tp x = (4, x + 3) := by unfold jbrF; rw [if_neg k1, if_neg (fun z => z k2), if_neg k3, if_pos k4]
          refine pack 4 (x + 3) (by omega) (by omega) hbr (pre _ ?_)
          rw [if_pos t2, if_neg n3, e3, if_pos p3]
          by_cases z : tp (x + 3) = 48
          · rw [if_pos (show nI (tp (x + 3) - 48) = (0 : Int32) by rw [z]; rfl), gp, Option.bind_some, show nI x + 3 = nI (x + 3) from ad 3]
            exact bad _ _ 4 (x + 3) (by omega) (by omega) hbr
          · rw [if_neg (show ¬ nI (tp (x + 3) - 48) = (0 : Int32) from fun y => by rw [jlit, nI_eq (by omega) (by omega)] at y; omega), if_neg (fun y => by rw [nI_leI (by omega) (by omega)] at y; omega), gp, Option.bind_some, show nI x + 3 = nI (x + 3) from ad 3]
            exact bad _ _ 4 (x + 3) (by omega) (by omega) hbr
        · have h40 : ¬ nI (tp (x + 3) - 48) = (0 : Int32) := fun y => by rw [jlit, nI_eq (by omega) (by omega)] at y; omega
          have h41 : nI (tp (x + 1) - 48) ≤ nI (tp (x + 3) - 48) := (nI_leI (by omega) (by omega)).mpr (by omega)
          by_cases k5 : tp (x + 4) = 125
          · have hbr : jbrF tp x = (0, 0) := by unfold jbrF; rw [if_neg k1, if_neg (fun z => z k2), if_neg k3, if_neg k4, if_neg (fun z => z k5)]
            refine ⟨jsI S (jo 31) 9 (nI (x + 4)), ?_, jfC.sI _ _ (by omega), by rw [jsI_c, if_pos rfl], by rw [jsI_c, if_neg (by decide), hbr]; exact hf, fun z => absurd (by rw [hbr]) z⟩
            refine pre _ ?_
            rw [if_pos t2, if_neg n3, e3, if_pos p3, if_neg h40, if_pos h41, g0, Option.bind_some, gp, Option.bind_some, show nI x + 4 = nI (x + 4) from ad 4, l4, Option.bind_some, if_pos (show jbv tp ts (x + 4) = 125 from (jbv_eq (v := 125) hb (by omega)).mpr ⟨by omega, k5⟩), good hbr, hbr]
            rfl
          · have hbr : jbrF tp x = (2, x + 4) := by unfold jbrF; rw [if_neg k1, if_neg (fun z => z k2), if_neg k3, if_neg k4, if_pos k5]
            refine pack 2 (x + 4) (by omega) (by omega) hbr (pre _ ?_)
            rw [if_pos t2, if_neg n3, e3, if_pos p3, if_neg h40, if_pos h41, g0, Option.bind_some, gp, Option.bind_some, show nI x + 4 = nI (x + 4) from ad 4, l4, Option.bind_some, if_neg (show ¬ jbv tp ts (x + 4) = 125 from fun z => k5 ((jbv_eq (v := 125) hb (by omega)).mp z).2), Option.bind_some, show nI x + 4 = nI (x + 4) from ad 4]
            exact bad _ _ 2 (x + 4) (by omega) (by omega) hbr
    · have hbr : jbrF tp x = (2, x + 2) := by unfold jbrF; rw [if_neg k1, if_pos k2]
      refine pack 2 (x + 2) (by omega) (by omega) hbr (pre _ ?_)
      rw [if_neg (show ¬ jbv tp ts (x + 2) = nI 44 from fun z => k2 ((jbv_eq hb (by omega)).mp z).2), gp, Option.bind_some, show nI x + 2 = nI (x + 2) from ad 2]
      exact bad _ _ 2 (x + 2) (by omega) (by omega) hbr
