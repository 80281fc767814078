/-! the reference's check, unit by unit -/
theorem jKs.hd {S : jSt} {s : jPs} {x : Nat} {ov ir ii : Nat → Nat} (h : jKs S s x ov ir ii) {L : jL} (hL : jgood L) {ω : xS} {sw ps wy : Nat} (hK : jLK S sw ps wy) (hi : jPi s) (hd : jPs.d s ≤ 40) : ((xgr (jW L ω S) (jad L (jm 0)) 12 48).bind fun t => xaz (jW L ω S) t (nI (jPs.d s))) = some (nI (jPs.hs s)) := by
  have := h.h
  simp (disch := first | omega | rfl | assumption | exact jokr (by decide) (by omega) | exact jokr4 (by omega) | exact jkt_r _ _ | exact jkt_l (by decide) | exact jfk_l (by decide) | exact jkt_t _ | exact jkt_r6 _ _ | exact jkt_t6 _ | (simp only [jok, jlen]; omega) | decide) only [jm_k hL, jm_gi hL, jm_gr hL, jm_gl hL, jm_pi hL, jm_pl hL, jn_ai hL, jn_ab hL, jn_az hL, jn_al hL, jn_ar hL, jn_an hL, jn_si hL, jn_sb hL, jn_sz hL, jn_sl hL, Option.bind_some, xc, xl, jsA_X, jsI_X, jsG_X, hK _ _, jlk, jmx, this]
theorem jMc_step {L : jL} (hL : jgood L) {ω : xS} {S : jSt} {sw ps wy : Nat} (hK : jLK S sw ps wy) {tp : Nat → Nat} {ts q t x y n : Nat} {s s1 : jPs} {ov ir ii : Nat → Nat} (hT : jTm S tp ts) (hP : jPx tp ts q t) (hq : q < x) (hx : x < t) (hi : jPi s) (hd : jPs.d s < 40) (h : jKs S s x ov ir ii) (hst : jSt1 tp ts x s y s1) : ∃ (T : jSt) (ov' ir' ii' : Nat → Nat), f_Mo_check_9 (n + 1) (jad L (jm 0)) (nI t) (nI (jPs.d s)) (nI (jmay s)) (jW L ω S) = f_Mo_check_9 n (jad L (jm 0)) (nI t) (nI (jPs.d s1)) (nI (jmay s1)) (jW L ω T) ∧ jfU S T ∧ jKs T s1 y ov' ir' ii' := by
  have hb := hP.b
  have ht := hP.t
  have hs15 := hP.s
  have hbb := hb x
  have hh := hi.h1
  have hr1 := hi.r1
  have hmay : jmay s ≤ 1 := by unfold jmay; split <;> omega
  have lk : xk (jW L ω S) (jad L (jm 0)) 12 (f_Mo_look (jad L (jm 0)) (nI x) (jW L ω S)) = some (nI (tp x)) := by
    rw [jkm hL, jMo_look hL hK hT (by omega)]
    unfold jbv
    rw [if_pos (by omega)]
  have dle : jPs.d s ≤ jPs.d s := Nat.le_refl _
  have ho := h.o _ dle
  have hr := h.r _ dle
  have hit := h.i _ dle
  -- the head of a turn
  have head : f_Mo_check_9 (n + 1) (jad L (jm 0)) (nI t) (nI (jPs.d s)) (nI (jmay s)) (jW L ω S) = (if nI (tp x) = 40 then ((xgi (jW L ω S) (jad L (jm 0)) 12 42).bind fun t37 => (xp (jW L ω S) (jad L (jm 0)) 12 42 (.int (t37 + 1))).bind fun w38 => (xk w38 (jad L (jm 0)) 12 (f_Mo_open (jad L (jm 0)) (nI (jPs.d s) + 1) w38)).bind fun w41 => f_Mo_check_9 n (jad L (jm 0)) (nI t) (nI (jPs.d s) + 1) 0 w41) else ((f_Mo_beginsAtom (nI (tp x)) (jW L ω S)).bind fun t13 => if t13 = 0 then (if nI (jmay s) = 0 then f_Mo_check_148 (f_Mo_check_9 n) (jad L (jm 0)) (nI t) (nI (jPs.d s)) (nI (jmay s)) (nI (tp x)) (jW L ω S) else (if nI (tp x) = 42 then ((xgi (jW L ω S) (jad L (jm 0)) 12 42).bind fun t17 => (xp (jW L ω S) (jad L (jm 0)) 12 42 (.int (t17 + 1))).bind fun w18 => f_Mo_check_9 n (jad L (jm 0)) (nI t) (nI (jPs.d s)) 0 w18) else (if nI (tp x) = 43 then ((xgi (jW L ω S) (jad L (jm 0)) 12 42).bind fun t20 => (xp (jW L ω S) (jad L (jm 0)) 12 42 (.int (t20 + 1))).bind fun w21 => f_Mo_check_9 n (jad L (jm 0)) (nI t) (nI (jPs.d s)) 0 w21) else (if nI (tp x) = 63 then ((xgi (jW L ω S) (jad L (jm 0)) 12 42).bind fun t23 => (xp (jW L ω S) (jad L (jm 0)) 12 42 (.int (t23 + 1))).bind fun w24 => f_Mo_check_9 n (jad L (jm 0)) (nI t) (nI (jPs.d s)) 0 w24) else f_Mo_check_148 (f_Mo_check_9 n) (jad L (jm 0)) (nI t) (nI (jPs.d s)) (nI (jmay s)) (nI (tp x)) (jW L ω S))))) else (if nI (tp x) = 91 then (xc (xk (jW L ω S) (jad L (jm 0)) 12 (f_Mo_set0 (jad L (jm 0)) (jW L ω S))) fun _ w33 => (xk w33 (jad L (jm 0)) 12 (f_Mo_item (jad L (jm 0)) (nI (jPs.d s)) 1 w33)).bind fun w36 => f_Mo_check_9 n (jad L (jm 0)) (nI t) (nI (jPs.d s)) 1 w36) else ((xgi (jW L ω S) (jad L (jm 0)) 12 42).bind fun t26 => (xp (jW L ω S) (jad L (jm 0)) 12 42 (.int (t26 + 1))).bind fun w27 => (xk w27 (jad L (jm 0)) 12 (f_Mo_item (jad L (jm 0)) (nI (jPs.d s)) 1 w27)).bind fun w30 => f_Mo_check_9 n (jad L (jm 0)) (nI t) (nI (jPs.d s)) 1 w30)))) := by
    rw [f_Mo_check_9, jg39 hL h.f, Option.bind_some, if_pos (show nI 0 = (0 : Int32) from rfl), jg42 hL h.x, Option.bind_some, if_neg (fun z => by rw [nI_leI (by omega) (by omega)] at z; omega), Option.bind_some, lk, Option.bind_some]
  -- an atom, once its place behind is known
  have atom : ∀ (U : jSt) (b y : Nat), jfP S U → jgI U (jm 0) 39 = nI 0 → jgI U (jm 0) 42 = nI y → ∃ (T : jSt) (ov' ir' ii' : Nat → Nat), ((xk (jW L ω U) (jad L (jm 0)) 12 (f_Mo_item (jad L (jm 0)) (nI (jPs.d s)) 1 (jW L ω U))).bind fun w30 => f_Mo_check_9 n (jad L (jm 0)) (nI t) (nI (jPs.d s)) 1 w30) = f_Mo_check_9 n (jad L (jm 0)) (nI t) (nI (jPs.d (jpA s b))) (nI (jmay (jpA s b))) (jW L ω T) ∧ jfU S T ∧ jKs T (jpA s b) y ov' ir' ii' := by
    intro U b y hU u39 u42
    have eit : f_Mo_item (jad L (jm 0)) (nI (jPs.d s)) 1 (jW L ω U) = some (jW L ω (jsA (jsA (jsA U (jm 28) (jPs.d s) (nI (jcap (ir (jPs.d s) + ii (jPs.d s))))) (jm 29) (jPs.d s) (nI 1)) (jm 30) (jPs.d s) (nI 1))) := jMc_item hL (ω := ω) (hK.of hU.x) (n := 1) (by omega) (by rw [hU.a]; exact hr) (by rw [hU.a]; exact hit)
    refine ⟨jsA (jsA (jsA U (jm 28) (jPs.d s) (nI (jcap (ir (jPs.d s) + ii (jPs.d s))))) (jm 29) (jPs.d s) (nI 1)) (jm 30) (jPs.d s) (nI 1), ov, fun e => if e = jPs.d s then ir e + ii e else ir e, fun e => if e = jPs.d s then 1 else ii e, ?_, ((hU.U.trans (jfU.sA _ (q := 28) _ _ (by omega) (by omega))).trans (jfU.sA _ (q := 29) _ _ (by omega) (by omega))).trans (jfU.sA _ (q := 30) _ _ (by omega) (by omega)), ⟨u42, u39, fun e he => ?_, fun e he => ?_, fun e he => ?_, ?_, fun e he => ?_, ?_, fun _ => ?_⟩⟩
    · rw [jkm hL, eit, Option.bind_some]; rfl
    · rw [jsA_ne (jmne (by decide)), jsA_ne (jmne (by decide)), jsA_ne (jmne (by decide)), hU.a]; exact h.o e he
    · rw [jsA_ne (jmne (by decide)), jsA_ne (jmne (by decide)), jsA_c, hU.a]
      show _ = nI (jcap (if e = jPs.d s then ir e + ii e else ir e))
      by_cases c : e = jPs.d s
      · rw [if_pos c, if_pos c, c]
      · rw [if_neg c, if_neg c]; exact h.r e he
    · rw [jsA_ne (jmne (by decide)), jsA_c, jsA_ne (jmne (by decide)), hU.a]
      show _ = nI (jcap (if e = jPs.d s then 1 else ii e))
      by_cases c : e = jPs.d s
      · rw [if_pos c, if_pos c]; rfl
      · rw [if_neg c, if_neg c]; exact h.i e he
    · show jgA _ (jm 30) (jPs.d s) = nI 1
      rw [jsA_c, if_pos rfl]
    · have he : e < jPs.d s := he
      show jPs.gf s e + (ov e + (if e = jPs.d s then ir e + ii e else ir e) + (if e = jPs.d s then 1 else ii e)) = jPs.gf s (e + 1)
      rw [if_neg (by omega), if_neg (by omega)]; exact h.m e he
    · show jPs.gf s (jPs.d s) + (ov (jPs.d s) + (if jPs.d s = jPs.d s then ir (jPs.d s) + ii (jPs.d s) else ir (jPs.d s)) + (if jPs.d s = jPs.d s then 1 else ii (jPs.d s))) = jPs.sz s + 1
      rw [if_pos rfl, if_pos rfl]
      have := h.t
      omega
    · show jPs.sz s + (if jPs.d s = jPs.d s then 1 else ii (jPs.d s)) = jPs.sz s + 1
      rw [if_pos rfl]
  have e148 : ∀ X, jPs.hs s = 1 → jPs.rp s = 1 → tp x ≠ 40 → ¬ (jltr (tp x) = true ∨ tp x = 46 ∨ tp x = 91 ∨ tp x = 40) → tp x ≠ 42 → tp x ≠ 43 → tp x ≠ 63 → f_Mo_check_148 (f_Mo_check_9 n) (jad L (jm 0)) (nI t) (nI (jPs.d s)) (nI 1) (nI (tp x)) (jW L ω S) = X → f_Mo_check_9 (n + 1) (jad L (jm 0)) (nI t) (nI (jPs.d s)) (nI (jmay s)) (jW L ω S) = X := by
    intro X h1 r1 c40 cb c42 c43 c63 hX
    have em : jmay s = 1 := by unfold jmay; rw [if_pos h1, r1]
    rw [head, if_neg (by intro z; rw [jlit, nI_eq (by omega) (by omega)] at z; omega), jMc_begins hb (show x < ts by omega), Option.bind_some, if_neg cb, if_pos rfl, em, if_neg (show ¬ nI 1 = (0 : Int32) by decide), if_neg (by intro z; rw [jlit, nI_eq (by omega) (by omega)] at z; omega), if_neg (by intro z; rw [jlit, nI_eq (by omega) (by omega)] at z; omega), if_neg (by intro z; rw [jlit, nI_eq (by omega) (by omega)] at z; omega)]
    exact hX
  have e249 : ∀ X, tp x ≠ 40 → ¬ (jltr (tp x) = true ∨ tp x = 46 ∨ tp x = 91 ∨ tp x = 40) → tp x ≠ 42 → tp x ≠ 43 → tp x ≠ 63 → tp x ≠ 123 → f_Mo_check_249 (f_Mo_check_9 n) (jad L (jm 0)) (nI t) (nI (jPs.d s)) (nI (jmay s)) (nI (tp x)) (jW L ω S) = X → f_Mo_check_9 (n + 1) (jad L (jm 0)) (nI t) (nI (jPs.d s)) (nI (jmay s)) (jW L ω S) = X := by
    intro X c40 cb c42 c43 c63 c123 hX
    rw [head, if_neg (by intro z; rw [jlit, nI_eq (by omega) (by omega)] at z; omega), jMc_begins hb (show x < ts by omega), Option.bind_some, if_neg cb, if_pos rfl]
    by_cases em : jmay s = 0
    · rw [if_pos (show nI (jmay s) = (0 : Int32) by rw [em]; rfl)]
      unfold f_Mo_check_148
      rw [if_pos (show nI (jmay s) = (0 : Int32) by rw [em]; rfl)]
      exact hX
    · have nem : ¬ nI (jmay s) = (0 : Int32) := fun z => by rw [jlit, nI_eq (by omega) (by omega)] at z; exact em z
      rw [if_neg nem, if_neg (by intro z; rw [jlit, nI_eq (by omega) (by omega)] at z; omega), if_neg (by intro z; rw [jlit, nI_eq (by omega) (by omega)] at z; omega), if_neg (by intro z; rw [jlit, nI_eq (by omega) (by omega)] at z; omega)]
      unfold f_Mo_check_148
      rw [if_neg nem, if_neg (by intro z; rw [jlit, nI_eq (by omega) (by omega)] at z; omega)]
      exact hX
  have hasI : jPs.hs s = 1 → ∀ {β : Type} (k : Int32 → Option β), ((xgr (jW L ω S) (jad L (jm 0)) 12 48).bind fun t => (xaz (jW L ω S) t (nI (jPs.d s))).bind k) = k (nI 1) := fun h1 β k => by
    have := h.h
    rw [h1] at this
    simp (disch := first | omega | rfl | assumption | exact jokr (by decide) (by omega) | exact jokr4 (by omega) | exact jkt_r _ _ | exact jkt_l (by decide) | exact jfk_l (by decide) | exact jkt_t _ | exact jkt_r6 _ _ | exact jkt_t6 _ | (simp only [jok, jlen]; omega) | decide) only [jm_k hL, jm_gi hL, jm_gr hL, jm_gl hL, jm_pi hL, jm_pl hL, jn_ai hL, jn_ab hL, jn_az hL, jn_al hL, jn_ar hL, jn_an hL, jn_si hL, jn_sb hL, jn_sz hL, jn_sl hL, Option.bind_some, xc, xl, jsA_X, jsI_X, jsG_X, hK _ _, jlk, jmx, this]
  -- a sign that may follow: the machine's state but for what the check counts
  have sign : ∀ s1 : jPs, jPs.d s1 = jPs.d s → jPs.hs s1 = 1 → jPs.hs s = 1 → jPs.rp s1 = 0 → jPs.gf s1 = jPs.gf s → jPs.sz s1 = jPs.sz s → jPs.ib s1 = jPs.ib s → ∃ (T : jSt) (ov' ir' ii' : Nat → Nat), ((xgi (jW L ω S) (jad L (jm 0)) 12 42).bind fun t17 => (xp (jW L ω S) (jad L (jm 0)) 12 42 (.int (t17 + 1))).bind fun w18 => f_Mo_check_9 n (jad L (jm 0)) (nI t) (nI (jPs.d s)) 0 w18) = f_Mo_check_9 n (jad L (jm 0)) (nI t) (nI (jPs.d s1)) (nI (jmay s1)) (jW L ω T) ∧ jfU S T ∧ jKs T s1 (x + 1) ov' ir' ii' := by
    intro s1 q1 q2 q2' q3 q4 q5 q6
    refine ⟨jsI S (jm 0) 42 (nI (x + 1)), ov, ir, ii, ?_, jfU.sI _ _ (by omega), ⟨by rw [jsI_c, if_pos rfl], by rw [jsI_c, if_neg (by decide)]; exact h.f, fun e he => h.o e (by omega), fun e he => h.r e (by omega), fun e he => h.i e (by omega), ?_, fun e he => ?_, ?_, fun _ => ?_⟩⟩
    · rw [jg42 hL h.x, Option.bind_some, jp42 hL, Option.bind_some, show nI x + 1 = nI (x + 1) by rw [jlit, nI_add], q1]
      unfold jmay
      rw [if_pos q2, q3]; rfl
    · rw [q1, q2, ← q2']; exact h.h
    · rw [q4]; exact h.m e (by omega)
    · rw [q4, q1, q5]; exact h.t
    · rw [q6, q1, q5]; exact h.b q2'
  rcases hst with ⟨b, ha, rfl⟩ | ⟨c, rfl, rfl⟩ | ⟨h1, c, rfl, rfl⟩ | ⟨h1, c, hd0, rfl, rfl⟩ | ⟨h1, r1, c, rfl, rfl⟩ | ⟨h1, r1, c, rfl, rfl⟩ | ⟨h1, r1, c, rfl, rfl⟩ | ⟨h1, r1, c, hbr, rfl, rfl⟩
  · rcases ha with ⟨c, hO, rfl, rfl⟩ | ⟨c, rfl, rfl⟩ | ⟨c, rfl, rfl⟩
    · obtain ⟨T1, v, a1, a2, a3, _⟩ := jMp_set hL (ω := ω) hK hT hP hq hx h.x h.f
      obtain ⟨b1, b2, b3⟩ := a3 hO
      obtain ⟨T, ov', ir', ii', g1, g2⟩ := atom T1 (jcL tp ts x) _ a2 b2 b3
      refine ⟨T, ov', ir', ii', ?_, g2⟩
      rw [head, if_neg (by intro z; rw [jlit, nI_eq (by omega) (by omega)] at z; omega), jMc_begins hb (show x < ts by omega), Option.bind_some, if_pos (Or.inr (Or.inr (Or.inl c))), if_neg jz10, if_pos (show nI (tp x) = (91 : Int32) by rw [c]; rfl), jkm hL, a1]
      exact g1
    · obtain ⟨T, ov', ir', ii', g1, g2⟩ := atom (jsI S (jm 0) 42 (nI (x + 1))) 511 (x + 1) (jfP.sI _ _ (by omega)) (by rw [jsI_c, if_neg (by decide)]; exact h.f) (by rw [jsI_c, if_pos rfl])
      refine ⟨T, ov', ir', ii', ?_, g2⟩
      rw [head, if_neg (by intro z; rw [jlit, nI_eq (by omega) (by omega)] at z; omega), jMc_begins hb (show x < ts by omega), Option.bind_some, if_pos (Or.inr (Or.inl c)), if_neg jz10, if_neg (by intro z; rw [jlit, nI_eq (by omega) (by omega)] at z; omega), jg42 hL h.x, Option.bind_some, jp42 hL, Option.bind_some, show nI x + 1 = nI (x + 1) by rw [jlit, nI_add]]
      exact g1
    · have c' : tp x = 45 ∨ (97 ≤ tp x ∧ tp x ≤ 104) := of_decide_eq_true c
      obtain ⟨T, ov', ir', ii', g1, g2⟩ := atom (jsI S (jm 0) 42 (nI (x + 1))) (jlb (tp x)) (x + 1) (jfP.sI _ _ (by omega)) (by rw [jsI_c, if_neg (by decide)]; exact h.f) (by rw [jsI_c, if_pos rfl])
      refine ⟨T, ov', ir', ii', ?_, g2⟩
      rw [head, if_neg (by intro z; rw [jlit, nI_eq (by omega) (by omega)] at z; omega), jMc_begins hb (show x < ts by omega), Option.bind_some, if_pos (Or.inl c), if_neg jz10, if_neg (by intro z; rw [jlit, nI_eq (by omega) (by omega)] at z; omega), jg42 hL h.x, Option.bind_some, jp42 hL, Option.bind_some, show nI x + 1 = nI (x + 1) by rw [jlit, nI_add]]
      exact g1
  · have eop : f_Mo_open (jad L (jm 0)) (nI (jPs.d s + 1)) (jW L ω (jsI S (jm 0) 42 (nI (x + 1)))) = _ := jMc_open hL (ω := ω) (S := jsI S (jm 0) 42 (nI (x + 1))) hK (d := jPs.d s + 1) (by omega)
    refine ⟨jsA (jsA (jsA (jsA (jsI S (jm 0) 42 (nI (x + 1))) (jm 27) (jPs.d s + 1) (nI 0)) (jm 28) (jPs.d s + 1) (nI 0)) (jm 29) (jPs.d s + 1) (nI 0)) (jm 30) (jPs.d s + 1) (nI 0), fun e => if e = jPs.d s + 1 then 0 else ov e, fun e => if e = jPs.d s + 1 then 0 else ir e, fun e => if e = jPs.d s + 1 then 0 else ii e, ?_, ((((jfU.sI _ (k := 42) _ (by omega)).trans (jfU.sA _ (q := 27) _ _ (by omega) (by omega))).trans (jfU.sA _ (q := 28) _ _ (by omega) (by omega))).trans (jfU.sA _ (q := 29) _ _ (by omega) (by omega))).trans (jfU.sA _ (q := 30) _ _ (by omega) (by omega)), ⟨?_, ?_, fun e he => ?_, fun e he => ?_, fun e he => ?_, ?_, fun e he => ?_, ?_, fun z => absurd z (by show ¬ (0 = 1); decide)⟩⟩
    · rw [head, if_pos (show nI (tp x) = (40 : Int32) by rw [c]; rfl), jg42 hL h.x, Option.bind_some, jp42 hL, Option.bind_some, show nI x + 1 = nI (x + 1) by rw [jlit, nI_add], jkm hL, show nI (jPs.d s) + 1 = nI (jPs.d s + 1) by rw [jlit, nI_add], eop, Option.bind_some]
      rfl
    · show jgI (jsI S (jm 0) 42 (nI (x + 1))) (jm 0) 42 = _
      rw [jsI_c, if_pos rfl]
    · show jgI (jsI S (jm 0) 42 (nI (x + 1))) (jm 0) 39 = _
      rw [jsI_c, if_neg (by decide)]; exact h.f
    · have he : e ≤ jPs.d s + 1 := he
      rw [jsA_ne (jmne (by decide)), jsA_ne (jmne (by decide)), jsA_ne (jmne (by decide)), jsA_c, jsI_A]
      show _ = nI (jcap (if e = jPs.d s + 1 then 0 else ov e))
      by_cases k : e = jPs.d s + 1
      · rw [if_pos k, if_pos k]; rfl
      · rw [if_neg k, if_neg k]; exact h.o e (by omega)
    · have he : e ≤ jPs.d s + 1 := he
      rw [jsA_ne (jmne (by decide)), jsA_ne (jmne (by decide)), jsA_c, jsA_ne (jmne (by decide)), jsI_A]
      show _ = nI (jcap (if e = jPs.d s + 1 then 0 else ir e))
      by_cases k : e = jPs.d s + 1
      · rw [if_pos k, if_pos k]; rfl
      · rw [if_neg k, if_neg k]; exact h.r e (by omega)
    · have he : e ≤ jPs.d s + 1 := he
      rw [jsA_ne (jmne (by decide)), jsA_c, jsA_ne (jmne (by decide)), jsA_ne (jmne (by decide)), jsI_A]
      show _ = nI (jcap (if e = jPs.d s + 1 then 0 else ii e))
      by_cases k : e = jPs.d s + 1
      · rw [if_pos k, if_pos k]; rfl
      · rw [if_neg k, if_neg k]; exact h.i e (by omega)
    · show jgA _ (jm 30) (jPs.d s + 1) = nI 0
      rw [jsA_c, if_pos rfl]
    · have he : e < jPs.d s + 1 := he
      show (if e = jPs.d s + 1 then jPs.sz s else jPs.gf s e) + ((if e = jPs.d s + 1 then 0 else ov e) + (if e = jPs.d s + 1 then 0 else ir e) + (if e = jPs.d s + 1 then 0 else ii e)) = (if e + 1 = jPs.d s + 1 then jPs.sz s else jPs.gf s (e + 1))
      rw [if_neg (by omega), if_neg (by omega), if_neg (by omega), if_neg (by omega)]
      by_cases k : e = jPs.d s
      · rw [if_pos (by omega), k]; exact h.t
      · rw [if_neg (by omega)]; exact h.m e (by omega)
    · show (if jPs.d s + 1 = jPs.d s + 1 then jPs.sz s else _) + ((if jPs.d s + 1 = jPs.d s + 1 then 0 else _) + (if jPs.d s + 1 = jPs.d s + 1 then 0 else _) + (if jPs.d s + 1 = jPs.d s + 1 then 0 else _)) = jPs.sz s
      rw [if_pos rfl, if_pos rfl, if_pos rfl, if_pos rfl]; rfl
  · have c1 := jcap_le (ov (jPs.d s))
    have c2 := jcap_le (ir (jPs.d s))
    have c3 := jcap_le (ii (jPs.d s))
    have hf := jMo_few (v := jcap (ov (jPs.d s)) + jcap (ir (jPs.d s)) + jcap (ii (jPs.d s))) (by omega) (ω := jW L ω (jsI S (jm 0) 42 (nI (x + 1))))
    rw [jcap_add3] at hf
    have hn : vp_nar .boolean (nI 0) = nI 0 := jnab (Nat.zero_le _)
    refine ⟨jsA (jsA (jsA (jsA (jsI S (jm 0) 42 (nI (x + 1))) (jm 27) (jPs.d s) (nI (jcap (ov (jPs.d s) + ir (jPs.d s) + ii (jPs.d s))))) (jm 28) (jPs.d s) (nI 0)) (jm 29) (jPs.d s) (nI 0)) (jm 30) (jPs.d s) (nI 0), fun e => if e = jPs.d s then ov e + ir e + ii e else ov e, fun e => if e = jPs.d s then 0 else ir e, fun e => if e = jPs.d s then 0 else ii e, e249 _ (by omega) (fun z => by rcases z with z | z | z | z <;> first | omega | (rw [c] at z; cases z)) (by omega) (by omega) (by omega) (by omega) ?_, ((((jfU.sI _ _ (by omega)).trans (jfU.sA _ _ _ (by omega) (by omega))).trans (jfU.sA _ _ _ (by omega) (by omega))).trans (jfU.sA _ _ _ (by omega) (by omega))).trans (jfU.sA _ _ _ (by omega) (by omega)), ⟨?_, ?_, fun e he => ?_, fun e he => ?_, fun e he => ?_, ?_, fun e he => ?_, ?_, fun z => absurd z (by show ¬ (0 = 1); decide)⟩⟩
    · unfold f_Mo_check_249
      rw [hasI h1, if_neg (show ¬ nI 1 = (0 : Int32) by decide), if_pos (show nI (tp x) = (124 : Int32) by rw [c]; rfl), jg42 hL h.x, Option.bind_some, jp42 hL, Option.bind_some, show nI x + 1 = nI (x + 1) by rw [jlit, nI_add]]
      simp (disch := first | omega | rfl | assumption | exact jokr (by decide) (by omega) | exact jokr4 (by omega) | exact jkt_r _ _ | exact jkt_l (by decide) | exact jfk_l (by decide) | exact jkt_t _ | exact jkt_r6 _ _ | exact jkt_t6 _ | (simp only [jok, jlen]; omega) | decide) only [jm_k hL, jm_gi hL, jm_gr hL, jm_gl hL, jm_pi hL, jm_pl hL, jn_ai hL, jn_ab hL, jn_az hL, jn_al hL, jn_ar hL, jn_an hL, jn_si hL, jn_sb hL, jn_sz hL, jn_sl hL, Option.bind_some, xc, xl, jsA_X, jsI_X, jsG_X, hK _ _, jlk, jmx, jlit, nI_add, jsI_A, ho, hr, hit, hf, hn]
      rfl
    · show jgI (jsI S (jm 0) 42 (nI (x + 1))) (jm 0) 42 = _
      rw [jsI_c, if_pos rfl]
    · show jgI (jsI S (jm 0) 42 (nI (x + 1))) (jm 0) 39 = _
      rw [jsI_c, if_neg (by decide)]; exact h.f
    · rw [jsA_ne (jmne (by decide)), jsA_ne (jmne (by decide)), jsA_ne (jmne (by decide)), jsA_c, jsI_A]
      show _ = nI (jcap (if e = jPs.d s then ov e + ir e + ii e else ov e))
      by_cases k : e = jPs.d s
      · rw [if_pos k, if_pos k, k]
      · rw [if_neg k, if_neg k]; exact h.o e he
    · rw [jsA_ne (jmne (by decide)), jsA_ne (jmne (by decide)), jsA_c, jsA_ne (jmne (by decide)), jsI_A]
      show _ = nI (jcap (if e = jPs.d s then 0 else ir e))
      by_cases k : e = jPs.d s
      · rw [if_pos k, if_pos k]; rfl
      · rw [if_neg k, if_neg k]; exact h.r e he
    · rw [jsA_ne (jmne (by decide)), jsA_c, jsA_ne (jmne (by decide)), jsA_ne (jmne (by decide)), jsI_A]
      show _ = nI (jcap (if e = jPs.d s then 0 else ii e))
      by_cases k : e = jPs.d s
      · rw [if_pos k, if_pos k]; rfl
      · rw [if_neg k, if_neg k]; exact h.i e he
    · show jgA _ (jm 30) (jPs.d s) = nI 0
      rw [jsA_c, if_pos rfl]
    · have he : e < jPs.d s := he
      show jPs.gf s e + ((if e = jPs.d s then ov e + ir e + ii e else ov e) + (if e = jPs.d s then 0 else ir e) + (if e = jPs.d s then 0 else ii e)) = jPs.gf s (e + 1)
      rw [if_neg (by omega), if_neg (by omega), if_neg (by omega)]; exact h.m e he
    · show jPs.gf s (jPs.d s) + ((if jPs.d s = jPs.d s then ov (jPs.d s) + ir (jPs.d s) + ii (jPs.d s) else ov (jPs.d s)) + (if jPs.d s = jPs.d s then 0 else ir (jPs.d s)) + (if jPs.d s = jPs.d s then 0 else ii (jPs.d s))) = jPs.sz s
      rw [if_pos rfl, if_pos rfl, if_pos rfl]
      exact h.t
  · have c1 := jcap_le (ov (jPs.d s))
    have c2 := jcap_le (ir (jPs.d s))
    have c3 := jcap_le (ii (jPs.d s))
    have hf := jMo_few (v := jcap (ov (jPs.d s)) + jcap (ir (jPs.d s)) + jcap (ii (jPs.d s))) (by omega) (ω := jW L ω (jsI S (jm 0) 42 (nI (x + 1))))
    rw [jcap_add3] at hf
    have em1 : nI (jPs.d s) + -1 = nI (jPs.d s - 1) := by
      rw [show (-1 : Int32) = -nI 1 from rfl]; exact jneg1 hd0
    have ep1 : nI (jPs.d s - 1) + 1 = nI (jPs.d s) := by rw [jlit, nI_add]; congr 1; omega
    have hm := h.m (jPs.d s - 1) (by omega)
    rw [show jPs.d s - 1 + 1 = jPs.d s by omega] at hm
    have eit := jMc_item hL (ω := ω) (S := jsI S (jm 0) 42 (nI (x + 1))) hK (d := jPs.d s - 1) (n := jcap (ov (jPs.d s) + ir (jPs.d s) + ii (jPs.d s))) (by omega) (h.r _ (by omega)) (h.i _ (by omega))
    refine ⟨jsA (jsA (jsA (jsI S (jm 0) 42 (nI (x + 1))) (jm 28) (jPs.d s - 1) (nI (jcap (ir (jPs.d s - 1) + ii (jPs.d s - 1))))) (jm 29) (jPs.d s - 1) (nI (jcap (ov (jPs.d s) + ir (jPs.d s) + ii (jPs.d s))))) (jm 30) (jPs.d s - 1) (nI 1), ov, fun e => if e = jPs.d s - 1 then ir e + ii e else ir e, fun e => if e = jPs.d s - 1 then ov (jPs.d s) + ir (jPs.d s) + ii (jPs.d s) else ii e, e249 _ (by omega) (fun z => by rcases z with z | z | z | z <;> first | omega | (rw [c] at z; cases z)) (by omega) (by omega) (by omega) (by omega) ?_, (((jfU.sI _ (k := 42) _ (by omega)).trans (jfU.sA _ (q := 28) _ _ (by omega) (by omega))).trans (jfU.sA _ (q := 29) _ _ (by omega) (by omega))).trans (jfU.sA _ (q := 30) _ _ (by omega) (by omega)), ⟨?_, ?_, fun e he => ?_, fun e he => ?_, fun e he => ?_, ?_, fun e he => ?_, ?_, fun _ => ?_⟩⟩
    · unfold f_Mo_check_249
      rw [hasI h1, if_neg (show ¬ nI 1 = (0 : Int32) by decide), if_neg (by intro z; rw [jlit, nI_eq (by omega) (by omega)] at z; omega)]
      unfold f_Mo_check_330
      rw [hasI h1, if_neg (show ¬ nI 1 = (0 : Int32) by decide), if_pos (show nI (tp x) = (41 : Int32) by rw [c]; rfl), if_neg (show ¬ nI (jPs.d s) ≤ (0 : Int32) from fun z => by have := (nI_leI (b := 0) (by omega) (by omega)).mp z; omega), jg42 hL h.x, Option.bind_some, jp42 hL, Option.bind_some, show nI x + 1 = nI (x + 1) by rw [jlit, nI_add], em1, ep1]
      simp (disch := first | omega | rfl | assumption | exact jokr (by decide) (by omega) | exact jokr4 (by omega) | exact jkt_r _ _ | exact jkt_l (by decide) | exact jfk_l (by decide) | exact jkt_t _ | exact jkt_r6 _ _ | exact jkt_t6 _ | (simp only [jok, jlen]; omega) | decide) only [jm_k hL, jm_gi hL, jm_gr hL, jm_gl hL, jm_pi hL, jm_pl hL, jn_ai hL, jn_ab hL, jn_az hL, jn_al hL, jn_ar hL, jn_an hL, jn_si hL, jn_sb hL, jn_sz hL, jn_sl hL, Option.bind_some, xc, xl, jsA_X, jsI_X, jsG_X, hK _ _, jlk, jmx, nI_add, jsI_A, ho, hr, hit, hf, eit]
      rfl
    · show jgI (jsI S (jm 0) 42 (nI (x + 1))) (jm 0) 42 = _
      rw [jsI_c, if_pos rfl]
    · show jgI (jsI S (jm 0) 42 (nI (x + 1))) (jm 0) 39 = _
      rw [jsI_c, if_neg (by decide)]; exact h.f
    · have he : e ≤ jPs.d s - 1 := he
      rw [jsA_ne (jmne (by decide)), jsA_ne (jmne (by decide)), jsA_ne (jmne (by decide)), jsI_A]; exact h.o e (by omega)
    · have he : e ≤ jPs.d s - 1 := he
      rw [jsA_ne (jmne (by decide)), jsA_ne (jmne (by decide)), jsA_c, jsI_A]
      show _ = nI (jcap (if e = jPs.d s - 1 then ir e + ii e else ir e))
      by_cases k : e = jPs.d s - 1
      · rw [if_pos k, if_pos k, k]
      · rw [if_neg k, if_neg k]; exact h.r e (by omega)
    · have he : e ≤ jPs.d s - 1 := he
      rw [jsA_ne (jmne (by decide)), jsA_c, jsA_ne (jmne (by decide)), jsI_A]
      show _ = nI (jcap (if e = jPs.d s - 1 then ov (jPs.d s) + ir (jPs.d s) + ii (jPs.d s) else ii e))
      by_cases k : e = jPs.d s - 1
      · rw [if_pos k, if_pos k]
      · rw [if_neg k, if_neg k]; exact h.i e (by omega)
    · show jgA _ (jm 30) (jPs.d s - 1) = nI 1
      rw [jsA_c, if_pos rfl]
    · have he : e < jPs.d s - 1 := he
      show jPs.gf s e + (ov e + (if e = jPs.d s - 1 then ir e + ii e else ir e) + (if e = jPs.d s - 1 then ov (jPs.d s) + ir (jPs.d s) + ii (jPs.d s) else ii e)) = jPs.gf s (e + 1)
      rw [if_neg (by omega), if_neg (by omega)]; exact h.m e (by omega)
    · show jPs.gf s (jPs.d s - 1) + (ov (jPs.d s - 1) + (if jPs.d s - 1 = jPs.d s - 1 then ir (jPs.d s - 1) + ii (jPs.d s - 1) else ir (jPs.d s - 1)) + (if jPs.d s - 1 = jPs.d s - 1 then ov (jPs.d s) + ir (jPs.d s) + ii (jPs.d s) else ii (jPs.d s - 1))) = jPs.sz s
      rw [if_pos rfl, if_pos rfl]
      have := h.t
      omega
    · show jPs.gf s (jPs.d s) + (if jPs.d s - 1 = jPs.d s - 1 then ov (jPs.d s) + ir (jPs.d s) + ii (jPs.d s) else ii (jPs.d s - 1)) = jPs.sz s
      rw [if_pos rfl]; exact h.t
  · obtain ⟨T, ov', ir', ii', g1, g2⟩ := sign (jpS s 1) rfl rfl h1 rfl rfl rfl rfl
    refine ⟨T, ov', ir', ii', ?_, g2⟩
    have em : jmay s = 1 := by unfold jmay; rw [if_pos h1, r1]
    rw [head, if_neg (by intro z; rw [jlit, nI_eq (by omega) (by omega)] at z; omega), jMc_begins hb (show x < ts by omega), Option.bind_some, if_neg (show ¬ (jltr (tp x) = true ∨ tp x = 46 ∨ tp x = 91 ∨ tp x = 40) from fun z => by rcases z with z | z | z | z <;> first | omega | (rw [c] at z; cases z)), if_pos rfl, em, if_neg (show ¬ nI 1 = (0 : Int32) by decide), if_pos (show nI (tp x) = (42 : Int32) by rw [c]; rfl)]
    exact g1
  · obtain ⟨T, ov', ir', ii', g1, g2⟩ := sign (jpS s (jPs.it s).2.2) rfl rfl h1 rfl rfl rfl rfl
    refine ⟨T, ov', ir', ii', ?_, g2⟩
    have em : jmay s = 1 := by unfold jmay; rw [if_pos h1, r1]
    rw [head, if_neg (by intro z; rw [jlit, nI_eq (by omega) (by omega)] at z; omega), jMc_begins hb (show x < ts by omega), Option.bind_some, if_neg (show ¬ (jltr (tp x) = true ∨ tp x = 46 ∨ tp x = 91 ∨ tp x = 40) from fun z => by rcases z with z | z | z | z <;> first | omega | (rw [c] at z; cases z)), if_pos rfl, em, if_neg (show ¬ nI 1 = (0 : Int32) by decide), if_neg (by intro z; rw [jlit, nI_eq (by omega) (by omega)] at z; omega), if_pos (show nI (tp x) = (43 : Int32) by rw [c]; rfl)]
    exact g1
  · obtain ⟨T, ov', ir', ii', g1, g2⟩ := sign (jpQ s) rfl rfl h1 rfl rfl rfl rfl
    refine ⟨T, ov', ir', ii', ?_, g2⟩
    have em : jmay s = 1 := by unfold jmay; rw [if_pos h1, r1]
    rw [head, if_neg (by intro z; rw [jlit, nI_eq (by omega) (by omega)] at z; omega), jMc_begins hb (show x < ts by omega), Option.bind_some, if_neg (show ¬ (jltr (tp x) = true ∨ tp x = 46 ∨ tp x = 91 ∨ tp x = 40) from fun z => by rcases z with z | z | z | z <;> first | omega | (rw [c] at z; cases z)), if_pos rfl, em, if_neg (show ¬ nI 1 = (0 : Int32) by decide), if_neg (by intro z; rw [jlit, nI_eq (by omega) (by omega)] at z; omega), if_neg (by intro z; rw [jlit, nI_eq (by omega) (by omega)] at z; omega), if_pos (show nI (tp x) = (63 : Int32) by rw [c]; rfl)]
    exact g1
  · obtain ⟨d1, d2, d3, d4, d5⟩ := jbrF_ok hbr
    have x1 : x + 1 < t := hP.in (by omega) (by omega) (by omega)
    have x2 : x + 2 < t := hP.in (by omega) (by omega) (by omega)
    have x3 : x + 3 < t := hP.in (by omega) (by omega) (by omega)
    have x4 : x + 4 < t := hP.in (by omega) (by omega) (by omega)
    have dg : ∀ y, 48 ≤ tp y ∧ tp y ≤ 57 → jdig (tp y) = true := fun y z => decide_eq_true z
    -- five bytes
    have i1 : ∀ (U : jSt) (v : Int32), jgI (jsI U (jm 0) 42 v) (jm 0) 39 = jgI U (jm 0) 39 := fun U v => by rw [jsI_c, if_neg (by decide)]
    have i2 : ∀ (U : jSt) (v : Int32), jgI (jsI U (jm 0) 42 v) (jm 0) 42 = v := fun U v => by rw [jsI_c, if_pos rfl]
    have f1 : jfU S (jsI S (jm 0) 42 (nI (x + 1))) := jfU.sI _ _ (by omega)
    have f2 := f1.trans (jfU.sI (jsI S (jm 0) 42 (nI (x + 1))) (k := 42) (nI (x + 1 + 1)) (by omega))
    have f3 := f2.trans (jfU.sI (jsI (jsI S (jm 0) 42 (nI (x + 1))) (jm 0) 42 (nI (x + 1 + 1))) (k := 42) (nI (x + 2 + 1)) (by omega))
    have f4 := f3.trans (jfU.sI (jsI (jsI (jsI S (jm 0) 42 (nI (x + 1))) (jm 0) 42 (nI (x + 1 + 1))) (jm 0) 42 (nI (x + 2 + 1))) (k := 42) (nI (x + 3 + 1)) (by omega))
    have f5 := f4.trans (jfU.sI (jsI (jsI (jsI (jsI S (jm 0) 42 (nI (x + 1))) (jm 0) 42 (nI (x + 1 + 1))) (jm 0) 42 (nI (x + 2 + 1))) (jm 0) 42 (nI (x + 3 + 1))) (k := 42) (nI (x + 4 + 1)) (by omega))
    have a1 := (jMc_digit hL (ω := ω) (hK.of f1.x) (hT.fU f1) (y := x + 1) (by omega) (i2 _ _) (by rw [i1]; exact h.f)).1 ⟨by omega, dg _ d1⟩
    have a2 : f_Mo_sign (jad L (jm 0)) 44 _ = _ := (jMc_sign hL (ω := ω) (hK.of f2.x) (hT.fU f2) (y := x + 2) (c := 44) (by omega) (by omega) (i2 _ _) (by rw [i1, i1]; exact h.f)).1 ⟨by omega, d2⟩
    have a3 := (jMc_digit hL (ω := ω) (hK.of f3.x) (hT.fU f3) (y := x + 3) (by omega) (i2 _ _) (by rw [i1, i1, i1]; exact h.f)).1 ⟨by omega, dg _ (by omega)⟩
    have a4 : f_Mo_sign (jad L (jm 0)) 125 _ = _ := (jMc_sign hL (ω := ω) (hK.of f4.x) (hT.fU f4) (y := x + 4) (c := 125) (by omega) (by omega) (i2 _ _) (by rw [i1, i1, i1, i1]; exact h.f)).1 ⟨by omega, d5⟩
    have c3 := jcap_le (ii (jPs.d s))
    have hmul : jcap (ii (jPs.d s)) * (tp (x + 3) - 48) ≤ 1000 * 9 := Nat.mul_le_mul c3 (by omega)
    have hf := jMo_few (v := jcap (ii (jPs.d s)) * (tp (x + 3) - 48)) (by omega) (ω := jW L ω (jsI (jsI (jsI (jsI (jsI S (jm 0) 42 (nI (x + 1))) (jm 0) 42 (nI (x + 1 + 1))) (jm 0) 42 (nI (x + 2 + 1))) (jm 0) 42 (nI (x + 3 + 1))) (jm 0) 42 (nI (x + 4 + 1))))
    rw [jcap_mul _ (by omega)] at hf
    have hb1 := h.b h1
    have ew : jwd s = ii (jPs.d s) := by unfold jwd; omega
    refine ⟨jsA (jsI (jsI (jsI (jsI (jsI S (jm 0) 42 (nI (x + 1))) (jm 0) 42 (nI (x + 1 + 1))) (jm 0) 42 (nI (x + 2 + 1))) (jm 0) 42 (nI (x + 3 + 1))) (jm 0) 42 (nI (x + 4 + 1))) (jm 29) (jPs.d s) (nI (jcap (ii (jPs.d s) * (tp (x + 3) - 48)))), ov, ir, fun e => if e = jPs.d s then ii e * (tp (x + 3) - 48) else ii e, e148 _ h1 r1 (by omega) (fun z => by rcases z with z | z | z | z <;> first | omega | (rw [c] at z; cases z)) (by omega) (by omega) (by omega) ?_, f5.trans (jfU.sA _ _ _ (by omega) (by omega)), ⟨?_, ?_, fun e he => ?_, fun e he => ?_, fun e he => ?_, ?_, fun e he => ?_, ?_, fun _ => ?_⟩⟩
    · unfold f_Mo_check_148
      rw [if_neg (show ¬ nI 1 = (0 : Int32) by decide), if_pos (show nI (tp x) = (123 : Int32) by rw [c]; rfl), jg42 hL h.x, Option.bind_some, jp42 hL, Option.bind_some, show nI x + 1 = nI (x + 1) by rw [jlit, nI_add], jkm hL, a1]
      simp only [xc]
      rw [jkm hL, a2, Option.bind_some, jg42 hL (i2 _ _), Option.bind_some, jkm hL, a3]
      simp only [xc]
      rw [jg39 hL (by rw [i1, i1, i1, i1]; exact h.f), Option.bind_some, if_pos (show nI 0 = (0 : Int32) from rfl), if_neg (show ¬ nI (tp (x + 3) - 48) = (0 : Int32) from fun z => by rw [jlit, nI_eq (by omega) (by omega)] at z; omega), if_pos ((nI_leI (by omega) (by omega)).mpr (by omega))]
      unfold f_Mo_check_220
      rw [jkm hL, a4, Option.bind_some]
      simp (disch := first | omega | rfl | assumption | exact jokr (by decide) (by omega) | exact jokr4 (by omega) | exact jkt_r _ _ | exact jkt_l (by decide) | exact jfk_l (by decide) | exact jkt_t _ | exact jkt_r6 _ _ | exact jkt_t6 _ | (simp only [jok, jlen]; omega) | decide) only [jm_k hL, jm_gi hL, jm_gr hL, jm_gl hL, jm_pi hL, jm_pl hL, jn_ai hL, jn_ab hL, jn_az hL, jn_al hL, jn_ar hL, jn_an hL, jn_si hL, jn_sb hL, jn_sz hL, jn_sl hL, Option.bind_some, xc, xl, jsA_X, jsI_X, jsG_X, hK _ _, jlk, jmx, jmul, jsI_A, hit, hf]
      rfl
    · rw [jsA_I, i2]
    · rw [jsA_I, i1, i1, i1, i1, i1]; exact h.f
    · rw [jsA_ne (jmne (by decide))]; exact h.o e he
    · rw [jsA_ne (jmne (by decide))]; exact h.r e he
    · rw [jsA_c]
      show _ = nI (jcap (if e = jPs.d s then ii e * (tp (x + 3) - 48) else ii e))
      by_cases k : e = jPs.d s
      · rw [if_pos k, if_pos k, k]
      · rw [if_neg k, if_neg k]; exact h.i e he
    · show jgA _ (jm 30) (jPs.d s) = nI 1
      rw [jsA_ne (jmne (by decide))]
      have := h.h
      rw [h1] at this
      exact this
    · have he : e < jPs.d s := he
      show jPs.gf s e + (ov e + ir e + (if e = jPs.d s then ii e * (tp (x + 3) - 48) else ii e)) = jPs.gf s (e + 1)
      rw [if_neg (by omega)]; exact h.m e he
    · show jPs.gf s (jPs.d s) + (ov (jPs.d s) + ir (jPs.d s) + (if jPs.d s = jPs.d s then ii (jPs.d s) * (tp (x + 3) - 48) else ii (jPs.d s))) = jPs.ib s + (tp (x + 3) - 48) * jwd s
      rw [if_pos rfl, ew, Nat.mul_comm]
      have := h.t
      omega
    · show jPs.ib s + (if jPs.d s = jPs.d s then ii (jPs.d s) * (tp (x + 3) - 48) else ii (jPs.d s)) = jPs.ib s + (tp (x + 3) - 48) * jwd s
      rw [if_pos rfl, ew, Nat.mul_comm]
