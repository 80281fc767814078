/-! THE REFERENCE'S CHECK of a pattern follows the machine: it counts places by depth, up to 1000 -/
def jcap (v : Nat) : Nat := if v ≤ 1000 then v else 1000
theorem jcap_le (v : Nat) : jcap v ≤ 1000 := by unfold jcap; split <;> omega
theorem jcap_add (a b : Nat) : jcap (jcap a + jcap b) = jcap (a + b) := by
  unfold jcap
  (repeat' split) <;> omega
theorem jcap_add3 (a b c : Nat) : jcap (jcap a + jcap b + jcap c) = jcap (a + b + c) := by
  unfold jcap
  (repeat' split) <;> omega
theorem jcap_mul (a : Nat) {m : Nat} (hm : 1 ≤ m) : jcap (jcap a * m) = jcap (a * m) := by
  by_cases c : a ≤ 1000
  · rw [show jcap a = a from if_pos c]
  · rw [show jcap a = 1000 from if_neg c]
    have h1 : 1000 * 1 ≤ 1000 * m := Nat.mul_le_mul_left _ hm
    have h2 : a * 1 ≤ a * m := Nat.mul_le_mul_left _ hm
    unfold jcap
    rw [if_neg (show ¬ a * m ≤ 1000 by omega)]
    split <;> omega
theorem jMo_few {v : Nat} (h : v < 2 ^ 31) {ω : xS} : f_Mo_few (nI v) ω = some (nI (jcap v)) := by
  unfold f_Mo_few jcap
  by_cases c : v ≤ 1000
  · rw [if_pos (show nI v ≤ (1000 : Int32) from (nI_leI (b := 1000) h (by omega)).mpr c), if_pos c]
  · rw [if_neg (show ¬ nI v ≤ (1000 : Int32) from fun z => c ((nI_leI (b := 1000) h (by omega)).mp z)), if_neg c]; rfl
def jKs (T : jSt) (s : jPs) (x : Nat) (ov ir ii : Nat → Nat) : Prop := (jgI T (jm 0) 42 = nI x) ∧ (jgI T (jm 0) 39 = nI 0) ∧ (∀ e, e ≤ jPs.d s → jgA T (jm 27) e = nI (jcap (ov e))) ∧ (∀ e, e ≤ jPs.d s → jgA T (jm 28) e = nI (jcap (ir e))) ∧ (∀ e, e ≤ jPs.d s → jgA T (jm 29) e = nI (jcap (ii e))) ∧ (jgA T (jm 30) (jPs.d s) = nI (jPs.hs s)) ∧ (∀ e, e < jPs.d s → jPs.gf s e + (ov e + ir e + ii e) = jPs.gf s (e + 1)) ∧ (jPs.gf s (jPs.d s) + (ov (jPs.d s) + ir (jPs.d s) + ii (jPs.d s)) = jPs.sz s) ∧ (jPs.hs s = 1 → jPs.ib s + ii (jPs.d s) = jPs.sz s)
theorem jKs.x {T : jSt} {s : jPs} {x : Nat} {ov ir ii : Nat → Nat} (h : jKs T s x ov ir ii) : jgI T (jm 0) 42 = nI x := h.1
theorem jKs.f {T : jSt} {s : jPs} {x : Nat} {ov ir ii : Nat → Nat} (h : jKs T s x ov ir ii) : jgI T (jm 0) 39 = nI 0 := h.2.1
theorem jKs.o {T : jSt} {s : jPs} {x : Nat} {ov ir ii : Nat → Nat} (h : jKs T s x ov ir ii) : ∀ e, e ≤ jPs.d s → jgA T (jm 27) e = nI (jcap (ov e)) := h.2.2.1
theorem jKs.r {T : jSt} {s : jPs} {x : Nat} {ov ir ii : Nat → Nat} (h : jKs T s x ov ir ii) : ∀ e, e ≤ jPs.d s → jgA T (jm 28) e = nI (jcap (ir e)) := h.2.2.2.1
theorem jKs.i {T : jSt} {s : jPs} {x : Nat} {ov ir ii : Nat → Nat} (h : jKs T s x ov ir ii) : ∀ e, e ≤ jPs.d s → jgA T (jm 29) e = nI (jcap (ii e)) := h.2.2.2.2.1
theorem jKs.h {T : jSt} {s : jPs} {x : Nat} {ov ir ii : Nat → Nat} (h : jKs T s x ov ir ii) : jgA T (jm 30) (jPs.d s) = nI (jPs.hs s) := h.2.2.2.2.2.1
theorem jKs.m {T : jSt} {s : jPs} {x : Nat} {ov ir ii : Nat → Nat} (h : jKs T s x ov ir ii) : ∀ e, e < jPs.d s → jPs.gf s e + (ov e + ir e + ii e) = jPs.gf s (e + 1) := h.2.2.2.2.2.2.1
theorem jKs.t {T : jSt} {s : jPs} {x : Nat} {ov ir ii : Nat → Nat} (h : jKs T s x ov ir ii) : jPs.gf s (jPs.d s) + (ov (jPs.d s) + ir (jPs.d s) + ii (jPs.d s)) = jPs.sz s := h.2.2.2.2.2.2.2.1
theorem jKs.b {T : jSt} {s : jPs} {x : Nat} {ov ir ii : Nat → Nat} (h : jKs T s x ov ir ii) : jPs.hs s = 1 → jPs.ib s + ii (jPs.d s) = jPs.sz s := h.2.2.2.2.2.2.2.2
/-- cells on which the reference parses -/
def jisU : jC → Prop := fun c => ∃ q, 27 ≤ q ∧ q ≤ 37 ∧ c = jm q
theorem jisU_y {q : Nat} (h : 27 ≤ q) (h' : q ≤ 37) : jisU (jm q) := ⟨q, h, h', rfl⟩
theorem jisU_n {q : Nat} (h : q < 27 ∨ 37 < q) : ¬ jisU (jm q) := fun ⟨q', a, b, e⟩ => by
  have : q = q' := by simpa using e
  omega
/-- arrays of the parser and the reader's numbers change, no more -/
def jfU (S T : jSt) : Prop := (jgX T = jgX S) ∧ (jgN T = jgN S) ∧ (∀ c, ¬ jisU c → jgA T c = jgA S c) ∧ (∀ c, c ≠ jm 0 → jgI T c = jgI S c) ∧ (∀ k, k ≠ 39 ∧ k ≠ 40 ∧ k ≠ 42 → jgI T (jm 0) k = jgI S (jm 0) k)
theorem jfU.x {S T : jSt} (h : jfU S T) : jgX T = jgX S := h.1
theorem jfU.n {S T : jSt} (h : jfU S T) : jgN T = jgN S := h.2.1
theorem jfU.a {S T : jSt} (h : jfU S T) : ∀ c, ¬ jisU c → jgA T c = jgA S c := h.2.2.1
theorem jfU.i {S T : jSt} (h : jfU S T) : ∀ c, c ≠ jm 0 → jgI T c = jgI S c := h.2.2.2.1
theorem jfU.k {S T : jSt} (h : jfU S T) : ∀ k, k ≠ 39 ∧ k ≠ 40 ∧ k ≠ 42 → jgI T (jm 0) k = jgI S (jm 0) k := h.2.2.2.2
theorem jfU.refl (S : jSt) : jfU S S := ⟨rfl, rfl, fun _ _ => rfl, fun _ _ => rfl, fun _ _ => rfl⟩
theorem jfU.trans {S T U : jSt} (h : jfU S T) (h' : jfU T U) : jfU S U := ⟨h'.x.trans h.x, h'.n.trans h.n, fun c hc => (h'.a c hc).trans (h.a c hc), fun c hc => (h'.i c hc).trans (h.i c hc), fun k hk => (h'.k k hk).trans (h.k k hk)⟩
theorem jfU.sI (S : jSt) {k : Nat} (v : Int32) (h : k = 39 ∨ k = 40 ∨ k = 42) : jfU S (jsI S (jm 0) k v) := ⟨rfl, rfl, fun _ _ => rfl, fun c hc => jsI_fn hc, fun k' hk => by rw [jsI_c, if_neg (by omega)]⟩
theorem jfU.sA (S : jSt) {q : Nat} (k : Nat) (v : Int32) (h : 27 ≤ q) (h' : q ≤ 37) : jfU S (jsA S (jm q) k v) := ⟨rfl, rfl, fun c hc => jsA_fn (fun z => hc (z ▸ jisU_y h h')), fun _ _ => rfl, fun _ _ => rfl⟩
theorem jfP.U {S T : jSt} (h : jfP S T) : jfU S T := ⟨h.x, h.n, fun c _ => by rw [h.a], h.i, h.k⟩
theorem jTm.fU {S T : jSt} {tp : Nat → Nat} {ts : Nat} (h : jTm S tp ts) (e : jfU S T) : jTm T tp ts := ⟨h.s, h.b, by rw [e.k 11 (by omega)]; exact h.m, fun i hi => by rw [e.a _ (jisU_n (by omega))]; exact h.mb i hi⟩
theorem jMc_item {L : jL} (hL : jgood L) {ω : xS} {S : jSt} {sw ps wy : Nat} (hK : jLK S sw ps wy) {d r i n : Nat} (hd : d ≤ 40) (hr : jgA S (jm 28) d = nI (jcap r)) (hi : jgA S (jm 29) d = nI (jcap i)) : f_Mo_item (jad L (jm 0)) (nI d) (nI n) (jW L ω S) = some (jW L ω (jsA (jsA (jsA S (jm 28) d (nI (jcap (r + i)))) (jm 29) d (nI n)) (jm 30) d (nI 1))) := by
  have h1 := jcap_le r
  have h2 := jcap_le i
  have hf := jMo_few (v := jcap r + jcap i) (by omega) (ω := jW L ω S)
  rw [jcap_add] at hf
  have hn : vp_nar .boolean (nI 1) = nI 1 := jnab (Nat.le_refl _)
  unfold f_Mo_item
  simp (disch := first | omega | rfl | assumption | exact jokr (by decide) (by omega) | exact jokr4 (by omega) | exact jkt_r _ _ | exact jkt_l (by decide) | exact jfk_l (by decide) | exact jkt_t _ | exact jkt_r6 _ _ | exact jkt_t6 _ | (simp only [jok, jlen]; omega) | decide) only [jm_k hL, jm_gi hL, jm_gr hL, jm_gl hL, jm_pi hL, jm_pl hL, jn_ai hL, jn_ab hL, jn_az hL, jn_al hL, jn_ar hL, jn_an hL, jn_si hL, jn_sb hL, jn_sz hL, jn_sl hL, Option.bind_some, xc, xl, jsA_X, jsI_X, jsG_X, hK _ _, jlk, jmx, jlit, nI_add, hr, hi, hf, hn]
theorem jMc_open {L : jL} (hL : jgood L) {ω : xS} {S : jSt} {sw ps wy : Nat} (hK : jLK S sw ps wy) {d : Nat} (hd : d ≤ 40) : f_Mo_open (jad L (jm 0)) (nI d) (jW L ω S) = some (jW L ω (jsA (jsA (jsA (jsA S (jm 27) d (nI 0)) (jm 28) d (nI 0)) (jm 29) d (nI 0)) (jm 30) d (nI 0))) := by
  have hn : vp_nar .boolean (nI 0) = nI 0 := jnab (Nat.zero_le _)
  unfold f_Mo_open
  simp (disch := first | omega | rfl | assumption | exact jokr (by decide) (by omega) | exact jokr4 (by omega) | exact jkt_r _ _ | exact jkt_l (by decide) | exact jfk_l (by decide) | exact jkt_t _ | exact jkt_r6 _ _ | exact jkt_t6 _ | (simp only [jok, jlen]; omega) | decide) only [jm_k hL, jm_gi hL, jm_gr hL, jm_gl hL, jm_pi hL, jm_pl hL, jn_ai hL, jn_ab hL, jn_az hL, jn_al hL, jn_ar hL, jn_an hL, jn_si hL, jn_sb hL, jn_sz hL, jn_sl hL, Option.bind_some, xc, xl, jsA_X, jsI_X, jsG_X, hK _ _, jlk, jmx, jlit, hn]
theorem jg42 {L : jL} (hL : jgood L) {ω : xS} {S : jSt} {y : Nat} (h : jgI S (jm 0) 42 = nI y) : xgi (jW L ω S) (jad L (jm 0)) 12 42 = some (nI y) := by simp (disch := first | omega | rfl | assumption | exact jokr (by decide) (by omega) | exact jokr4 (by omega) | exact jkt_r _ _ | exact jkt_l (by decide) | exact jfk_l (by decide) | exact jkt_t _ | exact jkt_r6 _ _ | exact jkt_t6 _ | (simp only [jok, jlen]; omega) | decide) only [jm_gi hL, h]
theorem jg39 {L : jL} (hL : jgood L) {ω : xS} {S : jSt} {y : Nat} (h : jgI S (jm 0) 39 = nI y) : xgi (jW L ω S) (jad L (jm 0)) 12 39 = some (nI y) := by simp (disch := first | omega | rfl | assumption | exact jokr (by decide) (by omega) | exact jokr4 (by omega) | exact jkt_r _ _ | exact jkt_l (by decide) | exact jfk_l (by decide) | exact jkt_t _ | exact jkt_r6 _ _ | exact jkt_t6 _ | (simp only [jok, jlen]; omega) | decide) only [jm_gi hL, h]
theorem jp42 {L : jL} (hL : jgood L) {ω : xS} {S : jSt} {v : Int32} : xp (jW L ω S) (jad L (jm 0)) 12 42 (.int v) = some (jW L ω (jsI S (jm 0) 42 v)) := by simp (disch := first | omega | rfl | assumption | exact jokr (by decide) (by omega) | exact jokr4 (by omega) | exact jkt_r _ _ | exact jkt_l (by decide) | exact jfk_l (by decide) | exact jkt_t _ | exact jkt_r6 _ _ | exact jkt_t6 _ | (simp only [jok, jlen]; omega) | decide) only [jm_pi hL]
theorem jMc_begins {tp : Nat → Nat} {ts i : Nat} (hb : ∀ i, tp i < 256) (hi : i < ts) {ω : xS} : f_Mo_beginsAtom (nI (tp i)) ω = some (if jltr (tp i) = true ∨ tp i = 46 ∨ tp i = 91 ∨ tp i = 40 then 1 else 0) := by
  have hbb := hb i
  have hl := jMo_letterOf (tp := tp) (ts := ts) (i := i) hb (ω := ω)
  have hbe : jbv tp ts i = nI (tp i) := by unfold jbv; rw [if_pos hi]
  rw [hbe] at hl
  unfold f_Mo_beginsAtom
  rw [hl, Option.bind_some]
  by_cases c : jltr (tp i) = true
  · have c' : tp i = 45 ∨ (97 ≤ tp i ∧ tp i ≤ 104) := of_decide_eq_true c
    rw [if_pos (⟨hi, c⟩ : i < ts ∧ jltr (tp i) = true), if_pos (Or.inl c)]
    rw [if_pos]
    split
    · rw [jlit, nI_leI (by omega) (by omega)]; omega
    · rw [jlit, nI_leI (by omega) (by omega)]; omega
  · rw [if_neg (show ¬ (i < ts ∧ jltr (tp i) = true) from fun z => c z.2), if_neg (show ¬ (0 : Int32) ≤ -1 by decide)]
    by_cases c1 : tp i = 46
    · rw [if_pos (show nI (tp i) = (46 : Int32) by rw [c1]; rfl), if_pos (Or.inr (Or.inl c1))]
    · rw [if_neg (by intro z; rw [jlit, nI_eq (by omega) (by omega)] at z; omega)]
      by_cases c2 : tp i = 91
      · rw [if_pos (show nI (tp i) = (91 : Int32) by rw [c2]; rfl), if_pos (Or.inr (Or.inr (Or.inl c2)))]
      · rw [if_neg (by intro z; rw [jlit, nI_eq (by omega) (by omega)] at z; omega)]
        by_cases c3 : tp i = 40
        · rw [if_pos (show nI (tp i) = (40 : Int32) by rw [c3]; rfl), if_pos (Or.inr (Or.inr (Or.inr c3)))]
        · rw [if_neg (by intro z; rw [jlit, nI_eq (by omega) (by omega)] at z; omega), if_neg (fun z => by rcases z with z | z | z | z <;> contradiction)]
/-- may be repeated -/
def jmay (s : jPs) : Nat := if jPs.hs s = 1 then jPs.rp s else 0
theorem jMc_digit {L : jL} (hL : jgood L) {ω : xS} {S : jSt} {sw ps wy : Nat} (hK : jLK S sw ps wy) {tp : Nat → Nat} {ts y : Nat} (hT : jTm S tp ts) (hy : y ≤ ts) (h42 : jgI S (jm 0) 42 = nI y) (h39 : jgI S (jm 0) 39 = nI 0) : (y < ts ∧ jdig (tp y) = true → f_Mo_digit (jad L (jm 0)) (jW L ω S) = some (nI (tp y - 48), jW L ω (jsI S (jm 0) 42 (nI (y + 1))))) ∧ (¬ (y < ts ∧ jdig (tp y) = true) → ∃ T, f_Mo_digit (jad L (jm 0)) (jW L ω S) = some (0, jW L ω T) ∧ jfP S T ∧ jgI T (jm 0) 39 = nI 2 ∧ jgI T (jm 0) 40 = nI y ∧ jgI T (jm 0) 42 = nI y) := by
  have hs := hT.s
  have lk : xk (jW L ω S) (jad L (jm 0)) 12 (f_Mo_look (jad L (jm 0)) (nI y) (jW L ω S)) = some (jbv tp ts y) := by rw [jkm hL, jMo_look hL hK hT (by omega)]
  unfold f_Mo_digit
  rw [jg39 hL h39, Option.bind_some, if_pos (show nI 0 = (0 : Int32) from rfl), jg42 hL h42, Option.bind_some, lk, Option.bind_some, jMo_isDigit hT.b, Option.bind_some]
  refine ⟨fun c => ?_, fun c => ?_⟩
  · have c' : 48 ≤ tp y ∧ tp y ≤ 57 := of_decide_eq_true c.2
    rw [if_pos c, if_neg jz10, Option.bind_some, jp42 hL, Option.bind_some, show nI y + 1 = nI (y + 1) by rw [jlit, nI_add]]
    unfold jbv
    rw [if_pos c.1, jlit, jsub (by omega)]
  · obtain ⟨T, a1, a2, a3, a4, a5⟩ := jMp_fails hL (ω := ω) hK (x := 2) (v := y) h39
    have a1 : f_Mo_fails (jad L (jm 0)) 2 (nI y) (jW L ω S) = some (0, jW L ω T) := a1
    rw [if_neg c, if_pos rfl, Option.bind_some, jkm hL, a1]
    exact ⟨T, rfl, a2, a3, a4, by rw [a5]; exact h42⟩
theorem jMc_digit0 {L : jL} (hL : jgood L) {ω : xS} {S : jSt} {sw ps wy : Nat} (hK : jLK S sw ps wy) {f : Nat} (h39 : jgI S (jm 0) 39 = nI f) (hf : f ≠ 0) (hf4 : f ≤ 4) : f_Mo_digit (jad L (jm 0)) (jW L ω S) = some (0, jW L ω S) := by
  unfold f_Mo_digit
  rw [jg39 hL h39, Option.bind_some, if_neg (show ¬ nI f = (0 : Int32) from fun z => by rw [jlit, nI_eq (by omega) (by omega)] at z; exact hf z)]
theorem jMc_sign {L : jL} (hL : jgood L) {ω : xS} {S : jSt} {sw ps wy : Nat} (hK : jLK S sw ps wy) {tp : Nat → Nat} {ts y c : Nat} (hT : jTm S tp ts) (hy : y ≤ ts) (hc : c < 256) (h42 : jgI S (jm 0) 42 = nI y) (h39 : jgI S (jm 0) 39 = nI 0) : (y < ts ∧ tp y = c → f_Mo_sign (jad L (jm 0)) (nI c) (jW L ω S) = some (jW L ω (jsI S (jm 0) 42 (nI (y + 1))))) ∧ (¬ (y < ts ∧ tp y = c) → ∃ T, f_Mo_sign (jad L (jm 0)) (nI c) (jW L ω S) = some (jW L ω T) ∧ jfP S T ∧ jgI T (jm 0) 39 = nI 2 ∧ jgI T (jm 0) 40 = nI y) := by
  have hs := hT.s
  have lk : xk (jW L ω S) (jad L (jm 0)) 12 (f_Mo_look (jad L (jm 0)) (nI y) (jW L ω S)) = some (jbv tp ts y) := by rw [jkm hL, jMo_look hL hK hT (by omega)]
  unfold f_Mo_sign
  rw [jg39 hL h39, Option.bind_some, if_pos (show nI 0 = (0 : Int32) from rfl), jg42 hL h42, Option.bind_some, lk, Option.bind_some]
  refine ⟨fun k => ?_, fun k => ?_⟩
  · rw [if_pos ((jbv_eq hT.b (by omega)).mpr k)]
    unfold f_Mo_sign_29
    rw [jg42 hL h42, Option.bind_some, jg39 hL h39, Option.bind_some, if_pos (show nI 0 = (0 : Int32) from rfl), jp42 hL, Option.bind_some, show nI y + 1 = nI (y + 1) by rw [jlit, nI_add]]
  · obtain ⟨T, a1, a2, a3, a4, a5⟩ := jMp_fails hL (ω := ω) hK (x := 2) (v := y) h39
    have a1 : f_Mo_fails (jad L (jm 0)) 2 (nI y) (jW L ω S) = some (0, jW L ω T) := a1
    rw [if_neg (fun z => k ((jbv_eq hT.b (by omega)).mp z)), Option.bind_some, jkm hL, a1]
    simp only [xc]
    unfold f_Mo_sign_29
    rw [h42] at a5
    refine ⟨jsI T (jm 0) 42 (nI y + 0), ?_, a2.trans (jfP.sI _ _ (by omega)), by rw [jsI_c, if_neg (by decide)]; exact a3, by rw [jsI_c, if_neg (by decide)]; exact a4⟩
    rw [jg42 hL a5, Option.bind_some, jg39 hL a3, Option.bind_some, if_neg (show ¬ nI 2 = (0 : Int32) by decide), jp42 hL, Option.bind_some]
theorem jMc_sign0 {L : jL} (hL : jgood L) {ω : xS} {S : jSt} {sw ps wy : Nat} (hK : jLK S sw ps wy) {f y : Nat} {c : Int32} (h39 : jgI S (jm 0) 39 = nI f) (hf : f ≠ 0) (hf4 : f ≤ 4) : ∃ T, f_Mo_sign (jad L (jm 0)) c (jW L ω S) = some (jW L ω T) ∧ jfP S T ∧ jgI T (jm 0) 39 = nI f ∧ jgI T (jm 0) 40 = jgI S (jm 0) 40 := by
  have nf : ¬ nI f = (0 : Int32) := fun z => by rw [jlit, nI_eq (by omega) (by omega)] at z; exact hf z
  have g42 : xgi (jW L ω S) (jad L (jm 0)) 12 42 = some (jgI S (jm 0) 42) := by simp (disch := first | omega | rfl | assumption | exact jokr (by decide) (by omega) | exact jokr4 (by omega) | exact jkt_r _ _ | exact jkt_l (by decide) | exact jfk_l (by decide) | exact jkt_t _ | exact jkt_r6 _ _ | exact jkt_t6 _ | (simp only [jok, jlen]; omega) | decide) only [jm_gi hL]
  refine ⟨jsI S (jm 0) 42 (jgI S (jm 0) 42 + 0), ?_, jfP.sI _ _ (by omega), by rw [jsI_c, if_neg (by decide)]; exact h39, by rw [jsI_c, if_neg (by decide)]⟩
  unfold f_Mo_sign f_Mo_sign_29
  rw [jg39 hL h39, Option.bind_some, if_neg nf, g42, Option.bind_some, Option.bind_some, if_neg nf, jp42 hL, Option.bind_some]
/-- with a fault the check ends, whatever it counted -/
theorem jMc_415 {L : jL} (hL : jgood L) {ω : xS} {S : jSt} {sw ps wy : Nat} (hK : jLK S sw ps wy) {f : Nat} {x2 : Int32} (h39 : jgI S (jm 0) 39 = nI f) (hf : f ≠ 0) (hf4 : f ≤ 4) : ∃ v, f_Mo_check_415 (jad L (jm 0)) x2 (jW L ω S) = some (v, jW L ω S) := by
  unfold f_Mo_check_415
  rw [jg39 hL h39, Option.bind_some, if_neg (show ¬ nI f = (0 : Int32) from fun z => by rw [jlit, nI_eq (by omega) (by omega)] at z; exact hf z)]
  unfold f_Mo_check_445
  have g0 : ∀ v : Int32, ∃ r, f_Mo_few v (jW L ω S) = some r := fun v => by
    unfold f_Mo_few
    by_cases c : v ≤ 1000
    · rw [if_pos c]; exact ⟨_, rfl⟩
    · rw [if_neg c]; exact ⟨_, rfl⟩
  obtain ⟨r, hr⟩ := g0 (jgA S (jm 27) 0 + jgA S (jm 28) 0 + jgA S (jm 29) 0)
  refine ⟨r, ?_⟩
  have z : (0 : Int32) = nI 0 := rfl
  rw [z]
  simp (disch := first | omega | rfl | assumption | exact jokr (by decide) (by omega) | exact jokr4 (by omega) | exact jkt_r _ _ | exact jkt_l (by decide) | exact jfk_l (by decide) | exact jkt_t _ | exact jkt_r6 _ _ | exact jkt_t6 _ | (simp only [jok, jlen]; omega) | decide) only [jm_k hL, jm_gi hL, jm_gr hL, jm_gl hL, jm_pi hL, jm_pl hL, jn_ai hL, jn_ab hL, jn_az hL, jn_al hL, jn_ar hL, jn_an hL, jn_si hL, jn_sb hL, jn_sz hL, jn_sl hL, Option.bind_some, xc, xl, jsA_X, jsI_X, jsG_X, hK _ _, jlk, jmx, hr]
