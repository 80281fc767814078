/-! TOKENS of a text, and how the class goes from one to the next -/
theorem jbfl {b : Bool} (h : ¬ b = true) : b = false := by
  cases b
  · rfl
  · exact absurd rfl h
def jrun (tp : Nat → Nat) (ts : Nat) (P : Nat → Bool) : Nat → Nat → Nat
  | 0, i => i
  | n + 1, i => if i < ts ∧ P (tp i) = true then jrun tp ts P n (i + 1) else i
def jRn (tp : Nat → Nat) (ts : Nat) (P : Nat → Bool) (i e : Nat) : Prop := (i ≤ e) ∧ (∀ j, i ≤ j → j < e → j < ts ∧ P (tp j) = true) ∧ (e < ts → P (tp e) = false) ∧ (e ≤ ts ∨ e = i)
theorem jRn.a {tp : Nat → Nat} {ts : Nat} {P : Nat → Bool} {i e : Nat} (h : jRn tp ts P i e) : i ≤ e := h.1
theorem jRn.b {tp : Nat → Nat} {ts : Nat} {P : Nat → Bool} {i e : Nat} (h : jRn tp ts P i e) : ∀ j, i ≤ j → j < e → j < ts ∧ P (tp j) = true := h.2.1
theorem jRn.c {tp : Nat → Nat} {ts : Nat} {P : Nat → Bool} {i e : Nat} (h : jRn tp ts P i e) : e < ts → P (tp e) = false := h.2.2.1
theorem jRn.d {tp : Nat → Nat} {ts : Nat} {P : Nat → Bool} {i e : Nat} (h : jRn tp ts P i e) : e ≤ ts ∨ e = i := h.2.2.2
theorem jrun_ok {tp : Nat → Nat} {ts : Nat} {P : Nat → Bool} : ∀ n i, ts ≤ i + n → jRn tp ts P i (jrun tp ts P n i)
  | 0, i, h => ⟨Nat.le_refl _, fun j h1 h2 => (by rw [jrun] at h2; omega), fun h1 => (by rw [jrun] at h1; omega), Or.inr rfl⟩
  | n + 1, i, h => by
    rw [jrun]
    by_cases c : i < ts ∧ P (tp i) = true
    · rw [if_pos c]
      have ih := jrun_ok (tp := tp) (ts := ts) (P := P) n (i + 1) (by omega)
      refine ⟨by have := ih.a; omega, fun j h1 h2 => ?_, ih.c, ?_⟩
      · by_cases e : j = i
        · rw [e]; exact c
        · exact ih.b j (by omega) h2
      · rcases ih.d with z | z
        · exact Or.inl z
        · left; rw [z]; omega
    · rw [if_neg c]
      refine ⟨Nat.le_refl _, fun j h1 h2 => by omega, fun h1 => ?_, Or.inr rfl⟩
      cases z : P (tp i)
      · rfl
      · exact absurd ⟨h1, z⟩ c
def jsp (c : Nat) : Bool := decide (c = 10 ∨ c = 32)
def jsml (c : Nat) : Bool := decide (97 ≤ c ∧ c ≤ 122)
def jdig (c : Nat) : Bool := decide (48 ≤ c ∧ c ≤ 57)
def jpch (c : Nat) : Bool := decide (33 ≤ c ∧ c ≤ 126 ∧ c ≠ 34)
/-- where the token behind place e begins, of what kind it is (0 none, 1 end, 2 word, 3 number, 4 pattern, 5 semicolon), where it ends -/
def jtB (tp : Nat → Nat) (ts e : Nat) : Nat := jrun tp ts jsp ts e
def jtC (tp : Nat → Nat) (ts b : Nat) : Nat × Nat :=
  if ts ≤ b then (1, b)
  else if tp b = 59 then (5, b + 1)
  else if jsml (tp b) = true then (if jrun tp ts jsml ts b - b ≤ 8 then 2 else 0, jrun tp ts jsml ts b)
  else if jdig (tp b) = true then (if jrun tp ts jdig ts b - b ≤ 6 then 3 else 0, jrun tp ts jdig ts b)
  else if tp b = 34 then (if jrun tp ts jpch ts (b + 1) < ts ∧ tp (jrun tp ts jpch ts (b + 1)) = 34 ∧ jrun tp ts jpch ts (b + 1) - b ≤ 41 then 4 else 0, jrun tp ts jpch ts (b + 1) + 1)
  else (0, b)
def jtK (tp : Nat → Nat) (ts e : Nat) : Nat := (jtC tp ts (jtB tp ts e)).1
def jtE (tp : Nat → Nat) (ts e : Nat) : Nat := (jtC tp ts (jtB tp ts e)).2
theorem jtK_le {tp : Nat → Nat} {ts e : Nat} : jtK tp ts e ≤ 5 := by
  unfold jtK jtC
  (repeat' split) <;> (try dsimp only) <;> (try split) <;> omega
theorem jtB_ok {tp : Nat → Nat} {ts e : Nat} (h : e ≤ ts) : jRn tp ts jsp e (jtB tp ts e) := jrun_ok ts e (by omega)
theorem jtB_le {tp : Nat → Nat} {ts e : Nat} (h : e ≤ ts) : e ≤ jtB tp ts e ∧ jtB tp ts e ≤ ts := by
  have h1 := jtB_ok (tp := tp) h
  have h2 := h1.d
  have h3 := h1.a
  omega
theorem jtE_le {tp : Nat → Nat} {ts e : Nat} (h : e ≤ ts) : jtE tp ts e ≤ ts + 1 ∧ (jtK tp ts e ≠ 0 → jtE tp ts e ≤ ts) ∧ jtB tp ts e ≤ jtE tp ts e := by
  have hb := jtB_le (tp := tp) h
  unfold jtE jtK jtC
  have r1 := jrun_ok (tp := tp) (ts := ts) (P := jsml) ts (jtB tp ts e) (by omega)
  have r2 := jrun_ok (tp := tp) (ts := ts) (P := jdig) ts (jtB tp ts e) (by omega)
  have r3 := jrun_ok (tp := tp) (ts := ts) (P := jpch) ts (jtB tp ts e + 1) (by omega)
  have a1 := r1.a
  have a2 := r2.a
  have a3 := r3.a
  have d1 := r1.d
  have d2 := r2.d
  have d3 := r3.d
  by_cases c1 : ts ≤ jtB tp ts e
  · rw [if_pos c1]; dsimp only; omega
  · rw [if_neg c1]
    by_cases c2 : tp (jtB tp ts e) = 59
    · rw [if_pos c2]; dsimp only; omega
    · rw [if_neg c2]
      by_cases c3 : jsml (tp (jtB tp ts e)) = true
      · rw [if_pos c3]; dsimp only; omega
      · rw [if_neg c3]
        by_cases c4 : jdig (tp (jtB tp ts e)) = true
        · rw [if_pos c4]; dsimp only; omega
        · rw [if_neg c4]
          by_cases c5 : tp (jtB tp ts e) = 34
          · rw [if_pos c5]
            dsimp only
            refine ⟨by omega, fun z => ?_, by omega⟩
            split at z
            · rename_i q; omega
            · exact absurd rfl z
          · rw [if_neg c5]; dsimp only; omega
/-! frames: references and lengths stay, and all numbers but in the cells of Q -/
def jfq (Q : jC → Prop) (S T : jSt) : Prop := jgX T = jgX S ∧ jgN T = jgN S ∧ ∀ c, ¬ Q c → jgI T c = jgI S c ∧ jgA T c = jgA S c
theorem jfq.refl (Q : jC → Prop) (S : jSt) : jfq Q S S := ⟨rfl, rfl, fun _ _ => ⟨rfl, rfl⟩⟩
theorem jfq.trans {Q : jC → Prop} {S T U : jSt} (h : jfq Q S T) (h' : jfq Q T U) : jfq Q S U := ⟨h'.1.trans h.1, h'.2.1.trans h.2.1, fun c hc => ⟨(h'.2.2 c hc).1.trans (h.2.2 c hc).1, (h'.2.2 c hc).2.trans (h.2.2 c hc).2⟩⟩
theorem jfq.weak {Q R : jC → Prop} {S T : jSt} (h : jfq Q S T) (hr : ∀ c, Q c → R c) : jfq R S T := ⟨h.1, h.2.1, fun c hc => h.2.2 c (fun z => hc (hr c z))⟩
theorem jfq.sI {Q : jC → Prop} (S : jSt) {c : jC} (k : Nat) (v : Int32) (h : Q c) : jfq Q S (jsI S c k v) := ⟨rfl, rfl, fun c' hc => ⟨jsI_fn (fun z => hc (z ▸ h)), rfl⟩⟩
theorem jfq.sA {Q : jC → Prop} (S : jSt) {c : jC} (k : Nat) (v : Int32) (h : Q c) : jfq Q S (jsA S c k v) := ⟨rfl, rfl, fun c' hc => ⟨rfl, jsA_fn (fun z => hc (z ▸ h))⟩⟩
theorem jfq.sG {Q : jC → Prop} (S : jSt) (c : jC) (k : Nat) (v : Int64) : jfq Q S (jsG S c k v) := ⟨rfl, rfl, fun c' _ => ⟨rfl, rfl⟩⟩
theorem jsI_c {S : jSt} {c : jC} {k k' : Nat} {v : Int32} : jgI (jsI S c k v) c k' = if k' = k then v else jgI S c k' := by
  rw [jsI_I]
  by_cases e : k' = k
  · rw [if_pos e, if_pos ⟨rfl, e⟩]
  · rw [if_neg e, if_neg (fun z => e z.2)]
/-- the class's tape -/
def jTc (S : jSt) (tp : Nat → Nat) (ts : Nat) : Prop := (ts ≤ 1500) ∧ (∀ i, tp i < 256) ∧ (jgI S (jo 1) 1 = nI ts) ∧ (∀ i, i < ts → jgA S (jo 2) i = nI (tp i))
theorem jTc.s {S : jSt} {tp : Nat → Nat} {ts : Nat} (h : jTc S tp ts) : ts ≤ 1500 := h.1
theorem jTc.b {S : jSt} {tp : Nat → Nat} {ts : Nat} (h : jTc S tp ts) : ∀ i, tp i < 256 := h.2.1
theorem jTc.c {S : jSt} {tp : Nat → Nat} {ts : Nat} (h : jTc S tp ts) : jgI S (jo 1) 1 = nI ts := h.2.2.1
theorem jTc.cb {S : jSt} {tp : Nat → Nat} {ts : Nat} (h : jTc S tp ts) : ∀ i, i < ts → jgA S (jo 2) i = nI (tp i) := h.2.2.2
theorem jTp.tc {S : jSt} {tp : Nat → Nat} {ts : Nat} (h : jTp S tp ts) : jTc S tp ts := ⟨h.s, h.b, h.c, h.cb⟩
theorem jTc.fq {Q : jC → Prop} {S T : jSt} {tp : Nat → Nat} {ts : Nat} (h : jTc S tp ts) (e : jfq Q S T) (h1 : ¬ Q (jo 1)) (h2 : ¬ Q (jo 2)) : jTc T tp ts := ⟨h.s, h.b, by rw [(e.2.2 _ h1).1]; exact h.c, fun i hi => by rw [(e.2.2 _ h2).2]; exact h.cb i hi⟩
def jbv (tp : Nat → Nat) (ts i : Nat) : Int32 := if i < ts then nI (tp i) else -1
theorem jTape_at {L : jL} (hL : jgood L) {ω : xS} {S : jSt} {sw ps wy : Nat} (hK : jLK S sw ps wy) {tp : Nat → Nat} {ts : Nat} (hT : jTc S tp ts) {i : Nat} (hi : i < 2 ^ 31) : f_Tape_byteAt (jad L (jo 1)) (nI i) (jW L ω S) = some (jbv tp ts i) := by
  have hs := hT.s
  have hc := hT.c
  unfold f_Tape_byteAt jbv
  by_cases c : i < ts
  · have hb := hT.cb i c
    simp (disch := first | omega | rfl | assumption | exact jokr (by decide) (by omega) | exact jokr4 (by omega) | exact jkt_r _ _ | exact jkt_l (by decide) | exact jfk_l (by decide) | exact jkt_t _ | exact jkt_r6 _ _ | exact jkt_t6 _ | (simp only [jok, jlen]; omega) | decide) only [jm_k hL, jm_gi hL, jm_gr hL, jm_gl hL, jm_pi hL, jm_pl hL, jn_ai hL, jn_ab hL, jn_az hL, jn_al hL, jn_ar hL, jn_an hL, jn_si hL, jn_sb hL, jn_sz hL, jn_sl hL, Option.bind_some, xc, xl, jsA_X, jsI_X, jsG_X, hK _ _, jlk, jmx, jlit, jneg, if_false, nI_leI, if_neg, hc, hb]
    (try rw [if_pos c])
  · simp (disch := first | omega | rfl | assumption | exact jokr (by decide) (by omega) | exact jokr4 (by omega) | exact jkt_r _ _ | exact jkt_l (by decide) | exact jfk_l (by decide) | exact jkt_t _ | exact jkt_r6 _ _ | exact jkt_t6 _ | (simp only [jok, jlen]; omega) | decide) only [jm_k hL, jm_gi hL, jm_gr hL, jm_gl hL, jm_pi hL, jm_pl hL, jn_ai hL, jn_ab hL, jn_az hL, jn_al hL, jn_ar hL, jn_an hL, jn_si hL, jn_sb hL, jn_sz hL, jn_sl hL, Option.bind_some, xc, xl, jsA_X, jsI_X, jsG_X, hK _ _, jlk, jmx, jlit, jneg, if_false, nI_leI, if_pos, hc]
    (try rw [if_neg c])
def jis30 : jC → Prop := fun c => c = jo 30
theorem jTk_runEnd {L : jL} (hL : jgood L) {ω : xS} {S : jSt} {sw ps wy : Nat} (hK : jLK S sw ps wy) {tp : Nat → Nat} {ts : Nat} (hT : jTc S tp ts) {P : Nat → Bool} {lo hi b e : Nat} (hP : ∀ c, P c = true ↔ lo ≤ c ∧ c ≤ hi) (hlo : lo < 256) (hhi : hi < 256) (hb : jgI S (jo 30) 2 = nI b) (hbs : b < ts) (hr : jRn tp ts P b e) : f_Tokens_runEnd (jad L (jo 30)) (nI lo) (nI hi) (jW L ω S) = some (nI e) := by
  have hs := hT.s
  have hc := hT.c
  have h1 := hr.a
  have h2 := hr.d
  unfold f_Tokens_runEnd
  simp (disch := first | omega | rfl | assumption | exact jokr (by decide) (by omega) | exact jokr4 (by omega) | exact jkt_r _ _ | exact jkt_l (by decide) | exact jfk_l (by decide) | exact jkt_t _ | exact jkt_r6 _ _ | exact jkt_t6 _ | (simp only [jok, jlen]; omega) | decide) only [jm_k hL, jm_gi hL, jm_gr hL, jm_gl hL, jm_pi hL, jm_pl hL, jn_ai hL, jn_ab hL, jn_az hL, jn_al hL, jn_ar hL, jn_an hL, jn_si hL, jn_sb hL, jn_sz hL, jn_sl hL, Option.bind_some, xc, xl, jsA_X, jsI_X, jsG_X, hK _ _, jlk, jmx, hb]
  refine jlpx (fun n i (_ : Nat) => f_Tokens_runEnd_5 n (jad L (jo 30)) (nI lo) (nI hi) (nI i) (jW L ω S)) (fun _ => 0) (lo := b) (hi := e) h1 (by omega) ?_ ?_
  · intro n i hi1 hi2
    obtain ⟨g1, g2⟩ := hr.b i hi1 hi2
    have g3 := (hP _).mp g2
    have hbi := hT.cb i g1
    have hbb := hT.b i
    show f_Tokens_runEnd_5 (n + 1) _ _ _ _ _ = f_Tokens_runEnd_5 n _ _ _ _ _
    rw [f_Tokens_runEnd_5]
    simp (disch := first | omega | rfl | assumption | exact jokr (by decide) (by omega) | exact jokr4 (by omega) | exact jkt_r _ _ | exact jkt_l (by decide) | exact jfk_l (by decide) | exact jkt_t _ | exact jkt_r6 _ _ | exact jkt_t6 _ | (simp only [jok, jlen]; omega) | decide) only [jm_k hL, jm_gi hL, jm_gr hL, jm_gl hL, jm_pi hL, jm_pl hL, jn_ai hL, jn_ab hL, jn_az hL, jn_al hL, jn_ar hL, jn_an hL, jn_si hL, jn_sb hL, jn_sz hL, jn_sl hL, Option.bind_some, xc, xl, jsA_X, jsI_X, jsG_X, hK _ _, jlk, jmx, jlit, nI_add, nI_leI, nI_ltI, if_neg, hc, hbi]
  · intro n
    show f_Tokens_runEnd_5 (n + 1) _ _ _ _ _ = _
    rw [f_Tokens_runEnd_5]
    by_cases c : ts ≤ e
    · simp (disch := first | omega | rfl | assumption | exact jokr (by decide) (by omega) | exact jokr4 (by omega) | exact jkt_r _ _ | exact jkt_l (by decide) | exact jfk_l (by decide) | exact jkt_t _ | exact jkt_r6 _ _ | exact jkt_t6 _ | (simp only [jok, jlen]; omega) | decide) only [jm_k hL, jm_gi hL, jm_gr hL, jm_gl hL, jm_pi hL, jm_pl hL, jn_ai hL, jn_ab hL, jn_az hL, jn_al hL, jn_ar hL, jn_an hL, jn_si hL, jn_sb hL, jn_sz hL, jn_sl hL, Option.bind_some, xc, xl, jsA_X, jsI_X, jsG_X, hK _ _, jlk, jmx, jlit, nI_leI, if_pos, hc]
    · have g2 := hr.c (by omega)
      have hbi := hT.cb e (by omega)
      have hbb := hT.b e
      have g3 : ¬ (lo ≤ tp e ∧ tp e ≤ hi) := fun z => by rw [(hP _).mpr z] at g2; cases g2
      by_cases c2 : tp e < lo
      · simp (disch := first | omega | rfl | assumption | exact jokr (by decide) (by omega) | exact jokr4 (by omega) | exact jkt_r _ _ | exact jkt_l (by decide) | exact jfk_l (by decide) | exact jkt_t _ | exact jkt_r6 _ _ | exact jkt_t6 _ | (simp only [jok, jlen]; omega) | decide) only [jm_k hL, jm_gi hL, jm_gr hL, jm_gl hL, jm_pi hL, jm_pl hL, jn_ai hL, jn_ab hL, jn_az hL, jn_al hL, jn_ar hL, jn_an hL, jn_si hL, jn_sb hL, jn_sz hL, jn_sl hL, Option.bind_some, xc, xl, jsA_X, jsI_X, jsG_X, hK _ _, jlk, jmx, jlit, nI_leI, nI_ltI, if_neg, if_pos, hc, hbi]
      · simp (disch := first | omega | rfl | assumption | exact jokr (by decide) (by omega) | exact jokr4 (by omega) | exact jkt_r _ _ | exact jkt_l (by decide) | exact jfk_l (by decide) | exact jkt_t _ | exact jkt_r6 _ _ | exact jkt_t6 _ | (simp only [jok, jlen]; omega) | decide) only [jm_k hL, jm_gi hL, jm_gr hL, jm_gl hL, jm_pi hL, jm_pl hL, jn_ai hL, jn_ab hL, jn_az hL, jn_al hL, jn_ar hL, jn_an hL, jn_si hL, jn_sb hL, jn_sz hL, jn_sl hL, Option.bind_some, xc, xl, jsA_X, jsI_X, jsG_X, hK _ _, jlk, jmx, jlit, nI_leI, nI_ltI, if_neg, if_pos, hc, hbi]
theorem jTk_close {L : jL} (hL : jgood L) {ω : xS} {S : jSt} {sw ps wy : Nat} (hK : jLK S sw ps wy) {tp : Nat → Nat} {ts : Nat} (hT : jTc S tp ts) {b i : Nat} (hb : jgI S (jo 30) 2 = nI b) (hbs : b < ts) (hr : jRn tp ts jpch (b + 1) i) : f_Tokens_closePattern (jad L (jo 30)) (jW L ω S) = some (if i < ts ∧ tp i = 34 ∧ i - b ≤ 41 then 1 else 0, jW L ω (jsI S (jo 30) 3 (nI (i + 1)))) := by
  have hs := hT.s
  have hc := hT.c
  have h1 := hr.a
  have h2 := hr.d
  have e66 : f_Tokens_closePattern_66 (jad L (jo 30)) (nI i) (jW L ω S) = some (if i < ts ∧ tp i = 34 ∧ i - b ≤ 41 then 1 else 0, jW L ω (jsI S (jo 30) 3 (nI (i + 1)))) := by
    have hc' : jgI (jsI S (jo 30) 3 (nI (i + 1))) (jo 1) 1 = nI ts := by rw [jsI_fn (by decide)]; exact hc
    have hb' : jgI (jsI S (jo 30) 3 (nI (i + 1))) (jo 30) 2 = nI b := by rw [jsI_c, if_neg (by decide)]; exact hb
    unfold f_Tokens_closePattern_66
    by_cases c : i < ts
    · have hbi : jgA (jsI S (jo 30) 3 (nI (i + 1))) (jo 2) i = nI (tp i) := hT.cb i c
      have hbb := hT.b i
      by_cases c2 : tp i = 34
      · have e1 : nI i - nI b - nI 1 = nI (i - b - 1) := by rw [jsub (by omega), jsub (by omega)]
        simp (disch := first | omega | rfl | assumption | exact jokr (by decide) (by omega) | exact jokr4 (by omega) | exact jkt_r _ _ | exact jkt_l (by decide) | exact jfk_l (by decide) | exact jkt_t _ | exact jkt_r6 _ _ | exact jkt_t6 _ | (simp only [jok, jlen]; omega) | decide) only [jm_k hL, jm_gi hL, jm_gr hL, jm_gl hL, jm_pi hL, jm_pl hL, jn_ai hL, jn_ab hL, jn_az hL, jn_al hL, jn_ar hL, jn_an hL, jn_si hL, jn_sb hL, jn_sz hL, jn_sl hL, Option.bind_some, xc, xl, jsA_X, jsI_X, jsG_X, hK _ _, jlk, jmx, jlit, nI_add, nI_leI, nI_eq, nI_ltI, if_neg, if_pos, hc', hbi, hb', e1]
        by_cases c3 : i - b ≤ 41
        · rw [if_neg (by omega), if_pos ⟨c, c2, c3⟩]
        · rw [if_pos (by omega), if_neg (fun z => c3 z.2.2)]
      · simp (disch := first | omega | rfl | assumption | exact jokr (by decide) (by omega) | exact jokr4 (by omega) | exact jkt_r _ _ | exact jkt_l (by decide) | exact jfk_l (by decide) | exact jkt_t _ | exact jkt_r6 _ _ | exact jkt_t6 _ | (simp only [jok, jlen]; omega) | decide) only [jm_k hL, jm_gi hL, jm_gr hL, jm_gl hL, jm_pi hL, jm_pl hL, jn_ai hL, jn_ab hL, jn_az hL, jn_al hL, jn_ar hL, jn_an hL, jn_si hL, jn_sb hL, jn_sz hL, jn_sl hL, Option.bind_some, xc, xl, jsA_X, jsI_X, jsG_X, hK _ _, jlk, jmx, jlit, nI_add, nI_leI, nI_eq, if_neg, hc', hbi]
        (try rw [if_neg (fun z => c2 z.2.1)])
    · simp (disch := first | omega | rfl | assumption | exact jokr (by decide) (by omega) | exact jokr4 (by omega) | exact jkt_r _ _ | exact jkt_l (by decide) | exact jfk_l (by decide) | exact jkt_t _ | exact jkt_r6 _ _ | exact jkt_t6 _ | (simp only [jok, jlen]; omega) | decide) only [jm_k hL, jm_gi hL, jm_gr hL, jm_gl hL, jm_pi hL, jm_pl hL, jn_ai hL, jn_ab hL, jn_az hL, jn_al hL, jn_ar hL, jn_an hL, jn_si hL, jn_sb hL, jn_sz hL, jn_sl hL, Option.bind_some, xc, xl, jsA_X, jsI_X, jsG_X, hK _ _, jlk, jmx, jlit, nI_add, nI_leI, if_pos, hc']
      rw [if_neg (fun z => c z.1)]
  unfold f_Tokens_closePattern
  simp (disch := first | omega | rfl | assumption | exact jokr (by decide) (by omega) | exact jokr4 (by omega) | exact jkt_r _ _ | exact jkt_l (by decide) | exact jfk_l (by decide) | exact jkt_t _ | exact jkt_r6 _ _ | exact jkt_t6 _ | (simp only [jok, jlen]; omega) | decide) only [jm_k hL, jm_gi hL, jm_gr hL, jm_gl hL, jm_pi hL, jm_pl hL, jn_ai hL, jn_ab hL, jn_az hL, jn_al hL, jn_ar hL, jn_an hL, jn_si hL, jn_sb hL, jn_sz hL, jn_sl hL, Option.bind_some, xc, xl, jsA_X, jsI_X, jsG_X, hK _ _, jlk, jmx, jlit, nI_add, hb]
  refine jlpx (fun n i (_ : Nat) => f_Tokens_closePattern_7 n (jad L (jo 30)) (nI i) (jW L ω S)) (fun _ => 0) (lo := b + 1) (hi := i) h1 (by omega) ?_ ?_
  · intro n j hi1 hi2
    obtain ⟨g1, g2⟩ := hr.b j hi1 hi2
    have g3 : 33 ≤ tp j ∧ tp j ≤ 126 ∧ tp j ≠ 34 := of_decide_eq_true g2
    have hbi := hT.cb j g1
    show f_Tokens_closePattern_7 (n + 1) _ _ _ = f_Tokens_closePattern_7 n _ _ _
    rw [f_Tokens_closePattern_7]
    simp (disch := first | omega | rfl | assumption | exact jokr (by decide) (by omega) | exact jokr4 (by omega) | exact jkt_r _ _ | exact jkt_l (by decide) | exact jfk_l (by decide) | exact jkt_t _ | exact jkt_r6 _ _ | exact jkt_t6 _ | (simp only [jok, jlen]; omega) | decide) only [jm_k hL, jm_gi hL, jm_gr hL, jm_gl hL, jm_pi hL, jm_pl hL, jn_ai hL, jn_ab hL, jn_az hL, jn_al hL, jn_ar hL, jn_an hL, jn_si hL, jn_sb hL, jn_sz hL, jn_sl hL, Option.bind_some, xc, xl, jsA_X, jsI_X, jsG_X, hK _ _, jlk, jmx, jlit, nI_add, nI_leI, nI_ltI, nI_eq, if_neg, hc, hbi]
  · intro n
    refine Eq.trans ?_ e66
    show f_Tokens_closePattern_7 (n + 1) _ _ _ = _
    rw [f_Tokens_closePattern_7]
    by_cases c : ts ≤ i
    · simp (disch := first | omega | rfl | assumption | exact jokr (by decide) (by omega) | exact jokr4 (by omega) | exact jkt_r _ _ | exact jkt_l (by decide) | exact jfk_l (by decide) | exact jkt_t _ | exact jkt_r6 _ _ | exact jkt_t6 _ | (simp only [jok, jlen]; omega) | decide) only [jm_k hL, jm_gi hL, jm_gr hL, jm_gl hL, jm_pi hL, jm_pl hL, jn_ai hL, jn_ab hL, jn_az hL, jn_al hL, jn_ar hL, jn_an hL, jn_si hL, jn_sb hL, jn_sz hL, jn_sl hL, Option.bind_some, xc, xl, jsA_X, jsI_X, jsG_X, hK _ _, jlk, jmx, jlit, nI_leI, if_pos, hc]
    · have g2 := hr.c (by omega)
      have hbi := hT.cb i (by omega)
      have hbb := hT.b i
      have g3 : ¬ (33 ≤ tp i ∧ tp i ≤ 126 ∧ tp i ≠ 34) := of_decide_eq_false g2
      by_cases c1 : tp i = 34
      · simp (disch := first | omega | rfl | assumption | exact jokr (by decide) (by omega) | exact jokr4 (by omega) | exact jkt_r _ _ | exact jkt_l (by decide) | exact jfk_l (by decide) | exact jkt_t _ | exact jkt_r6 _ _ | exact jkt_t6 _ | (simp only [jok, jlen]; omega) | decide) only [jm_k hL, jm_gi hL, jm_gr hL, jm_gl hL, jm_pi hL, jm_pl hL, jn_ai hL, jn_ab hL, jn_az hL, jn_al hL, jn_ar hL, jn_an hL, jn_si hL, jn_sb hL, jn_sz hL, jn_sl hL, Option.bind_some, xc, xl, jsA_X, jsI_X, jsG_X, hK _ _, jlk, jmx, jlit, nI_leI, nI_eq, if_neg, if_pos, hc, hbi]
      · by_cases c2 : tp i < 33
        · simp (disch := first | omega | rfl | assumption | exact jokr (by decide) (by omega) | exact jokr4 (by omega) | exact jkt_r _ _ | exact jkt_l (by decide) | exact jfk_l (by decide) | exact jkt_t _ | exact jkt_r6 _ _ | exact jkt_t6 _ | (simp only [jok, jlen]; omega) | decide) only [jm_k hL, jm_gi hL, jm_gr hL, jm_gl hL, jm_pi hL, jm_pl hL, jn_ai hL, jn_ab hL, jn_az hL, jn_al hL, jn_ar hL, jn_an hL, jn_si hL, jn_sb hL, jn_sz hL, jn_sl hL, Option.bind_some, xc, xl, jsA_X, jsI_X, jsG_X, hK _ _, jlk, jmx, jlit, nI_leI, nI_eq, nI_ltI, if_neg, if_pos, hc, hbi]
        · simp (disch := first | omega | rfl | assumption | exact jokr (by decide) (by omega) | exact jokr4 (by omega) | exact jkt_r _ _ | exact jkt_l (by decide) | exact jfk_l (by decide) | exact jkt_t _ | exact jkt_r6 _ _ | exact jkt_t6 _ | (simp only [jok, jlen]; omega) | decide) only [jm_k hL, jm_gi hL, jm_gr hL, jm_gl hL, jm_pi hL, jm_pl hL, jn_ai hL, jn_ab hL, jn_az hL, jn_al hL, jn_ar hL, jn_an hL, jn_si hL, jn_sb hL, jn_sz hL, jn_sl hL, Option.bind_some, xc, xl, jsA_X, jsI_X, jsG_X, hK _ _, jlk, jmx, jlit, nI_leI, nI_eq, nI_ltI, if_neg, if_pos, hc, hbi]
theorem jTk_kind {L : jL} (hL : jgood L) {ω : xS} {S : jSt} {sw ps wy : Nat} (hK : jLK S sw ps wy) {tp : Nat → Nat} {ts : Nat} (hT : jTc S tp ts) {b : Nat} (hb : jgI S (jo 30) 2 = nI b) (he : jgI S (jo 30) 3 = nI b) (hbs : b ≤ ts) : ∃ T, f_Tokens_kindFrom (jad L (jo 30)) (jbv tp ts b) (jW L ω S) = some (nI (jtC tp ts b).1, jW L ω T) ∧ jfq jis30 S T ∧ jgI T (jo 30) 2 = nI b ∧ jgI T (jo 30) 3 = nI (jtC tp ts b).2 := by
  have hs := hT.s
  have ok30 : jok L (jo 30) := by simp only [jok]; omega
  have r1 := jrun_ok (tp := tp) (ts := ts) (P := jsml) ts b (by omega)
  have r2 := jrun_ok (tp := tp) (ts := ts) (P := jdig) ts b (by omega)
  have r3 := jrun_ok (tp := tp) (ts := ts) (P := jpch) ts (b + 1) (by omega)
  have a1 := r1.a
  have a2 := r2.a
  have a3 := r3.a
  have d1 := r1.d
  have d2 := r2.d
  have d3 := r3.d
  unfold f_Tokens_kindFrom jbv jtC
  by_cases c1 : b < ts
  · rw [if_pos c1, if_neg (show ¬ ts ≤ b by omega)]
    have hbb := hT.b b
    have n1 : ¬ nI (tp b) = (-1 : Int32) := fun z => by
      have := congrArg Int32.toInt z
      rw [nI_toInt (by omega)] at this
      have h1 : (-1 : Int32).toInt = -1 := by decide
      omega
    rw [if_neg n1]
    by_cases c2 : tp b = 59
    · rw [if_pos c2, c2]
      refine ⟨jsI S (jo 30) 3 (nI (b + 1)), ?_, jfq.sI _ _ _ rfl, ?_, ?_⟩
      · simp (disch := first | omega | rfl | assumption | exact jokr (by decide) (by omega) | exact jokr4 (by omega) | exact jkt_r _ _ | exact jkt_l (by decide) | exact jfk_l (by decide) | exact jkt_t _ | exact jkt_r6 _ _ | exact jkt_t6 _ | (simp only [jok, jlen]; omega) | decide) only [jm_k hL, jm_gi hL, jm_gr hL, jm_gl hL, jm_pi hL, jm_pl hL, jn_ai hL, jn_ab hL, jn_az hL, jn_al hL, jn_ar hL, jn_an hL, jn_si hL, jn_sb hL, jn_sz hL, jn_sl hL, Option.bind_some, xc, xl, jsA_X, jsI_X, jsG_X, hK _ _, jlk, jmx, jlit, nI_add, if_true, hb]
      · rw [jsI_c, if_neg (by decide)]; exact hb
      · rw [jsI_c, if_pos rfl]
    · rw [if_neg c2]
      by_cases c3 : jsml (tp b) = true
      · have c3' : 97 ≤ tp b ∧ tp b ≤ 122 := of_decide_eq_true c3
        rw [if_pos c3]
        have hre := jTk_runEnd hL (ω := ω) hK hT (P := jsml) (lo := 97) (hi := 122) (fun c => decide_eq_true_iff) (by omega) (by omega) hb c1 r1
        refine ⟨jsI S (jo 30) 3 (nI (jrun tp ts jsml ts b)), ?_, jfq.sI _ _ _ rfl, ?_, ?_⟩
        · have e2 : jgI (jsI S (jo 30) 3 (nI (jrun tp ts jsml ts b))) (jo 30) 2 = nI b := by rw [jsI_c, if_neg (by decide)]; exact hb
          have e3 : jgI (jsI S (jo 30) 3 (nI (jrun tp ts jsml ts b))) (jo 30) 3 = nI (jrun tp ts jsml ts b) := by rw [jsI_c, if_pos rfl]
          have e4 : nI (jrun tp ts jsml ts b) - nI b = nI (jrun tp ts jsml ts b - b) := jsub a1
          simp (disch := first | omega | rfl | assumption | exact jokr (by decide) (by omega) | exact jokr4 (by omega) | exact jkt_r _ _ | exact jkt_l (by decide) | exact jfk_l (by decide) | exact jkt_t _ | exact jkt_r6 _ _ | exact jkt_t6 _ | (simp only [jok, jlen]; omega) | decide) only [jm_k hL, jm_gi hL, jm_gr hL, jm_gl hL, jm_pi hL, jm_pl hL, jn_ai hL, jn_ab hL, jn_az hL, jn_al hL, jn_ar hL, jn_an hL, jn_si hL, jn_sb hL, jn_sz hL, jn_sl hL, Option.bind_some, xc, xl, jsA_X, jsI_X, jsG_X, hK _ _, jlk, jmx, jlit, nI_eq, nI_ltI, if_neg, hre, e2, e3, e4]
          by_cases c : jrun tp ts jsml ts b - b ≤ 8
          · rw [if_neg (by omega), if_pos c]
          · rw [if_pos (by omega), if_neg c]
        · rw [jsI_c, if_neg (by decide)]; exact hb
        · rw [jsI_c, if_pos rfl]
      · have c3' : ¬ (97 ≤ tp b ∧ tp b ≤ 122) := of_decide_eq_false (jbfl c3)
        rw [if_neg c3]
        have e69 : ∀ X, f_Tokens_kindFrom_69 (jad L (jo 30)) (nI (tp b)) (jW L ω S) = X → (if nI (tp b) = 59 then (xgi (jW L ω S) (jad L (jo 30)) 10 2).bind fun t11 => (xp (jW L ω S) (jad L (jo 30)) 10 3 (.int (t11 + 1))).bind fun w12 => some (5, w12) else (if nI (tp b) < 97 then f_Tokens_kindFrom_69 (jad L (jo 30)) (nI (tp b)) (jW L ω S) else (if 122 < nI (tp b) then f_Tokens_kindFrom_69 (jad L (jo 30)) (nI (tp b)) (jW L ω S) else ((xk (jW L ω S) (jad L (jo 30)) 10 (f_Tokens_runEnd (jad L (jo 30)) 97 122 (jW L ω S))).bind fun t6 => (xp (jW L ω S) (jad L (jo 30)) 10 3 (.int t6)).bind fun w7 => (xgi w7 (jad L (jo 30)) 10 3).bind fun t8 => (xgi w7 (jad L (jo 30)) 10 2).bind fun t9 => if 8 < (t8 - t9) then some (0, w7) else some (2, w7))))) = X := by
          intro X hX
          rw [jlit, if_neg (show ¬ nI (tp b) = nI 59 from fun z => by rw [nI_eq (by omega) (by omega)] at z; exact c2 z)]
          by_cases c5 : tp b < 97
          · rw [if_pos (show nI (tp b) < 97 from (nI_ltI (b := 97) (by omega) (by omega)).mpr c5)]; exact hX
          · rw [if_neg (show ¬ nI (tp b) < 97 from fun z => c5 ((nI_ltI (b := 97) (by omega) (by omega)).mp z)), if_pos (show (122 : Int32) < nI (tp b) from (nI_ltI (a := 122) (by omega) (by omega)).mpr (by omega))]; exact hX
        by_cases c4 : jdig (tp b) = true
        · have c4' : 48 ≤ tp b ∧ tp b ≤ 57 := of_decide_eq_true c4
          rw [if_pos c4]
          have hre := jTk_runEnd hL (ω := ω) hK hT (P := jdig) (lo := 48) (hi := 57) (fun c => decide_eq_true_iff) (by omega) (by omega) hb c1 r2
          refine ⟨jsI S (jo 30) 3 (nI (jrun tp ts jdig ts b)), e69 _ ?_, jfq.sI _ _ _ rfl, ?_, ?_⟩
          · have e2 : jgI (jsI S (jo 30) 3 (nI (jrun tp ts jdig ts b))) (jo 30) 2 = nI b := by rw [jsI_c, if_neg (by decide)]; exact hb
            have e3 : jgI (jsI S (jo 30) 3 (nI (jrun tp ts jdig ts b))) (jo 30) 3 = nI (jrun tp ts jdig ts b) := by rw [jsI_c, if_pos rfl]
            have e4 : nI (jrun tp ts jdig ts b) - nI b = nI (jrun tp ts jdig ts b - b) := jsub a2
            unfold f_Tokens_kindFrom_69
            simp (disch := first | omega | rfl | assumption | exact jokr (by decide) (by omega) | exact jokr4 (by omega) | exact jkt_r _ _ | exact jkt_l (by decide) | exact jfk_l (by decide) | exact jkt_t _ | exact jkt_r6 _ _ | exact jkt_t6 _ | (simp only [jok, jlen]; omega) | decide) only [jm_k hL, jm_gi hL, jm_gr hL, jm_gl hL, jm_pi hL, jm_pl hL, jn_ai hL, jn_ab hL, jn_az hL, jn_al hL, jn_ar hL, jn_an hL, jn_si hL, jn_sb hL, jn_sz hL, jn_sl hL, Option.bind_some, xc, xl, jsA_X, jsI_X, jsG_X, hK _ _, jlk, jmx, jlit, nI_eq, nI_ltI, if_neg, hre, e2, e3, e4]
            by_cases c : jrun tp ts jdig ts b - b ≤ 6
            · rw [if_neg (by omega), if_pos c]
            · rw [if_pos (by omega), if_neg c]
          · rw [jsI_c, if_neg (by decide)]; exact hb
          · rw [jsI_c, if_pos rfl]
        · have c4' : ¬ (48 ≤ tp b ∧ tp b ≤ 57) := of_decide_eq_false (jbfl c4)
          rw [if_neg c4]
          by_cases c5 : tp b = 34
          · rw [if_pos c5]
            have hcl := jTk_close hL (ω := ω) hK hT hb c1 r3
            refine ⟨jsI S (jo 30) 3 (nI (jrun tp ts jpch ts (b + 1) + 1)), e69 _ ?_, jfq.sI _ _ _ rfl, ?_, ?_⟩
            · unfold f_Tokens_kindFrom_69
              rw [c5]
              simp (disch := first | omega | rfl | assumption | exact jokr (by decide) (by omega) | exact jokr4 (by omega) | exact jkt_r _ _ | exact jkt_l (by decide) | exact jfk_l (by decide) | exact jkt_t _ | exact jkt_r6 _ _ | exact jkt_t6 _ | (simp only [jok, jlen]; omega) | decide) only [jm_k hL, jm_gi hL, jm_gr hL, jm_gl hL, jm_pi hL, jm_pl hL, jn_ai hL, jn_ab hL, jn_az hL, jn_al hL, jn_ar hL, jn_an hL, jn_si hL, jn_sb hL, jn_sz hL, jn_sl hL, Option.bind_some, xc, xl, jsA_X, jsI_X, jsG_X, hK _ _, jlk, jmx, jlit, nI_eq, nI_ltI, if_pos, if_true, hcl]
              by_cases c : jrun tp ts jpch ts (b + 1) < ts ∧ tp (jrun tp ts jpch ts (b + 1)) = 34 ∧ jrun tp ts jpch ts (b + 1) - b ≤ 41
              · rw [if_pos c, if_pos c]; exact if_neg (show ¬ nI 1 = nI 0 by decide)
              · rw [if_neg c, if_neg c]; exact if_pos rfl
            · rw [jsI_c, if_neg (by decide)]; exact hb
            · rw [jsI_c, if_pos rfl]
          · rw [if_neg c5]
            refine ⟨S, e69 _ ?_, jfq.refl _ _, hb, he⟩
            unfold f_Tokens_kindFrom_69
            by_cases c6 : tp b < 48
            · simp (disch := first | omega | rfl | assumption | exact jokr (by decide) (by omega) | exact jokr4 (by omega) | exact jkt_r _ _ | exact jkt_l (by decide) | exact jfk_l (by decide) | exact jkt_t _ | exact jkt_r6 _ _ | exact jkt_t6 _ | (simp only [jok, jlen]; omega) | decide) only [jlit, nI_eq, nI_ltI, if_neg, if_pos]
            · simp (disch := first | omega | rfl | assumption | exact jokr (by decide) (by omega) | exact jokr4 (by omega) | exact jkt_r _ _ | exact jkt_l (by decide) | exact jfk_l (by decide) | exact jkt_t _ | exact jkt_r6 _ _ | exact jkt_t6 _ | (simp only [jok, jlen]; omega) | decide) only [jlit, nI_eq, nI_ltI, if_neg, if_pos]
  · rw [if_neg c1, if_pos (show ts ≤ b by omega), if_pos rfl]
    exact ⟨S, rfl, jfq.refl _ _, hb, he⟩
theorem jTk_adv {L : jL} (hL : jgood L) {ω : xS} {S : jSt} {sw ps wy : Nat} (hK : jLK S sw ps wy) {tp : Nat → Nat} {ts : Nat} (hT : jTc S tp ts) {e : Nat} (he : jgI S (jo 30) 3 = nI e) (hes : e ≤ ts) : ∃ T, f_Tokens_advance (jad L (jo 30)) (jW L ω S) = some (nI (jtK tp ts e), jW L ω T) ∧ jfq jis30 S T ∧ jgI T (jo 30) 1 = nI (jtK tp ts e) ∧ jgI T (jo 30) 2 = nI (jtB tp ts e) ∧ jgI T (jo 30) 3 = nI (jtE tp ts e) := by
  have hs := hT.s
  have hr := jtB_ok (tp := tp) hes
  obtain ⟨hb1, hb2⟩ := jtB_le (tp := tp) hes
  have n1 : ¬ jis30 (jo 1) := fun z => absurd z (jone (by omega))
  have n2 : ¬ jis30 (jo 2) := fun z => absurd z (jone (by omega))
  obtain ⟨n, T1, e1, a1, a2⟩ := jlpI (fun n i (T : jSt) => f_Tokens_advance_8 n (jad L (jo 30)) (jW L ω T)) (fun i T => jfq jis30 S T ∧ jgI T (jo 30) 2 = nI i) (lo := e) (hi := jtB tp ts e) hb1 (by omega) (by
    intro n i T h1 h2 ⟨b1, b2⟩
    have hK := hK.of b1.1
    have hT := hT.fq b1 n1 n2
    obtain ⟨g1, g2⟩ := hr.b i h1 h2
    have g3 : tp i = 10 ∨ tp i = 32 := of_decide_eq_true g2
    have hc := hT.c
    have hbi := hT.cb i g1
    refine ⟨jsI T (jo 30) 2 (nI (i + 1)), ?_, b1.trans (jfq.sI _ _ _ rfl), by rw [jsI_c, if_pos rfl]⟩
    show f_Tokens_advance_8 (n + 1) _ _ = f_Tokens_advance_8 n _ _
    rw [f_Tokens_advance_8]
    rcases g3 with g3 | g3
    · rw [g3] at hbi
      simp (disch := first | omega | rfl | assumption | exact jokr (by decide) (by omega) | exact jokr4 (by omega) | exact jkt_r _ _ | exact jkt_l (by decide) | exact jfk_l (by decide) | exact jkt_t _ | exact jkt_r6 _ _ | exact jkt_t6 _ | (simp only [jok, jlen]; omega) | decide) only [jm_k hL, jm_gi hL, jm_gr hL, jm_gl hL, jm_pi hL, jm_pl hL, jn_ai hL, jn_ab hL, jn_az hL, jn_al hL, jn_ar hL, jn_an hL, jn_si hL, jn_sb hL, jn_sz hL, jn_sl hL, Option.bind_some, xc, xl, jsA_X, jsI_X, jsG_X, hK _ _, jlk, jmx, jlit, nI_add, nI_leI, nI_eq, if_neg, if_pos, if_true, hc, hbi, b2]
    · rw [g3] at hbi
      simp (disch := first | omega | rfl | assumption | exact jokr (by decide) (by omega) | exact jokr4 (by omega) | exact jkt_r _ _ | exact jkt_l (by decide) | exact jfk_l (by decide) | exact jkt_t _ | exact jkt_r6 _ _ | exact jkt_t6 _ | (simp only [jok, jlen]; omega) | decide) only [jm_k hL, jm_gi hL, jm_gr hL, jm_gl hL, jm_pi hL, jm_pl hL, jn_ai hL, jn_ab hL, jn_az hL, jn_al hL, jn_ar hL, jn_an hL, jn_si hL, jn_sb hL, jn_sz hL, jn_sl hL, Option.bind_some, xc, xl, jsA_X, jsI_X, jsG_X, hK _ _, jlk, jmx, jlit, nI_add, nI_leI, nI_eq, if_neg, if_pos, if_true, hc, hbi, b2]) (jsI S (jo 30) 2 (nI e)) ⟨jfq.sI _ _ _ rfl, by rw [jsI_c, if_pos rfl]⟩
  have hK1 := hK.of a1.1
  have hT1 := hT.fq a1 n1 n2
  have f1 : jfq jis30 T1 (jsI T1 (jo 30) 3 (nI (jtB tp ts e))) := jfq.sI _ _ _ rfl
  have hK2 := hK1.of f1.1
  have hT2 := hT1.fq f1 n1 n2
  have b2 : jgI (jsI T1 (jo 30) 3 (nI (jtB tp ts e))) (jo 30) 2 = nI (jtB tp ts e) := by rw [jsI_c, if_neg (by decide)]; exact a2
  have b3 : jgI (jsI T1 (jo 30) 3 (nI (jtB tp ts e))) (jo 30) 3 = nI (jtB tp ts e) := by rw [jsI_c, if_pos rfl]
  obtain ⟨T3, c1, c2, c3, c4⟩ := jTk_kind hL (ω := ω) hK2 hT2 b2 b3 hb2
  have hK3 := hK2.of c2.1
  have e69 : f_Tokens_advance_69 (jad L (jo 30)) (jW L ω T1) = some (nI (jtK tp ts e), jW L ω (jsI T3 (jo 30) 1 (nI (jtK tp ts e)))) := by
    have hat := jTape_at hL (ω := ω) hK2 hT2 (i := jtB tp ts e) (by omega)
    have v1 : jgI (jsI T3 (jo 30) 1 (nI (jtC tp ts (jtB tp ts e)).1)) (jo 30) 1 = nI (jtC tp ts (jtB tp ts e)).1 := by rw [jsI_c, if_pos rfl]
    unfold f_Tokens_advance_69
    have hK := hK2
    simp (disch := first | omega | rfl | assumption | exact jokr (by decide) (by omega) | exact jokr4 (by omega) | exact jkt_r _ _ | exact jkt_l (by decide) | exact jfk_l (by decide) | exact jkt_t _ | exact jkt_r6 _ _ | exact jkt_t6 _ | (simp only [jok, jlen]; omega) | decide) only [jm_k hL, jm_gi hL, jm_gr hL, jm_gl hL, jm_pi hL, jm_pl hL, jn_ai hL, jn_ab hL, jn_az hL, jn_al hL, jn_ar hL, jn_an hL, jn_si hL, jn_sb hL, jn_sz hL, jn_sl hL, Option.bind_some, xc, xl, jsA_X, jsI_X, jsG_X, hK1 _ _, jlk, a2, b2, hat, c1, v1]
    rfl
  refine ⟨jsI T3 (jo 30) 1 (nI (jtK tp ts e)), ?_, ((a1.trans f1).trans c2).trans (jfq.sI _ _ _ rfl), by rw [jsI_c, if_pos rfl], by rw [jsI_c, if_neg (by decide)]; exact c3, by rw [jsI_c, if_neg (by decide)]; exact c4⟩
  unfold f_Tokens_advance
  simp (disch := first | omega | rfl | assumption | exact jokr (by decide) (by omega) | exact jokr4 (by omega) | exact jkt_r _ _ | exact jkt_l (by decide) | exact jfk_l (by decide) | exact jkt_t _ | exact jkt_r6 _ _ | exact jkt_t6 _ | (simp only [jok, jlen]; omega) | decide) only [jm_k hL, jm_gi hL, jm_gr hL, jm_gl hL, jm_pi hL, jm_pl hL, jn_ai hL, jn_ab hL, jn_az hL, jn_al hL, jn_ar hL, jn_an hL, jn_si hL, jn_sb hL, jn_sz hL, jn_sl hL, Option.bind_some, xc, xl, he]
  refine e1.trans ?_
  show f_Tokens_advance_8 (n + 1) _ _ = _
  rw [f_Tokens_advance_8]
  have hK := hK1
  have hc := hT1.c
  by_cases c : ts ≤ jtB tp ts e
  · simp (disch := first | omega | rfl | assumption | exact jokr (by decide) (by omega) | exact jokr4 (by omega) | exact jkt_r _ _ | exact jkt_l (by decide) | exact jfk_l (by decide) | exact jkt_t _ | exact jkt_r6 _ _ | exact jkt_t6 _ | (simp only [jok, jlen]; omega) | decide) only [jm_k hL, jm_gi hL, jm_gr hL, jm_gl hL, jm_pi hL, jm_pl hL, jn_ai hL, jn_ab hL, jn_az hL, jn_al hL, jn_ar hL, jn_an hL, jn_si hL, jn_sb hL, jn_sz hL, jn_sl hL, Option.bind_some, xc, xl, jsA_X, jsI_X, jsG_X, hK _ _, jlk, jmx, jlit, nI_leI, if_pos, a2, hc]
    exact e69
  · have g2 := hr.c (by omega)
    have g3 : ¬ (tp (jtB tp ts e) = 10 ∨ tp (jtB tp ts e) = 32) := of_decide_eq_false g2
    have hbi := hT1.cb (jtB tp ts e) (by omega)
    have hbb := hT1.b (jtB tp ts e)
    simp (disch := first | omega | rfl | assumption | exact jokr (by decide) (by omega) | exact jokr4 (by omega) | exact jkt_r _ _ | exact jkt_l (by decide) | exact jfk_l (by decide) | exact jkt_t _ | exact jkt_r6 _ _ | exact jkt_t6 _ | (simp only [jok, jlen]; omega) | decide) only [jm_k hL, jm_gi hL, jm_gr hL, jm_gl hL, jm_pi hL, jm_pl hL, jn_ai hL, jn_ab hL, jn_az hL, jn_al hL, jn_ar hL, jn_an hL, jn_si hL, jn_sb hL, jn_sz hL, jn_sl hL, Option.bind_some, xc, xl, jsA_X, jsI_X, jsG_X, hK _ _, jlk, jmx, jlit, nI_leI, nI_eq, if_neg, a2, hc, hbi]
    (try rw [if_neg (fun z => g3 (Or.inl z)), if_neg (fun z => g3 (Or.inr z))])
    exact e69
