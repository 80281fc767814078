/-! READING, its small steps: r = (fault, its place, end of what was read) -/
def jEx (tp : Nat → Nat) (ts k : Nat) (r : Nat × Nat × Nat) : Nat × Nat × Nat := if r.1 = 0 then (if jtK tp ts r.2.2 = k then (0, r.2.1, jtE tp ts r.2.2) else (if jtK tp ts r.2.2 = 0 then 1 else 2, jtB tp ts r.2.2, jtE tp ts r.2.2)) else r
def jvl (tp : Nat → Nat) (b : Nat) : Nat → Nat
  | 0 => 0
  | n + 1 => jvl tp b n * 10 + (tp (b + n) - 48)
def jNv (tp : Nat → Nat) (ts e : Nat) : Nat := jvl tp (jtB tp ts e) (jtE tp ts e - jtB tp ts e)
/-- a number: its value, and what then holds -/
def jNm (tp : Nat → Nat) (ts lo hi : Nat) (r : Nat × Nat × Nat) : Nat × Nat × Nat × Nat := if r.1 = 0 ∧ jtK tp ts r.2.2 = 3 then (jNv tp ts r.2.2, if jNv tp ts r.2.2 < lo ∨ hi < jNv tp ts r.2.2 then (4, jtB tp ts r.2.2, jtE tp ts r.2.2) else (0, r.2.1, jtE tp ts r.2.2)) else (lo, jEx tp ts 3 r)
/-- a shift's letter -/
def jLe (tp : Nat → Nat) (ts : Nat) (r : Nat × Nat × Nat) : Nat × Nat × Nat × Nat := if r.1 = 0 ∧ jtK tp ts r.2.2 = 2 then (if jtE tp ts r.2.2 - jtB tp ts r.2.2 = 1 ∧ tp (jtB tp ts r.2.2) ≤ 104 then (tp (jtB tp ts r.2.2) - 96, 0, r.2.1, jtE tp ts r.2.2) else (0, 2, jtB tp ts r.2.2, jtE tp ts r.2.2)) else (0, jEx tp ts 2 r)
theorem jEx_ok {tp : Nat → Nat} {ts k : Nat} {r : Nat × Nat × Nat} (h : r.1 = 0) (hk : jtK tp ts r.2.2 = k) : jEx tp ts k r = (0, r.2.1, jtE tp ts r.2.2) := by
  unfold jEx
  rw [if_pos h, if_pos hk]
theorem jEx_no {tp : Nat → Nat} {ts k : Nat} {r : Nat × Nat × Nat} (h : r.1 = 0) (hk : jtK tp ts r.2.2 ≠ k) : jEx tp ts k r = (if jtK tp ts r.2.2 = 0 then 1 else 2, jtB tp ts r.2.2, jtE tp ts r.2.2) := by
  unfold jEx
  rw [if_pos h, if_neg hk]
theorem jEx_st {tp : Nat → Nat} {ts k : Nat} {r : Nat × Nat × Nat} (h : r.1 ≠ 0) : jEx tp ts k r = r := by
  unfold jEx
  rw [if_neg h]
def jCr (S : jSt) (d ts : Nat) (r : Nat × Nat × Nat) : Prop := (jgI S (jo 29) 2 = nI d) ∧ (jgI S (jo 29) 3 = nI r.1) ∧ (r.1 ≤ 4) ∧ (r.1 = 0 → jgI S (jo 29) 4 = -2 ∧ jgI S (jo 30) 3 = nI r.2.2 ∧ r.2.2 ≤ ts) ∧ (r.1 ≠ 0 → jgI S (jo 29) 4 = nI r.2.1)
theorem jCr.d {S : jSt} {d ts : Nat} {r : Nat × Nat × Nat} (h : jCr S d ts r) : jgI S (jo 29) 2 = nI d := h.1
theorem jCr.f {S : jSt} {d ts : Nat} {r : Nat × Nat × Nat} (h : jCr S d ts r) : jgI S (jo 29) 3 = nI r.1 := h.2.1
theorem jCr.f4 {S : jSt} {d ts : Nat} {r : Nat × Nat × Nat} (h : jCr S d ts r) : r.1 ≤ 4 := h.2.2.1
theorem jCr.z {S : jSt} {d ts : Nat} {r : Nat × Nat × Nat} (h : jCr S d ts r) : r.1 = 0 → jgI S (jo 29) 4 = -2 ∧ jgI S (jo 30) 3 = nI r.2.2 ∧ r.2.2 ≤ ts := h.2.2.2.1
theorem jCr.p {S : jSt} {d ts : Nat} {r : Nat × Nat × Nat} (h : jCr S d ts r) : r.1 ≠ 0 → jgI S (jo 29) 4 = nI r.2.1 := h.2.2.2.2
def jis29 : jC → Prop := fun c => c = jo 29 ∨ c = jo 30
theorem jis29_o {q : Nat} (h : q ≠ 29 ∧ q ≠ 30) : ¬ jis29 (jo q) := fun z => by
  rcases z with z | z
  · exact jone h.1 z
  · exact jone h.2 z
theorem jRd_refuse {L : jL} (hL : jgood L) {ω : xS} {S : jSt} {sw ps wy : Nat} (hK : jLK S sw ps wy) {d ts x v : Nat} {r : Nat × Nat × Nat} (hr : jgI S (jo 29) 2 = nI d) (hx : x ≠ 0) (hx4 : x ≤ 4) : ∃ T, f_LawReader_refuse (jad L (jo 29)) (nI x) (nI v) (jW L ω S) = some (jW L ω T) ∧ jfq jis29 S T ∧ jCr T d ts (x, v, r.2.2) ∧ jgI T (jo 30) = jgI S (jo 30) := by
  refine ⟨jsI (jsI S (jo 29) 3 (nI x)) (jo 29) 4 (nI v), ?_, (jfq.sI _ _ _ (Or.inl rfl)).trans (jfq.sI _ _ _ (Or.inl rfl)), ⟨?_, ?_, hx4, fun z => absurd z hx, fun _ => ?_⟩, ?_⟩
  · unfold f_LawReader_refuse
    simp (disch := first | omega | rfl | assumption | exact jokr (by decide) (by omega) | exact jokr4 (by omega) | exact jkt_r _ _ | exact jkt_l (by decide) | exact jfk_l (by decide) | exact jkt_t _ | exact jkt_r6 _ _ | exact jkt_t6 _ | (simp only [jok, jlen]; omega) | decide) only [jm_k hL, jm_gi hL, jm_gr hL, jm_gl hL, jm_pi hL, jm_pl hL, jn_ai hL, jn_ab hL, jn_az hL, jn_al hL, jn_ar hL, jn_an hL, jn_si hL, jn_sb hL, jn_sz hL, jn_sl hL, Option.bind_some, xc, xl]
  · rw [jsI_c, if_neg (by decide), jsI_c, if_neg (by decide)]; exact hr
  · rw [jsI_c, if_neg (by decide), jsI_c, if_pos rfl]
  · rw [jsI_c, if_pos rfl]
  · rw [jsI_fn (by decide), jsI_fn (by decide)]
theorem jk29 {L : jL} (hL : jgood L) {ω : xS} {S : jSt} {α : Type} {q : Option α} : xk (jW L ω S) (jad L (jo 29)) 5 q = q := jm_k hL (by simp only [jok]; omega) rfl
theorem jk30 {L : jL} (hL : jgood L) {ω : xS} {S : jSt} {α : Type} {q : Option α} : xk (jW L ω S) (jad L (jo 30)) 10 q = q := jm_k hL (by simp only [jok]; omega) rfl
theorem jr30 {L : jL} (hL : jgood L) {ω : xS} {S : jSt} {sw ps wy : Nat} (hK : jLK S sw ps wy) : xgr (jW L ω S) (jad L (jo 29)) 5 0 = some (jad L (jo 30)) := by
  simp (disch := first | omega | rfl | assumption | exact jokr (by decide) (by omega) | exact jokr4 (by omega) | exact jkt_r _ _ | exact jkt_l (by decide) | exact jfk_l (by decide) | exact jkt_t _ | exact jkt_r6 _ _ | exact jkt_t6 _ | (simp only [jok, jlen]; omega) | decide) only [jm_k hL, jm_gi hL, jm_gr hL, jm_gl hL, jm_pi hL, jm_pl hL, jn_ai hL, jn_ab hL, jn_az hL, jn_al hL, jn_ar hL, jn_an hL, jn_si hL, jn_sb hL, jn_sz hL, jn_sl hL, Option.bind_some, xc, xl, jsA_X, jsI_X, jsG_X, hK _ _, jlk, jmx]
theorem jRd_expect {L : jL} (hL : jgood L) {ω : xS} {S : jSt} {sw ps wy : Nat} (hK : jLK S sw ps wy) {tp : Nat → Nat} {ts d k : Nat} {r : Nat × Nat × Nat} (hT : jTc S tp ts) (hr : jCr S d ts r) (hk : k ≤ 5) (hk0 : k ≠ 0) : ∃ T, f_LawReader_expect (jad L (jo 29)) (nI k) (jW L ω S) = some (nI (if r.1 = 0 ∧ jtK tp ts r.2.2 = k then 1 else 0), jW L ω T) ∧ jfq jis29 S T ∧ jCr T d ts (jEx tp ts k r) ∧ (r.1 = 0 → jgI T (jo 30) 1 = nI (jtK tp ts r.2.2) ∧ jgI T (jo 30) 2 = nI (jtB tp ts r.2.2) ∧ jgI T (jo 30) 3 = nI (jtE tp ts r.2.2)) := by
  have hf := hr.f
  have hf4 := hr.f4
  unfold f_LawReader_expect
  by_cases h0 : r.1 = 0
  · obtain ⟨z1, z2, z3⟩ := hr.z h0
    obtain ⟨T1, a1, a2, a3, a4, a5⟩ := jTk_adv hL (ω := ω) hK hT z2 z3
    have hK1 := hK.of a2.1
    have hle := jtK_le (tp := tp) (ts := ts) (e := r.2.2)
    have e29 := (a2.2.2 (jo 29) (fun z => absurd z (jone (by omega)))).1
    rw [h0] at hf
    have g3 : xgi (jW L ω S) (jad L (jo 29)) 5 3 = some (nI 0) := by simp (disch := first | omega | rfl | assumption | exact jokr (by decide) (by omega) | exact jokr4 (by omega) | exact jkt_r _ _ | exact jkt_l (by decide) | exact jfk_l (by decide) | exact jkt_t _ | exact jkt_r6 _ _ | exact jkt_t6 _ | (simp only [jok, jlen]; omega) | decide) only [jm_gi hL, hf]
    rw [g3, Option.bind_some, if_pos (show nI 0 = (0 : Int32) from rfl), jr30 hL hK, Option.bind_some, jk30 hL, a1]
    simp only [xc]
    have gb : xgi (jW L ω T1) (jad L (jo 30)) 10 2 = some (nI (jtB tp ts r.2.2)) := by simp (disch := first | omega | rfl | assumption | exact jokr (by decide) (by omega) | exact jokr4 (by omega) | exact jkt_r _ _ | exact jkt_l (by decide) | exact jfk_l (by decide) | exact jkt_t _ | exact jkt_r6 _ _ | exact jkt_t6 _ | (simp only [jok, jlen]; omega) | decide) only [jm_gi hL, a4]
    by_cases hk' : jtK tp ts r.2.2 = k
    · have en : nI (jtK tp ts r.2.2) = nI k := by rw [hk']
      refine ⟨T1, ?_, a2.weak (fun c hc => Or.inr hc), ?_, fun _ => ⟨a3, a4, a5⟩⟩
      · rw [if_pos en, if_pos en, if_pos ⟨h0, hk'⟩]; rfl
      · rw [jEx_ok h0 hk']
        refine ⟨by rw [e29]; exact hr.d, by rw [e29, hf], by dsimp only; omega, fun _ => ⟨by rw [e29]; exact z1, a5, (jtE_le z3).2.1 (by omega)⟩, fun z => absurd rfl z⟩
    · have en : ¬ nI (jtK tp ts r.2.2) = nI k := fun z => by rw [nI_eq (by omega) (by omega)] at z; exact hk' z
      rw [if_neg en, jEx_no h0 hk', if_neg (show ¬ (r.1 = 0 ∧ jtK tp ts r.2.2 = k) from fun z => hk' z.2)]
      by_cases hz : jtK tp ts r.2.2 = 0
      · obtain ⟨T2, b1, b2, b3, b4⟩ := jRd_refuse hL (ω := ω) hK1 (d := d) (ts := ts) (x := 1) (v := jtB tp ts r.2.2) (r := (0, 0, jtE tp ts r.2.2)) (by rw [e29]; exact hr.d) (by omega) (by omega)
        refine ⟨T2, ?_, (a2.weak (fun c hc => Or.inr hc)).trans b2, ?_, fun _ => ⟨by rw [b4]; exact a3, by rw [b4]; exact a4, by rw [b4]; exact a5⟩⟩
        · rw [if_pos (show nI (jtK tp ts r.2.2) = (0 : Int32) by rw [hz]; rfl), jr30 hL hK1, Option.bind_some, gb, Option.bind_some, jk29 hL]
          have b1 : f_LawReader_refuse (jad L (jo 29)) 1 (nI (jtB tp ts r.2.2)) (jW L ω T1) = some (jW L ω T2) := b1
          rw [b1, Option.bind_some, if_neg en]; rfl
        · rw [if_pos hz]; exact b3
      · obtain ⟨T2, b1, b2, b3, b4⟩ := jRd_refuse hL (ω := ω) hK1 (d := d) (ts := ts) (x := 2) (v := jtB tp ts r.2.2) (r := (0, 0, jtE tp ts r.2.2)) (by rw [e29]; exact hr.d) (by omega) (by omega)
        refine ⟨T2, ?_, (a2.weak (fun c hc => Or.inr hc)).trans b2, ?_, fun _ => ⟨by rw [b4]; exact a3, by rw [b4]; exact a4, by rw [b4]; exact a5⟩⟩
        · rw [if_neg (show ¬ nI (jtK tp ts r.2.2) = (0 : Int32) from fun z => by rw [jlit, nI_eq (by omega) (by omega)] at z; exact hz z), jr30 hL hK1, Option.bind_some, gb, Option.bind_some, jk29 hL]
          have b1 : f_LawReader_refuse (jad L (jo 29)) 2 (nI (jtB tp ts r.2.2)) (jW L ω T1) = some (jW L ω T2) := b1
          rw [b1, Option.bind_some, if_neg en]; rfl
        · rw [if_neg hz]; exact b3
  · have g3 : xgi (jW L ω S) (jad L (jo 29)) 5 3 = some (nI r.1) := by simp (disch := first | omega | rfl | assumption | exact jokr (by decide) (by omega) | exact jokr4 (by omega) | exact jkt_r _ _ | exact jkt_l (by decide) | exact jfk_l (by decide) | exact jkt_t _ | exact jkt_r6 _ _ | exact jkt_t6 _ | (simp only [jok, jlen]; omega) | decide) only [jm_gi hL, hf]
    refine ⟨S, ?_, jfq.refl _ _, by rw [jEx_st h0]; exact hr, fun z => absurd z h0⟩
    rw [g3, Option.bind_some, if_neg (show ¬ nI r.1 = (0 : Int32) from fun z => by rw [jlit, nI_eq (by omega) (by omega)] at z; exact h0 z), if_neg (fun z => h0 z.1)]
    rfl
theorem jvl_lt {tp : Nat → Nat} {b : Nat} : ∀ n, (∀ i, i < n → tp (b + i) ≤ 57) → jvl tp b n < 10 ^ n
  | 0, _ => by rw [jvl]; decide
  | n + 1, h => by
    have ih := jvl_lt (tp := tp) (b := b) n (fun i hi => h i (by omega))
    have := h n (by omega)
    rw [jvl, Nat.pow_succ]
    omega
/-- a token of digits -/
theorem jtk3 {tp : Nat → Nat} {ts e : Nat} (hes : e ≤ ts) (h : jtK tp ts e = 3) : jtB tp ts e < jtE tp ts e ∧ jtE tp ts e - jtB tp ts e ≤ 6 ∧ jtE tp ts e ≤ ts ∧ ∀ i, jtB tp ts e ≤ i → i < jtE tp ts e → 48 ≤ tp i ∧ tp i ≤ 57 := by
  have hb := jtB_le (tp := tp) hes
  have hE := jtE_le (tp := tp) hes
  have r2 := jrun_ok (tp := tp) (ts := ts) (P := jdig) ts (jtB tp ts e) (by omega)
  have h' := h
  have hE2 := hE.2.1 (by omega)
  unfold jtK jtC at h
  unfold jtE jtC at hE2 ⊢
  by_cases c1 : ts ≤ jtB tp ts e
  · rw [if_pos c1] at h; dsimp only at h; omega
  · rw [if_neg c1] at h hE2 ⊢
    by_cases c2 : tp (jtB tp ts e) = 59
    · rw [if_pos c2] at h; dsimp only at h; omega
    · rw [if_neg c2] at h hE2 ⊢
      by_cases c3 : jsml (tp (jtB tp ts e)) = true
      · rw [if_pos c3] at h; dsimp only at h; split at h <;> omega
      · rw [if_neg c3] at h hE2 ⊢
        by_cases c4 : jdig (tp (jtB tp ts e)) = true
        · rw [if_pos c4] at h hE2 ⊢
          dsimp only at h hE2 ⊢
          have h6 : jrun tp ts jdig ts (jtB tp ts e) - jtB tp ts e ≤ 6 := by
            rcases Nat.lt_or_ge 6 (jrun tp ts jdig ts (jtB tp ts e) - jtB tp ts e) with z | z
            · rw [if_neg (by omega)] at h; omega
            · exact z
          refine ⟨?_, h6, hE2, fun i h1 h2 => of_decide_eq_true (r2.b i h1 h2).2⟩
          rcases Nat.lt_or_ge (jtB tp ts e) (jrun tp ts jdig ts (jtB tp ts e)) with z | z
          · exact z
          · have := r2.a
            have e0 : jrun tp ts jdig ts (jtB tp ts e) = jtB tp ts e := by omega
            have := r2.c (by omega)
            rw [e0, c4] at this
            cases this
        · rw [if_neg c4] at h
          by_cases c5 : tp (jtB tp ts e) = 34
          · rw [if_pos c5] at h; dsimp only at h; split at h <;> omega
          · rw [if_neg c5] at h; dsimp only at h; omega
theorem jtk2 {tp : Nat → Nat} {ts e : Nat} (hes : e ≤ ts) (h : jtK tp ts e = 2) : jtB tp ts e < jtE tp ts e ∧ jtE tp ts e - jtB tp ts e ≤ 8 ∧ jtE tp ts e ≤ ts ∧ ∀ i, jtB tp ts e ≤ i → i < jtE tp ts e → 97 ≤ tp i ∧ tp i ≤ 122 := by
  have hb := jtB_le (tp := tp) hes
  have hE := jtE_le (tp := tp) hes
  have r2 := jrun_ok (tp := tp) (ts := ts) (P := jsml) ts (jtB tp ts e) (by omega)
  have hE2 := hE.2.1 (by omega)
  unfold jtK jtC at h
  unfold jtE jtC at hE2 ⊢
  by_cases c1 : ts ≤ jtB tp ts e
  · rw [if_pos c1] at h; dsimp only at h; omega
  · rw [if_neg c1] at h hE2 ⊢
    by_cases c2 : tp (jtB tp ts e) = 59
    · rw [if_pos c2] at h; dsimp only at h; omega
    · rw [if_neg c2] at h hE2 ⊢
      by_cases c3 : jsml (tp (jtB tp ts e)) = true
      · rw [if_pos c3] at h hE2 ⊢
        dsimp only at h hE2 ⊢
        have h6 : jrun tp ts jsml ts (jtB tp ts e) - jtB tp ts e ≤ 8 := by
          rcases Nat.lt_or_ge 8 (jrun tp ts jsml ts (jtB tp ts e) - jtB tp ts e) with z | z
          · rw [if_neg (by omega)] at h; omega
          · exact z
        refine ⟨?_, h6, hE2, fun i h1 h2 => of_decide_eq_true (r2.b i h1 h2).2⟩
        rcases Nat.lt_or_ge (jtB tp ts e) (jrun tp ts jsml ts (jtB tp ts e)) with z | z
        · exact z
        · have := r2.a
          have e0 : jrun tp ts jsml ts (jtB tp ts e) = jtB tp ts e := by omega
          have := r2.c (by omega)
          rw [e0, c3] at this
          cases this
      · rw [if_neg c3] at h
        by_cases c4 : jdig (tp (jtB tp ts e)) = true
        · rw [if_pos c4] at h; dsimp only at h; split at h <;> omega
        · rw [if_neg c4] at h
          by_cases c5 : tp (jtB tp ts e) = 34
          · rw [if_pos c5] at h; dsimp only at h; split at h <;> omega
          · rw [if_neg c5] at h; dsimp only at h; omega
theorem jNv_lt {tp : Nat → Nat} {ts e : Nat} (hes : e ≤ ts) (h : jtK tp ts e = 3) : jNv tp ts e < 1000000 := by
  obtain ⟨h1, h2, h3, h4⟩ := jtk3 hes h
  have := jvl_lt (tp := tp) (b := jtB tp ts e) (jtE tp ts e - jtB tp ts e) (fun i hi => (h4 _ (by omega) (by omega)).2)
  have h10 : 10 ^ (jtE tp ts e - jtB tp ts e) ≤ 10 ^ 6 := Nat.pow_le_pow_right (by decide) h2
  unfold jNv
  omega
theorem jdigs {v c : Nat} (h : 48 ≤ c) : nI v * nI 10 + nI c - nI 48 = nI (v * 10 + (c - 48)) := by
  rw [jmul, nI_add, jsub (by omega)]
  congr 1
  omega
theorem jTk_value {L : jL} (hL : jgood L) {ω : xS} {S : jSt} {sw ps wy : Nat} (hK : jLK S sw ps wy) {tp : Nat → Nat} {ts e : Nat} (hT : jTc S tp ts) (hes : e ≤ ts) (h : jtK tp ts e = 3) (hb : jgI S (jo 30) 2 = nI (jtB tp ts e)) (he : jgI S (jo 30) 3 = nI (jtE tp ts e)) : f_Tokens_value (jad L (jo 30)) (jW L ω S) = some (nI (jNv tp ts e)) := by
  obtain ⟨h1, h2, h3, h4⟩ := jtk3 hes h
  have hs := hT.s
  unfold f_Tokens_value
  simp (disch := first | omega | rfl | assumption | exact jokr (by decide) (by omega) | exact jokr4 (by omega) | exact jkt_r _ _ | exact jkt_l (by decide) | exact jfk_l (by decide) | exact jkt_t _ | exact jkt_r6 _ _ | exact jkt_t6 _ | (simp only [jok, jlen]; omega) | decide) only [jm_gi hL, Option.bind_some, hb]
  refine (jlpx (fun n i x => f_Tokens_value_7 n (jad L (jo 30)) x (nI i) (jW L ω S)) (fun i => nI (jvl tp (jtB tp ts e) (i - jtB tp ts e))) (lo := jtB tp ts e) (hi := jtE tp ts e) (by omega) (by omega) (r := some (nI (jNv tp ts e))) ?_ ?_ |> fun z => by
    rw [Nat.sub_self] at z
    exact z)
  · intro n i hi1 hi2
    have hd := h4 i hi1 hi2
    have hat := jTape_at hL (ω := ω) hK hT (i := i) (by omega)
    have hbe : jbv tp ts i = nI (tp i) := by unfold jbv; rw [if_pos (by omega)]
    rw [hbe] at hat
    show f_Tokens_value_7 (n + 1) _ _ _ _ = f_Tokens_value_7 n _ _ _ _
    rw [f_Tokens_value_7]
    simp (disch := first | omega | rfl | assumption | exact jokr (by decide) (by omega) | exact jokr4 (by omega) | exact jkt_r _ _ | exact jkt_l (by decide) | exact jfk_l (by decide) | exact jkt_t _ | exact jkt_r6 _ _ | exact jkt_t6 _ | (simp only [jok, jlen]; omega) | decide) only [jm_k hL, jm_gi hL, jm_gr hL, jm_gl hL, jm_pi hL, jm_pl hL, jn_ai hL, jn_ab hL, jn_az hL, jn_al hL, jn_ar hL, jn_an hL, jn_si hL, jn_sb hL, jn_sz hL, jn_sl hL, Option.bind_some, xc, xl, jsA_X, jsI_X, jsG_X, hK _ _, jlk, jmx, jlit, nI_add, nI_leI, if_neg, he, hat]
    rw [show i + 1 - jtB tp ts e = (i - jtB tp ts e) + 1 by omega, jvl, show jtB tp ts e + (i - jtB tp ts e) = i by omega, ← jdigs hd.1, jmul, nI_add]
  · intro n
    show f_Tokens_value_7 (n + 1) _ _ _ _ = _
    rw [f_Tokens_value_7]
    simp (disch := first | omega | rfl | assumption | exact jokr (by decide) (by omega) | exact jokr4 (by omega) | exact jkt_r _ _ | exact jkt_l (by decide) | exact jfk_l (by decide) | exact jkt_t _ | exact jkt_r6 _ _ | exact jkt_t6 _ | (simp only [jok, jlen]; omega) | decide) only [jm_k hL, jm_gi hL, jm_gr hL, jm_gl hL, jm_pi hL, jm_pl hL, jn_ai hL, jn_ab hL, jn_az hL, jn_al hL, jn_ar hL, jn_an hL, jn_si hL, jn_sb hL, jn_sz hL, jn_sl hL, Option.bind_some, xc, xl, jsA_X, jsI_X, jsG_X, hK _ _, jlk, jmx, jlit, nI_leI, if_pos, he]
    rfl
theorem jRd_number {L : jL} (hL : jgood L) {ω : xS} {S : jSt} {sw ps wy : Nat} (hK : jLK S sw ps wy) {tp : Nat → Nat} {ts d lo hi : Nat} {r : Nat × Nat × Nat} (hT : jTc S tp ts) (hr : jCr S d ts r) (hlo : lo < 2 ^ 31) (hhi : hi < 2 ^ 31) : ∃ T, f_LawReader_number (jad L (jo 29)) (nI lo) (nI hi) (jW L ω S) = some (nI (jNm tp ts lo hi r).1, jW L ω T) ∧ jfq jis29 S T ∧ jCr T d ts (jNm tp ts lo hi r).2 := by
  obtain ⟨T1, a1, a2, a3, a4⟩ := jRd_expect hL (ω := ω) hK hT hr (k := 3) (by omega) (by omega)
  have hK1 := hK.of a2.1
  have hT1 := hT.fq a2 (jis29_o (by omega)) (jis29_o (by omega))
  unfold f_LawReader_number jNm
  rw [jk29 hL]
  have a1 : f_LawReader_expect (jad L (jo 29)) 3 (jW L ω S) = _ := a1
  rw [a1]
  simp only [xc]
  by_cases c : r.1 = 0 ∧ jtK tp ts r.2.2 = 3
  · obtain ⟨z1, z2, z3⟩ := hr.z c.1
    obtain ⟨b1, b2, b3⟩ := a4 c.1
    have hv := jTk_value hL (ω := ω) hK1 hT1 z3 c.2 b2 b3
    have hlt := jNv_lt z3 c.2
    have gb : xgi (jW L ω T1) (jad L (jo 30)) 10 2 = some (nI (jtB tp ts r.2.2)) := by simp (disch := first | omega | rfl | assumption | exact jokr (by decide) (by omega) | exact jokr4 (by omega) | exact jkt_r _ _ | exact jkt_l (by decide) | exact jfk_l (by decide) | exact jkt_t _ | exact jkt_r6 _ _ | exact jkt_t6 _ | (simp only [jok, jlen]; omega) | decide) only [jm_gi hL, b2]
    rw [jEx_ok c.1 c.2] at a3
    rw [if_pos c, if_pos c, if_neg (show ¬ nI 1 = (0 : Int32) by decide), jr30 hL hK1, Option.bind_some, jk30 hL, hv, Option.bind_some]
    obtain ⟨T2, d1, d2, d3, d4⟩ := jRd_refuse hL (ω := ω) hK1 (d := d) (ts := ts) (x := 4) (v := jtB tp ts r.2.2) (r := (0, 0, jtE tp ts r.2.2)) a3.d (by omega) (by omega)
    have d1 : f_LawReader_refuse (jad L (jo 29)) 4 (nI (jtB tp ts r.2.2)) (jW L ω T1) = some (jW L ω T2) := d1
    by_cases c2 : jNv tp ts r.2.2 < lo
    · refine ⟨T2, ?_, a2.trans d2, ?_⟩
      · rw [if_pos ((nI_ltI (by omega) hlo).mpr c2), Option.bind_some, gb, Option.bind_some, jk29 hL, d1, Option.bind_some]
      · rw [if_pos (Or.inl c2)]; exact d3
    · rw [if_neg (fun z => c2 ((nI_ltI (by omega) hlo).mp z))]
      by_cases c3 : jNv tp ts r.2.2 ≤ hi
      · refine ⟨T1, ?_, a2, ?_⟩
        · rw [if_pos ((nI_leI (by omega) hhi).mpr c3)]
        · rw [if_neg (by omega)]; exact a3
      · refine ⟨T2, ?_, a2.trans d2, ?_⟩
        · rw [if_neg (fun z => c3 ((nI_leI (by omega) hhi).mp z)), Option.bind_some, gb, Option.bind_some, jk29 hL, d1, Option.bind_some]
        · rw [if_pos (Or.inr (by omega))]; exact d3
  · rw [if_neg c, if_neg c, if_pos (show nI 0 = (0 : Int32) from rfl)]
    exact ⟨T1, rfl, a2, a3⟩
theorem jRd_letter {L : jL} (hL : jgood L) {ω : xS} {S : jSt} {sw ps wy : Nat} (hK : jLK S sw ps wy) {tp : Nat → Nat} {ts d : Nat} {r : Nat × Nat × Nat} (hT : jTc S tp ts) (hr : jCr S d ts r) : ∃ T, f_LawReader_shiftLetter (jad L (jo 29)) (jW L ω S) = some (nI (jLe tp ts r).1, jW L ω T) ∧ jfq jis29 S T ∧ jCr T d ts (jLe tp ts r).2 := by
  obtain ⟨T1, a1, a2, a3, a4⟩ := jRd_expect hL (ω := ω) hK hT hr (k := 2) (by omega) (by omega)
  have hK1 := hK.of a2.1
  have hT1 := hT.fq a2 (jis29_o (by omega)) (jis29_o (by omega))
  unfold f_LawReader_shiftLetter jLe
  rw [jk29 hL]
  have a1 : f_LawReader_expect (jad L (jo 29)) 2 (jW L ω S) = _ := a1
  rw [a1]
  simp only [xc]
  by_cases c : r.1 = 0 ∧ jtK tp ts r.2.2 = 2
  · obtain ⟨z1, z2, z3⟩ := hr.z c.1
    obtain ⟨b1, b2, b3⟩ := a4 c.1
    obtain ⟨h1, h2, h3, h4⟩ := jtk2 z3 c.2
    have hs := hT.s
    have hd := h4 (jtB tp ts r.2.2) (Nat.le_refl _) h1
    have hat := jTape_at hL (ω := ω) hK1 hT1 (i := jtB tp ts r.2.2) (by omega)
    have hbe : jbv tp ts (jtB tp ts r.2.2) = nI (tp (jtB tp ts r.2.2)) := by unfold jbv; rw [if_pos (by omega)]
    rw [hbe] at hat
    have gb : xgi (jW L ω T1) (jad L (jo 30)) 10 2 = some (nI (jtB tp ts r.2.2)) := by simp (disch := first | omega | rfl | assumption | exact jokr (by decide) (by omega) | exact jokr4 (by omega) | exact jkt_r _ _ | exact jkt_l (by decide) | exact jfk_l (by decide) | exact jkt_t _ | exact jkt_r6 _ _ | exact jkt_t6 _ | (simp only [jok, jlen]; omega) | decide) only [jm_gi hL, b2]
    have e4 : nI (jtE tp ts r.2.2) - nI (jtB tp ts r.2.2) = nI (jtE tp ts r.2.2 - jtB tp ts r.2.2) := jsub (by omega)
    have hnl : f_Tokens_namedLetter (jad L (jo 30)) (jW L ω T1) = some (nI (if jtE tp ts r.2.2 - jtB tp ts r.2.2 = 1 ∧ tp (jtB tp ts r.2.2) ≤ 104 then tp (jtB tp ts r.2.2) - 96 else 0)) := by
      have hK := hK1
      rw [c.2] at b1
      unfold f_Tokens_namedLetter
      simp (disch := first | omega | rfl | assumption | exact jokr (by decide) (by omega) | exact jokr4 (by omega) | exact jkt_r _ _ | exact jkt_l (by decide) | exact jfk_l (by decide) | exact jkt_t _ | exact jkt_r6 _ _ | exact jkt_t6 _ | (simp only [jok, jlen]; omega) | decide) only [jm_k hL, jm_gi hL, jm_gr hL, jm_gl hL, jm_pi hL, jm_pl hL, jn_ai hL, jn_ab hL, jn_az hL, jn_al hL, jn_ar hL, jn_an hL, jn_si hL, jn_sb hL, jn_sz hL, jn_sl hL, Option.bind_some, xc, xl, jsA_X, jsI_X, jsG_X, hK _ _, jlk, jmx, jlit, nI_eq, nI_ltI, b1, b2, b3, hat, e4, if_true]
      by_cases c5 : jtE tp ts r.2.2 - jtB tp ts r.2.2 = 1
      · rw [if_pos c5]
        by_cases c6 : tp (jtB tp ts r.2.2) ≤ 104
        · rw [if_neg (by omega), if_pos ⟨c5, c6⟩, jsub (by omega), nI_add, show tp (jtB tp ts r.2.2) - 97 + 1 = tp (jtB tp ts r.2.2) - 96 by omega]
        · rw [if_pos (by omega), if_neg (fun z => c6 z.2)]
      · rw [if_neg c5, if_neg (fun z => c5 z.1)]
    rw [jEx_ok c.1 c.2] at a3
    rw [if_pos c, if_pos c, if_neg (show ¬ nI 1 = (0 : Int32) by decide), jr30 hL hK1, Option.bind_some, jk30 hL, hnl, Option.bind_some]
    by_cases c5 : jtE tp ts r.2.2 - jtB tp ts r.2.2 = 1 ∧ tp (jtB tp ts r.2.2) ≤ 104
    · rw [if_pos c5, if_pos c5]
      refine ⟨T1, ?_, a2, a3⟩
      rw [if_neg (show ¬ nI (tp (jtB tp ts r.2.2) - 96) = (0 : Int32) from fun z => by rw [jlit, nI_eq (by omega) (by omega)] at z; omega)]
    · rw [if_neg c5, if_neg c5]
      obtain ⟨T2, d1, d2, d3, d4⟩ := jRd_refuse hL (ω := ω) hK1 (d := d) (ts := ts) (x := 2) (v := jtB tp ts r.2.2) (r := (0, 0, jtE tp ts r.2.2)) a3.d (by omega) (by omega)
      have d1 : f_LawReader_refuse (jad L (jo 29)) 2 (nI (jtB tp ts r.2.2)) (jW L ω T1) = some (jW L ω T2) := d1
      refine ⟨T2, ?_, a2.trans d2, d3⟩
      rw [if_pos (show nI 0 = (0 : Int32) from rfl), Option.bind_some, gb, Option.bind_some, jk29 hL, d1, Option.bind_some]
  · rw [if_neg c, if_neg c, if_pos (show nI 0 = (0 : Int32) from rfl)]
    exact ⟨T1, rfl, a2, a3⟩
/-! the names of the sorts -/
def jnm (i k : Nat) : Nat := (([[115, 107, 105, 108, 108], [114, 101, 115, 116], [104, 111, 117, 114, 115], [110, 101, 118, 101, 114], [119, 104, 111, 108, 101], [102, 97, 105, 114], [99, 111, 118, 101, 114]] : List (List Nat)).getD i []).getD k 0
def jnl (i : Nat) : Nat := ([5, 4, 5, 5, 5, 4, 5] : List Nat).getD i 0
theorem jstr_len : ∀ i, i < 7 → xslen i = some (nI (jnl i)) := by decide +kernel
theorem jstr_ch : ∀ i, i < 7 → ∀ k, k < jnl i → xsch i (nI k) = some (nI (jnm i k)) := by decide +kernel
theorem jnl_le : ∀ i, jnl i ≤ 5 := by
  intro i
  rcases Nat.lt_or_ge i 7 with h | h
  · exact (show ∀ i, i < 7 → jnl i ≤ 5 by decide) i h
  · unfold jnl
    rw [List.getD_eq_getElem?_getD, List.getElem?_eq_none (by simpa using h)]
    decide
theorem jnm_b : ∀ i, i < 7 → ∀ k, k < jnl i → 97 ≤ jnm i k ∧ jnm i k ≤ 122 := by decide +kernel
def jspl (tp : Nat → Nat) (b e i : Nat) : Prop := e - b = jnl i ∧ ∀ k, k < jnl i → tp (b + k) = jnm i k
theorem jTk_spells {L : jL} (hL : jgood L) {ω : xS} {S : jSt} {sw ps wy : Nat} (hK : jLK S sw ps wy) {tp : Nat → Nat} {ts e i : Nat} (hT : jTc S tp ts) (hes : e ≤ ts) (hk : jgI S (jo 30) 1 = nI (jtK tp ts e)) (hb : jgI S (jo 30) 2 = nI (jtB tp ts e)) (he : jgI S (jo 30) 3 = nI (jtE tp ts e)) (hi : i < 7) : ∃ x, f_Tokens_spells (jad L (jo 30)) i (jW L ω S) = some (nI x) ∧ x ≤ 1 ∧ (x = 1 ↔ jtK tp ts e = 2 ∧ jspl tp (jtB tp ts e) (jtE tp ts e) i) := by
  have hs := hT.s
  have hle := jtK_le (tp := tp) (ts := ts) (e := e)
  have hE := jtE_le (tp := tp) hes
  have hl5 := jnl_le i
  have sl := jstr_len i hi
  have e4 : nI (jtE tp ts e) - nI (jtB tp ts e) = nI (jtE tp ts e - jtB tp ts e) := jsub (by omega)
  unfold f_Tokens_spells
  by_cases c : jtK tp ts e = 2
  · rw [c] at hk
    by_cases c2 : jnl i = jtE tp ts e - jtB tp ts e
    · have loop : ∀ dd j n, jnl i ≤ j + dd → j ≤ jnl i → dd + 1 ≤ n → ∃ x, f_Tokens_spells_28 n (jad L (jo 30)) i (nI j) (jW L ω S) = some (nI x) ∧ x ≤ 1 ∧ (x = 1 ↔ ∀ k, j ≤ k → k < jnl i → tp (jtB tp ts e + k) = jnm i k) := by
        intro dd
        induction dd with
        | zero =>
          intro j n h1 h2 h3
          obtain ⟨n, rfl⟩ : ∃ n', n = n' + 1 := ⟨n - 1, by omega⟩
          refine ⟨1, ?_, Nat.le_refl _, fun _ k h4 h5 => by omega, fun _ => rfl⟩
          rw [f_Tokens_spells_28, sl, Option.bind_some, if_pos ((nI_leI (by omega) (by omega)).mpr (by omega))]
          rfl
        | succ dd ih =>
          intro j n h1 h2 h3
          obtain ⟨n, rfl⟩ : ∃ n', n = n' + 1 := ⟨n - 1, by omega⟩
          by_cases c3 : jnl i ≤ j
          · refine ⟨1, ?_, Nat.le_refl _, fun _ k h4 h5 => by omega, fun _ => rfl⟩
            rw [f_Tokens_spells_28, sl, Option.bind_some, if_pos ((nI_leI (by omega) (by omega)).mpr (by omega))]
            rfl
          · have hE2 := hE.2.1 (by omega)
            have hat := jTape_at hL (ω := ω) hK hT (i := jtB tp ts e + j) (by omega)
            have hbe : jbv tp ts (jtB tp ts e + j) = nI (tp (jtB tp ts e + j)) := by unfold jbv; rw [if_pos (by omega)]
            rw [hbe] at hat
            have sc := jstr_ch i hi j (by omega)
            have hbb := hT.b (jtB tp ts e + j)
            have hnb := jnm_b i hi j (by omega)
            obtain ⟨x, f1, f2, f3⟩ := ih (j + 1) n (by omega) (by omega) (by omega)
            rw [f_Tokens_spells_28, sl, Option.bind_some, if_neg (fun z => c3 ((nI_leI (by omega) (by omega)).mp z))]
            simp (disch := first | omega | rfl | assumption | exact jokr (by decide) (by omega) | exact jokr4 (by omega) | exact jkt_r _ _ | exact jkt_l (by decide) | exact jfk_l (by decide) | exact jkt_t _ | exact jkt_r6 _ _ | exact jkt_t6 _ | (simp only [jok, jlen]; omega) | decide) only [jm_k hL, jm_gi hL, jm_gr hL, jm_gl hL, jm_pi hL, jm_pl hL, jn_ai hL, jn_ab hL, jn_az hL, jn_al hL, jn_ar hL, jn_an hL, jn_si hL, jn_sb hL, jn_sz hL, jn_sl hL, Option.bind_some, xc, xl, jsA_X, jsI_X, jsG_X, hK _ _, jlk, jmx, jlit, nI_add, nI_eq, hb, hat, sc]
            by_cases c4 : tp (jtB tp ts e + j) = jnm i j
            · refine ⟨x, ?_, f2, f3.trans ⟨fun z k h4 h5 => ?_, fun z k h4 h5 => z k (by omega) h5⟩⟩
              · rw [if_pos c4]; exact f1
              · by_cases ek : k = j
                · rw [ek]; exact c4
                · exact z k (by omega) h5
            · refine ⟨0, ?_, Nat.zero_le _, fun z => absurd z (by omega), fun z => absurd (z j (Nat.le_refl _) (by omega)) c4⟩
              rw [if_neg c4]
      obtain ⟨x, f1, f2, f3⟩ := loop (jnl i) 0 xFU (by omega) (by omega) (by unfold xFU; omega)
      refine ⟨x, ?_, f2, f3.trans ⟨fun z => ⟨c, c2.symm, fun k hk => z k (Nat.zero_le _) hk⟩, fun z k _ hk => z.2.2 k hk⟩⟩
      simp (disch := first | omega | rfl | assumption | exact jokr (by decide) (by omega) | exact jokr4 (by omega) | exact jkt_r _ _ | exact jkt_l (by decide) | exact jfk_l (by decide) | exact jkt_t _ | exact jkt_r6 _ _ | exact jkt_t6 _ | (simp only [jok, jlen]; omega) | decide) only [jm_k hL, jm_gi hL, jm_gr hL, jm_gl hL, jm_pi hL, jm_pl hL, jn_ai hL, jn_ab hL, jn_az hL, jn_al hL, jn_ar hL, jn_an hL, jn_si hL, jn_sb hL, jn_sz hL, jn_sl hL, Option.bind_some, xc, xl, jsA_X, jsI_X, jsG_X, hK _ _, jlk, jmx, jlit, sl, hk, hb, he, e4, if_true]
      rw [if_pos (by rw [c2])]
      exact f1
    · refine ⟨0, ?_, Nat.zero_le _, fun z => absurd z (by omega), fun z => absurd z.2.1.symm c2⟩
      simp (disch := first | omega | rfl | assumption | exact jokr (by decide) (by omega) | exact jokr4 (by omega) | exact jkt_r _ _ | exact jkt_l (by decide) | exact jfk_l (by decide) | exact jkt_t _ | exact jkt_r6 _ _ | exact jkt_t6 _ | (simp only [jok, jlen]; omega) | decide) only [jm_k hL, jm_gi hL, jm_gr hL, jm_gl hL, jm_pi hL, jm_pl hL, jn_ai hL, jn_ab hL, jn_az hL, jn_al hL, jn_ar hL, jn_an hL, jn_si hL, jn_sb hL, jn_sz hL, jn_sl hL, Option.bind_some, xc, xl, jsA_X, jsI_X, jsG_X, hK _ _, jlk, jmx, jlit, nI_eq, sl, hk, hb, he, e4, if_true, if_neg]
  · refine ⟨0, ?_, Nat.zero_le _, fun z => absurd z (by omega), fun z => absurd z.1 c⟩
    simp (disch := first | omega | rfl | assumption | exact jokr (by decide) (by omega) | exact jokr4 (by omega) | exact jkt_r _ _ | exact jkt_l (by decide) | exact jfk_l (by decide) | exact jkt_t _ | exact jkt_r6 _ _ | exact jkt_t6 _ | (simp only [jok, jlen]; omega) | decide) only [jm_k hL, jm_gi hL, jm_gr hL, jm_gl hL, jm_pi hL, jm_pl hL, jn_ai hL, jn_ab hL, jn_az hL, jn_al hL, jn_ar hL, jn_an hL, jn_si hL, jn_sb hL, jn_sz hL, jn_sl hL, Option.bind_some, xc, xl, jsA_X, jsI_X, jsG_X, hK _ _, jlk, jmx, jlit, nI_eq, hk, if_neg]
/-- the sort that a token names, 7: none -/
def jSo (tp : Nat → Nat) (ts e s : Nat) : Prop := (s ≤ 7) ∧ (s < 7 → jtK tp ts e = 2 ∧ jspl tp (jtB tp ts e) (jtE tp ts e) s) ∧ (∀ i, i < s → i < 7 → ¬ (jtK tp ts e = 2 ∧ jspl tp (jtB tp ts e) (jtE tp ts e) i))
theorem jSo.l {tp : Nat → Nat} {ts e s : Nat} (h : jSo tp ts e s) : s ≤ 7 := h.1
theorem jSo.y {tp : Nat → Nat} {ts e s : Nat} (h : jSo tp ts e s) : s < 7 → jtK tp ts e = 2 ∧ jspl tp (jtB tp ts e) (jtE tp ts e) s := h.2.1
theorem jSo.n {tp : Nat → Nat} {ts e s : Nat} (h : jSo tp ts e s) : ∀ i, i < s → i < 7 → ¬ (jtK tp ts e = 2 ∧ jspl tp (jtB tp ts e) (jtE tp ts e) i) := h.2.2
theorem jSo.ex (tp : Nat → Nat) (ts e : Nat) : ∃ s, jSo tp ts e s := by
  obtain ⟨s, h1, h2, h3⟩ := jleast (p := fun s => s = 7 ∨ (jtK tp ts e = 2 ∧ jspl tp (jtB tp ts e) (jtE tp ts e) s)) (n := 7) (Or.inl rfl)
  refine ⟨s, h1, fun hs => ?_, fun i hi h7 z => h3 i hi (Or.inr z)⟩
  rcases h2 with z | z
  · omega
  · exact z
theorem jRd_sort {L : jL} (hL : jgood L) {ω : xS} {S : jSt} {sw ps wy : Nat} (hK : jLK S sw ps wy) {tp : Nat → Nat} {ts e s : Nat} (hT : jTc S tp ts) (hes : e ≤ ts) (hk : jgI S (jo 30) 1 = nI (jtK tp ts e)) (hb : jgI S (jo 30) 2 = nI (jtB tp ts e)) (he : jgI S (jo 30) 3 = nI (jtE tp ts e)) (hs : jSo tp ts e s) : f_LawReader_sortNamed (jad L (jo 29)) (jW L ω S) = some (if s < 7 then nI s else -1) := by
  have hs7 := hs.l
  have hnm : ∀ i, i < 7 → f_Law_nameOf (nI i) (jW L ω S) = some i := fun i hi => by
    have hall : i = 0 ∨ i = 1 ∨ i = 2 ∨ i = 3 ∨ i = 4 ∨ i = 5 ∨ i = 6 := by omega
    rcases hall with rfl | rfl | rfl | rfl | rfl | rfl | rfl <;> rfl
  unfold f_LawReader_sortNamed
  refine jlpx (fun n i (_ : Nat) => f_LawReader_sortNamed_2 n (jad L (jo 29)) (nI i) (jW L ω S)) (fun _ => 0) (lo := 0) (hi := s) (Nat.zero_le _) (by omega) ?_ ?_
  · intro n i _ hi
    obtain ⟨x, f1, f2, f3⟩ := jTk_spells hL (ω := ω) hK hT hes hk hb he (i := i) (by omega)
    have x0 : x = 0 := by
      have : ¬ x = 1 := fun z => hs.n i hi (by omega) (f3.mp z)
      omega
    subst x0
    show f_LawReader_sortNamed_2 (n + 1) _ _ _ = f_LawReader_sortNamed_2 n _ _ _
    rw [f_LawReader_sortNamed_2, if_neg (show ¬ (7 : Int32) ≤ nI i from fun z => by have := (nI_leI (a := 7) (by omega) (by omega)).mp z; omega), jr30 hL hK, Option.bind_some, hnm i (by omega), Option.bind_some, jk30 hL, f1, Option.bind_some, if_pos (show nI 0 = (0 : Int32) from rfl)]
    simp only [jlit, nI_add]
  · intro n
    show f_LawReader_sortNamed_2 (n + 1) _ _ _ = _
    rw [f_LawReader_sortNamed_2]
    by_cases c : s < 7
    · obtain ⟨x, f1, f2, f3⟩ := jTk_spells hL (ω := ω) hK hT hes hk hb he (i := s) c
      have x1 : x = 1 := f3.mpr (hs.y c)
      subst x1
      rw [if_neg (show ¬ (7 : Int32) ≤ nI s from fun z => by have := (nI_leI (a := 7) (by omega) (by omega)).mp z; omega), jr30 hL hK, Option.bind_some, hnm s c, Option.bind_some, jk30 hL, f1, Option.bind_some, if_neg (show ¬ nI 1 = (0 : Int32) by decide), if_pos c]
    · rw [if_pos (show (7 : Int32) ≤ nI s from (nI_leI (a := 7) (by omega) (by omega)).mpr (by omega)), if_neg c]
