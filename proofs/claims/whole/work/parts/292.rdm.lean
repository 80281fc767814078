theorem jn1 : ¬ (1 : Nat) = 0 := by decide
theorem jn2 : ¬ (2 : Nat) = 0 := by decide
theorem jn4 : ¬ (4 : Nat) = 0 := by decide
/-! READING, its small steps: the reference -/
def jRr (S : jSt) (ts : Nat) (r : Nat × Nat × Nat) : Prop := (jgI S (jm 0) 39 = nI r.1) ∧ (r.1 ≤ 4) ∧ (r.1 = 0 → jgI S (jm 0) 34 = nI r.2.2 ∧ r.2.2 ≤ ts) ∧ (r.1 ≠ 0 → jgI S (jm 0) 40 = nI r.2.1)
theorem jRr.f {S : jSt} {ts : Nat} {r : Nat × Nat × Nat} (h : jRr S ts r) : jgI S (jm 0) 39 = nI r.1 := h.1
theorem jRr.f4 {S : jSt} {ts : Nat} {r : Nat × Nat × Nat} (h : jRr S ts r) : r.1 ≤ 4 := h.2.1
theorem jRr.z {S : jSt} {ts : Nat} {r : Nat × Nat × Nat} (h : jRr S ts r) : r.1 = 0 → jgI S (jm 0) 34 = nI r.2.2 ∧ r.2.2 ≤ ts := h.2.2.1
theorem jRr.p {S : jSt} {ts : Nat} {r : Nat × Nat × Nat} (h : jRr S ts r) : r.1 ≠ 0 → jgI S (jm 0) 40 = nI r.2.1 := h.2.2.2
theorem jMr_fails {L : jL} (hL : jgood L) {ω : xS} {S : jSt} {sw ps wy : Nat} (hK : jLK S sw ps wy) {ts x v e : Nat} (hf : jgI S (jm 0) 39 = nI 0) (hx : x ≠ 0) (hx4 : x ≤ 4) : ∃ T, f_Mo_fails (jad L (jm 0)) (nI x) (nI v) (jW L ω S) = some (0, jW L ω T) ∧ jf0 S T ∧ jRr T ts (x, v, e) := by
  refine ⟨_, jMo_fails hL hK hf, (jf0.sI _ _ (by omega)).trans (jf0.sI _ _ (by omega)), ?_, hx4, fun z => absurd z hx, fun _ => ?_⟩
  · rw [jsI_c, if_neg (by decide), jsI_c, if_pos rfl]
  · rw [jsI_c, if_pos rfl]
theorem jMt_adv0 {L : jL} (hL : jgood L) {ω : xS} {S : jSt} {sw ps wy : Nat} (hK : jLK S sw ps wy) {r : Nat} (hf : jgI S (jm 0) 39 = nI r) (h0 : r ≠ 0) (h4 : r ≤ 4) : f_Mo_advance (jad L (jm 0)) (jW L ω S) = some (0, jW L ω S) := by
  unfold f_Mo_advance
  simp (disch := first | omega | rfl | assumption | exact jokr (by decide) (by omega) | exact jokr4 (by omega) | exact jkt_r _ _ | exact jkt_l (by decide) | exact jfk_l (by decide) | exact jkt_t _ | exact jkt_r6 _ _ | exact jkt_t6 _ | (simp only [jok, jlen]; omega) | decide) only [jm_gi hL, Option.bind_some, hf]
  rw [if_neg (show ¬ nI r = (0 : Int32) from fun z => by rw [jlit, nI_eq (by omega) (by omega)] at z; exact h0 z)]
theorem jMr_number {L : jL} (hL : jgood L) {ω : xS} {S : jSt} {sw ps wy : Nat} (hK : jLK S sw ps wy) {tp : Nat → Nat} {ts lo hi : Nat} {r : Nat × Nat × Nat} (hT : jTm S tp ts) (hr : jRr S ts r) (hlo : lo < 2 ^ 31) (hhi : hi < 2 ^ 31) : ∃ T x, f_Mo_number (jad L (jm 0)) (nI lo) (nI hi) (jW L ω S) = some (x, jW L ω T) ∧ jf0 S T ∧ jRr T ts (jNm tp ts lo hi r).2 ∧ ((jNm tp ts lo hi r).2.1 = 0 → x = nI (jNm tp ts lo hi r).1) := by
  have hs := hT.s
  unfold f_Mo_number
  rw [jkm hL]
  by_cases h0 : r.1 = 0
  · obtain ⟨z1, z2⟩ := hr.z h0
    have hf := hr.f
    rw [h0] at hf
    obtain ⟨T1, a1, a2⟩ := jMt_adv hL (ω := ω) hK hT z1 z2 hf
    have hK1 := hK.of a2.f.1
    have hT1 := hT.f0 a2.f
    have hle := jtK_le (tp := tp) (ts := ts) (e := r.2.2)
    rw [a1]
    simp only [xc]
    by_cases k0 : jtK tp ts r.2.2 = 0
    · obtain ⟨y1, y2⟩ := a2.z k0
      have e1 : jNm tp ts lo hi r = (lo, 1, jtB tp ts r.2.2, jtE tp ts r.2.2) := by
        unfold jNm
        rw [if_neg (fun z => by omega), jEx_no h0 (by omega), if_pos k0]
      rw [if_pos k0, if_pos (show nI 0 = (0 : Int32) from rfl), e1]
      exact ⟨T1, -1, rfl, a2.f, ⟨y1, by dsimp only; omega, fun z => absurd z jn1, fun _ => y2⟩, fun z => absurd z jn1⟩
    · obtain ⟨y1, y2, y3, y4⟩ := a2.o k0
      have y5 := a2.b
      rw [if_neg k0, if_neg (show ¬ nI 1 = (0 : Int32) by decide)]
      have g35 : xgi (jW L ω T1) (jad L (jm 0)) 12 35 = some (nI (jtK tp ts r.2.2 - 1)) := by simp (disch := first | omega | rfl | assumption | exact jokr (by decide) (by omega) | exact jokr4 (by omega) | exact jkt_r _ _ | exact jkt_l (by decide) | exact jfk_l (by decide) | exact jkt_t _ | exact jkt_r6 _ _ | exact jkt_t6 _ | (simp only [jok, jlen]; omega) | decide) only [jm_gi hL, y2]
      have g36 : xgi (jW L ω T1) (jad L (jm 0)) 12 36 = some (nI (jtB tp ts r.2.2)) := by simp (disch := first | omega | rfl | assumption | exact jokr (by decide) (by omega) | exact jokr4 (by omega) | exact jkt_r _ _ | exact jkt_l (by decide) | exact jfk_l (by decide) | exact jkt_t _ | exact jkt_r6 _ _ | exact jkt_t6 _ | (simp only [jok, jlen]; omega) | decide) only [jm_gi hL, y5]
      rw [g35, Option.bind_some]
      by_cases k3 : jtK tp ts r.2.2 = 3
      · obtain ⟨t1, t2, t3, t4⟩ := jtk3 z2 k3
        have hlt := jNv_lt z2 k3
        have g37 : xgi (jW L ω T1) (jad L (jm 0)) 12 37 = some (nI (jtE tp ts r.2.2)) := by simp (disch := first | omega | rfl | assumption | exact jokr (by decide) (by omega) | exact jokr4 (by omega) | exact jkt_r _ _ | exact jkt_l (by decide) | exact jfk_l (by decide) | exact jkt_t _ | exact jkt_r6 _ _ | exact jkt_t6 _ | (simp only [jok, jlen]; omega) | decide) only [jm_gi hL, y3]
        rw [if_pos (show nI (jtK tp ts r.2.2 - 1) = (2 : Int32) by rw [k3]; rfl), g36, Option.bind_some]
        have ex : f_Mo_number_37 xFU (jad L (jm 0)) (nI lo) (nI hi) 0 (nI (jtB tp ts r.2.2)) (jW L ω T1) = (if nI (jNv tp ts r.2.2) < nI lo then ((xgi (jW L ω T1) (jad L (jm 0)) 12 36).bind fun t15 => xc (xk (jW L ω T1) (jad L (jm 0)) 12 (f_Mo_fails (jad L (jm 0)) 4 t15 (jW L ω T1))) fun _ w18 => some ((-1), w18)) else (if nI (jNv tp ts r.2.2) ≤ nI hi then some (nI (jNv tp ts r.2.2), jW L ω T1) else ((xgi (jW L ω T1) (jad L (jm 0)) 12 36).bind fun t20 => xc (xk (jW L ω T1) (jad L (jm 0)) 12 (f_Mo_fails (jad L (jm 0)) 4 t20 (jW L ω T1))) fun _ w23 => some ((-1), w23)))) := by
          refine (jlpx (fun n i x => f_Mo_number_37 n (jad L (jm 0)) (nI lo) (nI hi) x (nI i) (jW L ω T1)) (fun i => nI (jvl tp (jtB tp ts r.2.2) (i - jtB tp ts r.2.2))) (lo := jtB tp ts r.2.2) (hi := jtE tp ts r.2.2) (by omega) (by omega) (r := (if nI (jNv tp ts r.2.2) < nI lo then ((xgi (jW L ω T1) (jad L (jm 0)) 12 36).bind fun t15 => xc (xk (jW L ω T1) (jad L (jm 0)) 12 (f_Mo_fails (jad L (jm 0)) 4 t15 (jW L ω T1))) fun _ w18 => some ((-1), w18)) else (if nI (jNv tp ts r.2.2) ≤ nI hi then some (nI (jNv tp ts r.2.2), jW L ω T1) else ((xgi (jW L ω T1) (jad L (jm 0)) 12 36).bind fun t20 => xc (xk (jW L ω T1) (jad L (jm 0)) 12 (f_Mo_fails (jad L (jm 0)) 4 t20 (jW L ω T1))) fun _ w23 => some ((-1), w23))))) ?_ ?_ |> fun z => by
            rw [Nat.sub_self] at z
            exact z)
          · intro n i hi1 hi2
            have hd := t4 i hi1 hi2
            have hlk : xk (jW L ω T1) (jad L (jm 0)) 12 (f_Mo_look (jad L (jm 0)) (nI i) (jW L ω T1)) = some (nI (tp i)) := by
              rw [jkm hL, jMo_look hL hK1 hT1 (by omega)]
              unfold jbv
              rw [if_pos (by omega)]
            show f_Mo_number_37 (n + 1) _ _ _ _ _ _ = f_Mo_number_37 n _ _ _ _ _ _
            rw [f_Mo_number_37, g37, Option.bind_some, if_neg (fun z => by rw [nI_leI (by omega) (by omega)] at z; omega), hlk, Option.bind_some, show i + 1 - jtB tp ts r.2.2 = (i - jtB tp ts r.2.2) + 1 by omega, jvl, show jtB tp ts r.2.2 + (i - jtB tp ts r.2.2) = i by omega, ← jdigs hd.1]
            rw [show nI (i + 1) = nI i + 1 by rw [jlit, nI_add]]
            rfl
          · intro n
            show f_Mo_number_37 (n + 1) _ _ _ _ _ _ = _
            rw [f_Mo_number_37, g37, Option.bind_some, if_pos ((nI_leI (by omega) (by omega)).mpr (Nat.le_refl _))]
            rfl
        rw [ex]
        obtain ⟨T2, d1, d2, d3⟩ := jMr_fails hL (ω := ω) hK1 (ts := ts) (x := 4) (v := jtB tp ts r.2.2) (e := jtE tp ts r.2.2) y1 (by omega) (by omega)
        have d1 : f_Mo_fails (jad L (jm 0)) 4 (nI (jtB tp ts r.2.2)) (jW L ω T1) = some (0, jW L ω T2) := d1
        by_cases c2 : jNv tp ts r.2.2 < lo
        · have e1 : jNm tp ts lo hi r = (jNv tp ts r.2.2, 4, jtB tp ts r.2.2, jtE tp ts r.2.2) := by
            unfold jNm
            rw [if_pos ⟨h0, k3⟩, if_pos (Or.inl c2)]
          rw [e1, if_pos ((nI_ltI (by omega) hlo).mpr c2), g36, Option.bind_some, jkm hL, d1]
          exact ⟨T2, -1, rfl, a2.f.trans d2, d3, fun z => absurd z jn4⟩
        · rw [if_neg (fun z => c2 ((nI_ltI (by omega) hlo).mp z))]
          by_cases c3 : jNv tp ts r.2.2 ≤ hi
          · have e1 : jNm tp ts lo hi r = (jNv tp ts r.2.2, 0, r.2.1, jtE tp ts r.2.2) := by
              unfold jNm
              rw [if_pos ⟨h0, k3⟩, if_neg (by omega)]
            rw [e1, if_pos ((nI_leI (by omega) hhi).mpr c3)]
            exact ⟨T1, _, rfl, a2.f, ⟨y1, by dsimp only; omega, fun _ => ⟨y4, t3⟩, fun z => absurd rfl z⟩, fun _ => rfl⟩
          · have e1 : jNm tp ts lo hi r = (jNv tp ts r.2.2, 4, jtB tp ts r.2.2, jtE tp ts r.2.2) := by
              unfold jNm
              rw [if_pos ⟨h0, k3⟩, if_pos (Or.inr (by omega))]
            rw [e1, if_neg (fun z => c3 ((nI_leI (by omega) hhi).mp z)), g36, Option.bind_some, jkm hL, d1]
            exact ⟨T2, -1, rfl, a2.f.trans d2, d3, fun z => absurd z jn4⟩
      · have e1 : jNm tp ts lo hi r = (lo, 2, jtB tp ts r.2.2, jtE tp ts r.2.2) := by
          unfold jNm
          rw [if_neg (fun z => k3 z.2), jEx_no h0 k3, if_neg k0]
        obtain ⟨T2, d1, d2, d3⟩ := jMr_fails hL (ω := ω) hK1 (ts := ts) (x := 2) (v := jtB tp ts r.2.2) (e := jtE tp ts r.2.2) y1 (by omega) (by omega)
        have d1 : f_Mo_fails (jad L (jm 0)) 2 (nI (jtB tp ts r.2.2)) (jW L ω T1) = some (0, jW L ω T2) := d1
        rw [e1, if_neg (show ¬ nI (jtK tp ts r.2.2 - 1) = (2 : Int32) from fun z => by rw [jlit, nI_eq (by omega) (by omega)] at z; omega), g36, Option.bind_some, jkm hL, d1]
        exact ⟨T2, -1, rfl, a2.f.trans d2, d3, fun z => absurd z jn2⟩
  · rw [jMt_adv0 hL hK hr.f h0 hr.f4]
    have e1 : jNm tp ts lo hi r = (lo, r) := by
      unfold jNm
      rw [if_neg (fun z => h0 z.1), jEx_st h0]
    rw [e1]
    exact ⟨S, -1, rfl, jf0.refl _, hr, fun z => absurd z h0⟩
/-! a word by its number -/
theorem jwN_inj {f g : Nat → Nat} {b c : Nat} : ∀ n m, (∀ k, k < n → 1 ≤ f (b + k) ∧ f (b + k) < 256) → (∀ k, k < m → 1 ≤ g (c + k) ∧ g (c + k) < 256) → jwN f b n = jwN g c m → n = m ∧ ∀ k, k < n → f (b + k) = g (c + k)
  | 0, 0, _, _, _ => ⟨rfl, fun k hk => absurd hk (Nat.not_lt_zero k)⟩
  | 0, m + 1, _, h2, e => by
    have := h2 m (by omega)
    rw [jwN, jwN] at e
    omega
  | n + 1, 0, h1, _, e => by
    have := h1 n (by omega)
    rw [jwN, jwN] at e
    omega
  | n + 1, m + 1, h1, h2, e => by
    have a1 := h1 n (by omega)
    have a2 := h2 m (by omega)
    rw [jwN, jwN] at e
    obtain ⟨i1, i2⟩ := jwN_inj n m (fun k hk => h1 k (by omega)) (fun k hk => h2 k (by omega)) (by omega)
    subst i1
    refine ⟨rfl, fun k hk => ?_⟩
    by_cases c : k = n
    · subst c; omega
    · exact i2 k (by omega)
theorem jw_spl {tp : Nat → Nat} {b e i : Nat} (hi : i < 7) (h8 : e - b ≤ 8) (hs : ∀ k, b ≤ k → k < e → 97 ≤ tp k ∧ tp k ≤ 122) (hb : ∀ i, tp i < 256) : lN (jwN tp b (e - b)) = lN (jwN (jnm i) 0 (jnl i)) ↔ jspl tp b e i := by
  have hl := jnl_le i
  have h1 := jwN_le hb (b := b) h8 (fun k hk => (hs (b + k) (by omega) (by omega)).2)
  have h2 : jwN (jnm i) 0 (jnl i) < 2 ^ 63 := by
    have hall : ∀ i, i < 7 → jwN (jnm i) 0 (jnl i) < 2 ^ 63 := by decide +kernel
    exact hall i hi
  rw [jlN_eq h1 h2]
  refine ⟨fun z => ?_, fun z => ?_⟩
  · obtain ⟨z1, z2⟩ := jwN_inj (e - b) (jnl i) (fun k hk => by have := hs (b + k) (by omega) (by omega); omega) (fun k hk => by rw [Nat.zero_add]; have := jnm_b i hi k hk; omega) z
    exact ⟨z1, fun k hk => by have := z2 k (by omega); rw [Nat.zero_add] at this; exact this⟩
  · have key : ∀ n, n ≤ jnl i → jwN tp b n = jwN (jnm i) 0 n := by
      intro n
      induction n with
      | zero => intro _; rfl
      | succ n ih => intro hn; rw [jwN, jwN, ih (by omega), z.2 n (by omega), Nat.zero_add]
    rw [z.1]
    exact key _ (Nat.le_refl _)
theorem jMr_sort {L : jL} (hL : jgood L) {ω : xS} {S : jSt} {sw ps wy : Nat} (hK : jLK S sw ps wy) {tp : Nat → Nat} {ts e s n : Nat} (hT : jTm S tp ts) (hes : e ≤ ts) (hk0 : jtK tp ts e ≠ 0) (hk : jgI S (jm 0) 35 = nI (jtK tp ts e - 1)) (hb : jgI S (jm 0) 36 = nI (jtB tp ts e)) (hw : jtK tp ts e = 2 → jgG S (jm 0) 38 = lN (jwN tp (jtB tp ts e) (jtE tp ts e - jtB tp ts e))) (hs : jSo tp ts e s) : f_Mo_law0 (jad L (jm 0)) (nI n) (jW L ω S) = f_Mo_law0_123 (jad L (jm 0)) (nI n) (nI (jtB tp ts e)) (if s < 7 then nI s else -1) (jW L ω S) := by
  have hle := jtK_le (tp := tp) (ts := ts) (e := e)
  have g35 : xgi (jW L ω S) (jad L (jm 0)) 12 35 = some (nI (jtK tp ts e - 1)) := by simp (disch := first | omega | rfl | assumption | exact jokr (by decide) (by omega) | exact jokr4 (by omega) | exact jkt_r _ _ | exact jkt_l (by decide) | exact jfk_l (by decide) | exact jkt_t _ | exact jkt_r6 _ _ | exact jkt_t6 _ | (simp only [jok, jlen]; omega) | decide) only [jm_gi hL, hk]
  have g36 : xgi (jW L ω S) (jad L (jm 0)) 12 36 = some (nI (jtB tp ts e)) := by simp (disch := first | omega | rfl | assumption | exact jokr (by decide) (by omega) | exact jokr4 (by omega) | exact jkt_r _ _ | exact jkt_l (by decide) | exact jfk_l (by decide) | exact jkt_t _ | exact jkt_r6 _ _ | exact jkt_t6 _ | (simp only [jok, jlen]; omega) | decide) only [jm_gi hL, hb]
  unfold f_Mo_law0
  rw [g36, Option.bind_some, g35, Option.bind_some]
  by_cases k2 : jtK tp ts e = 2
  · obtain ⟨t1, t2, t3, t4⟩ := jtk2 hes k2
    have hG := hw k2
    have g38 : xgl (jW L ω S) (jad L (jm 0)) 12 38 = some (lN (jwN tp (jtB tp ts e) (jtE tp ts e - jtB tp ts e))) := by simp (disch := first | omega | rfl | assumption | exact jokr (by decide) (by omega) | exact jokr4 (by omega) | exact jkt_r _ _ | exact jkt_l (by decide) | exact jfk_l (by decide) | exact jkt_t _ | exact jkt_r6 _ _ | exact jkt_t6 _ | (simp only [jok, jlen]; omega) | decide) only [jm_gl hL, hG]
    have cmp : ∀ i, i < 7 → ∀ c : Int64, c = lN (jwN (jnm i) 0 (jnl i)) → (lg_cmp (lN (jwN tp (jtB tp ts e) (jtE tp ts e - jtB tp ts e))) c = 0 ↔ jspl tp (jtB tp ts e) (jtE tp ts e) i) := fun i hi c hc => by
      rw [hc]
      exact (jceq _ _).trans (jw_spl hi t2 t4 hT.b)
    have c0 := cmp 0 (by omega) 495723310188 (by decide +kernel)
    have c1 := cmp 1 (by omega) 1919251316 (by decide +kernel)
    have c2 := cmp 2 (by omega) 448546566771 (by decide +kernel)
    have c3 := cmp 3 (by omega) 474148660594 (by decide +kernel)
    have c4 := cmp 4 (by omega) 512853240933 (by decide +kernel)
    have c5 := cmp 5 (by omega) 1717660018 (by decide +kernel)
    have c6 := cmp 6 (by omega) 427071792498 (by decide +kernel)
    have y : ∀ i, s = i → i < 7 → jspl tp (jtB tp ts e) (jtE tp ts e) i := fun i hi h7 => by subst hi; exact (hs.y h7).2
    have no : ∀ i, i < s → i < 7 → ¬ jspl tp (jtB tp ts e) (jtE tp ts e) i := fun i h1 h2 z => hs.n i h1 h2 ⟨k2, z⟩
    have hs7 := hs.l
    rw [if_pos (show nI (jtK tp ts e - 1) = (1 : Int32) by rw [k2]; rfl), g38, Option.bind_some]
    by_cases s0 : s = 0
    · rw [if_pos (c0.mpr (y 0 s0 (by omega))), s0]; rfl
    rw [if_neg (fun z => no 0 (by omega) (by omega) (c0.mp z)), Option.bind_some]
    by_cases s1 : s = 1
    · rw [if_pos (c1.mpr (y 1 s1 (by omega))), s1]; rfl
    rw [if_neg (fun z => no 1 (by omega) (by omega) (c1.mp z)), Option.bind_some]
    by_cases s2 : s = 2
    · rw [if_pos (c2.mpr (y 2 s2 (by omega))), s2]; rfl
    rw [if_neg (fun z => no 2 (by omega) (by omega) (c2.mp z)), Option.bind_some]
    by_cases s3 : s = 3
    · rw [if_pos (c3.mpr (y 3 s3 (by omega))), s3]; rfl
    rw [if_neg (fun z => no 3 (by omega) (by omega) (c3.mp z)), Option.bind_some]
    by_cases s4 : s = 4
    · rw [if_pos (c4.mpr (y 4 s4 (by omega))), s4]; rfl
    rw [if_neg (fun z => no 4 (by omega) (by omega) (c4.mp z)), Option.bind_some]
    by_cases s5 : s = 5
    · rw [if_pos (c5.mpr (y 5 s5 (by omega))), s5]; rfl
    rw [if_neg (fun z => no 5 (by omega) (by omega) (c5.mp z)), Option.bind_some]
    by_cases s6 : s = 6
    · rw [if_pos (c6.mpr (y 6 s6 (by omega))), s6]; rfl
    rw [if_neg (fun z => no 6 (by omega) (by omega) (c6.mp z)), if_neg (show ¬ s < 7 by omega)]
  · have hs7 : ¬ s < 7 := fun z => k2 (hs.y z).1
    rw [if_neg (show ¬ nI (jtK tp ts e - 1) = (1 : Int32) from fun z => by rw [jlit, nI_eq (by omega) (by omega)] at z; omega), if_neg hs7]
