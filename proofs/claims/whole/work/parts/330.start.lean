/-! THE START: the reference's own loops, and all that holds before the first call -/
theorem jclE (M : Nat) (hM : 1 ≤ M) (hM2 : M < 1000) (x : Int32) : ∃ n, 1 ≤ n ∧ n ≤ M ∧ xmax 1 (xmin (nI M) x) = nI n ∧ ∀ {α : Type} (f : Int32 → α), (if 1 ≤ x then (if x ≤ nI M then f x else f (nI M)) else f 1) = f (nI n) := by
  have t1 : (1 : Int32).toInt = 1 := rfl
  have tM : (nI M).toInt = (M : Int) := nI_toInt (by omega)
  have e2 : ∀ n : Nat, 1 ≤ n → n < 1000 → xmax 1 (nI n) = nI n := fun n h1 h2 => by
    unfold xmax
    by_cases c : (1 : Int32) < nI n
    · rw [if_pos c]
    · rw [if_neg c]
      have : ¬ 1 < n := fun z => c ((nI_ltI (a := 1) (by omega) (by omega)).mpr z)
      rw [show n = 1 by omega]; rfl
  by_cases c1 : (1 : Int32) ≤ x
  · have c1' := c1
    rw [Int32.le_iff_toInt_le, t1] at c1'
    by_cases c2 : x ≤ nI M
    · have c2' := c2
      rw [Int32.le_iff_toInt_le, tM] at c2'
      obtain ⟨n, h1, h2, rfl⟩ := jrng (lo := 1) (hi := M) c1' c2'
      refine ⟨n, h1, h2, ?_, fun f => by rw [if_pos c1, if_pos c2]⟩
      have e1 : xmin (nI M) (nI n) = nI n := by
        unfold xmin
        by_cases c : nI n < nI M
        · rw [if_pos c]
        · rw [if_neg c]
          have : ¬ n < M := fun z => c ((nI_ltI (by omega) (by omega)).mpr z)
          rw [show n = M by omega]
      rw [e1, e2 n h1 (by omega)]
    · refine ⟨M, hM, Nat.le_refl _, ?_, fun f => by rw [if_pos c1, if_neg c2]⟩
      have e1 : xmin (nI M) x = nI M := by
        unfold xmin
        refine if_neg (fun z => c2 ?_)
        rw [Int32.lt_iff_toInt_lt] at z
        rw [Int32.le_iff_toInt_le]
        omega
      rw [e1, e2 M hM hM2]
  · refine ⟨1, Nat.le_refl _, hM, ?_, fun f => by rw [if_neg c1]; rfl⟩
    rw [Int32.le_iff_toInt_le, t1] at c1
    have e1 : xmin (nI M) x = x := by
      unfold xmin
      refine if_pos ?_
      rw [Int32.lt_iff_toInt_lt, tM]
      omega
    rw [e1]
    unfold xmax
    refine if_neg (fun z => ?_)
    rw [Int32.lt_iff_toInt_lt, t1] at z
    omega
theorem jM_448 {L : jL} (hL : jgood L) {ω : xS} {S : jSt} {sw ps wy : Nat} (hK : jLK S sw ps wy) : ∃ T, f_Mo_init_448 xFU (jad L (jm 0)) 0 (jW L ω S) = f_Mo_init_470 xFU (jad L (jm 0)) 0 (jW L ω T) ∧ jgX T = jgX S ∧ jgN T = jgN S ∧ jgI T = jgI S ∧ (∀ c, c ≠ jm 1 → jgA T c = jgA S c) ∧ ∀ k, k < 168 → jgA T (jm 1) k = -1 := by
  obtain ⟨n, T, e1, x1, x2, x3, x4, x5⟩ := jlpI (fun n i (T : jSt) => f_Mo_init_448 n (jad L (jm 0)) (nI i) (jW L ω T)) (fun i T => jgX T = jgX S ∧ jgN T = jgN S ∧ jgI T = jgI S ∧ (∀ c, c ≠ jm 1 → jgA T c = jgA S c) ∧ ∀ k, k < i → jgA T (jm 1) k = -1) (lo := 0) (hi := 168) (by omega) (by omega) (by
    intro n i T _ hi ⟨x1, x2, x3, x4, x5⟩
    have hKT := hK.of x1
    refine ⟨jsA T (jm 1) i (-1), ?_, x1, x2, x3, fun c hc => by rw [jsA_fn hc]; exact x4 c hc, fun k hk => ?_⟩
    · have r2 : xgr (jW L ω T) (jad L (jm 0)) 12 2 = some (jad L (jm 1)) := by
        have hK := hKT
        simp (disch := first | omega | rfl | assumption | exact jokr (by decide) (by omega) | exact jokr4 (by omega) | exact jkt_r _ _ | exact jkt_l (by decide) | exact jfk_l (by decide) | exact jkt_t _ | exact jkt_r6 _ _ | exact jkt_t6 _ | (simp only [jok, jlen]; omega) | decide) only [jm_k hL, jm_gi hL, jm_gr hL, jm_gl hL, jm_pi hL, jm_pl hL, jn_ai hL, jn_ab hL, jn_az hL, jn_al hL, jn_ar hL, jn_an hL, jn_si hL, jn_sb hL, jn_sz hL, jn_sl hL, Option.bind_some, xc, xl, jsA_X, jsI_X, jsG_X, hK _ _, jlk, jmx]
      have ek : nI i + 1 = nI (i + 1) := by rw [jlit, nI_add]
      show f_Mo_init_448 (n + 1) _ _ _ = f_Mo_init_448 n _ _ _
      rw [f_Mo_init_448, if_neg (show ¬ (168 : Int32) ≤ nI i from fun z => by have := (nI_leI (a := 168) (by omega) (by omega)).mp z; omega), r2, Option.bind_some, jn_si hL (c := jm 1) (by simp only [jok]; omega) rfl (by simp only [jlen]; omega) (by omega), Option.bind_some, ek]
    · rw [jsA_c]
      by_cases c : k = i
      · rw [if_pos c]
      · rw [if_neg c]; exact x5 k (by omega)) S ⟨rfl, rfl, rfl, fun _ _ => rfl, fun k hk => by omega⟩
  have e1 : f_Mo_init_448 xFU (jad L (jm 0)) (nI 0) (jW L ω S) = f_Mo_init_448 (n + 1) (jad L (jm 0)) (nI 168) (jW L ω T) := e1
  refine ⟨T, e1.trans ?_, x1, x2, x3, x4, x5⟩
  rw [f_Mo_init_448, if_pos (show (168 : Int32) ≤ nI 168 by decide)]
theorem jM_470 {L : jL} (hL : jgood L) {ω : xS} {S : jSt} {sw ps wy : Nat} (hK : jLK S sw ps wy) : ∃ T, f_Mo_init_470 xFU (jad L (jm 0)) 0 (jW L ω S) = f_Mo_init_491 xFU (jad L (jm 0)) 0 (jW L ω T) ∧ jgX T = jgX S ∧ jgN T = jgN S ∧ jgI T = jgI S ∧ (∀ c, c ≠ jm 2 → jgA T c = jgA S c) ∧ ∀ k, k < 56 → jgA T (jm 2) k = -1 := by
  obtain ⟨n, T, e1, x1, x2, x3, x4, x5⟩ := jlpI (fun n i (T : jSt) => f_Mo_init_470 n (jad L (jm 0)) (nI i) (jW L ω T)) (fun i T => jgX T = jgX S ∧ jgN T = jgN S ∧ jgI T = jgI S ∧ (∀ c, c ≠ jm 2 → jgA T c = jgA S c) ∧ ∀ k, k < i → jgA T (jm 2) k = -1) (lo := 0) (hi := 56) (by omega) (by omega) (by
    intro n i T _ hi ⟨x1, x2, x3, x4, x5⟩
    have hKT := hK.of x1
    refine ⟨jsA T (jm 2) i (-1), ?_, x1, x2, x3, fun c hc => by rw [jsA_fn hc]; exact x4 c hc, fun k hk => ?_⟩
    · have r2 : xgr (jW L ω T) (jad L (jm 0)) 12 3 = some (jad L (jm 2)) := by
        have hK := hKT
        simp (disch := first | omega | rfl | assumption | exact jokr (by decide) (by omega) | exact jokr4 (by omega) | exact jkt_r _ _ | exact jkt_l (by decide) | exact jfk_l (by decide) | exact jkt_t _ | exact jkt_r6 _ _ | exact jkt_t6 _ | (simp only [jok, jlen]; omega) | decide) only [jm_k hL, jm_gi hL, jm_gr hL, jm_gl hL, jm_pi hL, jm_pl hL, jn_ai hL, jn_ab hL, jn_az hL, jn_al hL, jn_ar hL, jn_an hL, jn_si hL, jn_sb hL, jn_sz hL, jn_sl hL, Option.bind_some, xc, xl, jsA_X, jsI_X, jsG_X, hK _ _, jlk, jmx]
      have ek : nI i + 1 = nI (i + 1) := by rw [jlit, nI_add]
      show f_Mo_init_470 (n + 1) _ _ _ = f_Mo_init_470 n _ _ _
      rw [f_Mo_init_470, if_neg (show ¬ (56 : Int32) ≤ nI i from fun z => by have := (nI_leI (a := 56) (by omega) (by omega)).mp z; omega), r2, Option.bind_some, jn_si hL (c := jm 2) (by simp only [jok]; omega) rfl (by simp only [jlen]; omega) (by omega), Option.bind_some, ek]
    · rw [jsA_c]
      by_cases c : k = i
      · rw [if_pos c]
      · rw [if_neg c]; exact x5 k (by omega)) S ⟨rfl, rfl, rfl, fun _ _ => rfl, fun k hk => by omega⟩
  have e1 : f_Mo_init_470 xFU (jad L (jm 0)) (nI 0) (jW L ω S) = f_Mo_init_470 (n + 1) (jad L (jm 0)) (nI 56) (jW L ω T) := e1
  refine ⟨T, e1.trans ?_, x1, x2, x3, x4, x5⟩
  rw [f_Mo_init_470, if_pos (show (56 : Int32) ≤ nI 56 by decide)]
theorem jM_491 {L : jL} (hL : jgood L) {ω : xS} {S : jSt} {sw ps wy : Nat} (hK : jLK S sw ps wy) : ∃ T, f_Mo_init_491 xFU (jad L (jm 0)) 0 (jW L ω S) = some (jW L ω T) ∧ jgX T = jgX S ∧ jgN T = jgN S ∧ jgI T = jgI S ∧ (∀ c, c ≠ jm 3 → c ≠ jm 4 → c ≠ jm 6 → jgA T c = jgA S c) ∧ ∀ k, k < 8 → jgA T (jm 3) k = 480 ∧ jgA T (jm 4) k = 480 ∧ jgA T (jm 6) k = 1023 := by
  obtain ⟨n, T, e1, x1, x2, x3, x4, x5⟩ := jlpI (fun n i (T : jSt) => f_Mo_init_491 n (jad L (jm 0)) (nI i) (jW L ω T)) (fun i T => jgX T = jgX S ∧ jgN T = jgN S ∧ jgI T = jgI S ∧ (∀ c, c ≠ jm 3 → c ≠ jm 4 → c ≠ jm 6 → jgA T c = jgA S c) ∧ ∀ k, k < i → jgA T (jm 3) k = 480 ∧ jgA T (jm 4) k = 480 ∧ jgA T (jm 6) k = 1023) (lo := 0) (hi := 8) (by omega) (by omega) (by
    intro n i T _ hi ⟨x1, x2, x3, x4, x5⟩
    have hKT := hK.of x1
    refine ⟨jsA (jsA (jsA T (jm 3) i 480) (jm 4) i 480) (jm 6) i 1023, ?_, x1, x2, x3, fun c h3 h4 h6 => by rw [jsA_fn h6, jsA_fn h4, jsA_fn h3]; exact x4 c h3 h4 h6, fun k hk => ?_⟩
    · have r4 : ∀ U : jSt, jgX U = jgX T → xgr (jW L ω U) (jad L (jm 0)) 12 4 = some (jad L (jm 3)) := fun U hU => by
        have hK := hKT.of hU
        simp (disch := first | omega | rfl | assumption | exact jokr (by decide) (by omega) | exact jokr4 (by omega) | exact jkt_r _ _ | exact jkt_l (by decide) | exact jfk_l (by decide) | exact jkt_t _ | exact jkt_r6 _ _ | exact jkt_t6 _ | (simp only [jok, jlen]; omega) | decide) only [jm_k hL, jm_gi hL, jm_gr hL, jm_gl hL, jm_pi hL, jm_pl hL, jn_ai hL, jn_ab hL, jn_az hL, jn_al hL, jn_ar hL, jn_an hL, jn_si hL, jn_sb hL, jn_sz hL, jn_sl hL, Option.bind_some, xc, xl, jsA_X, jsI_X, jsG_X, hK _ _, jlk, jmx]
      have r5 : ∀ U : jSt, jgX U = jgX T → xgr (jW L ω U) (jad L (jm 0)) 12 5 = some (jad L (jm 4)) := fun U hU => by
        have hK := hKT.of hU
        simp (disch := first | omega | rfl | assumption | exact jokr (by decide) (by omega) | exact jokr4 (by omega) | exact jkt_r _ _ | exact jkt_l (by decide) | exact jfk_l (by decide) | exact jkt_t _ | exact jkt_r6 _ _ | exact jkt_t6 _ | (simp only [jok, jlen]; omega) | decide) only [jm_k hL, jm_gi hL, jm_gr hL, jm_gl hL, jm_pi hL, jm_pl hL, jn_ai hL, jn_ab hL, jn_az hL, jn_al hL, jn_ar hL, jn_an hL, jn_si hL, jn_sb hL, jn_sz hL, jn_sl hL, Option.bind_some, xc, xl, jsA_X, jsI_X, jsG_X, hK _ _, jlk, jmx]
      have r7 : ∀ U : jSt, jgX U = jgX T → xgr (jW L ω U) (jad L (jm 0)) 12 7 = some (jad L (jm 6)) := fun U hU => by
        have hK := hKT.of hU
        simp (disch := first | omega | rfl | assumption | exact jokr (by decide) (by omega) | exact jokr4 (by omega) | exact jkt_r _ _ | exact jkt_l (by decide) | exact jfk_l (by decide) | exact jkt_t _ | exact jkt_r6 _ _ | exact jkt_t6 _ | (simp only [jok, jlen]; omega) | decide) only [jm_k hL, jm_gi hL, jm_gr hL, jm_gl hL, jm_pi hL, jm_pl hL, jn_ai hL, jn_ab hL, jn_az hL, jn_al hL, jn_ar hL, jn_an hL, jn_si hL, jn_sb hL, jn_sz hL, jn_sl hL, Option.bind_some, xc, xl, jsA_X, jsI_X, jsG_X, hK _ _, jlk, jmx]
      have ek : nI i + 1 = nI (i + 1) := by rw [jlit, nI_add]
      show f_Mo_init_491 (n + 1) _ _ _ = f_Mo_init_491 n _ _ _
      rw [f_Mo_init_491, if_neg (show ¬ (8 : Int32) ≤ nI i from fun z => by have := (nI_leI (a := 8) (by omega) (by omega)).mp z; omega), r4 T rfl, Option.bind_some, jn_si hL (c := jm 3) (by simp only [jok]; omega) rfl (by simp only [jlen]; omega) (by omega), Option.bind_some, r5 (jsA T (jm 3) i 480) rfl, Option.bind_some, jn_si hL (c := jm 4) (by simp only [jok]; omega) rfl (by simp only [jlen]; omega) (by omega), Option.bind_some, r7 (jsA (jsA T (jm 3) i 480) (jm 4) i 480) rfl, Option.bind_some, jn_si hL (c := jm 6) (by simp only [jok]; omega) rfl (by simp only [jlen]; omega) (by omega), Option.bind_some, ek]
    · have s3 : jgA (jsA (jsA (jsA T (jm 3) i 480) (jm 4) i 480) (jm 6) i 1023) (jm 3) k = if k = i then 480 else jgA T (jm 3) k := by rw [jsA_ne (jmne (by decide)), jsA_ne (jmne (by decide)), jsA_c]
      have s4 : jgA (jsA (jsA (jsA T (jm 3) i 480) (jm 4) i 480) (jm 6) i 1023) (jm 4) k = if k = i then 480 else jgA T (jm 4) k := by rw [jsA_ne (jmne (by decide)), jsA_c, jsA_ne (jmne (by decide))]
      have s6 : jgA (jsA (jsA (jsA T (jm 3) i 480) (jm 4) i 480) (jm 6) i 1023) (jm 6) k = if k = i then 1023 else jgA T (jm 6) k := by rw [jsA_c, jsA_ne (jmne (by decide)), jsA_ne (jmne (by decide))]
      rw [s3, s4, s6]
      by_cases c : k = i
      · rw [if_pos c, if_pos c, if_pos c]; exact ⟨rfl, rfl, rfl⟩
      · rw [if_neg c, if_neg c, if_neg c]; exact x5 k (by omega)) S ⟨rfl, rfl, rfl, fun _ _ _ _ => rfl, fun k hk => by omega⟩
  have e1 : f_Mo_init_491 xFU (jad L (jm 0)) (nI 0) (jW L ω S) = f_Mo_init_491 (n + 1) (jad L (jm 0)) (nI 8) (jW L ω T) := e1
  refine ⟨T, e1.trans ?_, x1, x2, x3, x4, x5⟩
  rw [f_Mo_init_491, if_pos (show (8 : Int32) ≤ nI 8 by decide)]
def jFst (n d : Nat) (S : jSt) : Prop := (jgX S = jlk 0 0 0) ∧ (jgN S = fun _ => 0) ∧ (∀ c, c ≠ jm 0 → jgI S c = jI0 n d c) ∧ (jgI S (jm 0) 0 = nI n) ∧ (jgI S (jm 0) 1 = nI d) ∧ (∀ k, 2 ≤ k → jgI S (jm 0) k = jI0 n d (jm 0) k) ∧ (∀ c, c ≠ jm 1 → c ≠ jm 2 → c ≠ jm 3 → c ≠ jm 4 → c ≠ jm 6 → jgA S c = jA00 n d c) ∧ (∀ k, k < 168 → jgA S (jm 1) k = -1) ∧ (∀ k, k < 56 → jgA S (jm 2) k = -1) ∧ (∀ k, k < 8 → jgA S (jm 3) k = 480 ∧ jgA S (jm 4) k = 480 ∧ jgA S (jm 6) k = 1023)
theorem jFst.x {n d : Nat} {S : jSt} (h : jFst n d S) : jgX S = jlk 0 0 0 := h.1
theorem jFst.nn {n d : Nat} {S : jSt} (h : jFst n d S) : jgN S = fun _ => 0 := h.2.1
theorem jFst.i {n d : Nat} {S : jSt} (h : jFst n d S) : ∀ c, c ≠ jm 0 → jgI S c = jI0 n d c := h.2.2.1
theorem jFst.i0 {n d : Nat} {S : jSt} (h : jFst n d S) : jgI S (jm 0) 0 = nI n := h.2.2.2.1
theorem jFst.i1 {n d : Nat} {S : jSt} (h : jFst n d S) : jgI S (jm 0) 1 = nI d := h.2.2.2.2.1
theorem jFst.ik {n d : Nat} {S : jSt} (h : jFst n d S) : ∀ k, 2 ≤ k → jgI S (jm 0) k = jI0 n d (jm 0) k := h.2.2.2.2.2.1
theorem jFst.a {n d : Nat} {S : jSt} (h : jFst n d S) : ∀ c, c ≠ jm 1 → c ≠ jm 2 → c ≠ jm 3 → c ≠ jm 4 → c ≠ jm 6 → jgA S c = jA00 n d c := h.2.2.2.2.2.2.1
theorem jFst.a1 {n d : Nat} {S : jSt} (h : jFst n d S) : ∀ k, k < 168 → jgA S (jm 1) k = -1 := h.2.2.2.2.2.2.2.1
theorem jFst.a2 {n d : Nat} {S : jSt} (h : jFst n d S) : ∀ k, k < 56 → jgA S (jm 2) k = -1 := h.2.2.2.2.2.2.2.2.1
theorem jFst.a3 {n d : Nat} {S : jSt} (h : jFst n d S) : ∀ k, k < 8 → jgA S (jm 3) k = 480 ∧ jgA S (jm 4) k = 480 ∧ jgA S (jm 6) k = 1023 := h.2.2.2.2.2.2.2.2.2
theorem jgood0 (B n d : Nat) : jgood (jL0 B n d) := ⟨fun j _ => Or.inl rfl, fun i j _ _ e => by
  have e : B + 35 + 4 * n + d + 8 * i + 7 = B + 35 + 4 * n + d + 8 * j + 7 := e
  omega⟩
theorem jfit0 (B n d : Nat) : jfit (jL0 B n d) (B + 291 + 4 * n + d + 47) := ⟨by show B + 338 + 4 * n + d ≤ _; omega, fun j hj => by show B + 35 + 4 * n + d + 8 * j + 7 < _; omega⟩
theorem jI_start (B : Nat) (x1 x2 : Int32) : ∃ (n d : Nat) (w6 ω : xS) (S : jSt), 1 ≤ n ∧ n ≤ 8 ∧ 1 ≤ d ∧ d ≤ 21 ∧ xmax 1 (xmin 8 x1) = nI n ∧ xmax 1 (xmin 21 x2) = nI d ∧ f_RR_init B x1 x2 (B + 1) (xu (fun _ => none) B (.inr (11, [.null, .null, .null, .null, .null, .null, .null, .null, .int 0]))) = some (B + 291 + 4 * n + d, w6) ∧ f_Mo_init (B + 291 + 4 * n + d) x1 x2 (B + 291 + 4 * n + d + 1) (xu w6 (B + 291 + 4 * n + d) (.inr (12, jMo0))) = some (jW (jL0 B n d) ω S) ∧ jFst n d S := by
  obtain ⟨n, n1, n8, en, fn⟩ := jclE 8 (by omega) (by omega) x1
  obtain ⟨d, d1, d21, ed, fd⟩ := jclE 21 (by omega) (by omega) x2
  have en : xmax 1 (xmin 8 x1) = nI n := en
  have ed : xmax 1 (xmin 21 x2) = nI d := ed
  obtain ⟨w6, a1, a2, _⟩ := jI_RR (ω := xu (fun _ => none) B (.inr (11, [.null, .null, .null, .null, .null, .null, .null, .null, .int 0]))) (a0 := B) (z := B + 1) (xu_self _ _ _) rfl en ed n1 n8 d1 d21
  have a1 : _ = some (B + 1 + 290 + 4 * n + d, w6) := a1
  rw [show B + 1 + 290 + 4 * n + d = B + 291 + 4 * n + d by omega] at a1
  obtain ⟨w, b1, b2, b3, b4⟩ := jI_Mo (x1 := x1) (x2 := x2) (xu_self w6 (B + 291 + 4 * n + d) (.inr (12, jMo0)))
  have hA : jIA w B (B + 1) n d := a2.fr (fun q hq => by rw [b4 q hq, xu_ne _ _ (show q ≠ B + 291 + 4 * n + d by omega)])
  have hW : jW (jL0 B n d) w (jS0 n d) = w := jF_all hA b2 b3
  have hL := jgood0 B n d
  have hK0 : jLK (jS0 n d) 0 0 0 := fun _ _ => rfl
  have fn : (if 1 ≤ x1 then (if x1 ≤ 8 then f_Mo_init_418 (B + 291 + 4 * n + d) x2 x1 (B + 291 + 4 * n + d) w else f_Mo_init_418 (B + 291 + 4 * n + d) x2 8 (B + 291 + 4 * n + d) w) else f_Mo_init_418 (B + 291 + 4 * n + d) x2 1 (B + 291 + 4 * n + d) w) = f_Mo_init_418 (B + 291 + 4 * n + d) x2 (nI n) (B + 291 + 4 * n + d) w := fn (fun y => f_Mo_init_418 (B + 291 + 4 * n + d) x2 y (B + 291 + 4 * n + d) w)
  have p0 : ∀ (U : jSt) (k : Nat) (v : Int32), k = 0 ∨ k = 1 → xp (jW (jL0 B n d) w U) (jad (jL0 B n d) (jm 0)) 12 k (.int v) = some (jW (jL0 B n d) w (jsI U (jm 0) k v)) := fun U k v hk => by
    rcases hk with rfl | rfl <;> simp (disch := first | omega | rfl | assumption | exact jokr (by decide) (by omega) | exact jokr4 (by omega) | exact jkt_r _ _ | exact jkt_l (by decide) | exact jfk_l (by decide) | exact jkt_t _ | exact jkt_r6 _ _ | exact jkt_t6 _ | (simp only [jok, jlen]; omega) | decide) only [jm_pi hL]
  have e418 : f_Mo_init_418 (B + 291 + 4 * n + d) x2 (nI n) (B + 291 + 4 * n + d) w = f_Mo_init_448 xFU (jad (jL0 B n d) (jm 0)) 0 (jW (jL0 B n d) w (jsI (jsI (jS0 n d) (jm 0) 0 (nI n)) (jm 0) 1 (nI d))) := by
    have ff := fd (fun y => (xp (jW (jL0 B n d) w (jsI (jS0 n d) (jm 0) 0 (nI n))) (jad (jL0 B n d) (jm 0)) 12 1 (.int y)).bind fun w99 => f_Mo_init_448 xFU (jad (jL0 B n d) (jm 0)) 0 w99)
    have g : f_Mo_init_418 (jad (jL0 B n d) (jm 0)) x2 (nI n) (jad (jL0 B n d) (jm 0)) (jW (jL0 B n d) w (jS0 n d)) = (xp (jW (jL0 B n d) w (jsI (jS0 n d) (jm 0) 0 (nI n))) (jad (jL0 B n d) (jm 0)) 12 1 (.int (nI d))).bind fun w99 => f_Mo_init_448 xFU (jad (jL0 B n d) (jm 0)) 0 w99 := by
      unfold f_Mo_init_418
      rw [p0 _ 0 _ (Or.inl rfl), Option.bind_some]
      exact ff
    rw [p0 _ 1 _ (Or.inr rfl), Option.bind_some, hW] at g
    exact g
  obtain ⟨T1, c1, u1, u2, u3, u4, u5⟩ := jM_448 hL (ω := w) (S := jsI (jsI (jS0 n d) (jm 0) 0 (nI n)) (jm 0) 1 (nI d)) (sw := 0) (ps := 0) (wy := 0) hK0
  obtain ⟨T2, c2, v1, v2, v3, v4, v5⟩ := jM_470 hL (ω := w) (S := T1) (sw := 0) (ps := 0) (wy := 0) (fun c k => by rw [u1]; rfl)
  obtain ⟨T3, c3, y1, y2, y3, y4, y5⟩ := jM_491 hL (ω := w) (S := T2) (sw := 0) (ps := 0) (wy := 0) (fun c k => by rw [v1, u1]; rfl)
  have I3 : jgI T3 = jgI (jsI (jsI (jS0 n d) (jm 0) 0 (nI n)) (jm 0) 1 (nI d)) := y3.trans (v3.trans u3)
  refine ⟨n, d, w6, w, T3, n1, n8, d1, d21, en, ed, a1, ?_, ⟨y1.trans (v1.trans u1), y2.trans (v2.trans u2), fun c hc => ?_, ?_, ?_, fun k hk => ?_, fun c h1 h2 h3 h4 h6 => ?_, fun k hk => ?_, fun k hk => ?_, y5⟩⟩
  · rw [b1, fn, e418, c1, c2, c3]
  · rw [I3, jsI_fn hc, jsI_fn hc]; rfl
  · rw [I3, jsI_c, if_neg (by decide), jsI_c, if_pos rfl]
  · rw [I3, jsI_c, if_pos rfl]
  · rw [I3, jsI_c, if_neg (by omega), jsI_c, if_neg (by omega)]; rfl
  · rw [y4 c h3 h4 h6, v4 c h2, u4 c h1]; rfl
  · rw [y4 _ (jmne (by decide)) (jmne (by decide)) (jmne (by decide)), v4 _ (jmne (by decide))]; exact u5 k hk
  · rw [y4 _ (jmne (by decide)) (jmne (by decide)) (jmne (by decide))]; exact v5 k hk
def jRo : jR := (fun _ _ => 0, fun _ => 480, fun l => if l = 0 then 0 else 480, fun _ => 0, fun _ => 1023, fun _ _ => 0, fun _ _ => 0)
def jLw0 : jLw := (0, fun _ => 0, fun _ => 0, fun _ => 0, fun _ => 0, fun _ => 0, fun _ => 0, fun _ => 0, fun _ => 0, fun _ _ => 0, fun _ _ => 0, fun _ => 0, fun _ => 0, fun _ => 0, fun _ _ => 0, fun _ _ => 0, fun _ => 0)
theorem jsm_k (a : Nat) : ∀ k, jsm (fun _ => a) k = k * a
  | 0 => by rw [jsm, Nat.zero_mul]
  | k + 1 => by rw [jsm, jsm_k a k, Nat.succ_mul]
theorem jFst.iv {B n d : Nat} {S : jSt} (h : jFst n d S) (n1 : 1 ≤ n) (n8 : n ≤ 8) (d1 : 1 ≤ d) (d21 : d ≤ 21) : jIv (jL0 B n d) S jRo jLw0 (0, fun _ => (0, 0, 0)) (fun _ => 0) 0 0 0 0 := by
  have ha : ∀ q, q ≠ 1 → q ≠ 2 → q ≠ 3 → q ≠ 4 → q ≠ 6 → jgA S (jm q) = jA00 n d (jm q) := fun q h1 h2 h3 h4 h6 => h.a _ (jmne h1) (jmne h2) (jmne h3) (jmne h4) (jmne h6)
  have ho : ∀ q, jgA S (jo q) = jA00 n d (jo q) := fun q => h.a _ (fun z => by cases z) (fun z => by cases z) (fun z => by cases z) (fun z => by cases z) (fun z => by cases z)
  have hr : ∀ t p, jgA S (jr t p) = jA00 n d (jr t p) := fun t p => h.a _ (fun z => by cases z) (fun z => by cases z) (fun z => by cases z) (fun z => by cases z) (fun z => by cases z)
  have hi : ∀ q, jgI S (jo q) = jI0 n d (jo q) := fun q => h.i _ (fun z => by cases z)
  have no : ∀ {P : Prop} {k : Nat}, k < jLw.n jLw0 → P := fun {P k} hk => absurd hk (Nat.not_lt_zero k)
  have ho0 : ∀ {P : Prop} {k : Nat}, k < ((0, fun _ => (0, 0, 0)) : jH).1 → P := fun {P k} hk => absurd hk (Nat.not_lt_zero k)
  have s0 : ∀ (l k : Nat), (if l = 0 then nI k else (0 : Int32)) = nI (jsm (fun _ => jis 0 l) k) := fun l k => by
    rw [jsm_k]
    by_cases c : l = 0
    · rw [if_pos c, c, show jis 0 0 = 1 from rfl, Nat.mul_one]
    · rw [if_neg c, show jis 0 l = 0 from if_neg (fun z => c z.symm), Nat.mul_zero]; rfl
  have z0 : ∀ k, jsm (fun _ => jno 0) k = 0 := fun k => by rw [jsm_k, show jno 0 = 0 from rfl, Nat.mul_zero]
  have z1 : jsm (fun _ => jsm (fun _ => jno 0) d) n = 0 := by rw [z0, jsm_k, Nat.mul_zero]
  refine ⟨⟨n1, n8, d1, d21⟩, ⟨fun _ _ => Nat.zero_le _, fun _ => by show 480 < 1440; decide, fun l => ?_, rfl, fun _ => Nat.zero_le _, fun _ => by show 1023 ≤ 1023; decide, fun _ _ => Nat.zero_le _, fun _ _ => Nat.zero_le _⟩, fun c k => by rw [h.x], ⟨?_, ?_, fun l l8 l1 => ?_, fun l l8 => ?_, fun l l8 l1 => ?_, fun p hp => ?_, fun p j hp hj => ?_, fun p t hp ht hw => absurd rfl hw, fun p t hp ht => ?_, fun p l hp hl => ?_, fun t l ht hl => ?_, ?_, ?_⟩, ⟨h.i0, h.i1, fun p t hp ht => ?_, fun p j hp hj => ?_, fun l hl => ?_, fun l hl => ?_, fun l hl => ?_, fun p hp => ?_, fun p t hp ht hw => absurd rfl hw, fun p t hp ht => ?_⟩, ⟨Nat.zero_le _, fun k hk => no hk, fun k hk => no hk, fun k hk => no hk, fun k hk => no hk, fun k hk => no hk, fun k hk => no hk, fun k hk => no hk, fun k hk => no hk, fun k hk => no hk, fun k p hk => no hk, fun k p hk => no hk, fun k hk => no hk, fun k hk => no hk, fun k hk => no hk, fun k m hk => no hk, fun k s hk => no hk, fun k x m hk => no hk, fun k hk => no hk, fun k hk => no hk, fun k hk => no hk⟩, ⟨Nat.zero_le _, ?_, fun k hk => no hk, fun k hk => no hk, fun k hk => no hk, fun k hk => no hk, fun k hk => no hk, fun k hk => no hk, fun k hk => no hk, fun k hk => no hk, fun k hk => no hk, fun k hk => no hk, fun k hk => no hk, fun k l hk => no hk, fun k l hk => no hk, fun k l hk => no hk, fun k hk => no hk, fun j hj => ?_⟩, ⟨?_, fun k hk => no hk, fun k hk => no hk, fun k hk => no hk, fun k hk => no hk, fun k hk => no hk, fun k hk => no hk, fun k hk => no hk, fun k hk => no hk, fun k p hk => no hk, fun k p hk => no hk, fun k hk => no hk, fun k hk => no hk, fun k hk => no hk, fun k m hk => no hk, fun k s hk => no hk⟩, ⟨Nat.zero_le _, fun k hk => ho0 hk, fun k hk => ho0 hk, fun k hk => ho0 hk⟩, ⟨0, ⟨?_, ?_, by omega, fun k hk => ho0 hk, fun k hk => ho0 hk, fun k hk => ho0 hk⟩⟩, ⟨0, ⟨?_, ?_, by omega, fun k hk => ho0 hk, fun k hk => ho0 hk⟩⟩, Nat.zero_le _, Nat.zero_le _, ⟨Nat.zero_le _, fun _ => by show 0 < 256; decide, ?_, fun i hi => absurd hi (Nat.not_lt_zero i), ?_, fun i hi => absurd hi (Nat.not_lt_zero i)⟩, ?_, ?_, fun j hj => ?_⟩
  · show (if l = 0 then 0 else 480) ≤ 1440
    split <;> omega
  · rw [hi]; rfl
  · rw [hi]; rfl
  · rw [ho]
    show (if 1 ≤ l ∧ l ≤ 8 then (480 : Int32) else 0) = nI 480
    rw [if_pos ⟨l1, l8⟩]; rfl
  · rw [ho]
    show (if 1 ≤ l ∧ l ≤ 8 then (480 : Int32) else 0) = nI (if l = 0 then 0 else 480)
    by_cases c : l = 0
    · rw [if_neg (by omega), if_pos c]; rfl
    · rw [if_pos (by omega), if_neg c]; rfl
  · rw [ho]; rfl
  · rw [ho]
    show (if p < n then (1023 : Int32) else 0) = nI 1023
    rw [if_pos (show p < n from hp)]; rfl
  · rw [hr]; rfl
  · rw [hr]; rfl
  · rw [hr]; exact s0 l d
  · rw [hr]; exact s0 l n
  · rw [hi]; exact congrArg nI z1.symm
  · rw [hi]; exact congrArg nI z1.symm
  · have hp : p < n := hp
    have ht : t < d := ht
    rw [h.a1 _ (by omega)]; rfl
  · have hp : p < n := hp
    rw [h.a2 _ (by omega)]; rfl
  · rw [(h.a3 l hl).1]; rfl
  · rw [(h.a3 l hl).2.1]
    show (480 : Int32) = nI (if l + 1 = 0 then 0 else 480)
    rw [if_neg (by omega)]; rfl
  · rw [ha 5 (by decide) (by decide) (by decide) (by decide) (by decide)]; rfl
  · have hp : p < n := hp
    rw [(h.a3 p (by omega)).2.2]; rfl
  · rw [ha 8 (by decide) (by decide) (by decide) (by decide) (by decide)]; rfl
  · rw [hi]; rfl
  · rw [h.nn]; exact ⟨rfl, Nat.zero_le _⟩
  · rw [h.ik 20 (by omega)]; rfl
  · rw [hi]; rfl
  · rw [hi]; rfl
  · rw [h.ik 32 (by omega)]; rfl
  · rw [h.ik 31 (by omega)]; rfl
  · rw [hi]; rfl
  · rw [h.ik 11 (by omega)]; rfl
  · rw [hi, h.ik 12 (by omega)]; rfl
  · rw [hi]; rfl
  · rw [h.nn]; exact Nat.zero_le _
