/-! what a change of one cell changes -/
theorem jsm_split (f : Nat → Nat) (a : Nat) : ∀ b, jsm f (a + b) = jsm f a + jsm (fun i => f (a + i)) b
  | 0 => rfl
  | b + 1 => by
    rw [← Nat.add_assoc, jsm, jsm_split f a b, jsm, Nat.add_assoc]
theorem jsm_part {f g : Nat → Nat} {a m N : Nat} (h : a + m ≤ N) (ho : ∀ i, i < N → (i < a ∨ a + m ≤ i) → g i = f i) : jsm g N + jsm (fun i => f (a + i)) m = jsm f N + jsm (fun i => g (a + i)) m := by
  have e1 := jsm_split f (a + m) (N - (a + m))
  have e2 := jsm_split g (a + m) (N - (a + m))
  rw [show a + m + (N - (a + m)) = N by omega] at e1 e2
  have e3 := jsm_split f a m
  have e4 := jsm_split g a m
  have e5 : jsm g a = jsm f a := jsm_ext fun i hi => ho i (by omega) (Or.inl hi)
  have e6 : jsm (fun i => g (a + m + i)) (N - (a + m)) = jsm (fun i => f (a + m + i)) (N - (a + m)) := jsm_ext fun i hi => ho _ (by omega) (Or.inr (by omega))
  omega
theorem jput_row_ne {A : jR} {p t l q u : Nat} (h : q ≠ p ∨ u ≠ t) : jR.row (jR.put A p t l) q (7 + u) = jR.row A q (7 + u) := by
  rw [jR.put_row, if_neg (fun z => h.elim (fun y => y z.1) (fun y => y (by omega)))]
theorem jmn_put {A : jR} {p t l u : Nat} (h : u ≠ t) : jmn (jR.put A p t l) p u = jmn A p u := by
  unfold jmn
  rw [jput_row_ne (Or.inr h)]
  rfl
theorem jun_put {A : jR} {p t l u : Nat} (h : u ≠ t) : jun (jR.put A p t l) p u = jun A p u := by
  unfold jun
  rw [jput_row_ne (Or.inr h)]
  rfl
theorem jwin_put {A : jR} {p t l sp b : Nat} (h : t < b ∨ b + sp ≤ t) : jwin (jR.put A p t l) p sp b = jwin A p sp b := by
  unfold jwin
  exact jsm_ext fun i hi => jmn_put (by omega)
theorem jdlk {L : jL} {w : jLw} (hw : jLg L w) {A : jR} {k p t l : Nat} (hk : k < jLw.n w) (ht : t < jd L) : jnk w k (jR.put A p t l) L p t + jak w k A L p t = jnk w k A L p t + jak w k (jR.put A p t l) L p t := by
  unfold jak
  by_cases c0 : jLw.so w k = 0
  · rw [if_pos c0, if_pos c0]
    unfold jnk jpc
    rw [if_neg (show ¬ jLw.so w k = 5 by omega), if_neg (show ¬ jLw.so w k = 6 by omega), if_pos c0, if_neg (show ¬ jLw.so w k = 5 by omega), if_neg (show ¬ jLw.so w k = 6 by omega), if_pos c0]
    exact jsm_upd (f := jun A p) (g := jun (jR.put A p t l) p) ht (fun i _ hne => jun_put hne)
  · rw [if_neg c0, if_neg c0]
    by_cases c2 : jLw.so w k = 2
    · rw [if_pos c2, if_pos c2]
      have hsp := hw.sp k hk c2
      unfold jnk jpc
      rw [if_neg (show ¬ jLw.so w k = 5 by omega), if_neg (show ¬ jLw.so w k = 6 by omega), if_neg c0, if_neg (show ¬ jLw.so w k = 1 by omega), if_pos c2, if_neg (show ¬ jLw.so w k = 5 by omega), if_neg (show ¬ jLw.so w k = 6 by omega), if_neg c0, if_neg (show ¬ jLw.so w k = 1 by omega), if_pos c2]
      unfold jhrs
      have e := jsm_part (f := fun i => jout (jLw.lo w k) (jLw.hi w k) (jwin A p (jLw.sp w k) (0 + i))) (g := fun i => jout (jLw.lo w k) (jLw.hi w k) (jwin (jR.put A p t l) p (jLw.sp w k) (0 + i))) (a := t + 1 - jLw.sp w k) (m := min t (jd L - jLw.sp w k) + 1 - (t + 1 - jLw.sp w k)) (N := jd L + 1 - jLw.sp w k) (by omega) (fun i hi ho => by
        show jout _ _ _ = jout _ _ _
        rw [jwin_put (by omega)])
      simp only [Nat.zero_add] at e ⊢
      exact e
    · rw [if_neg c2, if_neg c2, Nat.add_comm]
theorem jdn {L : jL} {w : jLw} (hw : jLg L w) {A : jR} {p t l : Nat} (ht : t < jd L) : jnr w (jR.put A p t l) L p t + jar w A L p t = jnr w A L p t + jar w (jR.put A p t l) L p t := by
  have key : ∀ n, n ≤ jLw.n w → jsm (fun k => jLw.wt w k * jnk w k (jR.put A p t l) L p t) n + jsm (fun k => jLw.wt w k * jak w k A L p t) n = jsm (fun k => jLw.wt w k * jnk w k A L p t) n + jsm (fun k => jLw.wt w k * jak w k (jR.put A p t l) L p t) n := by
    intro n
    induction n with
    | zero => intro _; rfl
    | succ n ih =>
      intro hn
      have e := jdlk hw (A := A) (k := n) (p := p) (t := t) (l := l) (by omega) ht
      have e2 := congrArg (fun x => jLw.wt w n * x) e
      simp only [Nat.mul_add] at e2
      have := ih (by omega)
      simp only [jsm]
      omega
  have := key (jLw.n w) (Nat.le_refl _)
  unfold jnr jar
  omega
/-- laws stay laws -/
theorem jLM.same {S S' : jSt} {w : jLw} (h : jLM S w) (h0 : jgI S' (jm 0) 20 = jgI S (jm 0) 20) (hA : ∀ q, 10 ≤ q → q ≤ 24 → jgA S' (jm q) = jgA S (jm q)) : jLM S' w := by
  unfold jLM at h ⊢
  rw [h0, hA 10 (by omega) (by omega), hA 11 (by omega) (by omega), hA 12 (by omega) (by omega), hA 13 (by omega) (by omega), hA 14 (by omega) (by omega), hA 15 (by omega) (by omega), hA 16 (by omega) (by omega), hA 17 (by omega) (by omega), hA 18 (by omega) (by omega), hA 19 (by omega) (by omega), hA 20 (by omega) (by omega), hA 21 (by omega) (by omega), hA 22 (by omega) (by omega), hA 23 (by omega) (by omega), hA 24 (by omega) (by omega)]
  exact h
theorem jLC.same {L : jL} {S S' : jSt} {w : jLw} {sw : Nat} (h : jLC L S w sw) (h0 : jgI S' (jo 0) 8 = jgI S (jo 0) 8) (hI : ∀ j q, jgI S' (jl j q) = jgI S (jl j q)) (hA : ∀ j q, jgA S' (jl j q) = jgA S (jl j q)) (hT : ∀ j, jgA S' (jt j) = jgA S (jt j)) (hN : ∀ j, jgN S' (jt j) = jgN S (jt j)) : jLC L S' w sw := by
  unfold jLC at h ⊢
  simp only [h0, hI, hA, hT, hN]
  exact h
theorem jsA_fn {S : jSt} {c c' : jC} {k : Nat} {v : Int32} (h : c' ≠ c) : jgA (jsA S c k v) c' = jgA S c' := funext fun k' => jsA_ne h
theorem jLC.cell {L : jL} {S : jSt} {w : jLw} {sw p t f l : Nat} (h : jLC L S w sw) : jLC L (jcell S p t f l) w sw := by
  refine h.same ?_ (fun j q => ?_) (fun j q => ?_) (fun j => ?_) (fun j => rfl)
  · rw [jcell_I, if_neg (fun z => by have := z.1; cases this)]
  · funext k; rw [jcell_I, if_neg (fun z => by have := z.1; cases this)]
  · funext k; rw [jcell_A, if_neg (fun z => by have := z.1; cases this), if_neg (fun z => z.elim (fun y => by cases y) (fun y => by cases y))]
  · funext k; rw [jcell_A, if_neg (fun z => by have := z.1; cases this), if_neg (fun z => z.elim (fun y => by cases y) (fun y => by cases y))]
theorem jmne {q r : Nat} (h : q ≠ r) : jm q ≠ jm r := fun z => h (by simpa using z)
theorem jLM.put {S : jSt} {w : jLw} (h : jLM S w) (k : Nat) (v : Int32) : jLM (jsA S (jm 1) k v) w := h.same rfl (fun q h1 h2 => jsA_fn (jmne (by omega)))
theorem jMo_changed {L : jL} (hL : jgood L) (hD : jdim L) {ω : xS} {S : jSt} {A : jR} (hA : jRg A) {sw ps wy : Nat} (hK : jLK S sw ps wy) {w : jLw} (hw : jLg L w) (h : jRM L S A) (hM : jLM S w) {p t l : Nat} (hp : p < jn L) (ht : t < jd L) (hl : l ≤ 8) : f_Mo_changed (jad L (jm 0)) (nI p) (nI t) (nI l - nI 1) (jW L ω S) = some (lN (jnr w (jR.put A p t l) L p t) - lN (jnr w A L p t), jW L ω S) := by
  have h1 := hD.n8
  have h2 := hD.d21
  have e1 := jMo_near hL hD hA hK (ω := ω) hw h hM hp ht
  have e2 := jMo_near hL hD (jR.put_good hA hl) (hK.sA (jm 1) (21 * p + t) (nI l - nI 1)) (ω := ω) hw (h.put hD hp ht) (hM.put (21 * p + t) (nI l - nI 1)) hp ht
  have e3 := jsA_back S (jm 1) (21 * p + t) (nI l - nI 1)
  unfold f_Mo_changed
  simp (disch := first | omega | rfl | assumption | exact jokr (by decide) (by omega) | exact jokr4 (by omega) | exact jkt_r _ _ | exact jkt_l (by decide) | exact jfk_l (by decide) | exact jkt_t _ | exact jkt_r6 _ _ | exact jkt_t6 _ | (simp only [jok, jlen]; omega) | decide) only [jm_k hL, jm_gi hL, jm_gr hL, jm_gl hL, jm_pi hL, jm_pl hL, jn_ai hL, jn_ab hL, jn_az hL, jn_al hL, jn_ar hL, jn_an hL, jn_si hL, jn_sb hL, jn_sz hL, jn_sl hL, Option.bind_some, xc, xl, jsA_X, jsI_X, jsG_X, hK _ _, jlk, jmx, jlit, jlitl, jmul, nI_add, lN_add, nI_leI, nI_ltI, nI_eq, jm1, jm1g, jm1e, jm1c, e1, e2, e3]
theorem jRR_diff {L : jL} (hL : jgood L) (hD : jdim L) {ω : xS} {S : jSt} {A : jR} (hA : jRg A) {sw ps wy : Nat} (hK : jLK S sw ps wy) {w : jLw} (hw : jLg L w) (h : jRC L S A) (hC : jLC L S w sw) {p t l : Nat} (hp : p < jn L) (ht : t < jd L) (hl : l ≤ 8) : f_RR_differenceBy (jad L (jo 0)) (nI p) (nI t) (nI l) (jW L ω S) = some (lN (jar w (jR.put A p t l) L p t) - lN (jar w A L p t), jW L ω S) := by
  have h1 := hD.n8
  have h2 := hD.d21
  have hA' := jR.put_good hA (p := p) (t := t) hl
  have hK' : jLK (jcell S p t (jR.row A p (7 + t)) l) sw ps wy := hK
  have e1 := jRR_around hL hD hA hK (ω := ω) hw h hC hp ht
  have e2 := jRR_around hL hD hA' hK' (ω := ω) hw (h.put hD hp ht) hC.cell hp ht
  have e3 := jRo_setCell hL hD hA' hK' (ω := ω) (h.put hD hp ht) hp ht (l := jR.row A p (7 + t)) (hA.row p (7 + t))
  have e4 : jR.row (jR.put A p t l) p (7 + t) = l := by rw [jR.put_row, if_pos ⟨rfl, rfl⟩]
  rw [e4, jcell_back S (h.row p (7 + t) hp (by omega))] at e3
  have e5 : jgX (jcell S p t (jR.row A p (7 + t)) l) = jgX S := rfl
  unfold f_RR_differenceBy
  simp (disch := first | omega | rfl | assumption | exact jokr (by decide) (by omega) | exact jokr4 (by omega) | exact jkt_r _ _ | exact jkt_l (by decide) | exact jfk_l (by decide) | exact jkt_t _ | exact jkt_r6 _ _ | exact jkt_t6 _ | (simp only [jok, jlen]; omega) | decide) only [jm_k hL, jm_gi hL, jm_gr hL, jm_gl hL, jm_pi hL, jm_pl hL, jn_ai hL, jn_ab hL, jn_az hL, jn_al hL, jn_ar hL, jn_an hL, jn_si hL, jn_sb hL, jn_sz hL, jn_sl hL, Option.bind_some, xc, xl, jsA_X, jsI_X, jsG_X, hK _ _, jlk, jmx, jlit, jlitl, jmul, nI_add, lN_add, nI_leI, nI_ltI, nI_eq, jm1, jm1g, jm1e, jm1c, jRo_letterOf hL hD hA hK h hp ht, e1, jRo_setCell hL hD hA hK h hp ht hl, e2, e3, e5]
