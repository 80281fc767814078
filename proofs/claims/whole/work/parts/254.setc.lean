/-! the class's setCell -/
theorem jRo_setCell {L : jL} (hL : jgood L) (hD : jdim L) {ω : xS} {S : jSt} {A : jR} (hA : jRg A) {sw ps wy : Nat} (hK : jLK S sw ps wy) (h : jRC L S A) {p t l : Nat} (hp : p < jn L) (ht : t < jd L) (hl : l ≤ 8) : f_Roster_setCell (jad L (jo 18)) (nI p) (nI t) (nI l) (jW L ω S) = some (jW L ω (jcell S p t (jR.row A p (7 + t)) l)) := by
  have h1 := hD.n8
  have h2 := hD.d21
  have hf := hA.row p (7 + t)
  unfold f_Roster_setCell
  simp (disch := first | omega | rfl | assumption | exact jokr (by decide) (by omega) | exact jokr4 (by omega) | exact jkt_r _ _ | exact jkt_l (by decide) | exact jfk_l (by decide) | exact jkt_t _ | exact jkt_r6 _ _ | exact jkt_t6 _ | (simp only [jok, jlen]; omega) | decide) only [jm_k hL, jm_gi hL, jm_gr hL, jm_gl hL, jm_pi hL, jm_pl hL, jn_ai hL, jn_ab hL, jn_az hL, jn_al hL, jn_ar hL, jn_an hL, jn_si hL, jn_sb hL, jn_sz hL, jn_sl hL, Option.bind_some, xc, xl, jsA_X, jsI_X, jsG_X, hK _ _, jlk, jmx, jlit, jlitl, jmul, nI_add, lN_add, nI_leI, nI_ltI, nI_eq, jm1, jm1g, jm1e, jm1c, jRo_letterOf hL hD hA hK h]
  by_cases c1 : l = 0
  · rw [if_pos c1]
    by_cases c2 : jR.row A p (7 + t) = 0
    · rw [if_pos c2]
      refine congrArg some (congrArg (jW L ω) ?_)
      exact jcell_seq S p t _ l _ (by rw [if_pos c1, if_pos c2]) rfl rfl rfl rfl rfl
    · rw [if_neg c2]
      refine congrArg some (congrArg (jW L ω) ?_)
      exact jcell_seq S p t _ l _ (by rw [if_pos c1, if_neg c2]) rfl rfl rfl rfl rfl
  · rw [if_neg c1]
    by_cases c2 : jR.row A p (7 + t) = 0
    · rw [if_pos c2]
      refine congrArg some (congrArg (jW L ω) ?_)
      exact jcell_seq S p t _ l _ (by rw [if_neg c1, if_pos c2]) rfl rfl rfl rfl rfl
    · rw [if_neg c2]
      refine congrArg some (congrArg (jW L ω) ?_)
      exact jcell_seq S p t _ l _ (by rw [if_neg c1, if_neg c2]) rfl rfl rfl rfl rfl
theorem jcnt {f g : Nat → Nat} {t k l a b : Nat} (ht : t < k) (hf : f t = a) (hg : g t = b) (ho : ∀ i, i < k → i ≠ t → g i = f i) : nI (jsm (fun i => jis (f i) l) k) - (if l = a then nI 1 else nI 0) + (if l = b then nI 1 else nI 0) = nI (jsm (fun i => jis (g i) l) k) := by
  have e := jsm_upd (f := fun i => jis (f i) l) (g := fun i => jis (g i) l) ht (fun i hi hne => by show jis (g i) l = jis (f i) l; rw [ho i hi hne])
  have e : jsm (fun i => jis (g i) l) k + jis (f t) l = jsm (fun i => jis (f i) l) k + jis (g t) l := e
  rw [hf, hg] at e
  have a1 : (if l = a then nI 1 else nI 0) = nI (jis a l) := by unfold jis; by_cases c : l = a <;> simp [c, eq_comm]
  have b1 : (if l = b then nI 1 else nI 0) = nI (jis b l) := by unfold jis; by_cases c : l = b <;> simp [c, eq_comm]
  rw [a1, b1]
  have e2 : nI (jsm (fun i => jis (g i) l) k) + nI (jis a l) = nI (jsm (fun i => jis (f i) l) k) + nI (jis b l) := by rw [nI_add, nI_add, e]
  generalize nI (jsm (fun i => jis (g i) l) k) = x at e2 ⊢
  generalize nI (jsm (fun i => jis (f i) l) k) = y at e2 ⊢
  generalize nI (jis a l) = u at e2 ⊢
  generalize nI (jis b l) = v at e2 ⊢
  grind
theorem jcntn {f g : Nat → Nat} {t k a b : Nat} (ht : t < k) (hf : f t = a) (hg : g t = b) (ho : ∀ i, i < k → i ≠ t → g i = f i) : jsm (fun i => jno (g i)) k + jno a = jsm (fun i => jno (f i)) k + jno b := by
  have e := jsm_upd (f := fun i => jno (f i)) (g := fun i => jno (g i)) ht (fun i hi hne => by show jno (g i) = jno (f i); rw [ho i hi hne])
  have e : jsm (fun i => jno (g i)) k + jno (f t) = jsm (fun i => jno (f i)) k + jno (g t) := e
  rw [hf, hg] at e
  exact e
theorem jRC.put {L : jL} {S : jSt} {A : jR} (h : jRC L S A) (hD : jdim L) {p t l : Nat} (hp : p < jn L) (ht : t < jd L) : jRC L (jcell S p t (jR.row A p (7 + t)) l) (jR.put A p t l) := by
  have nA : ∀ c k, c ≠ jr 0 p → c ≠ jr 3 p → c ≠ jr 4 t → jgA (jcell S p t (jR.row A p (7 + t)) l) c k = jgA S c k := fun c k a b d => by
    rw [jcell_A, if_neg (fun q => a q.1), if_neg (fun q => q.elim b d)]
  have nI' : ∀ c k, (c ≠ jo 18 ∨ k ≠ 11) → jgI (jcell S p t (jR.row A p (7 + t)) l) c k = jgI S c k := fun c k a => by
    rw [jcell_I, if_neg (fun q => a.elim (fun z => z q.1) (fun z => z q.2))]
  refine ⟨?_, ?_, ?_, ?_, ?_, ?_, ?_, ?_, ?_, ?_, ?_, ?_, ?_⟩
  · rw [nI' _ _ (Or.inr (by decide))]; exact h.n
  · rw [nI' _ _ (Or.inr (by decide))]; exact h.d
  · intro l hl h1; rw [nA _ _ (fun q => by cases q) (fun q => by cases q) (fun q => by cases q)]; exact h.bg l hl h1
  · intro l hl; rw [nA _ _ (fun q => by cases q) (fun q => by cases q) (fun q => by cases q)]; exact h.ln l hl
  · intro l hl h1; rw [nA _ _ (fun q => by cases q) (fun q => by cases q) (fun q => by cases q)]; exact h.nd l hl h1
  · intro q hq; rw [nA _ _ (fun q => by cases q) (fun q => by cases q) (fun q => by cases q)]; exact h.sk q hq
  · intro q j hq hj
    rw [jcell_A, jR.put_row]
    by_cases c : q = p ∧ j = 7 + t
    · rw [if_pos ⟨by rw [c.1], c.2⟩, if_pos c]
    · rw [if_neg (fun z => c ⟨by have := z.1; simp at this; exact this, z.2⟩), if_neg (fun z => z.elim (fun z => by cases z) (fun z => by cases z)), if_neg c]
      exact h.row q j hq hj
  · intro q u hq hu hx; rw [nA _ _ (fun q => by cases q) (fun q => by cases q) (fun q => by cases q)]; exact h.wl q u hq hu hx
  · intro q u hq hu; rw [nA _ _ (fun q => by cases q) (fun q => by cases q) (fun q => by cases q)]; exact h.ww q u hq hu
  · intro q l' hq hl'
    rw [jcell_A, if_neg (fun z => by have := z.1; cases this)]
    by_cases c : q = p
    · subst c
      rw [if_pos (Or.inl rfl), h.tf q l' hq hl']
      refine jcnt (f := fun u => jR.row A q (7 + u)) (g := fun u => jR.row (jR.put A q t l) q (7 + u)) ht rfl ?_ ?_
      · show jR.row (jR.put A q t l) q (7 + t) = l
        rw [jR.put_row, if_pos ⟨rfl, rfl⟩]
      · intro i hi hne
        show jR.row (jR.put A q t l) q (7 + i) = jR.row A q (7 + i)
        rw [jR.put_row, if_neg (fun z => hne (by omega))]
    · rw [if_neg (fun z => z.elim (fun z => c (by simp at z; exact z)) (fun z => by cases z)), h.tf q l' hq hl']
      congr 1
      refine jsm_ext fun u hu => ?_
      rw [jR.put_row, if_neg (fun z => c z.1)]
  · intro u l' hu hl'
    rw [jcell_A, if_neg (fun z => by have := z.1; cases this)]
    by_cases c : u = t
    · subst c
      rw [if_pos (Or.inr rfl), h.tn u l' hu hl']
      refine jcnt (f := fun q => jR.row A q (7 + u)) (g := fun q => jR.row (jR.put A p u l) q (7 + u)) hp rfl ?_ ?_
      · show jR.row (jR.put A p u l) p (7 + u) = l
        rw [jR.put_row, if_pos ⟨rfl, rfl⟩]
      · intro i hi hne
        show jR.row (jR.put A p u l) i (7 + u) = jR.row A i (7 + u)
        rw [jR.put_row, if_neg (fun z => hne z.1)]
    · rw [if_neg (fun z => z.elim (fun z => by cases z) (fun z => c (by simp at z; exact z))), h.tn u l' hu hl']
      congr 1
      refine jsm_ext fun q hq => ?_
      rw [jR.put_row, if_neg (fun z => c (by omega))]
  · rw [jcell_I, if_pos ⟨rfl, rfl⟩, h.fi]
    have e1 := jcntn (f := fun u => jR.row A p (7 + u)) (g := fun u => jR.row (jR.put A p t l) p (7 + u)) (t := t) (k := jd L) (a := jR.row A p (7 + t)) (b := l) ht rfl (by show jR.row (jR.put A p t l) p (7 + t) = l; rw [jR.put_row, if_pos ⟨rfl, rfl⟩]) (fun i hi hne => by show jR.row (jR.put A p t l) p (7 + i) = jR.row A p (7 + i); rw [jR.put_row, if_neg (fun z => hne (by omega))])
    have e2 := jsm_upd (f := fun q => jsm (fun u => jno (jR.row A q (7 + u))) (jd L)) (g := fun q => jsm (fun u => jno (jR.row (jR.put A p t l) q (7 + u))) (jd L)) (t := p) (k := jn L) hp (fun i hi hne => jsm_ext fun u hu => by rw [jR.put_row, if_neg (fun z => hne z.1)])
    have e2 : jsm (fun q => jsm (fun u => jno (jR.row (jR.put A p t l) q (7 + u))) (jd L)) (jn L) + jsm (fun u => jno (jR.row A p (7 + u))) (jd L) = jsm (fun q => jsm (fun u => jno (jR.row A q (7 + u))) (jd L)) (jn L) + jsm (fun u => jno (jR.row (jR.put A p t l) p (7 + u))) (jd L) := e2
    have a1 : ∀ a, (if a = 0 then nI 0 else nI 1) = nI (jno a) := fun a => by unfold jno; by_cases c : a = 0 <;> simp [c]
    rw [a1, a1]
    have e3 : nI (jsm (fun q => jsm (fun u => jno (jR.row (jR.put A p t l) q (7 + u))) (jd L)) (jn L)) + nI (jno (jR.row A p (7 + t))) = nI (jsm (fun q => jsm (fun u => jno (jR.row A q (7 + u))) (jd L)) (jn L)) + nI (jno l) := by
      rw [nI_add, nI_add]
      congr 1
      omega
    generalize nI (jsm (fun q => jsm (fun u => jno (jR.row (jR.put A p t l) q (7 + u))) (jd L)) (jn L)) = x at e3 ⊢
    generalize nI (jsm (fun q => jsm (fun u => jno (jR.row A q (7 + u))) (jd L)) (jn L)) = y at e3 ⊢
    generalize nI (jno l) = u at e3 ⊢
    generalize nI (jno (jR.row A p (7 + t))) = v at e3 ⊢
    grind
  · rw [nI' _ _ (Or.inr (by decide))]; exact h.wi
