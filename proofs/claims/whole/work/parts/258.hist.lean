/-! cells that stay -/
def jeqv (P : jC → Prop) (S S' : jSt) : Prop := ∀ c, P c → jgI S' c = jgI S c ∧ jgA S' c = jgA S c ∧ jgG S' c = jgG S c ∧ jgN S' c = jgN S c
theorem jeqv.refl (P : jC → Prop) (S : jSt) : jeqv P S S := fun _ _ => ⟨rfl, rfl, rfl, rfl⟩
theorem jeqv.trans {P : jC → Prop} {S S' S'' : jSt} (h : jeqv P S S') (h' : jeqv P S' S'') : jeqv P S S'' := fun c hc => ⟨(h' c hc).1.trans (h c hc).1, (h' c hc).2.1.trans (h c hc).2.1, (h' c hc).2.2.1.trans (h c hc).2.2.1, (h' c hc).2.2.2.trans (h c hc).2.2.2⟩
theorem jeqv.weak {P Q : jC → Prop} {S S' : jSt} (h : jeqv P S S') (hQ : ∀ c, Q c → P c) : jeqv Q S S' := fun c hc => h c (hQ c hc)
theorem jeqv.sA {P : jC → Prop} (S : jSt) {c : jC} (k : Nat) (v : Int32) (h : ¬ P c) : jeqv P S (jsA S c k v) := fun c' hc => ⟨rfl, jsA_fn (fun q => h (q ▸ hc)), rfl, rfl⟩
theorem jeqv.sI {P : jC → Prop} (S : jSt) {c : jC} (k : Nat) (v : Int32) (h : ¬ P c) : jeqv P S (jsI S c k v) := fun c' hc => ⟨funext fun k' => jsI_ne (Or.inl (fun q => h (q ▸ hc))), rfl, rfl, rfl⟩
theorem jPne {P : jC → Prop} {c c' : jC} (hc : P c') (h : ¬ P c) : c' ≠ c := fun q => h (q ▸ hc)
theorem jeqv.sG {P : jC → Prop} (S : jSt) {c : jC} (k : Nat) (v : Int64) (h : ¬ P c) : jeqv P S (jsG S c k v) := fun c' hc => ⟨rfl, rfl, funext fun k' => by
  have hne := jPne hc h
  rw [jsG_G, if_neg (fun (q : c' = c ∧ k' = k) => hne q.1)], rfl⟩
theorem jeqv.cell {P : jC → Prop} (S : jSt) (p t f l : Nat) (h1 : ¬ P (jo 18)) (h2 : ¬ P (jr 0 p)) (h3 : ¬ P (jr 3 p)) (h4 : ¬ P (jr 4 t)) : jeqv P S (jcell S p t f l) := fun c hc => by
  have n1 := jPne hc h1
  have n2 := jPne hc h2
  have n3 := jPne hc h3
  have n4 := jPne hc h4
  refine ⟨funext fun k => ?_, funext fun k => ?_, rfl, rfl⟩
  · rw [jcell_I, if_neg (fun (q : c = jo 18 ∧ k = 11) => n1 q.1)]
  · rw [jcell_A, if_neg (fun (q : c = jr 0 p ∧ k = 7 + t) => n2 q.1), if_neg (fun (q : c = jr 3 p ∨ c = jr 4 t) => q.elim n3 n4)]
/-- the cells of the reference -/
def jisM : jC → Prop := fun c => ∃ q, c = jm q
/-- the class's roster, history, laws -/
def jisR : jC → Prop := fun c => (∃ q, 18 ≤ q ∧ q ≤ 22 ∧ c = jo q) ∨ ∃ t p, c = jr t p
def jisH : jC → Prop := fun c => ∃ q, 3 ≤ q ∧ q ≤ 6 ∧ c = jo q
def jisL : jC → Prop := fun c => c = jo 0 ∨ (∃ j q, c = jl j q) ∨ ∃ j, c = jt j
theorem jRM.same {L : jL} {S S' : jSt} {A : jR} (h : jRM L S A) (e : jeqv jisM S S') : jRM L S' A := by
  have e0 := (e (jm 0) ⟨0, rfl⟩).1
  have ea := fun q => (e (jm q) ⟨q, rfl⟩).2.1
  unfold jRM at h ⊢
  simp only [e0, ea]
  exact h
theorem jRC.same {L : jL} {S S' : jSt} {A : jR} (h : jRC L S A) (e : jeqv jisR S S') : jRC L S' A := by
  have e0 := (e (jo 18) (Or.inl ⟨18, by omega, by omega, rfl⟩)).1
  have e9 := (e (jo 19) (Or.inl ⟨19, by omega, by omega, rfl⟩)).2.1
  have e20 := (e (jo 20) (Or.inl ⟨20, by omega, by omega, rfl⟩)).2.1
  have e21 := (e (jo 21) (Or.inl ⟨21, by omega, by omega, rfl⟩)).2.1
  have e22 := (e (jo 22) (Or.inl ⟨22, by omega, by omega, rfl⟩)).2.1
  have er := fun t p => (e (jr t p) (Or.inr ⟨t, p, rfl⟩)).2.1
  unfold jRC at h ⊢
  simp only [e0, e9, e20, e21, e22, er]
  exact h
theorem jLM.eqv {S S' : jSt} {w : jLw} (h : jLM S w) (e : jeqv jisM S S') : jLM S' w := h.same (by rw [(e (jm 0) ⟨0, rfl⟩).1]) (fun q _ _ => (e (jm q) ⟨q, rfl⟩).2.1)
theorem jLC.eqv {L : jL} {S S' : jSt} {w : jLw} {sw : Nat} (h : jLC L S w sw) (e : jeqv jisL S S') : jLC L S' w sw := h.same (by rw [(e (jo 0) (Or.inl rfl)).1]) (fun j q => (e (jl j q) (Or.inr (Or.inl ⟨j, q, rfl⟩))).1) (fun j q => (e (jl j q) (Or.inr (Or.inl ⟨j, q, rfl⟩))).2.1) (fun j => (e (jt j) (Or.inr (Or.inr ⟨j, rfl⟩))).2.1) (fun j => (e (jt j) (Or.inr (Or.inr ⟨j, rfl⟩))).2.2.2)
/-! THE HISTORY: how many are kept; the i-th newest: person, day, letter -/
def jHg (L : jL) (cn : Nat) (e : Nat → Nat × Nat × Nat) : Prop := (cn ≤ 200) ∧ (∀ i, i < cn → (e i).1 < jn L) ∧ (∀ i, i < cn → (e i).2.1 < jd L) ∧ (∀ i, i < cn → (e i).2.2 ≤ 8)
theorem jHg.c {L : jL} {cn : Nat} {e : Nat → Nat × Nat × Nat} (h : jHg L cn e) : cn ≤ 200 := h.1
theorem jHg.p {L : jL} {cn : Nat} {e : Nat → Nat × Nat × Nat} (h : jHg L cn e) : ∀ i, i < cn → (e i).1 < jn L := h.2.1
theorem jHg.t {L : jL} {cn : Nat} {e : Nat → Nat × Nat × Nat} (h : jHg L cn e) : ∀ i, i < cn → (e i).2.1 < jd L := h.2.2.1
theorem jHg.l {L : jL} {cn : Nat} {e : Nat → Nat × Nat × Nat} (h : jHg L cn e) : ∀ i, i < cn → (e i).2.2 ≤ 8 := h.2.2.2
def jHC (S : jSt) (cn nw : Nat) (e : Nat → Nat × Nat × Nat) : Prop := (jgI S (jo 3) 4 = nI cn) ∧ (jgI S (jo 3) 3 = nI nw) ∧ (nw < 200) ∧ (∀ i, i < cn → jgA S (jo 4) ((nw + 200 - i) % 200) = nI (e i).1) ∧ (∀ i, i < cn → jgA S (jo 5) ((nw + 200 - i) % 200) = nI (e i).2.1) ∧ (∀ i, i < cn → jgA S (jo 6) ((nw + 200 - i) % 200) = nI (e i).2.2)
theorem jHC.k {S : jSt} {cn nw : Nat} {e : Nat → Nat × Nat × Nat} (h : jHC S cn nw e) : jgI S (jo 3) 4 = nI cn := h.1
theorem jHC.n {S : jSt} {cn nw : Nat} {e : Nat → Nat × Nat × Nat} (h : jHC S cn nw e) : jgI S (jo 3) 3 = nI nw := h.2.1
theorem jHC.n2 {S : jSt} {cn nw : Nat} {e : Nat → Nat × Nat × Nat} (h : jHC S cn nw e) : nw < 200 := h.2.2.1
theorem jHC.p {S : jSt} {cn nw : Nat} {e : Nat → Nat × Nat × Nat} (h : jHC S cn nw e) : ∀ i, i < cn → jgA S (jo 4) ((nw + 200 - i) % 200) = nI (e i).1 := h.2.2.2.1
theorem jHC.t {S : jSt} {cn nw : Nat} {e : Nat → Nat × Nat × Nat} (h : jHC S cn nw e) : ∀ i, i < cn → jgA S (jo 5) ((nw + 200 - i) % 200) = nI (e i).2.1 := h.2.2.2.2.1
theorem jHC.l {S : jSt} {cn nw : Nat} {e : Nat → Nat × Nat × Nat} (h : jHC S cn nw e) : ∀ i, i < cn → jgA S (jo 6) ((nw + 200 - i) % 200) = nI (e i).2.2 := h.2.2.2.2.2
def jHM (S : jSt) (cn fr : Nat) (e : Nat → Nat × Nat × Nat) : Prop := (jgI S (jm 0) 32 = nI cn) ∧ (jgI S (jm 0) 31 = nI fr) ∧ (fr < 200) ∧ (∀ i, i < cn → jgA S (jm 25) ((fr + cn - 1 - i) % 200) = nI (21 * (e i).1 + (e i).2.1)) ∧ (∀ i, i < cn → jgA S (jm 26) ((fr + cn - 1 - i) % 200) = nI (e i).2.2 - nI 1)
theorem jHM.k {S : jSt} {cn fr : Nat} {e : Nat → Nat × Nat × Nat} (h : jHM S cn fr e) : jgI S (jm 0) 32 = nI cn := h.1
theorem jHM.f {S : jSt} {cn fr : Nat} {e : Nat → Nat × Nat × Nat} (h : jHM S cn fr e) : jgI S (jm 0) 31 = nI fr := h.2.1
theorem jHM.f2 {S : jSt} {cn fr : Nat} {e : Nat → Nat × Nat × Nat} (h : jHM S cn fr e) : fr < 200 := h.2.2.1
theorem jHM.c {S : jSt} {cn fr : Nat} {e : Nat → Nat × Nat × Nat} (h : jHM S cn fr e) : ∀ i, i < cn → jgA S (jm 25) ((fr + cn - 1 - i) % 200) = nI (21 * (e i).1 + (e i).2.1) := h.2.2.2.1
theorem jHM.l {S : jSt} {cn fr : Nat} {e : Nat → Nat × Nat × Nat} (h : jHM S cn fr e) : ∀ i, i < cn → jgA S (jm 26) ((fr + cn - 1 - i) % 200) = nI (e i).2.2 - nI 1 := h.2.2.2.2
theorem jHC.same {S S' : jSt} {cn nw : Nat} {e : Nat → Nat × Nat × Nat} (h : jHC S cn nw e) (q : jeqv jisH S S') : jHC S' cn nw e := by
  have e3 := (q (jo 3) ⟨3, by omega, by omega, rfl⟩).1
  have e4 := (q (jo 4) ⟨4, by omega, by omega, rfl⟩).2.1
  have e5 := (q (jo 5) ⟨5, by omega, by omega, rfl⟩).2.1
  have e6 := (q (jo 6) ⟨6, by omega, by omega, rfl⟩).2.1
  unfold jHC at h ⊢
  rw [e3, e4, e5, e6]
  exact h
theorem jHM.same {S S' : jSt} {cn fr : Nat} {e : Nat → Nat × Nat × Nat} (h : jHM S cn fr e) (q : jeqv jisM S S') : jHM S' cn fr e := by
  have e0 := (q (jm 0) ⟨0, rfl⟩).1
  have e1 := (q (jm 25) ⟨25, rfl⟩).2.1
  have e2 := (q (jm 26) ⟨26, rfl⟩).2.1
  unfold jHM at h ⊢
  rw [e0, e1, e2]
  exact h
/-- one more -/
def jadd (x : Nat × Nat × Nat) (e : Nat → Nat × Nat × Nat) : Nat → Nat × Nat × Nat
  | 0 => x
  | i + 1 => e i
theorem jHi_add {L : jL} (hL : jgood L) (hD : jdim L) {ω : xS} {S : jSt} {A : jR} (hA : jRg A) {sw ps wy : Nat} (hK : jLK S sw ps wy) {cn nw : Nat} {e : Nat → Nat × Nat × Nat} (h : jHC S cn nw e) (hc : cn ≤ 200) {p t l : Nat} : ∃ S', f_History_keep (jad L (jo 3)) (nI p) (nI t) (nI l) (jW L ω S) = some (jW L ω S') ∧ jHC S' (min 200 (cn + 1)) ((nw + 1) % 200) (jadd (p, t, l) e) ∧ jeqv (fun c => ¬ jisH c) S S' ∧ jgX S' = jgX S := by
  have hn := h.n2
  have hm : (nw + 1) % 200 < 200 := Nat.mod_lt _ (by decide)
  unfold f_History_keep
  simp (disch := first | omega | rfl | assumption | exact jokr (by decide) (by omega) | exact jokr4 (by omega) | exact jkt_r _ _ | exact jkt_l (by decide) | exact jfk_l (by decide) | exact jkt_t _ | exact jkt_r6 _ _ | exact jkt_t6 _ | (simp only [jok, jlen]; omega) | decide) only [jm_k hL, jm_gi hL, jm_gr hL, jm_gl hL, jm_pi hL, jm_pl hL, jn_ai hL, jn_ab hL, jn_az hL, jn_al hL, jn_ar hL, jn_an hL, jn_si hL, jn_sb hL, jn_sz hL, jn_sl hL, Option.bind_some, xc, xl, jsA_X, jsI_X, jsG_X, hK _ _, jlk, jmx, jlit, nI_add, h.n, jrem, jsI_I, jsA_I, jsI_A, and_self, if_true, h.k]
  refine ⟨_, rfl, ?_, ?_, rfl⟩
  · refine ⟨?_, ?_, hm, ?_, ?_, ?_⟩
    · rw [jsI_I, if_pos ⟨rfl, rfl⟩, if_neg (by decide), nI_add, jmin (by omega) (by omega)]
    · rw [jsI_ne (Or.inr (by decide)), jsA_I, jsA_I, jsA_I, jsI_I, if_pos ⟨rfl, rfl⟩]
    · intro i hi
      rw [jsI_A, jsA_ne (by decide), jsA_ne (by decide), jsA_A]
      rcases i with _ | i
      · rw [if_pos ⟨rfl, by omega⟩]; rfl
      · rw [if_neg (fun q => by omega), jsI_A, show ((nw + 1) % 200 + 200 - (i + 1)) % 200 = (nw + 200 - i) % 200 by omega]
        exact h.p i (by omega)
    · intro i hi
      rw [jsI_A, jsA_ne (by decide), jsA_A]
      rcases i with _ | i
      · rw [if_pos ⟨rfl, by omega⟩]; rfl
      · rw [if_neg (fun q => by omega), jsA_ne (by decide), jsI_A, show ((nw + 1) % 200 + 200 - (i + 1)) % 200 = (nw + 200 - i) % 200 by omega]
        exact h.t i (by omega)
    · intro i hi
      rw [jsI_A, jsA_A]
      rcases i with _ | i
      · rw [if_pos ⟨rfl, by omega⟩]; rfl
      · rw [if_neg (fun q => by omega), jsA_ne (by decide), jsA_ne (by decide), jsI_A, show ((nw + 1) % 200 + 200 - (i + 1)) % 200 = (nw + 200 - i) % 200 by omega]
        exact h.l i (by omega)
  · have n3 : ¬ (fun c => ¬ jisH c) (jo 3) := fun q => q ⟨3, by omega, by omega, rfl⟩
    have n4 : ¬ (fun c => ¬ jisH c) (jo 4) := fun q => q ⟨4, by omega, by omega, rfl⟩
    have n5 : ¬ (fun c => ¬ jisH c) (jo 5) := fun q => q ⟨5, by omega, by omega, rfl⟩
    have n6 : ¬ (fun c => ¬ jisH c) (jo 6) := fun q => q ⟨6, by omega, by omega, rfl⟩
    exact ((((jeqv.sI _ _ _ n3).trans (jeqv.sA _ _ _ n4)).trans (jeqv.sA _ _ _ n5)).trans (jeqv.sA _ _ _ n6)).trans (jeqv.sI _ _ _ n3)
