/-! THE SHORTEST WORD: the reference's distances -/
/-- nothing changes but the elements of some arrays -/
def jfr (Q : jC → Prop) (S T : jSt) : Prop := jgI T = jgI S ∧ jgN T = jgN S ∧ jgX T = jgX S ∧ ∀ c, ¬ Q c → jgA T c = jgA S c
theorem jfr.refl (Q : jC → Prop) (S : jSt) : jfr Q S S := ⟨rfl, rfl, rfl, fun _ _ => rfl⟩
theorem jfr.trans {Q : jC → Prop} {S T U : jSt} (h : jfr Q S T) (h' : jfr Q T U) : jfr Q S U := ⟨h'.1.trans h.1, h'.2.1.trans h.2.1, h'.2.2.1.trans h.2.2.1, fun c hc => (h'.2.2.2 c hc).trans (h.2.2.2 c hc)⟩
theorem jfr.sA {Q : jC → Prop} (S : jSt) {c : jC} (k : Nat) (v : Int32) (h : Q c) : jfr Q S (jsA S c k v) := ⟨rfl, rfl, rfl, fun c' hc => jsA_fn (fun z => hc (z ▸ h))⟩
theorem jfr.weak {Q R : jC → Prop} {S T : jSt} (h : jfr Q S T) (hr : ∀ c, Q c → R c) : jfr R S T := ⟨h.1, h.2.1, h.2.2.1, fun c hc => h.2.2.2 c (fun z => hc (hr c z))⟩
theorem jLM.fr {Q : jC → Prop} {S T : jSt} {w : jLw} (h : jLM S w) (e : jfr Q S T) (hq : ∀ q, 10 ≤ q → q ≤ 24 → ¬ Q (jm q)) : jLM T w := h.same (by rw [e.1]) (fun q a b => e.2.2.2 _ (hq q a b))
theorem jsA_c {S : jSt} {c : jC} {k k' : Nat} {v : Int32} : jgA (jsA S c k v) c k' = if k' = k then v else jgA S c k' := by
  rw [jsA_A]
  by_cases h : k' = k
  · rw [if_pos ⟨rfl, h⟩, if_pos h]
  · rw [if_neg (fun q => h q.2), if_neg h]
def jupn (D : Nat → Nat) (s v : Nat) : Nat → Nat := fun t => if t = s then v else D t
/-- the distances, within a pass that has begun with D0 and has done pairs below m -/
def jWP (ns : Nat) (nx fe D0 : Nat → Nat) (m : Nat) (D : Nat → Nat) (b : Nat) : Prop := (∀ t, t < ns → D t ≤ 100000) ∧ (∀ t, t < ns → D t ≤ D0 t) ∧ (∀ t, t < ns → D t < 100000 → fe t = 1 ∨ ∃ l, l < 9 ∧ D (nx (9 * t + l)) + 1 ≤ D t) ∧ (∀ t l, t < ns → l < 9 → 9 * t + l < m → D t ≤ D0 (nx (9 * t + l)) + 1) ∧ (b ≤ 1) ∧ (b = 0 → ∀ t, t < ns → D t = D0 t) ∧ (b = 1 → ∃ t, t < ns ∧ D t < D0 t)
theorem jWP.u {ns : Nat} {nx fe D0 : Nat → Nat} {m : Nat} {D : Nat → Nat} {b : Nat} (h : jWP ns nx fe D0 m D b) : ∀ t, t < ns → D t ≤ 100000 := h.1
theorem jWP.le {ns : Nat} {nx fe D0 : Nat → Nat} {m : Nat} {D : Nat → Nat} {b : Nat} (h : jWP ns nx fe D0 m D b) : ∀ t, t < ns → D t ≤ D0 t := h.2.1
theorem jWP.so {ns : Nat} {nx fe D0 : Nat → Nat} {m : Nat} {D : Nat → Nat} {b : Nat} (h : jWP ns nx fe D0 m D b) : ∀ t, t < ns → D t < 100000 → fe t = 1 ∨ ∃ l, l < 9 ∧ D (nx (9 * t + l)) + 1 ≤ D t := h.2.2.1
theorem jWP.dn {ns : Nat} {nx fe D0 : Nat → Nat} {m : Nat} {D : Nat → Nat} {b : Nat} (h : jWP ns nx fe D0 m D b) : ∀ t l, t < ns → l < 9 → 9 * t + l < m → D t ≤ D0 (nx (9 * t + l)) + 1 := h.2.2.2.1
theorem jWP.b1 {ns : Nat} {nx fe D0 : Nat → Nat} {m : Nat} {D : Nat → Nat} {b : Nat} (h : jWP ns nx fe D0 m D b) : b ≤ 1 := h.2.2.2.2.1
theorem jWP.bz {ns : Nat} {nx fe D0 : Nat → Nat} {m : Nat} {D : Nat → Nat} {b : Nat} (h : jWP ns nx fe D0 m D b) : b = 0 → ∀ t, t < ns → D t = D0 t := h.2.2.2.2.2.1
theorem jWP.bo {ns : Nat} {nx fe D0 : Nat → Nat} {m : Nat} {D : Nat → Nat} {b : Nat} (h : jWP ns nx fe D0 m D b) : b = 1 → ∃ t, t < ns ∧ D t < D0 t := h.2.2.2.2.2.2
theorem jWP.on {ns : Nat} {nx fe D0 : Nat → Nat} {s l : Nat} {D : Nat → Nat} {b : Nat} (hnx : ∀ m, m < 9 * ns → nx m < ns) (hs : s < ns) (hl : l < 9) (h : jWP ns nx fe D0 (9 * s + l) D b) : (D s ≤ D (nx (9 * s + l)) + 1 → jWP ns nx fe D0 (9 * s + l + 1) D b) ∧ (D (nx (9 * s + l)) + 1 < D s → jWP ns nx fe D0 (9 * s + l + 1) (jupn D s (D (nx (9 * s + l)) + 1)) 1) := by
  have hx := hnx (9 * s + l) (by omega)
  refine ⟨fun hc => ⟨h.u, h.le, h.so, fun t l' ht hl' hm => ?_, h.b1, h.bz, h.bo⟩, fun hc => ?_⟩
  · rcases Nat.lt_or_ge (9 * t + l') (9 * s + l) with r | r
    · exact h.dn t l' ht hl' r
    · have e1 : t = s := by omega
      have e2 : l' = l := by omega
      subst e1; subst e2
      have := h.le _ hx
      omega
  · have hle : ∀ t, jupn D s (D (nx (9 * s + l)) + 1) t ≤ D t := fun t => by
      unfold jupn
      split
      · rename_i e; rw [e]; omega
      · exact Nat.le_refl _
    refine ⟨fun t ht => Nat.le_trans (hle t) (h.u t ht), fun t ht => Nat.le_trans (hle t) (h.le t ht), fun t ht hb => ?_, fun t l' ht hl' hm => ?_, Nat.le_refl _, fun z => by omega, fun _ => ⟨s, hs, ?_⟩⟩
    · by_cases c : t = s
      · right
        refine ⟨l, hl, ?_⟩
        rw [c]
        have hne : nx (9 * s + l) ≠ s := fun z => by rw [z] at hc; omega
        unfold jupn
        rw [if_neg hne, if_pos rfl]
        exact Nat.le_refl _
      · have e : jupn D s (D (nx (9 * s + l)) + 1) t = D t := if_neg c
        rw [e] at hb ⊢
        rcases h.so t ht hb with z | ⟨l', h1, h2⟩
        · exact Or.inl z
        · exact Or.inr ⟨l', h1, Nat.le_trans (Nat.add_le_add_right (hle _) 1) h2⟩
    · rcases Nat.lt_or_ge (9 * t + l') (9 * s + l) with r | r
      · exact Nat.le_trans (hle t) (h.dn t l' ht hl' r)
      · have e1 : t = s := by omega
        have e2 : l' = l := by omega
        subst e1; subst e2
        have e : jupn D t (D (nx (9 * t + l')) + 1) t = D (nx (9 * t + l')) + 1 := if_pos rfl
        rw [e]
        have := h.le _ hx
        omega
    · have e : jupn D s (D (nx (9 * s + l)) + 1) s = D (nx (9 * s + l)) + 1 := if_pos rfl
      rw [e]
      have := h.le s hs
      omega
/-- the values in the array -/
def jDv (T : jSt) (ns : Nat) (D : Nat → Nat) : Prop := ∀ t, t < ns → jgA T (jm 42) t = nI (D t)
def jis42 : jC → Prop := fun c => c = jm 42
theorem jis42_m {q : Nat} (h : q ≠ 42) : ¬ jis42 (jm q) := jmne h
theorem jWo_100 {L : jL} (hL : jgood L) {ω : xS} {S : jSt} {sw ps wy : Nat} (hK : jLK S sw ps wy) {w : jLw} (hw : jLg L w) (hM : jLM S w) {k s : Nat} (hk : k < jLw.n w) (hp : jLw.pt w k) (hs : s < jLw.ns w k) {k80 : Nat → Int32 → Int32 → Int32 → Int32 → xS → Option (Int32 × xS)} {k91 : Nat → Int32 → Int32 → Int32 → Int32 → Int32 → xS → Option (Int32 × xS)} {x2 x3 : Int32} {D0 D : Nat → Nat} {b : Nat} (hD : jDv S (jLw.ns w k) D) (hP : jWP (jLw.ns w k) (jLw.nx w k) (jLw.fe w k) D0 (9 * s) D b) : ∃ S' D' b', f_Mo_word_100 k80 k91 xFU (jad L (jm 0)) (nI k) x2 x3 (nI b) (nI s) (nI 0) (jW L ω S) = k91 (jad L (jm 0)) (nI k) x2 x3 (nI b') (nI (s + 1)) (jW L ω S') ∧ jfr jis42 S S' ∧ jDv S' (jLw.ns w k) D' ∧ jWP (jLw.ns w k) (jLw.nx w k) (jLw.fe w k) D0 (9 * (s + 1)) D' b' := by
  have h16 := hw.n16
  have hns := hw.ns k hk hp
  have hnx := fun m hm => hw.nx k m hk hp hm
  obtain ⟨n, T, e1, a1, a2, a3⟩ := jlpI (fun n i (T : jSt × (Nat → Nat) × Nat) => f_Mo_word_100 k80 k91 n (jad L (jm 0)) (nI k) x2 x3 (nI T.2.2) (nI s) (nI i) (jW L ω T.1)) (fun i T => jfr jis42 S T.1 ∧ jDv T.1 (jLw.ns w k) T.2.1 ∧ jWP (jLw.ns w k) (jLw.nx w k) (jLw.fe w k) D0 (9 * s + i) T.2.1 T.2.2) (lo := 0) (hi := 9) (Nat.zero_le _) (by omega) (by
    intro n i ⟨T, D, b⟩ _ hi ⟨b1, b2, b3⟩
    have b1 : jfr jis42 S T := b1
    have b2 : jDv T (jLw.ns w k) D := b2
    have b3 : jWP (jLw.ns w k) (jLw.nx w k) (jLw.fe w k) D0 (9 * s + i) D b := b3
    have hx := hnx (9 * s + i) (by omega)
    have hK := hK.of b1.2.2.1
    have hM := hM.fr b1 (fun q _ _ => jis42_m (by omega))
    have v1 := b2 _ hx
    have v2 := b2 _ hs
    have u1 := b3.u _ hx
    have u2 := b3.u _ hs
    have on := b3.on hnx hs hi
    by_cases c : D s ≤ D (jLw.nx w k (9 * s + i)) + 1
    · refine ⟨(T, D, b), ?_, b1, b2, on.1 c⟩
      show f_Mo_word_100 k80 k91 (n + 1) _ _ _ _ _ _ _ _ = f_Mo_word_100 k80 k91 n _ _ _ _ _ _ _ _
      rw [f_Mo_word_100]
      simp (disch := first | omega | rfl | assumption | exact jokr (by decide) (by omega) | exact jokr4 (by omega) | exact jkt_r _ _ | exact jkt_l (by decide) | exact jfk_l (by decide) | exact jkt_t _ | exact jkt_r6 _ _ | exact jkt_t6 _ | (simp only [jok, jlen]; omega) | decide) only [jm_k hL, jm_gi hL, jm_gr hL, jm_gl hL, jm_pi hL, jm_pl hL, jn_ai hL, jn_ab hL, jn_az hL, jn_al hL, jn_ar hL, jn_an hL, jn_si hL, jn_sb hL, jn_sz hL, jn_sl hL, Option.bind_some, xc, xl, jsA_X, jsI_X, jsG_X, hK _ _, jlk, jmx, jlit, jmul, nI_add, nI_leI, if_neg, if_pos, jix9, hM.nx, v1, v2]
    · refine ⟨(jsA T (jm 42) s (nI (D (jLw.nx w k (9 * s + i)) + 1)), jupn D s (D (jLw.nx w k (9 * s + i)) + 1), 1), ?_, b1.trans (jfr.sA _ _ _ rfl), ?_, on.2 (by omega)⟩
      · show f_Mo_word_100 k80 k91 (n + 1) _ _ _ _ _ _ _ _ = f_Mo_word_100 k80 k91 n _ _ _ _ _ _ _ _
        rw [f_Mo_word_100]
        simp (disch := first | omega | rfl | assumption | exact jokr (by decide) (by omega) | exact jokr4 (by omega) | exact jkt_r _ _ | exact jkt_l (by decide) | exact jfk_l (by decide) | exact jkt_t _ | exact jkt_r6 _ _ | exact jkt_t6 _ | (simp only [jok, jlen]; omega) | decide) only [jm_k hL, jm_gi hL, jm_gr hL, jm_gl hL, jm_pi hL, jm_pl hL, jn_ai hL, jn_ab hL, jn_az hL, jn_al hL, jn_ar hL, jn_an hL, jn_si hL, jn_sb hL, jn_sz hL, jn_sl hL, Option.bind_some, xc, xl, jsA_X, jsI_X, jsG_X, hK _ _, jlk, jmx, jlit, jmul, nI_add, nI_leI, if_neg, if_pos, jix9, hM.nx, v1, v2]
      · intro t ht
        show jgA (jsA T (jm 42) s _) (jm 42) t = nI (jupn D s _ t)
        rw [jsA_c]
        unfold jupn
        by_cases c : t = s
        · rw [if_pos c, if_pos c]
        · rw [if_neg c, if_neg c]; exact b2 t ht) (S, D, b) ⟨jfr.refl _ S, hD, hP⟩
  refine ⟨T.1, T.2.1, T.2.2, ?_, a1, a2, by rw [show 9 * (s + 1) = 9 * s + 9 by omega]; exact a3⟩
  refine e1.trans ?_
  show f_Mo_word_100 k80 k91 (n + 1) _ _ _ _ _ _ _ _ = _
  rw [f_Mo_word_100]
  simp (disch := first | omega | rfl | assumption | exact jokr (by decide) (by omega) | exact jokr4 (by omega) | exact jkt_r _ _ | exact jkt_l (by decide) | exact jfk_l (by decide) | exact jkt_t _ | exact jkt_r6 _ _ | exact jkt_t6 _ | (simp only [jok, jlen]; omega) | decide) only [jlit, nI_add, nI_leI, if_pos]
theorem jWo_pass {L : jL} (hL : jgood L) {ω : xS} {S : jSt} {sw ps wy : Nat} (hK : jLK S sw ps wy) {w : jLw} (hw : jLg L w) (hM : jLM S w) {k : Nat} (hk : k < jLw.n w) (hp : jLw.pt w k) {k80 : Nat → Int32 → Int32 → Int32 → Int32 → xS → Option (Int32 × xS)} {x2 : Int32} {D : Nat → Nat} (hD : jDv S (jLw.ns w k) D) (hP : jWP (jLw.ns w k) (jLw.nx w k) (jLw.fe w k) D 0 D 0) : ∃ S' D' b', f_Mo_word_91 k80 xFU (jad L (jm 0)) (nI k) x2 (nI (jLw.ns w k)) (nI 0) (nI 0) (jW L ω S) = k80 (jad L (jm 0)) (nI k) x2 (nI (jLw.ns w k)) (nI b') (jW L ω S') ∧ jfr jis42 S S' ∧ jDv S' (jLw.ns w k) D' ∧ jWP (jLw.ns w k) (jLw.nx w k) (jLw.fe w k) D (9 * jLw.ns w k) D' b' := by
  have h16 := hw.n16
  have hns := hw.ns k hk hp
  obtain ⟨n, T, e1, a1, a2, a3⟩ := jlpI (fun n i (T : jSt × (Nat → Nat) × Nat) => f_Mo_word_91 k80 n (jad L (jm 0)) (nI k) x2 (nI (jLw.ns w k)) (nI T.2.2) (nI i) (jW L ω T.1)) (fun i T => jfr jis42 S T.1 ∧ jDv T.1 (jLw.ns w k) T.2.1 ∧ jWP (jLw.ns w k) (jLw.nx w k) (jLw.fe w k) D (9 * i) T.2.1 T.2.2) (lo := 0) (hi := jLw.ns w k) (Nat.zero_le _) (by omega) (by
    intro n i ⟨T, D1, b⟩ _ hi ⟨b1, b2, b3⟩
    have b1 : jfr jis42 S T := b1
    have b2 : jDv T (jLw.ns w k) D1 := b2
    have hK := hK.of b1.2.2.1
    have hM := hM.fr b1 (fun q _ _ => jis42_m (by omega))
    obtain ⟨S', D', b', c1, c2, c3, c4⟩ := jWo_100 hL (ω := ω) hK hw hM hk hp hi (k80 := k80) (k91 := f_Mo_word_91 k80 n) (x2 := x2) (x3 := nI (jLw.ns w k)) b2 b3
    refine ⟨(S', D', b'), ?_, b1.trans c2, c3, c4⟩
    show f_Mo_word_91 k80 (n + 1) _ _ _ _ _ _ _ = f_Mo_word_91 k80 n _ _ _ _ _ _ _
    rw [f_Mo_word_91, if_neg (fun q => by have := (nI_leI (by omega) (by omega)).mp q; omega)]
    exact c1) (S, D, 0) ⟨jfr.refl _ S, hD, hP⟩
  refine ⟨T.1, T.2.1, T.2.2, ?_, a1, a2, a3⟩
  refine e1.trans ?_
  show f_Mo_word_91 k80 (n + 1) _ _ _ _ _ _ _ = _
  rw [f_Mo_word_91, if_pos ((nI_leI (by omega) (by omega)).mpr (Nat.le_refl _))]
/-! levels: an end is t letters away or less -/
def jlv (nx fe : Nat → Nat) : Nat → Nat → Prop
  | 0 => fun s => fe s = 1
  | t + 1 => fun s => jlv nx fe t s ∨ ∃ l, l < 9 ∧ jlv nx fe t (nx (9 * s + l))
theorem jlv.up {nx fe : Nat → Nat} {a s : Nat} (h : jlv nx fe a s) : ∀ {b}, a ≤ b → jlv nx fe b s := by
  intro b
  induction b with
  | zero => intro q; rw [Nat.le_zero.mp q] at h; exact h
  | succ b ih =>
    intro q
    rcases Nat.lt_or_ge a (b + 1) with r | r
    · exact Or.inl (ih (by omega))
    · rw [show b + 1 = a by omega]; exact h
/-- where a level is missing there are as many states as levels -/
theorem jlv.few {ns : Nat} {nx fe : Nat → Nat} (hnx : ∀ m, m < 9 * ns → nx m < ns) {s0 : Nat} (h0 : s0 < ns) (hf : fe s0 = 1) {s t v : Nat} (hs : s < ns) (hv : jlv nx fe v s) (ht : ¬ jlv nx fe t s) : t + 1 < ns := by
  rcases Nat.lt_or_ge (t + 1) ns with r | r
  · exact r
  · exfalso
    have new : ∀ i, i < t → ∃ q, q < ns ∧ jlv nx fe (i + 1) q ∧ ¬ jlv nx fe i q := by
      intro i hi
      by_cases hx : ∃ q, q < ns ∧ jlv nx fe (i + 1) q ∧ ¬ jlv nx fe i q
      · exact hx
      · exfalso
        have st : ∀ q, q < ns → jlv nx fe (i + 1) q → jlv nx fe i q := fun q hq h => by
          by_cases c : jlv nx fe i q
          · exact c
          · exact absurd ⟨q, hq, h, c⟩ hx
        have all : ∀ d q, q < ns → jlv nx fe (i + d) q → jlv nx fe i q := by
          intro d
          induction d with
          | zero => intro q _ h; exact h
          | succ d ih =>
            intro q hq h
            rcases h with h | ⟨l, hl, h⟩
            · exact ih q hq h
            · exact st q hq (Or.inr ⟨l, hl, ih _ (hnx _ (by omega)) h⟩)
        have h1 : jlv nx fe (i + v) s := hv.up (by omega)
        exact ht ((all v s hs h1).up (by omega))
    have ch : ∀ i, ∃ q, i ≤ t → q < ns ∧ jlv nx fe i q ∧ ∀ j, j < i → ¬ jlv nx fe j q := by
      intro i
      by_cases hi : i ≤ t
      · rcases i with _ | i
        · exact ⟨s0, fun _ => ⟨h0, hf, fun j hj => absurd hj (Nat.not_lt_zero j)⟩⟩
        · obtain ⟨q, a, b, c⟩ := new i (by omega)
          exact ⟨q, fun _ => ⟨a, b, fun j hj z => c (z.up (by omega))⟩⟩
      · exact ⟨0, fun z => absurd z hi⟩
    have hc : ∃ f : Nat → Nat, ∀ i, i ≤ t → f i < ns ∧ jlv nx fe i (f i) ∧ ∀ j, j < i → ¬ jlv nx fe j (f i) := ⟨fun i => Classical.choose (ch i), fun i hi => Classical.choose_spec (ch i) hi⟩
    obtain ⟨f, hfi⟩ := hc
    obtain ⟨i, a, b⟩ := jpigeon ns f (fun i hi => (hfi i (by omega)).1) (fun i j hi hj e => by
      rcases Nat.lt_trichotomy i j with z | z | z
      · exfalso
        have h1 := (hfi i (by omega)).2.1
        rw [e] at h1
        exact (hfi j (by omega)).2.2 i z h1
      · exact z
      · exfalso
        have h1 := (hfi j (by omega)).2.1
        rw [← e] at h1
        exact (hfi i (by omega)).2.2 j z h1) s hs
    have h1 := (hfi i (by omega)).2.1
    rw [b] at h1
    exact ht (h1.up (by omega))
/-- distances are levels -/
theorem jWP.lev {ns : Nat} {nx fe D : Nat → Nat} (hnx : ∀ m, m < 9 * ns → nx m < ns) (so : ∀ t, t < ns → D t < 100000 → fe t = 1 ∨ ∃ l, l < 9 ∧ D (nx (9 * t + l)) + 1 ≤ D t) : ∀ v s, s < ns → D s = v → v < 100000 → jlv nx fe v s := by
  intro v
  induction v using Nat.strongRecOn with
  | _ v ih =>
    intro s hs e hv
    rcases so s hs (by omega) with z | ⟨l, hl, z⟩
    · exact jlv.up (a := 0) z (Nat.zero_le _)
    · have h1 := ih (D (nx (9 * s + l))) (by omega) _ (hnx _ (by omega)) rfl (by omega)
      have h2 : jlv nx fe (D (nx (9 * s + l)) + 1) s := Or.inr ⟨l, hl, h1⟩
      exact h2.up (by omega)
theorem jWo_80 {L : jL} (hL : jgood L) {ω : xS} {S : jSt} {sw ps wy : Nat} (hK : jLK S sw ps wy) {w : jLw} (hw : jLg L w) {k : Nat} (hk : k < jLw.n w) (hp : jLw.pt w k) {x2 : Int32} : ∀ d t n (S1 : jSt) (D : Nat → Nat), jLw.ns w k ≤ t + d → d + 2 ≤ n → jLM S1 w → jLK S1 sw ps wy → jDv S1 (jLw.ns w k) D → (∀ s, s < jLw.ns w k → D s ≤ 100000) → (∀ s, s < jLw.ns w k → D s < 100000 → jLw.fe w k s = 1 ∨ ∃ l, l < 9 ∧ D (jLw.nx w k (9 * s + l)) + 1 ≤ D s) → (∀ u s, u ≤ t → s < jLw.ns w k → jlv (jLw.nx w k) (jLw.fe w k) u s → D s ≤ u) → ∃ S' D' n', f_Mo_word_80 n (jad L (jm 0)) (nI k) x2 (nI (jLw.ns w k)) (nI 1) (jW L ω S1) = f_Mo_word_80 (n' + 1) (jad L (jm 0)) (nI k) x2 (nI (jLw.ns w k)) (nI 0) (jW L ω S') ∧ jfr jis42 S1 S' ∧ jDv S' (jLw.ns w k) D' ∧ jdist (jLw.ns w k) 100000 (jLw.nx w k) (fun s => decide (jLw.fe w k s = 1)) D' ∧ ∀ s, s < jLw.ns w k → D' s ≤ 100000 := by
  have hns := hw.ns k hk hp
  have hnx := fun m hm => hw.nx k m hk hp hm
  obtain ⟨s0, hs0, hf0⟩ := hw.al k hk hp
  intro d
  induction d with
  | zero =>
    intro t n S1 D hd hn hM hK hD hu so lv
    obtain ⟨S', D', b', c1, c2, c3, c4⟩ := jWo_pass hL (ω := ω) hK hw hM hk hp (k80 := f_Mo_word_80 (n - 1)) (x2 := x2) hD ⟨hu, fun _ _ => Nat.le_refl _, so, fun t l _ _ z => absurd z (Nat.not_lt_zero _), by omega, fun _ _ _ => rfl, fun z => by omega⟩
    have e0 : f_Mo_word_80 n (jad L (jm 0)) (nI k) x2 (nI (jLw.ns w k)) (nI 1) (jW L ω S1) = f_Mo_word_80 (n - 1) (jad L (jm 0)) (nI k) x2 (nI (jLw.ns w k)) (nI b') (jW L ω S') := by
      rw [← c1]
      rw [show n = n - 1 + 1 by omega, f_Mo_word_80, if_neg (fun q => by have := (nI_eq (b := 0) (by omega) (by omega)).mp q; omega)]
      rfl
    have hb : b' = 0 := by
      rcases Nat.eq_zero_or_pos b' with z | z
      · exact z
      · exfalso
        obtain ⟨s, h1, h2⟩ := c4.bo (by have := c4.b1; omega)
        have h3 := hu s h1
        have h4 := jWP.lev hnx c4.so _ s h1 rfl (by omega)
        have h5 : ¬ jlv (jLw.nx w k) (jLw.fe w k) t s := fun z => by
          have h6 := lv t s (Nat.le_refl _) h1 z
          have h7 := lv (D' s) s (by omega) h1 h4
          omega
        have := jlv.few hnx hs0 hf0 h1 h4 h5
        omega
    subst hb
    have hz := c4.bz rfl
    refine ⟨S', D', n - 2, ?_, c2, c3, ⟨fun s h1 h2 => ?_, fun s l h1 h2 => ?_, fun s h1 h2 => ?_⟩, c4.u⟩
    · rw [e0, show n - 1 = n - 2 + 1 by omega]
    · have h2 : jLw.fe w k s = 1 := by simpa using h2
      have := lv 0 s (Nat.zero_le _) h1 h2
      rw [hz s h1]
      omega
    · rw [hz (jLw.nx w k (9 * s + l)) (hnx _ (by omega))]
      exact c4.dn s l h1 h2 (by omega)
    · rcases c4.so s h1 h2 with z | ⟨l, z1, z2⟩
      · left; simpa using z
      · right
        refine ⟨l, z1, ?_⟩
        have := c4.dn s l h1 z1 (by omega)
        rw [← hz (jLw.nx w k (9 * s + l)) (hnx _ (by omega))] at this
        omega
  | succ d ih =>
    intro t n S1 D hd hn hM hK hD hu so lv
    obtain ⟨S', D', b', c1, c2, c3, c4⟩ := jWo_pass hL (ω := ω) hK hw hM hk hp (k80 := f_Mo_word_80 (n - 1)) (x2 := x2) hD ⟨hu, fun _ _ => Nat.le_refl _, so, fun t l _ _ z => absurd z (Nat.not_lt_zero _), by omega, fun _ _ _ => rfl, fun z => by omega⟩
    have e0 : f_Mo_word_80 n (jad L (jm 0)) (nI k) x2 (nI (jLw.ns w k)) (nI 1) (jW L ω S1) = f_Mo_word_80 (n - 1) (jad L (jm 0)) (nI k) x2 (nI (jLw.ns w k)) (nI b') (jW L ω S') := by
      rw [← c1]
      rw [show n = n - 1 + 1 by omega, f_Mo_word_80, if_neg (fun q => by have := (nI_eq (b := 0) (by omega) (by omega)).mp q; omega)]
      rfl
    rcases Nat.eq_zero_or_pos b' with z | z
    · subst z
      have hz := c4.bz rfl
      refine ⟨S', D', n - 2, ?_, c2, c3, ⟨fun s h1 h2 => ?_, fun s l h1 h2 => ?_, fun s h1 h2 => ?_⟩, c4.u⟩
      · rw [e0, show n - 1 = n - 2 + 1 by omega]
      · have h2 : jLw.fe w k s = 1 := by simpa using h2
        have := lv 0 s (Nat.zero_le _) h1 h2
        rw [hz s h1]
        omega
      · rw [hz (jLw.nx w k (9 * s + l)) (hnx _ (by omega))]
        exact c4.dn s l h1 h2 (by omega)
      · rcases c4.so s h1 h2 with z | ⟨l, z1, z2⟩
        · left; simpa using z
        · right
          refine ⟨l, z1, ?_⟩
          have := c4.dn s l h1 z1 (by omega)
          rw [← hz (jLw.nx w k (9 * s + l)) (hnx _ (by omega))] at this
          omega
    · have hb : b' = 1 := by have := c4.b1; omega
      subst hb
      obtain ⟨S2, D2, n2, g1, g2, g3, g4, g5⟩ := ih (t + 1) (n - 1) S' D' (by omega) (by omega) (hM.fr c2 (fun q _ _ => jis42_m (by omega))) (hK.of c2.2.2.1) c3 c4.u c4.so (fun u s hu2 hs hl => by
        rcases u with _ | u
        · have h1 := lv 0 s (Nat.zero_le _) hs hl
          have h2 := c4.le s hs
          omega
        · rcases hl with hl | ⟨l, hl, hq⟩
          · have h1 := lv u s (by omega) hs hl
            have h2 := c4.le s hs
            omega
          · have h1 := lv u _ (by omega) (hnx _ (by omega)) hq
            have h2 := c4.dn s l hs hl (by omega)
            omega)
      exact ⟨S2, D2, n2, by rw [e0, g1], c2.trans g2, g3, g4, g5⟩
