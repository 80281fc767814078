/-! the roster is made -/
abbrev jAm (z N : Nat) : xE := .inl (2, N, .inr (.inr (.inr (.inr (fun i => if i < N then some (z + 1 + i) else none)))))
theorem jxmnE (ω : xS) (z N K : Nat) : ∃ w, xmn ω z N K = w ∧ w z = some (jAm z N) ∧ (∀ i, i < N → w (z + 1 + i) = some (jA0 K)) ∧ ∀ q, (q < z ∨ z + N < q) → w q = ω q := by
  refine ⟨_, rfl, if_pos rfl, fun i hi => ?_, fun q hq => ?_⟩
  · unfold xmn
    rw [if_neg (by omega), if_pos (by omega)]
  · unfold xmn
    rw [if_neg (by omega), if_neg (by omega)]
theorem jxsiE {ω : xS} {a n i : Nat} {f : Nat → Int32} {v : Int32} (h : ω a = some (.inl (0, n, .inl f))) (hi : i < n) (h2 : i < 2 ^ 31) : ∃ w, xsi ω a (nI i) v = some w ∧ w a = some (.inl (0, n, .inl (fun j => if j = i then v else f j))) ∧ ∀ q, q ≠ a → w q = ω q := by
  refine ⟨xu ω a (.inl (0, n, .inl (fun j => if j = i then v else f j))), ?_, xu_self _ _ _, fun q hq => xu_ne _ _ hq⟩
  unfold xsi
  rw [h]
  have e : (nI i).toNatClampNeg = i := nI_clamp h2
  have c : (0 = 0 ∧ ¬ (nI i < 0 ∨ n ≤ (nI i).toNatClampNeg)) := ⟨rfl, jix hi h2⟩
  show (if 0 = 0 ∧ ¬ (nI i < 0 ∨ n ≤ (nI i).toNatClampNeg) then some (xu ω a (.inl (0, n, .inl (upd f (nI i).toNatClampNeg v)))) else none) = _
  rw [if_pos c, e]
  rfl
theorem jxgrE {ω : xS} {a c k x : Nat} {fs : List Value} (h : ω a = some (.inr (c, fs))) (hk : fs[k]? = some (.ref x)) : xgr ω a c k = some x := by
  have e : xg ω a c k = some (.ref x) := by
    unfold xg
    rw [h]
    show (if c = c then fs[k]? else none) = _
    rw [if_pos rfl, hk]
  unfold xgr
  rw [e]
theorem jxgiE {ω : xS} {a c k : Nat} {x : Int32} {fs : List Value} (h : ω a = some (.inr (c, fs))) (hk : fs[k]? = some (.int x)) : xgi ω a c k = some x := by
  have e : xg ω a c k = some (.int x) := by
    unfold xg
    rw [h]
    show (if c = c then fs[k]? else none) = _
    rw [if_pos rfl, hk]
  unfold xgi
  rw [e]
theorem jxarE {ω : xS} {a N i : Nat} (h : ω a = some (jAm a N)) (hi : i < N) (h2 : i < 2 ^ 31) : xar ω 2 a (nI i) = some (a + 1 + i) := by
  unfold xar
  rw [h]
  have e : (nI i).toNatClampNeg = i := nI_clamp h2
  show (if 2 = 2 ∧ ¬ (nI i < 0 ∨ N ≤ (nI i).toNatClampNeg) then (if (nI i).toNatClampNeg < N then some (a + 1 + (nI i).toNatClampNeg) else none) else none) = _
  rw [if_pos ⟨rfl, jix hi h2⟩, e, if_pos hi]
theorem jI_102 {a0 aB aL : Nat} {x1 x2 : Int32} {fs : List Value} (h2 : fs[2]? = some (.ref aB)) (h3 : fs[3]? = some (.ref aL)) (n1 : a0 ≠ aB) (n2 : a0 ≠ aL) (n3 : aB ≠ aL) : ∀ (m j fu : Nat) (ω : xS) (gB gL : Nat → Int32), j + m = 9 → m + 1 ≤ fu → ω a0 = some (.inr (8, fs)) → ω aB = some (.inl (0, 9, .inl gB)) → ω aL = some (.inl (0, 9, .inl gL)) → ∃ ω', f_Roster_init_102 fu a0 x1 x2 (nI j) ω = f_Roster_init_134 xFU a0 x1 x2 0 ω' ∧ ω' aB = some (.inl (0, 9, .inl (fun l => if j ≤ l ∧ l ≤ 8 then 480 else gB l))) ∧ ω' aL = some (.inl (0, 9, .inl (fun l => if j ≤ l ∧ l ≤ 8 then 480 else gL l))) ∧ ∀ q, q ≠ aB → q ≠ aL → ω' q = ω q
  | 0, j, fu, ω, gB, gL, hj, hf, h0, hB, hL => by
    obtain ⟨fu, rfl⟩ : ∃ f, fu = f + 1 := ⟨fu - 1, by omega⟩
    have e9 : j = 9 := by omega
    have c : ∀ g : Nat → Int32, (fun l => if j ≤ l ∧ l ≤ 8 then 480 else g l) = g := fun g => by
      funext l; rw [if_neg (by omega)]
    refine ⟨ω, ?_, by rw [c]; exact hB, by rw [c]; exact hL, fun _ _ _ => rfl⟩
    rw [f_Roster_init_102, if_pos (show (9 : Int32) ≤ nI j by rw [e9]; decide)]
  | m + 1, j, fu, ω, gB, gL, hj, hf, h0, hB, hL => by
    obtain ⟨fu, rfl⟩ : ∃ f, fu = f + 1 := ⟨fu - 1, by omega⟩
    obtain ⟨w1, e1, b1, f1⟩ := jxsiE (v := 480) hB (show j < 9 by omega) (by omega)
    obtain ⟨w2, e2, b2, f2⟩ := jxsiE (ω := w1) (v := 480) (show w1 aL = _ by rw [f1 _ (Ne.symm n3)]; exact hL) (show j < 9 by omega) (by omega)
    have g1 : xgr ω a0 8 2 = some aB := jxgrE h0 h2
    have g2 : xgr w1 a0 8 3 = some aL := jxgrE (by rw [f1 _ n1]; exact h0) h3
    have ek : nI j + 1 = nI (j + 1) := by rw [jlit, nI_add]
    obtain ⟨ω', i1, i2, i3, i4⟩ := jI_102 (x1 := x1) (x2 := x2) h2 h3 n1 n2 n3 m (j + 1) fu w2 _ _ (by omega) (by omega) (by rw [f2 _ n2, f1 _ n1]; exact h0) (by rw [f2 _ n3]; exact b1) b2
    have cc : ∀ g : Nat → Int32, (fun l => if j + 1 ≤ l ∧ l ≤ 8 then 480 else (if l = j then 480 else g l)) = (fun l => if j ≤ l ∧ l ≤ 8 then (480 : Int32) else g l) := fun g => by
      funext l
      by_cases c : l = j
      · rw [if_neg (by omega), if_pos c, if_pos (by omega)]
      · by_cases c2 : j ≤ l ∧ l ≤ 8
        · rw [if_pos (by omega), if_pos c2]
        · rw [if_neg (by omega), if_neg c, if_neg c2]
    rw [cc] at i2 i3
    refine ⟨ω', ?_, i2, i3, fun q q1 q2 => by rw [i4 q q1 q2, f2 q q2, f1 q q1]⟩
    rw [f_Roster_init_102, if_neg (show ¬ (9 : Int32) ≤ nI j from fun z => by have := (nI_leI (a := 9) (by omega) (by omega)).mp z; omega), g1, Option.bind_some, e1, Option.bind_some, g2, Option.bind_some, e2, Option.bind_some, ek]
    exact i1
theorem jI_165 {a0 aN d : Nat} {x1 : Int32} {fs : List Value} (h10 : fs[10]? = some (.ref aN)) (hd : d < 2 ^ 31) (n1 : a0 < aN) : ∀ (m t fu : Nat) (ω : xS) (g : Nat → Nat → Int32), t + m = d → m + 1 ≤ fu → ω a0 = some (.inr (8, fs)) → ω aN = some (jAm aN d) → (∀ i, i < d → ω (aN + 1 + i) = some (.inl (0, 9, .inl (g i)))) → ∃ ω', f_Roster_init_165 fu a0 x1 (nI d) (nI t) ω = some ω' ∧ (∀ i, i < d → ω' (aN + 1 + i) = some (.inl (0, 9, .inl (fun l => if t ≤ i ∧ l = 0 then x1 else g i l)))) ∧ ∀ q, q ≤ aN ∨ aN + d < q → ω' q = ω q
  | 0, t, fu, ω, g, ht, hf, h0, hN, hr => by
    obtain ⟨fu, rfl⟩ : ∃ f, fu = f + 1 := ⟨fu - 1, by omega⟩
    refine ⟨ω, ?_, fun i hi => ?_, fun _ _ => rfl⟩
    · rw [f_Roster_init_165, if_pos ((nI_leI (by omega) (by omega)).mpr (by omega))]
    · rw [show (fun l => if t ≤ i ∧ l = 0 then x1 else g i l) = g i from funext fun l => if_neg (by omega)]
      exact hr i hi
  | m + 1, t, fu, ω, g, ht, hf, h0, hN, hr => by
    obtain ⟨fu, rfl⟩ : ∃ f, fu = f + 1 := ⟨fu - 1, by omega⟩
    obtain ⟨w1, e1, b1, f1⟩ := jxsiE (i := 0) (v := x1) (hr t (by omega)) (by omega) (by omega)
    have e1 : xsi ω (aN + 1 + t) 0 x1 = some w1 := e1
    have ek : nI t + 1 = nI (t + 1) := by rw [jlit, nI_add]
    obtain ⟨ω', i1, i2, i3⟩ := jI_165 (x1 := x1) h10 hd n1 m (t + 1) fu w1 (fun i l => if i = t ∧ l = 0 then x1 else g i l) (by omega) (by omega) (by rw [f1 _ (by omega)]; exact h0) (by rw [f1 _ (by omega)]; exact hN) (fun i hi => by
      by_cases c : i = t
      · rw [c, b1]
        refine congrArg (fun f => some (Sum.inl (0, 9, Sum.inl f))) (funext fun l => ?_)
        by_cases c2 : l = 0
        · rw [if_pos c2, if_pos ⟨rfl, c2⟩]
        · rw [if_neg c2, if_neg (fun z => c2 z.2)]
      · rw [f1 _ (by omega), hr i hi]
        refine congrArg (fun f => some (Sum.inl (0, 9, Sum.inl f))) (funext fun l => ?_)
        rw [if_neg (fun z => c z.1)])
    refine ⟨ω', ?_, fun i hi => ?_, fun q hq => by rw [i3 q hq, f1 q (by omega)]⟩
    · rw [f_Roster_init_165, if_neg (fun z => by have := (nI_leI (by omega) (by omega)).mp z; omega), jxgrE h0 h10, Option.bind_some, jxarE hN (by omega) (by omega), Option.bind_some, e1, Option.bind_some, ek]
      exact i1
    · rw [i2 i hi]
      refine congrArg (fun f => some (Sum.inl (0, 9, Sum.inl f))) (funext fun l => ?_)
      by_cases c : t ≤ i ∧ l = 0
      · rw [if_pos c]
        by_cases c2 : t + 1 ≤ i ∧ l = 0
        · rw [if_pos c2]
        · rw [if_neg c2, if_pos ⟨by omega, c.2⟩]
      · rw [if_neg c, if_neg (by omega), if_neg (by omega)]
theorem jI_134 {a0 aK aF n d : Nat} {fs : List Value} (h5 : fs[5]? = some (.ref aK)) (h9 : fs[9]? = some (.ref aF)) (hn : n < 2 ^ 31) (n1 : a0 < aK) (n2 : aK < aF) : ∀ (m p fu : Nat) (ω : xS) (gK : Nat → Int32) (g : Nat → Nat → Int32), p + m = n → m + 1 ≤ fu → ω a0 = some (.inr (8, fs)) → ω aK = some (.inl (0, n, .inl gK)) → ω aF = some (jAm aF n) → (∀ i, i < n → ω (aF + 1 + i) = some (.inl (0, 9, .inl (g i)))) → ∃ ω', f_Roster_init_134 fu a0 (nI n) (nI d) (nI p) ω = f_Roster_init_165 xFU a0 (nI n) (nI d) 0 ω' ∧ ω' aK = some (.inl (0, n, .inl (fun q => if p ≤ q ∧ q < n then 1023 else gK q))) ∧ (∀ i, i < n → ω' (aF + 1 + i) = some (.inl (0, 9, .inl (fun l => if p ≤ i ∧ l = 0 then nI d else g i l)))) ∧ ∀ q, q ≠ aK → q ≤ aF ∨ aF + n < q → ω' q = ω q
  | 0, p, fu, ω, gK, g, hp, hf, h0, hK, hF, hr => by
    obtain ⟨fu, rfl⟩ : ∃ f, fu = f + 1 := ⟨fu - 1, by omega⟩
    refine ⟨ω, ?_, ?_, fun i hi => ?_, fun _ _ _ => rfl⟩
    · rw [f_Roster_init_134, if_pos ((nI_leI (by omega) (by omega)).mpr (by omega))]
    · rw [show (fun q => if p ≤ q ∧ q < n then 1023 else gK q) = gK from funext fun q => if_neg (by omega)]
      exact hK
    · rw [show (fun l => if p ≤ i ∧ l = 0 then nI d else g i l) = g i from funext fun l => if_neg (by omega)]
      exact hr i hi
  | m + 1, p, fu, ω, gK, g, hp, hf, h0, hK, hF, hr => by
    obtain ⟨fu, rfl⟩ : ∃ f, fu = f + 1 := ⟨fu - 1, by omega⟩
    obtain ⟨w0, e0, b0, f0⟩ := jxsiE (i := p) (v := 1023) hK (by omega) (by omega)
    obtain ⟨w1, e1, b1, f1⟩ := jxsiE (ω := w0) (a := aF + 1 + p) (i := 0) (v := nI d) (by rw [f0 _ (by omega)]; exact hr p (by omega)) (by omega) (by omega)
    have e1 : xsi w0 (aF + 1 + p) 0 (nI d) = some w1 := e1
    have ek : nI p + 1 = nI (p + 1) := by rw [jlit, nI_add]
    obtain ⟨ω', i1, i2, i3, i4⟩ := jI_134 (d := d) h5 h9 hn n1 n2 m (p + 1) fu w1 _ (fun i l => if i = p ∧ l = 0 then nI d else g i l) (by omega) (by omega) (by rw [f1 _ (by omega), f0 _ (by omega)]; exact h0) (by rw [f1 _ (by omega)]; exact b0) (by rw [f1 _ (by omega), f0 _ (by omega)]; exact hF) (fun i hi => by
      by_cases c : i = p
      · rw [c, b1]
        refine congrArg (fun f => some (Sum.inl (0, 9, Sum.inl f))) (funext fun l => ?_)
        by_cases c2 : l = 0
        · rw [if_pos c2, if_pos ⟨rfl, c2⟩]
        · rw [if_neg c2, if_neg (fun z => c2 z.2)]
      · rw [f1 _ (by omega), f0 _ (by omega), hr i hi]
        refine congrArg (fun f => some (Sum.inl (0, 9, Sum.inl f))) (funext fun l => ?_)
        rw [if_neg (fun z => c z.1)])
    refine ⟨ω', ?_, ?_, fun i hi => ?_, fun q q1 q2 => by rw [i4 q q1 q2, f1 q (by omega), f0 q q1]⟩
    · rw [f_Roster_init_134, if_neg (fun z => by have := (nI_leI (by omega) (by omega)).mp z; omega), jxgrE h0 h5, Option.bind_some, e0, Option.bind_some, jxgrE (ω := w0) (by rw [f0 _ (by omega)]; exact h0) h9, Option.bind_some, jxarE (ω := w0) (by rw [f0 _ (by omega)]; exact hF) (by omega) (by omega), Option.bind_some, e1, Option.bind_some, ek]
      exact i1
    · rw [i2]
      refine congrArg (fun f => some (Sum.inl (0, n, Sum.inl f))) (funext fun q => ?_)
      by_cases c : q = p
      · rw [if_neg (by omega), if_pos c, if_pos (by omega)]
      · by_cases c2 : p ≤ q ∧ q < n
        · rw [if_pos (by omega), if_pos c2]
        · rw [if_neg (by omega), if_neg c, if_neg c2]
    · rw [i3 i hi]
      refine congrArg (fun f => some (Sum.inl (0, 9, Sum.inl f))) (funext fun l => ?_)
      by_cases c : p ≤ i ∧ l = 0
      · rw [if_pos c]
        by_cases c2 : p + 1 ≤ i ∧ l = 0
        · rw [if_pos c2]
        · rw [if_neg c2, if_pos ⟨by omega, c.2⟩]
      · rw [if_neg c, if_neg (by omega), if_neg (by omega)]
/-- the roster's cells -/
def jIR (ω : xS) (a0 z n d : Nat) : Prop := (ω a0 = some (.inr (8, [.int (nI n), .int (nI d), .ref z, .ref (z + 1), .ref (z + 2), .ref (z + 3), .ref (z + 4), .ref (z + 5 + n), .ref (z + 6 + 2 * n), .ref (z + 7 + 3 * n), .ref (z + 8 + 4 * n), .int 0, .int 0]))) ∧ (ω z = some (.inl (0, 9, .inl (fun l => if 1 ≤ l ∧ l ≤ 8 then 480 else 0)))) ∧ (ω (z + 1) = some (.inl (0, 9, .inl (fun l => if 1 ≤ l ∧ l ≤ 8 then 480 else 0)))) ∧ (ω (z + 2) = some (jA0 9)) ∧ (ω (z + 3) = some (.inl (0, n, .inl (fun q => if q < n then 1023 else 0)))) ∧ (ω (z + 4) = some (jAm (z + 4) n)) ∧ (∀ i, i < n → ω (z + 5 + i) = some (jA0 (7 + d))) ∧ (ω (z + 5 + n) = some (jAm (z + 5 + n) n)) ∧ (∀ i, i < n → ω (z + 6 + n + i) = some (jA0 d)) ∧ (ω (z + 6 + 2 * n) = some (jAm (z + 6 + 2 * n) n)) ∧ (∀ i, i < n → ω (z + 7 + 2 * n + i) = some (jA0 d)) ∧ (ω (z + 7 + 3 * n) = some (jAm (z + 7 + 3 * n) n)) ∧ (∀ i, i < n → ω (z + 8 + 3 * n + i) = some (.inl (0, 9, .inl (fun l => if l = 0 then nI d else 0)))) ∧ (ω (z + 8 + 4 * n) = some (jAm (z + 8 + 4 * n) d)) ∧ (∀ i, i < d → ω (z + 9 + 4 * n + i) = some (.inl (0, 9, .inl (fun l => if l = 0 then nI n else 0))))
theorem jIR.o {ω : xS} {a0 z n d : Nat} (h : jIR ω a0 z n d) : ω a0 = some (.inr (8, [.int (nI n), .int (nI d), .ref z, .ref (z + 1), .ref (z + 2), .ref (z + 3), .ref (z + 4), .ref (z + 5 + n), .ref (z + 6 + 2 * n), .ref (z + 7 + 3 * n), .ref (z + 8 + 4 * n), .int 0, .int 0])) := h.1
theorem jIR.b {ω : xS} {a0 z n d : Nat} (h : jIR ω a0 z n d) : ω z = some (.inl (0, 9, .inl (fun l => if 1 ≤ l ∧ l ≤ 8 then 480 else 0))) := h.2.1
theorem jIR.l {ω : xS} {a0 z n d : Nat} (h : jIR ω a0 z n d) : ω (z + 1) = some (.inl (0, 9, .inl (fun l => if 1 ≤ l ∧ l ≤ 8 then 480 else 0))) := h.2.2.1
theorem jIR.s {ω : xS} {a0 z n d : Nat} (h : jIR ω a0 z n d) : ω (z + 2) = some (jA0 9) := h.2.2.2.1
theorem jIR.k {ω : xS} {a0 z n d : Nat} (h : jIR ω a0 z n d) : ω (z + 3) = some (.inl (0, n, .inl (fun q => if q < n then 1023 else 0))) := h.2.2.2.2.1
theorem jIR.r {ω : xS} {a0 z n d : Nat} (h : jIR ω a0 z n d) : ω (z + 4) = some (jAm (z + 4) n) := h.2.2.2.2.2.1
theorem jIR.r1 {ω : xS} {a0 z n d : Nat} (h : jIR ω a0 z n d) : ∀ i, i < n → ω (z + 5 + i) = some (jA0 (7 + d)) := h.2.2.2.2.2.2.1
theorem jIR.w {ω : xS} {a0 z n d : Nat} (h : jIR ω a0 z n d) : ω (z + 5 + n) = some (jAm (z + 5 + n) n) := h.2.2.2.2.2.2.2.1
theorem jIR.w1 {ω : xS} {a0 z n d : Nat} (h : jIR ω a0 z n d) : ∀ i, i < n → ω (z + 6 + n + i) = some (jA0 d) := h.2.2.2.2.2.2.2.2.1
theorem jIR.v {ω : xS} {a0 z n d : Nat} (h : jIR ω a0 z n d) : ω (z + 6 + 2 * n) = some (jAm (z + 6 + 2 * n) n) := h.2.2.2.2.2.2.2.2.2.1
theorem jIR.v1 {ω : xS} {a0 z n d : Nat} (h : jIR ω a0 z n d) : ∀ i, i < n → ω (z + 7 + 2 * n + i) = some (jA0 d) := h.2.2.2.2.2.2.2.2.2.2.1
theorem jIR.f {ω : xS} {a0 z n d : Nat} (h : jIR ω a0 z n d) : ω (z + 7 + 3 * n) = some (jAm (z + 7 + 3 * n) n) := h.2.2.2.2.2.2.2.2.2.2.2.1
theorem jIR.f1 {ω : xS} {a0 z n d : Nat} (h : jIR ω a0 z n d) : ∀ i, i < n → ω (z + 8 + 3 * n + i) = some (.inl (0, 9, .inl (fun l => if l = 0 then nI d else 0))) := h.2.2.2.2.2.2.2.2.2.2.2.2.1
theorem jIR.t {ω : xS} {a0 z n d : Nat} (h : jIR ω a0 z n d) : ω (z + 8 + 4 * n) = some (jAm (z + 8 + 4 * n) d) := h.2.2.2.2.2.2.2.2.2.2.2.2.2.1
theorem jIR.t1 {ω : xS} {a0 z n d : Nat} (h : jIR ω a0 z n d) : ∀ i, i < d → ω (z + 9 + 4 * n + i) = some (.inl (0, 9, .inl (fun l => if l = 0 then nI n else 0))) := h.2.2.2.2.2.2.2.2.2.2.2.2.2.2
theorem jI_Roster {ω : xS} {a0 z n d : Nat} (h : ω a0 = some (.inr (8, [.int 0, .int 0, .null, .null, .null, .null, .null, .null, .null, .null, .null, .int 0, .int 0]))) (hz : a0 < z) (n1 : 1 ≤ n) (n8 : n ≤ 8) (d1 : 1 ≤ d) (d21 : d ≤ 21) : ∃ ω', f_Roster_init a0 (nI n) (nI d) z ω = some ω' ∧ jIR ω' a0 z n d ∧ ∀ q, q ≠ a0 → (q < z ∨ z + 9 + 4 * n + d ≤ q) → ω' q = ω q := by
  have en : (nI n).toNatClampNeg = n := nI_clamp (by omega)
  have ed : (nI d).toNatClampNeg = d := nI_clamp (by omega)
  have e7 : 7 + nI d = nI (7 + d) := by rw [show (7 : Int32) = nI 7 from rfl, nI_add]
  have ed7 : (nI (7 + d)).toNatClampNeg = 7 + d := nI_clamp (by omega)
  have cr : ∀ k : Nat, k ≤ 1000 → ¬ (nI k < 0 ∨ (1000 : Int32) < nI k) := fun k hk z => by
    rcases z with z | z
    · exact (jneg (by omega)).mp z
    · have := (nI_ltI (a := 1000) (by omega) (by omega)).mp z
      omega
  have a7 : z + 4 + 1 + n = z + 5 + n := by omega
  have a8 : z + 5 + n + 1 + n = z + 6 + 2 * n := by omega
  have a9 : z + 6 + 2 * n + 1 + n = z + 7 + 3 * n := by omega
  have a10 : z + 7 + 3 * n + 1 + n = z + 8 + 4 * n := by omega
  obtain ⟨v1, g1, y1, l1⟩ := jxuE ω z (jA0 9)
  obtain ⟨v2, g2, y2, l2⟩ := jxpE (k := 2) (v := .ref z) ((l1 a0 (by omega)).trans h) (Nat.le_of_ble_eq_true rfl)
  obtain ⟨v3, g3, y3, l3⟩ := jxuE v2 (z + 1) (jA0 9)
  obtain ⟨v4, g4, y4, l4⟩ := jxpE (k := 3) (v := .ref (z + 1)) ((l3 a0 (by omega)).trans y2) (Nat.le_of_ble_eq_true rfl)
  obtain ⟨v5, g5, y5, l5⟩ := jxuE v4 (z + 2) (jA0 9)
  obtain ⟨v6, g6, y6, l6⟩ := jxpE (k := 4) (v := .ref (z + 2)) ((l5 a0 (by omega)).trans y4) (Nat.le_of_ble_eq_true rfl)
  obtain ⟨v7, g7, y7, l7⟩ := jxpE (k := 0) (v := .int (nI n)) y6 (Nat.le_of_ble_eq_true rfl)
  obtain ⟨v8, g8, y8, l8⟩ := jxpE (k := 1) (v := .int (nI d)) y7 (Nat.le_of_ble_eq_true rfl)
  obtain ⟨v9, g9, y9, l9⟩ := jxuE v8 (z + 3) (jA0 n)
  obtain ⟨ω1, g10, i2, l10⟩ := jxpE (k := 5) (v := .ref (z + 3)) ((l9 a0 (by omega)).trans y8) (Nat.le_of_ble_eq_true rfl)
  have i4 : ∀ q, q ≠ a0 → (q < z ∨ z + 4 ≤ q) → ω1 q = ω q := fun q q1 q2 => by rw [l10 q q1, l9 q (by omega), l8 q q1, l7 q q1, l6 q q1, l5 q (by omega), l4 q q1, l3 q (by omega), l2 q q1, l1 q (by omega)]
  have j0 : ω1 z = some (jA0 9) := by rw [l10 z (by omega), l9 z (by omega), l8 z (by omega), l7 z (by omega), l6 z (by omega), l5 z (by omega), l4 z (by omega), l3 z (by omega), l2 z (by omega)]; exact y1
  have j1 : ω1 (z + 1) = some (jA0 9) := by rw [l10 _ (by omega), l9 _ (by omega), l8 _ (by omega), l7 _ (by omega), l6 _ (by omega), l5 _ (by omega), l4 _ (by omega)]; exact y3
  have j2 : ω1 (z + 2) = some (jA0 9) := by rw [l10 _ (by omega), l9 _ (by omega), l8 _ (by omega), l7 _ (by omega), l6 _ (by omega)]; exact y5
  have j3 : ω1 (z + 3) = some (jA0 n) := by rw [l10 _ (by omega)]; exact y9
  obtain ⟨w11, e11, b11, c11, f11⟩ := jxmnE ω1 (z + 4) n (7 + d)
  obtain ⟨w12, e12, b12, f12⟩ := jxpE (ω := w11) (k := 6) (v := .ref (z + 4)) ((f11 a0 (by omega)).trans i2) (Nat.le_of_ble_eq_true rfl)
  obtain ⟨w13, e13, b13, c13, f13⟩ := jxmnE w12 (z + 5 + n) n d
  obtain ⟨w14, e14, b14, f14⟩ := jxpE (ω := w13) (k := 7) (v := .ref (z + 5 + n)) ((f13 a0 (by omega)).trans b12) (Nat.le_of_ble_eq_true rfl)
  obtain ⟨w15, e15, b15, c15, f15⟩ := jxmnE w14 (z + 6 + 2 * n) n d
  obtain ⟨w16, e16, b16, f16⟩ := jxpE (ω := w15) (k := 8) (v := .ref (z + 6 + 2 * n)) ((f15 a0 (by omega)).trans b14) (Nat.le_of_ble_eq_true rfl)
  obtain ⟨w17, e17, b17, c17, f17⟩ := jxmnE w16 (z + 7 + 3 * n) n 9
  obtain ⟨w18, e18, b18, f18⟩ := jxpE (ω := w17) (k := 9) (v := .ref (z + 7 + 3 * n)) ((f17 a0 (by omega)).trans b16) (Nat.le_of_ble_eq_true rfl)
  obtain ⟨w19, e19, b19, c19, f19⟩ := jxmnE w18 (z + 8 + 4 * n) d 9
  obtain ⟨w20, e20, b20, f20⟩ := jxpE (ω := w19) (k := 10) (v := .ref (z + 8 + 4 * n)) ((f19 a0 (by omega)).trans b18) (Nat.le_of_ble_eq_true rfl)
  -- what stands before the loops
  have lowq : ∀ q, q ≠ a0 → q < z + 4 → w20 q = ω1 q := fun q q1 q2 => by rw [f20 q q1, f19 q (by omega), f18 q q1, f17 q (by omega), f16 q q1, f15 q (by omega), f14 q q1, f13 q (by omega), f12 q q1, f11 q (by omega)]
  have t0 : w20 a0 = some (.inr (8, [.int (nI n), .int (nI d), .ref z, .ref (z + 1), .ref (z + 2), .ref (z + 3), .ref (z + 4), .ref (z + 5 + n), .ref (z + 6 + 2 * n), .ref (z + 7 + 3 * n), .ref (z + 8 + 4 * n), .int 0, .int 0])) := b20
  have kB : w20 z = some (.inl (0, 9, .inl (fun _ => 0))) := by rw [lowq _ (by omega) (by omega)]; exact j0
  have kL : w20 (z + 1) = some (.inl (0, 9, .inl (fun _ => 0))) := by rw [lowq _ (by omega) (by omega)]; exact j1
  have kK : w20 (z + 3) = some (.inl (0, n, .inl (fun _ => 0))) := by rw [lowq _ (by omega) (by omega)]; exact j3
  obtain ⟨u1, p1, p2, p3, p4⟩ := jI_102 (a0 := a0) (aB := z) (aL := z + 1) (x1 := nI n) (x2 := nI d) rfl rfl (by omega) (by omega) (by omega) 8 1 xFU w20 _ _ (by omega) (by unfold xFU; omega) t0 kB kL
  obtain ⟨u2, r1, r2, r3, r4⟩ := jI_134 (a0 := a0) (aK := z + 3) (aF := z + 7 + 3 * n) (n := n) (d := d) (fs := [.int (nI n), .int (nI d), .ref z, .ref (z + 1), .ref (z + 2), .ref (z + 3), .ref (z + 4), .ref (z + 5 + n), .ref (z + 6 + 2 * n), .ref (z + 7 + 3 * n), .ref (z + 8 + 4 * n), .int 0, .int 0]) rfl rfl (by omega) (by omega) (by omega) n 0 xFU u1 (fun _ => 0) (fun _ _ => 0) (by omega) (by unfold xFU; omega) (by rw [p4 _ (by omega) (by omega)]; exact t0) (by rw [p4 _ (by omega) (by omega)]; exact kK) (by rw [p4 _ (by omega) (by omega), f20 _ (by omega), f19 _ (by omega), f18 _ (by omega)]; exact b17) (fun i hi => by rw [p4 _ (by omega) (by omega), f20 _ (by omega), f19 _ (by omega), f18 _ (by omega)]; exact c17 i hi)
  obtain ⟨u3, s1, s2, s3⟩ := jI_165 (a0 := a0) (aN := z + 8 + 4 * n) (d := d) (x1 := nI n) (fs := [.int (nI n), .int (nI d), .ref z, .ref (z + 1), .ref (z + 2), .ref (z + 3), .ref (z + 4), .ref (z + 5 + n), .ref (z + 6 + 2 * n), .ref (z + 7 + 3 * n), .ref (z + 8 + 4 * n), .int 0, .int 0]) rfl (by omega) (by omega) d 0 xFU u2 (fun _ _ => 0) (by omega) (by unfold xFU; omega) (by rw [r4 _ (by omega) (by omega), p4 _ (by omega) (by omega)]; exact t0) (by rw [r4 _ (by omega) (by omega), p4 _ (by omega) (by omega), f20 _ (by omega)]; exact b19) (fun i hi => by rw [r4 _ (by omega) (by omega), p4 _ (by omega) (by omega), f20 _ (by omega)]; exact c19 i hi)
  have q3 : ∀ q, q ≠ z → q ≠ z + 1 → q ≠ z + 3 → (q ≤ z + 7 + 3 * n ∨ z + 7 + 3 * n + n < q) → (q ≤ z + 8 + 4 * n ∨ z + 8 + 4 * n + d < q) → u3 q = w20 q := fun q q0 q1 q2 q4 q5 => by rw [s3 q q5, r4 q q2 q4, p4 q q0 q1]
  refine ⟨u3, ?_, ⟨?_, ?_, ?_, ?_, ?_, ?_, fun i hi => ?_, ?_, fun i hi => ?_, ?_, fun i hi => ?_, ?_, fun i hi => ?_, ?_, fun i hi => ?_⟩, fun q h1 h2 => ?_⟩
  · unfold f_Roster_init
    simp only [xl, en, ed, e7, ed7, a7, a8, a9, a10, if_neg (cr n (by omega)), if_neg (cr d (by omega)), if_neg (cr (7 + d) (by omega))]
    rw [g1, g2, Option.bind_some, g3, g4, Option.bind_some, g5, g6, Option.bind_some, g7, Option.bind_some, g8, Option.bind_some, g9, g10, Option.bind_some, e11, e12, Option.bind_some, e13, e14, Option.bind_some, e15, e16, Option.bind_some, e17, e18, Option.bind_some, e19, e20, Option.bind_some]
    exact p1.trans (r1.trans s1)
  · rw [q3 _ (by omega) (by omega) (by omega) (by omega) (by omega)]; exact t0
  · rw [s3 _ (by omega), r4 _ (by omega) (by omega)]; exact p2
  · rw [s3 _ (by omega), r4 _ (by omega) (by omega)]; exact p3
  · rw [q3 _ (by omega) (by omega) (by omega) (by omega) (by omega), lowq _ (by omega) (by omega)]; exact j2
  · rw [s3 _ (by omega), r2]
    refine congrArg (fun f => some (Sum.inl (0, n, Sum.inl f))) (funext fun q => ?_)
    by_cases c : q < n
    · rw [if_pos ⟨by omega, c⟩, if_pos c]
    · rw [if_neg (by omega), if_neg c]
  · rw [q3 _ (by omega) (by omega) (by omega) (by omega) (by omega), f20 _ (by omega), f19 _ (by omega), f18 _ (by omega), f17 _ (by omega), f16 _ (by omega), f15 _ (by omega), f14 _ (by omega), f13 _ (by omega), f12 _ (by omega)]; exact b11
  · rw [q3 _ (by omega) (by omega) (by omega) (by omega) (by omega), f20 _ (by omega), f19 _ (by omega), f18 _ (by omega), f17 _ (by omega), f16 _ (by omega), f15 _ (by omega), f14 _ (by omega), f13 _ (by omega), f12 _ (by omega), show z + 5 + i = z + 4 + 1 + i by omega]; exact c11 i hi
  · rw [q3 _ (by omega) (by omega) (by omega) (by omega) (by omega), f20 _ (by omega), f19 _ (by omega), f18 _ (by omega), f17 _ (by omega), f16 _ (by omega), f15 _ (by omega), f14 _ (by omega)]; exact b13
  · rw [q3 _ (by omega) (by omega) (by omega) (by omega) (by omega), f20 _ (by omega), f19 _ (by omega), f18 _ (by omega), f17 _ (by omega), f16 _ (by omega), f15 _ (by omega), f14 _ (by omega), show z + 6 + n + i = z + 5 + n + 1 + i by omega]; exact c13 i hi
  · rw [q3 _ (by omega) (by omega) (by omega) (by omega) (by omega), f20 _ (by omega), f19 _ (by omega), f18 _ (by omega), f17 _ (by omega), f16 _ (by omega)]; exact b15
  · rw [q3 _ (by omega) (by omega) (by omega) (by omega) (by omega), f20 _ (by omega), f19 _ (by omega), f18 _ (by omega), f17 _ (by omega), f16 _ (by omega), show z + 7 + 2 * n + i = z + 6 + 2 * n + 1 + i by omega]; exact c15 i hi
  · rw [q3 _ (by omega) (by omega) (by omega) (by omega) (by omega), f20 _ (by omega), f19 _ (by omega), f18 _ (by omega)]; exact b17
  · rw [s3 _ (by omega), show z + 8 + 3 * n + i = z + 7 + 3 * n + 1 + i by omega, r3 i hi]
    refine congrArg (fun f => some (Sum.inl (0, 9, Sum.inl f))) (funext fun l => ?_)
    by_cases c : l = 0
    · rw [if_pos ⟨by omega, c⟩, if_pos c]
    · rw [if_neg (by omega), if_neg c]
  · rw [q3 _ (by omega) (by omega) (by omega) (by omega) (by omega), f20 _ (by omega)]; exact b19
  · rw [show z + 9 + 4 * n + i = z + 8 + 4 * n + 1 + i by omega, s2 i hi]
    refine congrArg (fun f => some (Sum.inl (0, 9, Sum.inl f))) (funext fun l => ?_)
    by_cases c : l = 0
    · rw [if_pos ⟨by omega, c⟩, if_pos c]
    · rw [if_neg (by omega), if_neg c]
  · rw [q3 q (by omega) (by omega) (by omega) (by omega) (by omega), f20 q h1, f19 q (by omega), f18 q h1, f17 q (by omega), f16 q h1, f15 q (by omega), f14 q h1, f13 q (by omega), f12 q h1, f11 q (by omega), i4 q h1 (by omega)]
