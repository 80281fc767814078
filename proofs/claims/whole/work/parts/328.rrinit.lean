/-! THE CLASS'S OBJECT IS MADE -/
abbrev jAr (t N : Nat) (f : Nat → Option Nat) : xE := .inl (t, N, .inr (.inr (.inr (.inr f))))
theorem jxsrE {ω : xS} {a v N i t ci : Nat} {f : Nat → Option Nat} {fs : List Value} (h : ω a = some (jAr t N f)) (hv : ω v = some (.inr (ci, fs))) (hi : i < N) (h2 : i < 2 ^ 31) : ∃ w, xsr ω t ci a (nI i) v = some w ∧ w a = some (jAr t N (fun j => if j = i then some v else f j)) ∧ ∀ q, q ≠ a → w q = ω q := by
  refine ⟨xu ω a (jAr t N (fun j => if j = i then some v else f j)), ?_, xu_self _ _ _, fun q hq => xu_ne _ _ hq⟩
  unfold xsr
  rw [h, hv]
  have e : (nI i).toNatClampNeg = i := nI_clamp h2
  show (if t = t ∧ ci = ci ∧ ¬ (nI i < 0 ∨ N ≤ (nI i).toNatClampNeg) then some (xu ω a (jAr t N (va_up f (nI i).toNatClampNeg (some v)))) else none) = _
  rw [if_pos ⟨rfl, rfl, jix hi h2⟩, e]
  rfl
theorem jI_125 {a0 aW aV b : Nat} {fs : List Value} (h6 : fs[6]? = some (.ref aW)) (h7 : fs[7]? = some (.ref aV)) (n1 : a0 < b) (n2 : aW < b) (n3 : aV < b) (n4 : a0 ≠ aW) (n5 : a0 ≠ aV) (n6 : aW ≠ aV) : ∀ (m k fu : Nat) (ω : xS), k + m = 16 → m + 1 ≤ fu → ω a0 = some (.inr (11, fs)) → ω aW = some (jAr 3 16 (fun i => if i < k then some (b + 16 * i) else none)) → ω aV = some (jAr 3 16 (fun i => if i < k then some (b + 16 * i + 8) else none)) → (∀ j, j < 2 * k → jIL ω (b + 8 * j) (b + 8 * j + 1)) → ∃ ω', f_RR_init_125 fu a0 (nI k) (b + 16 * k) ω = some (b + 256, ω') ∧ ω' aW = some (jAr 3 16 (fun i => if i < 16 then some (b + 16 * i) else none)) ∧ ω' aV = some (jAr 3 16 (fun i => if i < 16 then some (b + 16 * i + 8) else none)) ∧ (∀ j, j < 32 → jIL ω' (b + 8 * j) (b + 8 * j + 1)) ∧ ∀ q, q < b → q ≠ aW → q ≠ aV → ω' q = ω q
  | 0, k, fu, ω, hk, hf, h0, hW, hV, hl => by
    obtain ⟨fu, rfl⟩ : ∃ f, fu = f + 1 := ⟨fu - 1, by omega⟩
    have e : k = 16 := by omega
    subst e
    refine ⟨ω, ?_, hW, hV, fun j hj => hl j (by omega), fun _ _ _ _ => rfl⟩
    rw [f_RR_init_125, if_pos (show (16 : Int32) ≤ nI 16 by decide)]
  | m + 1, k, fu, ω, hk, hf, h0, hW, hV, hl => by
    obtain ⟨fu, rfl⟩ : ∃ f, fu = f + 1 := ⟨fu - 1, by omega⟩
    obtain ⟨w2, e2, b2, f2⟩ := jxuE ω (b + 16 * k) (.inr (4, [.null, .null, .int 0, .int 0, .int 0, .int 0, .int 0, .int 0, .int 0]))
    obtain ⟨w3, e3, c3, f3⟩ := jI_Law (z := b + 16 * k + 1) b2 (by omega)
    obtain ⟨w5, e5, b5, f5⟩ := jxsrE (i := k) ((f3 aW (by omega) (by omega)).trans ((f2 aW (by omega)).trans hW)) c3.o (by omega) (by omega)
    obtain ⟨w7, e7, b7, f7⟩ := jxuE w5 (b + 16 * k + 8) (.inr (4, [.null, .null, .int 0, .int 0, .int 0, .int 0, .int 0, .int 0, .int 0]))
    obtain ⟨w8, e8, c8, f8⟩ := jI_Law (z := b + 16 * k + 9) b7 (by omega)
    obtain ⟨w10, e10, b10, f10⟩ := jxsrE (i := k) ((f8 aV (by omega) (by omega)).trans ((f7 aV (by omega)).trans ((f5 aV (Ne.symm n6)).trans ((f3 aV (by omega) (by omega)).trans ((f2 aV (by omega)).trans hV))))) c8.o (by omega) (by omega)
    have fr : ∀ q, q < b + 16 * k → q ≠ aW → q ≠ aV → w10 q = ω q := fun q q1 q2 q3 => by rw [f10 q q3, f8 q (by omega) (by omega), f7 q (by omega), f5 q q2, f3 q (by omega) (by omega), f2 q (by omega)]
    have ek : nI k + 1 = nI (k + 1) := by rw [jlit, nI_add]
    have cW : (fun i => if i = k then some (b + 16 * k) else (if i < k then some (b + 16 * i) else none)) = (fun i => if i < k + 1 then some (b + 16 * i) else none) := by
      funext i
      by_cases c : i = k
      · rw [if_pos c, if_pos (by omega), c]
      · by_cases c2 : i < k
        · rw [if_neg c, if_pos c2, if_pos (by omega)]
        · rw [if_neg c, if_neg c2, if_neg (by omega)]
    have cV : (fun i => if i = k then some (b + 16 * k + 8) else (if i < k then some (b + 16 * i + 8) else none)) = (fun i => if i < k + 1 then some (b + 16 * i + 8) else none) := by
      funext i
      by_cases c : i = k
      · rw [if_pos c, if_pos (by omega), c]
      · by_cases c2 : i < k
        · rw [if_neg c, if_pos c2, if_pos (by omega)]
        · rw [if_neg c, if_neg c2, if_neg (by omega)]
    rw [cW] at b5
    rw [cV] at b10
    obtain ⟨ω', i1, i2, i3, i4, i5⟩ := jI_125 h6 h7 n1 n2 n3 n4 n5 n6 m (k + 1) fu w10 (by omega) (by omega) ((fr a0 (by omega) n4 n5).trans h0) (by rw [f10 _ n6, f8 _ (by omega) (by omega), f7 _ (by omega)]; exact b5) b10 (fun j hj => by
      by_cases c : j < 2 * k
      · exact (hl j c).fr (fun q hq => fr q (by omega) (by omega) (by omega))
      · by_cases c2 : j = 2 * k
        · rw [c2, show b + 8 * (2 * k) = b + 16 * k by omega]
          exact c3.fr (fun q hq => by rw [f10 q (by omega), f8 q (by omega) (by omega), f7 q (by omega), f5 q (by omega)])
        · rw [show b + 8 * j = b + 16 * k + 8 by omega]
          exact c8.fr (fun q hq => by rw [f10 q (by omega)]))
    refine ⟨ω', ?_, i2, i3, i4, fun q q1 q2 q3 => by rw [i5 q q1 q2 q3, fr q (by omega) q2 q3]⟩
    have g6 : xgr ω a0 11 6 = some aW := jxgrE h0 h6
    have g7 : xgr w5 a0 11 7 = some aV := jxgrE (by rw [f5 _ n4, f3 _ (by omega) (by omega), f2 _ (by omega)]; exact h0) h7
    rw [f_RR_init_125, if_neg (show ¬ (16 : Int32) ≤ nI k from fun z => by have := (nI_leI (a := 16) (by omega) (by omega)).mp z; omega), g6, Option.bind_some]
    simp only [xl]
    rw [e2, e3, Option.bind_some, e5, Option.bind_some, g7, Option.bind_some, e7, e8, Option.bind_some, e10, Option.bind_some, ek, show b + 16 * k + 16 = b + 16 * (k + 1) by omega]
    exact i1
/-- all cells of the class's side, z = a0 + 1 -/
def jIA (ω : xS) (a0 z n d : Nat) : Prop := (ω a0 = some (.inr (11, [.ref z, .ref (z + 17), .ref (z + 27 + 4 * n + d), .ref (z + 2), .ref (z + 28 + 4 * n + d), .ref (z + 6), .ref (z + 15), .ref (z + 16), .int 0]))) ∧ (ω z = some (.inr (9, [.ref (z + 1), .int 0]))) ∧ (ω (z + 1) = some (jA0 1500)) ∧ (ω (z + 2) = some (.inr (2, [.ref (z + 3), .ref (z + 4), .ref (z + 5), .int 0, .int 0]))) ∧ (ω (z + 3) = some (jA0 200)) ∧ (ω (z + 4) = some (jA0 200)) ∧ (ω (z + 5) = some (jA0 200)) ∧ (ω (z + 6) = some (.inr (1, [.ref (z + 7), .ref (z + 8), .ref (z + 9), .ref (z + 10), .ref (z + 11), .ref (z + 12), .ref (z + 13), .ref (z + 14), .int 0]))) ∧ (ω (z + 7) = some (jA0 1025)) ∧ (ω (z + 8) = some (jA0 1025)) ∧ (ω (z + 9) = some (jA0 9225)) ∧ (ω (z + 10) = some (jA0 2048)) ∧ (ω (z + 11) = some (jA0 1025)) ∧ (ω (z + 12) = some (jA0 1025)) ∧ (ω (z + 13) = some (jA1 1025)) ∧ (ω (z + 14) = some (jA1 1025)) ∧ (ω (z + 15) = some (jAr 3 16 (fun i => if i < 16 then some (z + 34 + 4 * n + d + 16 * i) else none))) ∧ (ω (z + 16) = some (jAr 3 16 (fun i => if i < 16 then some (z + 34 + 4 * n + d + 16 * i + 8) else none))) ∧ (jIR ω (z + 17) (z + 18) n d) ∧ (ω (z + 27 + 4 * n + d) = some (.inr (3, [.ref (z + 17)]))) ∧ (ω (z + 28 + 4 * n + d) = some (.inr (5, [.ref (z + 29 + 4 * n + d), .ref (z + 30 + 4 * n + d), .int (nI d), .int 0, .int (-2)]))) ∧ (ω (z + 29 + 4 * n + d) = some (.inr (10, [.ref z, .int 0, .int 0, .int 0]))) ∧ (ω (z + 30 + 4 * n + d) = some (.inr (6, [.ref z, .ref (z + 31 + 4 * n + d), .ref (z + 32 + 4 * n + d), .ref (z + 33 + 4 * n + d), .int 0, .int 0, .int 0, .int 0, .int 0, .int 0, .int 0, .int 0]))) ∧ (ω (z + 31 + 4 * n + d) = some (jA0 41)) ∧ (ω (z + 32 + 4 * n + d) = some (jA0 41)) ∧ (ω (z + 33 + 4 * n + d) = some (jA0 41)) ∧ (∀ i, i < 32 → jIL ω (z + 34 + 4 * n + d + 8 * i) (z + 34 + 4 * n + d + 8 * i + 1))
theorem jIA.o {ω : xS} {a0 z n d : Nat} (h : jIA ω a0 z n d) : ω a0 = some (.inr (11, [.ref z, .ref (z + 17), .ref (z + 27 + 4 * n + d), .ref (z + 2), .ref (z + 28 + 4 * n + d), .ref (z + 6), .ref (z + 15), .ref (z + 16), .int 0])) := h.1
theorem jIA.t {ω : xS} {a0 z n d : Nat} (h : jIA ω a0 z n d) : ω z = some (.inr (9, [.ref (z + 1), .int 0])) := h.2.1
theorem jIA.t1 {ω : xS} {a0 z n d : Nat} (h : jIA ω a0 z n d) : ω (z + 1) = some (jA0 1500) := h.2.2.1
theorem jIA.h {ω : xS} {a0 z n d : Nat} (h : jIA ω a0 z n d) : ω (z + 2) = some (.inr (2, [.ref (z + 3), .ref (z + 4), .ref (z + 5), .int 0, .int 0])) := h.2.2.2.1
theorem jIA.h1 {ω : xS} {a0 z n d : Nat} (h : jIA ω a0 z n d) : ω (z + 3) = some (jA0 200) := h.2.2.2.2.1
theorem jIA.h2 {ω : xS} {a0 z n d : Nat} (h : jIA ω a0 z n d) : ω (z + 4) = some (jA0 200) := h.2.2.2.2.2.1
theorem jIA.h3 {ω : xS} {a0 z n d : Nat} (h : jIA ω a0 z n d) : ω (z + 5) = some (jA0 200) := h.2.2.2.2.2.2.1
theorem jIA.m {ω : xS} {a0 z n d : Nat} (h : jIA ω a0 z n d) : ω (z + 6) = some (.inr (1, [.ref (z + 7), .ref (z + 8), .ref (z + 9), .ref (z + 10), .ref (z + 11), .ref (z + 12), .ref (z + 13), .ref (z + 14), .int 0])) := h.2.2.2.2.2.2.2.1
theorem jIA.m1 {ω : xS} {a0 z n d : Nat} (h : jIA ω a0 z n d) : ω (z + 7) = some (jA0 1025) := h.2.2.2.2.2.2.2.2.1
theorem jIA.m2 {ω : xS} {a0 z n d : Nat} (h : jIA ω a0 z n d) : ω (z + 8) = some (jA0 1025) := h.2.2.2.2.2.2.2.2.2.1
theorem jIA.m3 {ω : xS} {a0 z n d : Nat} (h : jIA ω a0 z n d) : ω (z + 9) = some (jA0 9225) := h.2.2.2.2.2.2.2.2.2.2.1
theorem jIA.m4 {ω : xS} {a0 z n d : Nat} (h : jIA ω a0 z n d) : ω (z + 10) = some (jA0 2048) := h.2.2.2.2.2.2.2.2.2.2.2.1
theorem jIA.m5 {ω : xS} {a0 z n d : Nat} (h : jIA ω a0 z n d) : ω (z + 11) = some (jA0 1025) := h.2.2.2.2.2.2.2.2.2.2.2.2.1
theorem jIA.m6 {ω : xS} {a0 z n d : Nat} (h : jIA ω a0 z n d) : ω (z + 12) = some (jA0 1025) := h.2.2.2.2.2.2.2.2.2.2.2.2.2.1
theorem jIA.m7 {ω : xS} {a0 z n d : Nat} (h : jIA ω a0 z n d) : ω (z + 13) = some (jA1 1025) := h.2.2.2.2.2.2.2.2.2.2.2.2.2.2.1
theorem jIA.m8 {ω : xS} {a0 z n d : Nat} (h : jIA ω a0 z n d) : ω (z + 14) = some (jA1 1025) := h.2.2.2.2.2.2.2.2.2.2.2.2.2.2.2.1
theorem jIA.w {ω : xS} {a0 z n d : Nat} (h : jIA ω a0 z n d) : ω (z + 15) = some (jAr 3 16 (fun i => if i < 16 then some (z + 34 + 4 * n + d + 16 * i) else none)) := h.2.2.2.2.2.2.2.2.2.2.2.2.2.2.2.2.1
theorem jIA.v {ω : xS} {a0 z n d : Nat} (h : jIA ω a0 z n d) : ω (z + 16) = some (jAr 3 16 (fun i => if i < 16 then some (z + 34 + 4 * n + d + 16 * i + 8) else none)) := h.2.2.2.2.2.2.2.2.2.2.2.2.2.2.2.2.2.1
theorem jIA.r {ω : xS} {a0 z n d : Nat} (h : jIA ω a0 z n d) : jIR ω (z + 17) (z + 18) n d := h.2.2.2.2.2.2.2.2.2.2.2.2.2.2.2.2.2.2.1
theorem jIA.j {ω : xS} {a0 z n d : Nat} (h : jIA ω a0 z n d) : ω (z + 27 + 4 * n + d) = some (.inr (3, [.ref (z + 17)])) := h.2.2.2.2.2.2.2.2.2.2.2.2.2.2.2.2.2.2.2.1
theorem jIA.l {ω : xS} {a0 z n d : Nat} (h : jIA ω a0 z n d) : ω (z + 28 + 4 * n + d) = some (.inr (5, [.ref (z + 29 + 4 * n + d), .ref (z + 30 + 4 * n + d), .int (nI d), .int 0, .int (-2)])) := h.2.2.2.2.2.2.2.2.2.2.2.2.2.2.2.2.2.2.2.2.1
theorem jIA.l1 {ω : xS} {a0 z n d : Nat} (h : jIA ω a0 z n d) : ω (z + 29 + 4 * n + d) = some (.inr (10, [.ref z, .int 0, .int 0, .int 0])) := h.2.2.2.2.2.2.2.2.2.2.2.2.2.2.2.2.2.2.2.2.2.1
theorem jIA.l2 {ω : xS} {a0 z n d : Nat} (h : jIA ω a0 z n d) : ω (z + 30 + 4 * n + d) = some (.inr (6, [.ref z, .ref (z + 31 + 4 * n + d), .ref (z + 32 + 4 * n + d), .ref (z + 33 + 4 * n + d), .int 0, .int 0, .int 0, .int 0, .int 0, .int 0, .int 0, .int 0])) := h.2.2.2.2.2.2.2.2.2.2.2.2.2.2.2.2.2.2.2.2.2.2.1
theorem jIA.l3 {ω : xS} {a0 z n d : Nat} (h : jIA ω a0 z n d) : ω (z + 31 + 4 * n + d) = some (jA0 41) := h.2.2.2.2.2.2.2.2.2.2.2.2.2.2.2.2.2.2.2.2.2.2.2.1
theorem jIA.l4 {ω : xS} {a0 z n d : Nat} (h : jIA ω a0 z n d) : ω (z + 32 + 4 * n + d) = some (jA0 41) := h.2.2.2.2.2.2.2.2.2.2.2.2.2.2.2.2.2.2.2.2.2.2.2.2.1
theorem jIA.l5 {ω : xS} {a0 z n d : Nat} (h : jIA ω a0 z n d) : ω (z + 33 + 4 * n + d) = some (jA0 41) := h.2.2.2.2.2.2.2.2.2.2.2.2.2.2.2.2.2.2.2.2.2.2.2.2.2.1
theorem jIA.y {ω : xS} {a0 z n d : Nat} (h : jIA ω a0 z n d) : ∀ i, i < 32 → jIL ω (z + 34 + 4 * n + d + 8 * i) (z + 34 + 4 * n + d + 8 * i + 1) := h.2.2.2.2.2.2.2.2.2.2.2.2.2.2.2.2.2.2.2.2.2.2.2.2.2.2
theorem jIR.fr {ω ω' : xS} {a0 z n d : Nat} (h : jIR ω a0 z n d) (e : ∀ q, q = a0 ∨ (z ≤ q ∧ q < z + 9 + 4 * n + d) → ω' q = ω q) : jIR ω' a0 z n d := ⟨by rw [e _ (by omega)]; exact h.o, by rw [e _ (by omega)]; exact h.b, by rw [e _ (by omega)]; exact h.l, by rw [e _ (by omega)]; exact h.s, by rw [e _ (by omega)]; exact h.k, by rw [e _ (by omega)]; exact h.r, fun i hi => by rw [e _ (by omega)]; exact h.r1 i hi, by rw [e _ (by omega)]; exact h.w, fun i hi => by rw [e _ (by omega)]; exact h.w1 i hi, by rw [e _ (by omega)]; exact h.v, fun i hi => by rw [e _ (by omega)]; exact h.v1 i hi, by rw [e _ (by omega)]; exact h.f, fun i hi => by rw [e _ (by omega)]; exact h.f1 i hi, by rw [e _ (by omega)]; exact h.t, fun i hi => by rw [e _ (by omega)]; exact h.t1 i hi⟩
theorem jI_RR {ω : xS} {a0 z n d : Nat} {x1 x2 : Int32} (h : ω a0 = some (.inr (11, [.null, .null, .null, .null, .null, .null, .null, .null, .int 0]))) (hz : z = a0 + 1) (e1 : xmax 1 (xmin 8 x1) = nI n) (e2 : xmax 1 (xmin 21 x2) = nI d) (n1 : 1 ≤ n) (n8 : n ≤ 8) (d1 : 1 ≤ d) (d21 : d ≤ 21) : ∃ ω', f_RR_init a0 x1 x2 z ω = some (z + 290 + 4 * n + d, ω') ∧ jIA ω' a0 z n d ∧ ∀ q, q < a0 → ω' q = ω q := by
  have en : (nI n).toNatClampNeg = n := nI_clamp (by omega)
  have ed : (nI d).toNatClampNeg = d := nI_clamp (by omega)
  have aR : z + 18 + 4 + 1 + n + 1 + n + 1 + n + 1 + n + 1 + d = z + 27 + 4 * n + d := by omega
  have aR1 : z + 27 + 4 * n + d + 1 = z + 28 + 4 * n + d := by omega
  have aR2 : z + 27 + 4 * n + d + 2 = z + 29 + 4 * n + d := by omega
  have aR7 : z + 27 + 4 * n + d + 7 = z + 34 + 4 * n + d := by omega
  obtain ⟨w1, g1, b1, f1⟩ := jxuE ω z (.inr (9, [.null, .int 0]))
  obtain ⟨w2, g2, b2, c2, f2⟩ := jI_Tape (z := z + 1) b1 (by omega)
  obtain ⟨w4, g4, b4, f4⟩ := jxpE (k := 0) (v := .ref z) ((f2 a0 (by omega) (by omega)).trans ((f1 a0 (by omega)).trans h)) (Nat.le_of_ble_eq_true rfl)
  obtain ⟨w5, g5, b5, f5⟩ := jxuE w4 (z + 2) (.inr (2, [.null, .null, .null, .int 0, .int 0]))
  obtain ⟨w6, g6, b6, c61, c62, c63, f6⟩ := jI_History (z := z + 3) b5 (by omega)
  obtain ⟨w8, g8, b8, f8⟩ := jxpE (k := 3) (v := .ref (z + 2)) ((f6 a0 (by omega) (by omega)).trans ((f5 a0 (by omega)).trans b4)) (Nat.le_of_ble_eq_true rfl)
  obtain ⟨w9, g9, b9, f9⟩ := jxuE w8 (z + 6) (.inr (1, [.null, .null, .null, .null, .null, .null, .null, .null, .int 0]))
  obtain ⟨w10, g10, b10, d1', d2', d3', d4', d5', d6', d7', d8', f10⟩ := jI_Maker (z := z + 7) b9 (by omega)
  obtain ⟨w12, g12, b12, f12⟩ := jxpE (k := 5) (v := .ref (z + 6)) ((f10 a0 (by omega) (by omega)).trans ((f9 a0 (by omega)).trans b8)) (Nat.le_of_ble_eq_true rfl)
  obtain ⟨w13, g13, b13, f13⟩ := jxuE w12 (z + 15) (jAr 3 16 (fun _ => none))
  obtain ⟨w14, g14, b14, f14⟩ := jxpE (k := 6) (v := .ref (z + 15)) ((f13 a0 (by omega)).trans b12) (Nat.le_of_ble_eq_true rfl)
  obtain ⟨w15, g15, b15, f15⟩ := jxuE w14 (z + 16) (jAr 3 16 (fun _ => none))
  obtain ⟨w16, g16, b16, f16⟩ := jxpE (k := 7) (v := .ref (z + 16)) ((f15 a0 (by omega)).trans b14) (Nat.le_of_ble_eq_true rfl)
  obtain ⟨w17, g17, b17, f17⟩ := jxuE w16 (z + 17) (.inr (8, [.int 0, .int 0, .null, .null, .null, .null, .null, .null, .null, .null, .null, .int 0, .int 0]))
  obtain ⟨w18, g18, hR, f18⟩ := jI_Roster (z := z + 18) b17 (by omega) n1 n8 d1 d21
  obtain ⟨w20, g20, b20, f20⟩ := jxpE (k := 1) (v := .ref (z + 17)) ((f18 a0 (by omega) (by omega)).trans ((f17 a0 (by omega)).trans b16)) (Nat.le_of_ble_eq_true rfl)
  obtain ⟨w21, g21, b21, f21⟩ := jxuE w20 (z + 27 + 4 * n + d) (.inr (3, [.null]))
  have t22 : xgr w21 a0 11 1 = some (z + 17) := jxgrE ((f21 a0 (by omega)).trans b20) rfl
  obtain ⟨w23, g23, b23, f23⟩ := jxpE (k := 0) (v := .ref (z + 17)) b21 (Nat.le_of_ble_eq_true rfl)
  obtain ⟨w25, g25, b25, f25⟩ := jxpE (k := 2) (v := .ref (z + 27 + 4 * n + d)) ((f23 a0 (by omega)).trans ((f21 a0 (by omega)).trans b20)) (Nat.le_of_ble_eq_true rfl)
  obtain ⟨w26, g26, b26, f26⟩ := jxuE w25 (z + 28 + 4 * n + d) (.inr (5, [.null, .null, .int 0, .int 0, .int 0]))
  have h26 := (f26 a0 (by omega)).trans b25
  have t27 : xgr w26 a0 11 0 = some z := jxgrE h26 rfl
  have t28 : xgr w26 a0 11 1 = some (z + 17) := jxgrE h26 rfl
  have o26 := (f26 (z + 17) (by omega)).trans ((f25 (z + 17) (by omega)).trans ((f23 (z + 17) (by omega)).trans ((f21 (z + 17) (by omega)).trans ((f20 (z + 17) (by omega)).trans hR.o))))
  have t29 : xgi w26 (z + 17) 8 1 = some (nI d) := jxgiE o26 rfl
  obtain ⟨w30, g30, b30, k1, k2, k3, k4, k5, f30⟩ := jI_Reader (t := z) (x := nI d) (z := z + 29 + 4 * n + d) b26 (by omega)
  obtain ⟨w32, g32, b32, f32⟩ := jxpE (k := 4) (v := .ref (z + 28 + 4 * n + d)) ((f30 a0 (by omega) (by omega)).trans h26) (Nat.le_of_ble_eq_true rfl)
  have hi : ∀ q, q ≠ a0 → q < z + 27 + 4 * n + d → w32 q = w20 q := fun q q1 q2 => by rw [f32 q q1, f30 q (by omega) (by omega), f26 q (by omega), f25 q q1, f23 q (by omega), f21 q (by omega)]
  have hlo : ∀ q, q ≠ a0 → q < z + 17 → w32 q = w16 q := fun q q1 q2 => by rw [hi q q1 (by omega), f20 q q1, f18 q (by omega) (by omega), f17 q (by omega)]
  obtain ⟨w33, i1, i2, i3, i4, i5⟩ := jI_125 (a0 := a0) (aW := z + 15) (aV := z + 16) (b := z + 34 + 4 * n + d) (fs := [.ref z, .ref (z + 17), .ref (z + 27 + 4 * n + d), .ref (z + 2), .ref (z + 28 + 4 * n + d), .ref (z + 6), .ref (z + 15), .ref (z + 16), .int 0]) rfl rfl (by omega) (by omega) (by omega) (by omega) (by omega) (by omega) 16 0 xFU w32 (by omega) (by unfold xFU; omega) b32 (by rw [hlo _ (by omega) (by omega), f16 _ (by omega), f15 _ (by omega), f14 _ (by omega)]; exact b13) (by rw [hlo _ (by omega) (by omega), f16 _ (by omega)]; exact b15) (fun j hj => by omega)
  have fin : ∀ q, q < z + 34 + 4 * n + d → q ≠ z + 15 → q ≠ z + 16 → w33 q = w32 q := i5
  have lo : ∀ q, q ≠ a0 → q < z + 15 → w33 q = w12 q := fun q q1 q2 => by rw [fin q (by omega) (by omega) (by omega), hlo q q1 (by omega), f16 q q1, f15 q (by omega), f14 q q1, f13 q (by omega)]
  have lo8 : ∀ q, q ≠ a0 → q < z + 6 → w33 q = w8 q := fun q q1 q2 => by rw [lo q q1 (by omega), f12 q q1, f10 q (by omega) (by omega), f9 q (by omega)]
  have lo4 : ∀ q, q ≠ a0 → q < z + 2 → w33 q = w4 q := fun q q1 q2 => by rw [lo8 q q1 (by omega), f8 q q1, f6 q (by omega) (by omega), f5 q (by omega)]
  refine ⟨w33, ?_, ⟨?_, ?_, ?_, ?_, ?_, ?_, ?_, ?_, ?_, ?_, ?_, ?_, ?_, ?_, ?_, ?_, i2, i3, ?_, ?_, ?_, ?_, ?_, ?_, ?_, ?_, i4⟩, fun q hq => ?_⟩
  · unfold f_RR_init f_Judge_init
    simp only [xl, e1, e2, en, ed, aR, aR1, aR2, aR7]
    rw [g1, g2, Option.bind_some, g4, Option.bind_some, g5, g6, Option.bind_some, g8, Option.bind_some, g9, g10, Option.bind_some, g12, Option.bind_some, g13, g14, Option.bind_some, g15, g16, Option.bind_some, g17, g18, Option.bind_some, g20, Option.bind_some, g21, t22, Option.bind_some, g23, Option.bind_some, Option.bind_some, g25, Option.bind_some, g26, t27, Option.bind_some, t28, Option.bind_some, t29, Option.bind_some, g30, Option.bind_some, g32, Option.bind_some]
    have i1 : f_RR_init_125 xFU a0 0 (z + 34 + 4 * n + d) w32 = some (z + 34 + 4 * n + d + 256, w33) := i1
    rw [i1]
    exact congrArg (fun q => some (q, w33)) (by omega)
  · rw [fin _ (by omega) (by omega) (by omega)]; exact b32
  · rw [lo4 _ (by omega) (by omega), f4 _ (by omega)]; exact b2
  · rw [lo4 _ (by omega) (by omega), f4 _ (by omega)]; exact c2
  · rw [lo8 _ (by omega) (by omega), f8 _ (by omega)]; exact b6
  · rw [lo8 _ (by omega) (by omega), f8 _ (by omega)]; exact c61
  · rw [lo8 _ (by omega) (by omega), f8 _ (by omega)]; exact c62
  · rw [lo8 _ (by omega) (by omega), f8 _ (by omega)]; exact c63
  · rw [lo _ (by omega) (by omega), f12 _ (by omega)]; exact b10
  · rw [lo _ (by omega) (by omega), f12 _ (by omega)]; exact d1'
  · rw [lo _ (by omega) (by omega), f12 _ (by omega)]; exact d2'
  · rw [lo _ (by omega) (by omega), f12 _ (by omega)]; exact d3'
  · rw [lo _ (by omega) (by omega), f12 _ (by omega)]; exact d4'
  · rw [lo _ (by omega) (by omega), f12 _ (by omega)]; exact d5'
  · rw [lo _ (by omega) (by omega), f12 _ (by omega)]; exact d6'
  · rw [lo _ (by omega) (by omega), f12 _ (by omega)]; exact d7'
  · rw [lo _ (by omega) (by omega), f12 _ (by omega)]; exact d8'
  · exact hR.fr (fun q hq => by rw [fin q (by omega) (by omega) (by omega), hi q (by omega) (by omega), f20 q (by omega)])
  · rw [fin _ (by omega) (by omega) (by omega), f32 _ (by omega), f30 _ (by omega) (by omega), f26 _ (by omega), f25 _ (by omega)]; exact b23
  · rw [fin _ (by omega) (by omega) (by omega), f32 _ (by omega)]
    rw [show z + 29 + 4 * n + d + 1 = z + 30 + 4 * n + d by omega] at b30
    exact b30
  · rw [fin _ (by omega) (by omega) (by omega), f32 _ (by omega)]; exact k1
  · rw [fin _ (by omega) (by omega) (by omega), f32 _ (by omega)]
    rw [show z + 29 + 4 * n + d + 1 = z + 30 + 4 * n + d by omega, show z + 29 + 4 * n + d + 2 = z + 31 + 4 * n + d by omega, show z + 29 + 4 * n + d + 3 = z + 32 + 4 * n + d by omega, show z + 29 + 4 * n + d + 4 = z + 33 + 4 * n + d by omega] at k2
    exact k2
  · rw [fin _ (by omega) (by omega) (by omega), f32 _ (by omega), show z + 31 + 4 * n + d = z + 29 + 4 * n + d + 2 by omega]; exact k3
  · rw [fin _ (by omega) (by omega) (by omega), f32 _ (by omega), show z + 32 + 4 * n + d = z + 29 + 4 * n + d + 3 by omega]; exact k4
  · rw [fin _ (by omega) (by omega) (by omega), f32 _ (by omega), show z + 33 + 4 * n + d = z + 29 + 4 * n + d + 4 by omega]; exact k5
  · rw [lo4 q (by omega) (by omega), f4 q (by omega), f2 q (by omega) (by omega), f1 q (by omega)]
