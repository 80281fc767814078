/-! steps downhill -/
def jz (b : Int) : Int64 := Int64.ofInt b
theorem jzT {b : Int} (h1 : -(2 ^ 62) ≤ b) (h2 : b ≤ 2 ^ 62) : (jz b).toInt = b := by
  unfold jz
  rw [Int64.toInt_ofInt]
  change b.bmod (2 ^ 64) = b
  apply Int.bmod_eq_of_le <;> omega
theorem jzle {a b : Int} (h1 : -(2 ^ 62) ≤ a) (h2 : a ≤ 2 ^ 62) (h3 : -(2 ^ 62) ≤ b) (h4 : b ≤ 2 ^ 62) : jz a ≤ jz b ↔ a ≤ b := by
  rw [Int64.le_iff_toInt_le, jzT h1 h2, jzT h3 h4]
theorem jzsub {a c : Nat} (ha : a < 2 ^ 62) (hc : c < 2 ^ 62) : lN a - lN c = jz ((a : Int) - c) := by
  apply jlEq
  rw [jlS ha hc, jzT (by omega) (by omega)]
/-- the steepest so far: by how much, person, day, letter -/
abbrev jQ : Type := Int × Nat × Nat × Nat
def jup (s : jQ) (p t l : Nat) (d : Int) : jQ := if d < s.1 then (d, p, t, l) else s
def jdv (w : jLw) (A : jR) (L : jL) (p t l : Nat) : Int := (jnr w (jR.put A p t l) L p t : Int) - jnr w A L p t
/-- the first l letters of a cell -/
def jfl9 (w : jLw) (A : jR) (L : jL) (p t : Nat) (s : jQ) : Nat → jQ
  | 0 => s
  | l + 1 => jup (jfl9 w A L p t s l) p t l (jdv w A L p t l)
def jcl (w : jLw) (A : jR) (L : jL) (p t : Nat) (s : jQ) : jQ := jup s p t (jbl w A L p t) (jdv w A L p t (jbl w A L p t))
theorem jfl9_is (w : jLw) (A : jR) (L : jL) (p t : Nat) (s : jQ) : jfl9 w A L p t s 9 = jcl w A L p t s := by
  have key : ∀ k, jfl9 w A L p t s (k + 1) = jup s p t (jam (fun l => jnr w (jR.put A p t l) L p t) k) (jdv w A L p t (jam (fun l => jnr w (jR.put A p t l) L p t) k)) := by
    intro k
    induction k with
    | zero => rfl
    | succ k ih =>
      rw [jfl9, ih]
      have e : jam (fun l => jnr w (jR.put A p t l) L p t) (k + 1) = if jnr w (jR.put A p t (k + 1)) L p t < jnr w (jR.put A p t (jam (fun l => jnr w (jR.put A p t l) L p t) k)) L p t then k + 1 else jam (fun l => jnr w (jR.put A p t l) L p t) k := rfl
      rw [e]
      generalize jam (fun l => jnr w (jR.put A p t l) L p t) k = m
      unfold jup
      by_cases c1 : jdv w A L p t m < s.1
      · rw [if_pos c1]
        by_cases c2 : jnr w (jR.put A p t (k + 1)) L p t < jnr w (jR.put A p t m) L p t
        · have c3 : jdv w A L p t (k + 1) < jdv w A L p t m := by unfold jdv; omega
          rw [if_pos c2, if_pos c3, if_pos (by omega)]
        · have c3 : ¬ jdv w A L p t (k + 1) < jdv w A L p t m := by unfold jdv; omega
          rw [if_neg c2, if_neg c3, if_pos c1]
      · rw [if_neg c1]
        by_cases c2 : jnr w (jR.put A p t (k + 1)) L p t < jnr w (jR.put A p t m) L p t
        · rw [if_pos c2]
        · have c3 : ¬ jdv w A L p t (k + 1) < s.1 := by unfold jdv at c1 ⊢; omega
          rw [if_neg c2, if_neg c3, if_neg c1]
  exact key 8
/-- the first t cells of a person, the first p people -/
def jrw (w : jLw) (A : jR) (L : jL) (p : Nat) (s : jQ) : Nat → jQ
  | 0 => s
  | t + 1 => jcl w A L p t (jrw w A L p s t)
def jall (w : jLw) (A : jR) (L : jL) : Nat → jQ
  | 0 => (0, 0, 0, 0)
  | p + 1 => jrw w A L p (jall w A L p) (jd L)
/-- a state that the looking may have: nothing found, or a cell -/
def jqg (L : jL) (s : jQ) : Prop := -(2 ^ 62) ≤ s.1 ∧ s.1 ≤ 0 ∧ s.2.1 < jn L ∧ s.2.2.1 < jd L ∧ s.2.2.2 ≤ 8 ∧ (s.1 = 0 → s = (0, 0, 0, 0))
theorem jup_good {L : jL} {s : jQ} (hs : jqg L s) {p t l : Nat} {d : Int} (hp : p < jn L) (ht : t < jd L) (hl : l ≤ 8) (hd : -(2 ^ 62) ≤ d) : jqg L (jup s p t l d) := by
  unfold jup
  split
  · exact ⟨hd, by have := hs.2.1; omega, hp, ht, hl, fun q => by have := hs.2.1; simp at q; omega⟩
  · exact hs
theorem jdv_b {L : jL} (hD : jdim L) {A : jR} (hA : jRg A) {w : jLw} (hw : jLg L w) (p t : Nat) {l : Nat} (hl : l ≤ 8) : -(2 ^ 62) ≤ jdv w A L p t l ∧ jdv w A L p t l ≤ 2 ^ 62 := by
  have b1 := jnr_lt hD (jR.put_good hA (p := p) (t := t) hl) hw p t
  have b2 := jnr_lt hD hA hw p t
  unfold jdv
  omega
theorem jbl_le (w : jLw) (A : jR) (L : jL) (p t : Nat) : jbl w A L p t ≤ 8 := jam_le _ 8
theorem jcl_good {L : jL} (hD : jdim L) {A : jR} (hA : jRg A) {w : jLw} (hw : jLg L w) {s : jQ} (hs : jqg L s) {p t : Nat} (hp : p < jn L) (ht : t < jd L) : jqg L (jcl w A L p t s) := jup_good hs hp ht (jbl_le w A L p t) (jdv_b hD hA hw p t (jbl_le w A L p t)).1
theorem jrw_good {L : jL} (hD : jdim L) {A : jR} (hA : jRg A) {w : jLw} (hw : jLg L w) {s : jQ} (hs : jqg L s) {p : Nat} (hp : p < jn L) : ∀ t, t ≤ jd L → jqg L (jrw w A L p s t)
  | 0, _ => hs
  | t + 1, h => jcl_good hD hA hw (jrw_good hD hA hw hs hp t (by omega)) hp (by omega)
theorem jall_good {L : jL} (hD : jdim L) {A : jR} (hA : jRg A) {w : jLw} (hw : jLg L w) : ∀ p, p ≤ jn L → jqg L (jall w A L p)
  | 0, _ => ⟨by show -(2 ^ 62) ≤ (0 : Int); omega, Int.le_refl 0, by have := hD.n1; show 0 < jn L; omega, by have := hD.d1; show 0 < jd L; omega, Nat.zero_le _, fun _ => rfl⟩
  | p + 1, h => jrw_good hD hA hw (jall_good hD hA hw p (by omega)) (by omega) (jd L) (Nat.le_refl _)
/-! the class's looking -/
theorem jRR_step28 {L : jL} (hL : jgood L) (hD : jdim L) {ω : xS} {S : jSt} {A : jR} (hA : jRg A) {sw ps wy : Nat} (hK : jLK S sw ps wy) {w : jLw} (hw : jLg L w) (h : jRC L S A) (hC : jLC L S w sw) {p : Nat} {s : jQ} (hs : jqg L s) (hp : p < jn L) {k13 : Nat → Int64 → Int32 → Int32 → Int32 → Int32 → xS → Option (Int32 × xS)} : f_RR_stepDown_28 k13 xFU (jad L (jo 0)) (jz s.1) (nI s.2.1) (nI s.2.2.1) (nI s.2.2.2) (nI p) (nI 0) (jW L ω S) = k13 (jad L (jo 0)) (jz (jrw w A L p s (jd L)).1) (nI (jrw w A L p s (jd L)).2.1) (nI (jrw w A L p s (jd L)).2.2.1) (nI (jrw w A L p s (jd L)).2.2.2) (nI (p + 1)) (jW L ω S) := by
  have h2 := hD.d21
  have h8 := hD.n8
  refine jlpx (fun n i (x : jQ) => f_RR_stepDown_28 k13 n (jad L (jo 0)) (jz x.1) (nI x.2.1) (nI x.2.2.1) (nI x.2.2.2) (nI p) (nI i) (jW L ω S)) (fun i => jrw w A L p s i) (lo := 0) (hi := jd L) (Nat.zero_le _) (by omega) ?_ ?_
  · intro n i _ hi
    have hq := jrw_good hD hA hw hs hp i (by omega)
    have hb := jbl_le w A L p i
    have e1 := jRR_bestLetter hL hD hA hK (ω := ω) hw h hC hp hi
    have e2 := jRR_diff hL hD hA hK (ω := ω) hw h hC hp hi hb
    have e3 := jdn hw (A := A) (p := p) (t := i) (l := jbl w A L p i) hi
    have b1 := jar_lt hD (jR.put_good hA (p := p) (t := i) hb) hw p hi
    have b2 := jar_lt hD hA hw p hi
    have hd := jdv_b hD hA hw p i hb
    have e4 : ((jar w (jR.put A p i (jbl w A L p i)) L p i : Int) - jar w A L p i) = jdv w A L p i (jbl w A L p i) := by unfold jdv; omega
    rw [jzsub b1 b2, e4] at e2
    rw [f_RR_stepDown_28, jrw]
    generalize jrw w A L p s i = q at hq ⊢
    have hq1 := hq.1
    have hq2 := hq.2.1
    simp (disch := first | omega | rfl | assumption | exact jokr (by decide) (by omega) | exact jokr4 (by omega) | exact jkt_r _ _ | exact jkt_l (by decide) | exact jfk_l (by decide) | exact jkt_t _ | exact jkt_r6 _ _ | exact jkt_t6 _ | (simp only [jok, jlen]; omega) | decide) only [jm_k hL, jm_gi hL, jm_gr hL, jm_gl hL, jm_pi hL, jm_pl hL, jn_ai hL, jn_ab hL, jn_az hL, jn_al hL, jn_ar hL, jn_an hL, jn_si hL, jn_sb hL, jn_sz hL, jn_sl hL, Option.bind_some, xc, xl, jsA_X, jsI_X, jsG_X, hK _ _, jlk, jmx, jlit, jlitl, jmul, nI_add, lN_add, nI_leI, nI_ltI, nI_eq, jm1, jm1g, jm1e, jm1c, h.d, if_neg, e1, e2, jcge, jzle]
    unfold jcl jup
    by_cases c : q.1 ≤ jdv w A L p i (jbl w A L p i)
    · rw [if_pos c, if_neg (by omega)]
    · rw [if_neg c, if_pos (by omega)]
  · intro n
    rw [f_RR_stepDown_28]
    simp (disch := first | omega | rfl | assumption | exact jokr (by decide) (by omega) | exact jokr4 (by omega) | exact jkt_r _ _ | exact jkt_l (by decide) | exact jfk_l (by decide) | exact jkt_t _ | exact jkt_r6 _ _ | exact jkt_t6 _ | (simp only [jok, jlen]; omega) | decide) only [jm_k hL, jm_gi hL, jm_gr hL, jm_gl hL, jm_pi hL, jm_pl hL, jn_ai hL, jn_ab hL, jn_az hL, jn_al hL, jn_ar hL, jn_an hL, jn_si hL, jn_sb hL, jn_sz hL, jn_sl hL, Option.bind_some, xc, xl, jsA_X, jsI_X, jsG_X, hK _ _, jlk, jmx, jlit, jlitl, jmul, nI_add, lN_add, nI_leI, nI_ltI, nI_eq, jm1, jm1g, jm1e, jm1c, h.d, if_pos]
theorem jRR_step {L : jL} (hL : jgood L) (hD : jdim L) {ω : xS} {S : jSt} {A : jR} (hA : jRg A) {sw ps wy : Nat} (hK : jLK S sw ps wy) {w : jLw} (hw : jLg L w) (h : jRC L S A) (hC : jLC L S w sw) : f_RR_stepDown (jad L (jo 0)) (jW L ω S) = if (jall w A L (jn L)).1 < 0 then (f_RR_keepCell (jad L (jo 0)) (nI (jall w A L (jn L)).2.1) (nI (jall w A L (jn L)).2.2.1) (nI (jall w A L (jn L)).2.2.2) (jW L ω S)).bind fun w8 => some (nI 1, w8) else some (nI 0, jW L ω S) := by
  have h8 := hD.n8
  unfold f_RR_stepDown
  refine jlpx (fun n i (x : jQ) => f_RR_stepDown_13 n (jad L (jo 0)) (jz x.1) (nI x.2.1) (nI x.2.2.1) (nI x.2.2.2) (nI i) (jW L ω S)) (fun i => jall w A L i) (lo := 0) (hi := jn L) (Nat.zero_le _) (by omega) ?_ ?_
  · intro n i _ hi
    have hq := jall_good hD hA hw i (by omega)
    rw [f_RR_stepDown_13, jall]
    simp (disch := first | omega | rfl | assumption | exact jokr (by decide) (by omega) | exact jokr4 (by omega) | exact jkt_r _ _ | exact jkt_l (by decide) | exact jfk_l (by decide) | exact jkt_t _ | exact jkt_r6 _ _ | exact jkt_t6 _ | (simp only [jok, jlen]; omega) | decide) only [jm_k hL, jm_gi hL, jm_gr hL, jm_gl hL, jm_pi hL, jm_pl hL, jn_ai hL, jn_ab hL, jn_az hL, jn_al hL, jn_ar hL, jn_an hL, jn_si hL, jn_sb hL, jn_sz hL, jn_sl hL, Option.bind_some, xc, xl, jsA_X, jsI_X, jsG_X, hK _ _, jlk, jmx, jlit, jlitl, jmul, nI_add, lN_add, nI_leI, nI_ltI, nI_eq, jm1, jm1g, jm1e, jm1c, h.n, if_neg]
    rw [jRR_step28 hL hD hA hK hw h hC hq hi]
  · intro n
    have hq := jall_good hD hA hw (jn L) (Nat.le_refl _)
    rw [f_RR_stepDown_13]
    generalize jall w A L (jn L) = q at hq ⊢
    have hq1 := hq.1
    have hq2 := hq.2.1
    have z0 : lN 0 = jz 0 := rfl
    simp (disch := first | omega | rfl | assumption | exact jokr (by decide) (by omega) | exact jokr4 (by omega) | exact jkt_r _ _ | exact jkt_l (by decide) | exact jfk_l (by decide) | exact jkt_t _ | exact jkt_r6 _ _ | exact jkt_t6 _ | (simp only [jok, jlen]; omega) | decide) only [jm_k hL, jm_gi hL, jm_gr hL, jm_gl hL, jm_pi hL, jm_pl hL, jn_ai hL, jn_ab hL, jn_az hL, jn_al hL, jn_ar hL, jn_an hL, jn_si hL, jn_sb hL, jn_sz hL, jn_sl hL, Option.bind_some, xc, xl, jsA_X, jsI_X, jsG_X, hK _ _, jlk, jmx, jlit, jlitl, jmul, nI_add, lN_add, nI_leI, nI_ltI, nI_eq, jm1, jm1g, jm1e, jm1c, h.n, if_pos, jcge, z0, jzle]
    by_cases c : q.1 < 0
    · rw [if_pos c, if_neg (by omega)]
      simp only [if_neg (show ¬ 0 ≤ q.1 by omega)]
    · rw [if_neg c, if_pos (by omega)]
/-! the reference's looking -/
def jcc (s : jQ) : Int32 := if s.1 < 0 then nI (21 * s.2.1 + s.2.2.1) else -nI 1
theorem jfl9_good {L : jL} (hD : jdim L) {A : jR} (hA : jRg A) {w : jLw} (hw : jLg L w) {s : jQ} (hs : jqg L s) {p t : Nat} (hp : p < jn L) (ht : t < jd L) : ∀ l, l ≤ 9 → jqg L (jfl9 w A L p t s l)
  | 0, _ => hs
  | l + 1, h => jup_good (jfl9_good hD hA hw hs hp ht l (by omega)) hp ht (by omega) (jdv_b hD hA hw p t (by omega)).1
theorem jMo_desc60 {L : jL} (hL : jgood L) (hD : jdim L) {ω : xS} {S : jSt} {A : jR} (hA : jRg A) {sw ps wy : Nat} (hK : jLK S sw ps wy) {w : jLw} (hw : jLg L w) (h : jRM L S A) (hM : jLM S w) {p t : Nat} {x1 x2 : Int32} {s : jQ} (hs : jqg L s) (hp : p < jn L) (ht : t < jd L) {k15 : Nat → Int32 → Int32 → Int32 → xS → Option (Int32 × xS)} {k36 : Nat → Int32 → Int32 → Int64 → Int32 → Int32 → Int32 → xS → Option (Int32 × xS)} {k48 : Nat → Int32 → Int32 → Int64 → Int32 → Int32 → Int32 → Int32 → xS → Option (Int32 × xS)} : f_Mo_descend_60 k15 k36 k48 xFU (jad L (jm 0)) x1 x2 (jz s.1) (jcc s) (nI s.2.2.2 - nI 1) (nI p) (nI t) (nI 0 - nI 1) (jW L ω S) = k48 (jad L (jm 0)) x1 x2 (jz (jcl w A L p t s).1) (jcc (jcl w A L p t s)) (nI (jcl w A L p t s).2.2.2 - nI 1) (nI p) (nI (t + 1)) (jW L ω S) := by
  have h2 := hD.d21
  have h8 := hD.n8
  rw [← jfl9_is]
  refine jlpx (fun n i (x : jQ) => f_Mo_descend_60 k15 k36 k48 n (jad L (jm 0)) x1 x2 (jz x.1) (jcc x) (nI x.2.2.2 - nI 1) (nI p) (nI t) (nI i - nI 1) (jW L ω S)) (fun i => jfl9 w A L p t s i) (lo := 0) (hi := 9) (Nat.zero_le _) (by omega) ?_ ?_
  · intro n i _ hi
    have hq := jfl9_good hD hA hw hs hp ht i (by omega)
    have e2 := jMo_changed hL hD hA hK (ω := ω) hw h hM hp ht (l := i) (by omega)
    have b1 := jnr_lt hD (jR.put_good hA (p := p) (t := t) (show i ≤ 8 by omega)) hw p t
    have b2 := jnr_lt hD hA hw p t
    have hd := jdv_b hD hA hw p t (show i ≤ 8 by omega)
    rw [jzsub b1 b2, show ((jnr w (jR.put A p t i) L p t : Int) - jnr w A L p t) = jdv w A L p t i from rfl] at e2
    have e1 : nI i - nI 1 + nI 1 = nI (i + 1) - nI 1 := by
      rw [← nI_add]
      generalize nI i = a
      generalize nI 1 = c
      grind
    rw [f_Mo_descend_60, jfl9]
    generalize jfl9 w A L p t s i = q at hq ⊢
    have hq1 := hq.1
    have hq2 := hq.2.1
    simp (disch := first | omega | rfl | assumption | exact jokr (by decide) (by omega) | exact jokr4 (by omega) | exact jkt_r _ _ | exact jkt_l (by decide) | exact jfk_l (by decide) | exact jkt_t _ | exact jkt_r6 _ _ | exact jkt_t6 _ | (simp only [jok, jlen]; omega) | decide) only [jm_k hL, jm_gi hL, jm_gr hL, jm_gl hL, jm_pi hL, jm_pl hL, jn_ai hL, jn_ab hL, jn_az hL, jn_al hL, jn_ar hL, jn_an hL, jn_si hL, jn_sb hL, jn_sz hL, jn_sl hL, Option.bind_some, xc, xl, jlit, jsle, if_neg, e2, e1, jcge, jzle, jmul, nI_add]
    unfold jup
    by_cases c : q.1 ≤ jdv w A L p t i
    · rw [if_pos c, if_neg (by omega)]
    · rw [if_neg c, if_pos (by omega)]
      have e3 : jcc (jdv w A L p t i, p, t, i) = nI (21 * p + t) := by
        unfold jcc
        rw [if_pos (show jdv w A L p t i < 0 by omega)]
      rw [e3]
  · intro n
    rw [f_Mo_descend_60]
    simp (disch := first | omega | rfl | assumption | exact jokr (by decide) (by omega) | exact jokr4 (by omega) | exact jkt_r _ _ | exact jkt_l (by decide) | exact jfk_l (by decide) | exact jkt_t _ | exact jkt_r6 _ _ | exact jkt_t6 _ | (simp only [jok, jlen]; omega) | decide) only [jlit, jsle, if_pos, nI_add]
theorem jMo_desc48 {L : jL} (hL : jgood L) (hD : jdim L) {ω : xS} {S : jSt} {A : jR} (hA : jRg A) {sw ps wy : Nat} (hK : jLK S sw ps wy) {w : jLw} (hw : jLg L w) (h : jRM L S A) (hM : jLM S w) {p : Nat} {x1 x2 : Int32} {s : jQ} (hs : jqg L s) (hp : p < jn L) {k15 : Nat → Int32 → Int32 → Int32 → xS → Option (Int32 × xS)} {k36 : Nat → Int32 → Int32 → Int64 → Int32 → Int32 → Int32 → xS → Option (Int32 × xS)} : f_Mo_descend_48 k15 k36 xFU (jad L (jm 0)) x1 x2 (jz s.1) (jcc s) (nI s.2.2.2 - nI 1) (nI p) (nI 0) (jW L ω S) = k36 (jad L (jm 0)) x1 x2 (jz (jrw w A L p s (jd L)).1) (jcc (jrw w A L p s (jd L))) (nI (jrw w A L p s (jd L)).2.2.2 - nI 1) (nI (p + 1)) (jW L ω S) := by
  have h2 := hD.d21
  have h8 := hD.n8
  refine jlpx (fun n i (x : jQ) => f_Mo_descend_48 k15 k36 n (jad L (jm 0)) x1 x2 (jz x.1) (jcc x) (nI x.2.2.2 - nI 1) (nI p) (nI i) (jW L ω S)) (fun i => jrw w A L p s i) (lo := 0) (hi := jd L) (Nat.zero_le _) (by omega) ?_ ?_
  · intro n i _ hi
    have hq := jrw_good hD hA hw hs hp i (by omega)
    have e := jMo_desc60 hL hD hA hK (ω := ω) hw h hM (x1 := x1) (x2 := x2) hq hp hi (k15 := k15) (k36 := k36) (k48 := f_Mo_descend_48 k15 k36 n)
    rw [f_Mo_descend_48, jrw]
    simp (disch := first | omega | rfl | assumption | exact jokr (by decide) (by omega) | exact jokr4 (by omega) | exact jkt_r _ _ | exact jkt_l (by decide) | exact jfk_l (by decide) | exact jkt_t _ | exact jkt_r6 _ _ | exact jkt_t6 _ | (simp only [jok, jlen]; omega) | decide) only [jm_k hL, jm_gi hL, jm_gr hL, jm_gl hL, jm_pi hL, jm_pl hL, jn_ai hL, jn_ab hL, jn_az hL, jn_al hL, jn_ar hL, jn_an hL, jn_si hL, jn_sb hL, jn_sz hL, jn_sl hL, Option.bind_some, xc, xl, h.d, nI_leI, if_neg]
    exact e
  · intro n
    rw [f_Mo_descend_48]
    simp (disch := first | omega | rfl | assumption | exact jokr (by decide) (by omega) | exact jokr4 (by omega) | exact jkt_r _ _ | exact jkt_l (by decide) | exact jfk_l (by decide) | exact jkt_t _ | exact jkt_r6 _ _ | exact jkt_t6 _ | (simp only [jok, jlen]; omega) | decide) only [jm_k hL, jm_gi hL, jm_gr hL, jm_gl hL, jm_pi hL, jm_pl hL, jn_ai hL, jn_ab hL, jn_az hL, jn_al hL, jn_ar hL, jn_an hL, jn_si hL, jn_sb hL, jn_sz hL, jn_sl hL, Option.bind_some, xc, xl, jlit, jlitl, jmul, nI_add, lN_add, nI_leI, nI_ltI, nI_eq, jm1, jm1g, jm1e, jm1c, h.d, if_pos]
theorem jMo_desc36 {L : jL} (hL : jgood L) (hD : jdim L) {ω : xS} {S : jSt} {A : jR} (hA : jRg A) {sw ps wy : Nat} (hK : jLK S sw ps wy) {w : jLw} (hw : jLg L w) (h : jRM L S A) (hM : jLM S w) {x1 x2 : Int32} {k15 : Nat → Int32 → Int32 → Int32 → xS → Option (Int32 × xS)} : f_Mo_descend_36 k15 xFU (jad L (jm 0)) x1 x2 (jz 0) (-nI 1) (nI 0 - nI 1) (nI 0) (jW L ω S) = if (jall w A L (jn L)).1 < 0 then (f_Mo_set1 (jad L (jm 0)) (nI (21 * (jall w A L (jn L)).2.1 + (jall w A L (jn L)).2.2.1)) (nI (jall w A L (jn L)).2.2.2 - nI 1) (jW L ω S)).bind fun w15 => k15 (jad L (jm 0)) x1 (x2 + nI 1) (nI 1) w15 else k15 (jad L (jm 0)) x1 x2 (nI 0) (jW L ω S) := by
  have h8 := hD.n8
  have h2 := hD.d21
  refine jlpx (fun n i (x : jQ) => f_Mo_descend_36 k15 n (jad L (jm 0)) x1 x2 (jz x.1) (jcc x) (nI x.2.2.2 - nI 1) (nI i) (jW L ω S)) (fun i => jall w A L i) (lo := 0) (hi := jn L) (Nat.zero_le _) (by omega) ?_ ?_
  · intro n i _ hi
    have hq := jall_good hD hA hw i (by omega)
    have e := jMo_desc48 hL hD hA hK (ω := ω) hw h hM (x1 := x1) (x2 := x2) hq hi (k15 := k15) (k36 := f_Mo_descend_36 k15 n)
    rw [f_Mo_descend_36, jall]
    simp (disch := first | omega | rfl | assumption | exact jokr (by decide) (by omega) | exact jokr4 (by omega) | exact jkt_r _ _ | exact jkt_l (by decide) | exact jfk_l (by decide) | exact jkt_t _ | exact jkt_r6 _ _ | exact jkt_t6 _ | (simp only [jok, jlen]; omega) | decide) only [jm_k hL, jm_gi hL, jm_gr hL, jm_gl hL, jm_pi hL, jm_pl hL, jn_ai hL, jn_ab hL, jn_az hL, jn_al hL, jn_ar hL, jn_an hL, jn_si hL, jn_sb hL, jn_sz hL, jn_sl hL, Option.bind_some, xc, xl, h.n, nI_leI, if_neg]
    exact e
  · intro n
    have hq := jall_good hD hA hw (jn L) (Nat.le_refl _)
    rw [f_Mo_descend_36]
    generalize jall w A L (jn L) = q at hq ⊢
    have hp := hq.2.2.1
    have ht := hq.2.2.2.1
    simp (disch := first | omega | rfl | assumption | exact jokr (by decide) (by omega) | exact jokr4 (by omega) | exact jkt_r _ _ | exact jkt_l (by decide) | exact jfk_l (by decide) | exact jkt_t _ | exact jkt_r6 _ _ | exact jkt_t6 _ | (simp only [jok, jlen]; omega) | decide) only [jm_k hL, jm_gi hL, jm_gr hL, jm_gl hL, jm_pi hL, jm_pl hL, jn_ai hL, jn_ab hL, jn_az hL, jn_al hL, jn_ar hL, jn_an hL, jn_si hL, jn_sb hL, jn_sz hL, jn_sl hL, Option.bind_some, xc, xl, h.n, nI_leI, if_pos]
    by_cases c : q.1 < 0
    · rw [if_pos c]
      have e : jcc q = nI (21 * q.2.1 + q.2.2.1) := by unfold jcc; rw [if_pos c]
      rw [e]
      simp (disch := first | omega | rfl | assumption | exact jokr (by decide) (by omega) | exact jokr4 (by omega) | exact jkt_r _ _ | exact jkt_l (by decide) | exact jfk_l (by decide) | exact jkt_t _ | exact jkt_r6 _ _ | exact jkt_t6 _ | (simp only [jok, jlen]; omega) | decide) only [jlit, jneg, if_false, nI_eq, if_neg, jm_k hL, jm_gi hL, jm_gr hL, jm_gl hL, jm_pi hL, jm_pl hL, jn_ai hL, jn_ab hL, jn_az hL, jn_al hL, jn_ar hL, jn_an hL, jn_si hL, jn_sb hL, jn_sz hL, jn_sl hL, Option.bind_some, xc, xl]
    · rw [if_neg c]
      have e : jcc q = -nI 1 := by unfold jcc; rw [if_neg c]
      rw [e, if_pos (by decide)]
      try rfl
