/-! THE ROOM for tables -/
def jroom (tl : Nat → Nat) (cc uu : Nat) : Prop := ∃ a b : Nat → Nat, cc ≤ 1000 + jsm b 32 ∧ uu ≤ 300000 + jsm a 32 ∧ ∀ j, j < 32 → b j * 120 ≤ a j ∧ (a j ≤ 20 * tl j ∨ (tl j = 1025 ∧ a j ≤ 30750)) ∧ tl j ≤ 1025
theorem jsm_le2 {f : Nat → Nat} {m : Nat} : ∀ k, (∀ i, i < k → f i ≤ m) → jsm f k ≤ k * m
  | 0, _ => Nat.zero_le _
  | k + 1, h => by
    rw [jsm, Nat.succ_mul]
    have := jsm_le2 k (fun i hi => h i (by omega))
    have := h k (by omega)
    omega
theorem jroom.le {tl : Nat → Nat} {cc uu : Nat} (h : jroom tl cc uu) : cc ≤ 600000 ∧ uu ≤ 7302250 := by
  obtain ⟨a, b, h1, h2, h3⟩ := h
  have ha := jsm_le2 (f := a) (m := 30750) 32 (fun i hi => by have := h3 i hi; omega)
  have hb := jsm_le2 (f := b) (m := 257) 32 (fun i hi => by have := h3 i hi; omega)
  omega
theorem jroom.grow {tl : Nat → Nat} {cc uu : Nat} (h : jroom tl cc uu) {j tl' c u : Nat} (hj : j < 32) (hg : jgr (tl j) tl' c u) (ht : tl' ≤ 1025) : jroom (fun i => if i = j then tl' else tl i) (cc + c) (uu + u) := by
  obtain ⟨a, b, h1, h2, h3⟩ := h
  rcases hg with ⟨rfl, rfl, rfl⟩ | ⟨rfl, rfl, g1, g2, g3⟩
  · refine ⟨a, b, h1, h2, fun i hi => ?_⟩
    dsimp only
    by_cases c : i = j
    · rw [if_pos c, c]; exact h3 j hj
    · rw [if_neg c]; exact h3 i hi
  · refine ⟨fun i => if i = j then a j + 10 * tl' else a i, fun i => if i = j then b j + 1 else b i, ?_, ?_, fun i hi => ?_⟩
    · have := jsm_upd (f := b) (g := fun i => if i = j then b j + 1 else b i) (t := j) (k := 32) hj (fun i _ hne => if_neg hne)
      rw [if_pos rfl] at this
      omega
    · have := jsm_upd (f := a) (g := fun i => if i = j then a j + 10 * tl' else a i) (t := j) (k := 32) hj (fun i _ hne => if_neg hne)
      rw [if_pos rfl] at this
      omega
    · have q := h3 j hj
      dsimp only
      by_cases c : i = j
      · rw [if_pos c, if_pos c, if_pos c]
        omega
      · rw [if_neg c, if_neg c, if_neg c]; exact h3 i hi
/-! the calls that ask for automata -/
def jRes (L : jL) (A : jR) (w : jLw) (H : jH) (tp : Nat → Nat) (ts sw z c u : Nat) (tb' : Nat → Nat) (t' : Nat → Nat) (S2 : jSt) (ps' wy' : Nat) : Prop := (jgood (L.1, L.2.1, L.2.2.1, tb')) ∧ (jfit (L.1, L.2.1, L.2.2.1, tb') (z + c)) ∧ (jIv (L.1, L.2.1, L.2.2.1, tb') S2 A (jLw.stl w t') H tp ts sw ps' wy') ∧ (∀ cc uu, jroom (jLw.tl w) cc uu → jroom t' (cc + c) (uu + u))
theorem jRes.g {L : jL} {A : jR} {w : jLw} {H : jH} {tp : Nat → Nat} {ts sw z c u : Nat} {tb' : Nat → Nat} {t' : Nat → Nat} {S2 : jSt} {ps' wy' : Nat} (h : jRes L A w H tp ts sw z c u tb' t' S2 ps' wy') : jgood (L.1, L.2.1, L.2.2.1, tb') := h.1
theorem jRes.f {L : jL} {A : jR} {w : jLw} {H : jH} {tp : Nat → Nat} {ts sw z c u : Nat} {tb' : Nat → Nat} {t' : Nat → Nat} {S2 : jSt} {ps' wy' : Nat} (h : jRes L A w H tp ts sw z c u tb' t' S2 ps' wy') : jfit (L.1, L.2.1, L.2.2.1, tb') (z + c) := h.2.1
theorem jRes.i {L : jL} {A : jR} {w : jLw} {H : jH} {tp : Nat → Nat} {ts sw z c u : Nat} {tb' : Nat → Nat} {t' : Nat → Nat} {S2 : jSt} {ps' wy' : Nat} (h : jRes L A w H tp ts sw z c u tb' t' S2 ps' wy') : jIv (L.1, L.2.1, L.2.2.1, tb') S2 A (jLw.stl w t') H tp ts sw ps' wy' := h.2.2.1
theorem jRes.r {L : jL} {A : jR} {w : jLw} {H : jH} {tp : Nat → Nat} {ts sw z c u : Nat} {tb' : Nat → Nat} {t' : Nat → Nat} {S2 : jSt} {ps' wy' : Nat} (h : jRes L A w H tp ts sw z c u tb' t' S2 ps' wy') : ∀ cc uu, jroom (jLw.tl w) cc uu → jroom t' (cc + c) (uu + u) := h.2.2.2
theorem jRes_no {L : jL} (hL : jgood L) {ω : xS} {S : jSt} {A : jR} {w : jLw} {H : jH} {tp : Nat → Nat} {ts sw ps wy : Nat} (h : jIv L S A w H tp ts sw ps wy) {z : Nat} (hf : jfit L z) : jRes L A w H tp ts sw z 0 0 L.2.2.2 (jLw.tl w) S ps wy := ⟨hL, hf, h, fun _ _ h => h⟩
theorem jMo_isLaw {L : jL} (hL : jgood L) {ω : xS} {S : jSt} {w : jLw} (hM : jLM S w) {x : Int32} : f_Mo_isLaw (jad L (jm 0)) x (jW L ω S) = some (if jbel (jLw.n w) x then 1 else 0) := by
  unfold f_Mo_isLaw
  simp (disch := first | omega | rfl | assumption | exact jokr (by decide) (by omega) | exact jokr4 (by omega) | exact jkt_r _ _ | exact jkt_l (by decide) | exact jfk_l (by decide) | exact jkt_t _ | exact jkt_r6 _ _ | exact jkt_t6 _ | (simp only [jok, jlen]; omega) | decide) only [jm_gi hL, Option.bind_some, hM.n]
  exact jite2
def jpb (w : jLw) (k : Nat) : Bool := decide (jLw.so w k = 3 ∨ jLw.so w k = 4)
theorem jMo_hasP {L : jL} (hL : jgood L) {ω : xS} {S : jSt} {sw ps wy : Nat} (hK : jLK S sw ps wy) {w : jLw} (hw : jLg L w) (hM : jLM S w) {k : Nat} (hk : k < jLw.n w) : f_Mo_hasPattern (jad L (jm 0)) (nI k) (jW L ω S) = some (if jpb w k then 1 else 0) := by
  have h16 := hw.n16
  have hso := hw.so k hk
  unfold f_Mo_hasPattern jpb
  simp (disch := first | omega | rfl | assumption | exact jokr (by decide) (by omega) | exact jokr4 (by omega) | exact jkt_r _ _ | exact jkt_l (by decide) | exact jfk_l (by decide) | exact jkt_t _ | exact jkt_r6 _ _ | exact jkt_t6 _ | (simp only [jok, jlen]; omega) | decide) only [jm_k hL, jm_gi hL, jm_gr hL, jm_gl hL, jm_pi hL, jm_pl hL, jn_ai hL, jn_ab hL, jn_az hL, jn_al hL, jn_ar hL, jn_an hL, jn_si hL, jn_sb hL, jn_sz hL, jn_sl hL, Option.bind_some, xc, xl, jsA_X, jsI_X, jsG_X, hK _ _, jlk, jmx, jlit, nI_eq, hM.so]
  by_cases c3 : jLw.so w k = 3
  · rw [if_pos c3]; simp [c3]
  · rw [if_neg c3]
    by_cases c4 : jLw.so w k = 4
    · rw [if_pos c4]; simp [c4]
    · rw [if_neg c4]; simp [c3, c4]
theorem jLa_hasP {L : jL} (hL : jgood L) {ω : xS} {S : jSt} {sw ps wy : Nat} (hK : jLK S sw ps wy) {w : jLw} (hw : jLg L w) (hC : jLC L S w sw) {k : Nat} (hk : k < jLw.n w) : f_Law_hasPattern (jad L (jl (2 * k + sw) 0)) (jW L ω S) = some (if jpb w k then 1 else 0) := by
  have h16 := hw.n16
  have hs1 := hC.s1
  have hso := hw.so k hk
  unfold f_Law_hasPattern jpb
  simp (disch := first | omega | rfl | assumption | exact jokr (by decide) (by omega) | exact jokr4 (by omega) | exact jkt_r _ _ | exact jkt_l (by decide) | exact jfk_l (by decide) | exact jkt_t _ | exact jkt_r6 _ _ | exact jkt_t6 _ | (simp only [jok, jlen]; omega) | decide) only [jm_k hL, jm_gi hL, jm_gr hL, jm_gl hL, jm_pi hL, jm_pl hL, jn_ai hL, jn_ab hL, jn_az hL, jn_al hL, jn_ar hL, jn_an hL, jn_si hL, jn_sb hL, jn_sz hL, jn_sl hL, Option.bind_some, xc, xl, jsA_X, jsI_X, jsG_X, hK _ _, jlk, jmx, jlit, nI_eq, hC.so]
  by_cases c3 : jLw.so w k = 3
  · rw [if_pos c3]; simp [c3]
  · rw [if_neg c3]
    by_cases c4 : jLw.so w k = 4
    · rw [if_pos c4]; simp [c4]
    · rw [if_neg c4]; simp [c3, c4]
theorem jpb_pt {w : jLw} {k : Nat} (h : jpb w k = true) : jLw.pt w k := (show jLw.so w k = 3 ∨ jLw.so w k = 4 from of_decide_eq_true h)
theorem jk0 {L : jL} (hL : jgood L) {ω : xS} {S : jSt} {α : Type} {q : Option α} : xk (jW L ω S) (jad L (jo 0)) 11 q = q := jm_k hL (by simp only [jok]; omega) rfl
theorem jkm {L : jL} (hL : jgood L) {ω : xS} {S : jSt} {α : Type} {q : Option α} : xk (jW L ω S) (jad L (jm 0)) 12 q = q := jm_k hL (by simp only [jok]; omega) rfl
/-- a call that reads, the class's automata made on the way -/
def jOr (L : jL) (ω : xS) (S : jSt) (A : jR) (w : jLw) (H : jH) (tp : Nat → Nat) (ts sw z : Nat) (f : xS → Option (Int32 × Nat × Nat × xS)) (g : xS → Option Int32) : Prop := ∃ (r : Int32) (c u : Nat) (tb' : Nat → Nat) (ω' : xS) (S1 : jSt) (t' : Nat → Nat) (ps' wy' : Nat), f (jW L ω S) = some (r, c, u, jW (L.1, L.2.1, L.2.2.1, tb') ω' S1) ∧ g (jW (L.1, L.2.1, L.2.2.1, tb') ω' S1) = some r ∧ jRes L A w H tp ts sw z c u tb' t' S1 ps' wy'
theorem jOr_no {L : jL} (hL : jgood L) {ω : xS} {S : jSt} {A : jR} {w : jLw} {H : jH} {tp : Nat → Nat} {ts sw ps wy : Nat} (h : jIv L S A w H tp ts sw ps wy) {z : Nat} (hf : jfit L z) {f : xS → Option (Int32 × Nat × Nat × xS)} {g : xS → Option Int32} (r : Int32) (h1 : f (jW L ω S) = some (r, 0, 0, jW L ω S)) (h2 : g (jW L ω S) = some r) : jOr L ω S A w H tp ts sw z f g := ⟨r, 0, 0, L.2.2.2, ω, S, jLw.tl w, ps, wy, h1, h2, jRes_no (ω := ω) hL h hf⟩
theorem jt0 : (0 : Int32).toInt = 0 := rfl
theorem jge0 {x : Int32} (h : ¬ x < 0) : 0 ≤ x.toInt := by
  rw [Int32.lt_iff_toInt_lt, jt0] at h; omega
theorem jlt0 {x : Int32} (h : x < 0) : x.toInt < 0 := by
  rw [Int32.lt_iff_toInt_lt, jt0] at h; omega
theorem jnat {x : Int32} (h : 0 ≤ x.toInt) : ∃ y, y < 2 ^ 31 ∧ x = nI y := by
  have h2 := x.toInt_lt
  obtain ⟨y, _, h1, e⟩ := jrng (x := x) (lo := 0) (hi := 2147483647) h (by omega)
  exact ⟨y, by omega, e⟩
theorem jop_law {L : jL} (hL : jgood L) {ω : xS} {S : jSt} {A : jR} {w : jLw} {H : jH} {tp : Nat → Nat} {ts sw ps wy : Nat} (h : jIv L S A w H tp ts sw ps wy) {z : Nat} (hf : jfit L z) (x1 x2 : Int32) : jOr L ω S A w H tp ts sw z (fun ω => f_RR_law (jad L (jo 0)) x1 x2 z ω) (f_Mo_law1 (jad L (jm 0)) x1 x2) := by
  have hK := h.K
  have hC := h.LC
  have hM := h.LM
  have hw := h.W
  have h16 := hw.n16
  have hs1 := hC.s1
  have no : ∀ r : Int32, f_RR_law (jad L (jo 0)) x1 x2 z (jW L ω S) = some (r, 0, 0, jW L ω S) → f_Mo_law1 (jad L (jm 0)) x1 x2 (jW L ω S) = some r → jOr L ω S A w H tp ts sw z (fun ω => f_RR_law (jad L (jo 0)) x1 x2 z ω) (f_Mo_law1 (jad L (jm 0)) x1 x2) := fun r h1 h2 => jOr_no hL h hf r h1 h2
  cases c1 : jbel (jLw.n w) x1
  · refine no (-1) ?_ ?_
    · unfold f_RR_law; rw [jk0 hL, jRR_isLaw hL h.D h.A h.K hC, c1]; rfl
    · unfold f_Mo_law1; rw [jkm hL, jMo_isLaw hL hM, c1]; rfl
  · obtain ⟨k, hk, rfl⟩ := (jbel_iff (by omega)).mp c1
    have hso := hw.so k hk
    by_cases hv : 0 ≤ x2.toInt ∧ x2.toInt ≤ 4
    · obtain ⟨y, _, hy, rfl⟩ := jrng (lo := 0) (hi := 4) hv.1 hv.2
      have lr := jlawref hL (ω := ω) hK hs1 (show k < 16 by omega)
      by_cases y2 : y ≤ 2
      · have hall : y = 0 ∨ y = 1 ∨ y = 2 := by omega
        rcases hall with rfl | rfl | rfl
        · refine no (nI (jLw.so w k)) ?_ ?_
          · unfold f_RR_law
            simp (disch := first | omega | rfl | assumption | exact jokr (by decide) (by omega) | exact jokr4 (by omega) | exact jkt_r _ _ | exact jkt_l (by decide) | exact jfk_l (by decide) | exact jkt_t _ | exact jkt_r6 _ _ | exact jkt_t6 _ | (simp only [jok, jlen]; omega) | decide) only [jm_k hL, jm_gi hL, jm_gr hL, jm_gl hL, jm_pi hL, jm_pl hL, jn_ai hL, jn_ab hL, jn_az hL, jn_al hL, jn_ar hL, jn_an hL, jn_si hL, jn_sb hL, jn_sz hL, jn_sl hL, Option.bind_some, xc, xl, jsA_X, jsI_X, jsG_X, hK _ _, jlk, jmx, jRR_isLaw hL h.D h.A h.K hC, c1, if_true, jlit, nI_eq, nI_leI, jneg, if_false, if_neg, if_pos, lr, hC.so]
          · unfold f_Mo_law1 f_Mo_law1_35
            simp (disch := first | omega | rfl | assumption | exact jokr (by decide) (by omega) | exact jokr4 (by omega) | exact jkt_r _ _ | exact jkt_l (by decide) | exact jfk_l (by decide) | exact jkt_t _ | exact jkt_r6 _ _ | exact jkt_t6 _ | (simp only [jok, jlen]; omega) | decide) only [jm_k hL, jm_gi hL, jm_gr hL, jm_gl hL, jm_pi hL, jm_pl hL, jn_ai hL, jn_ab hL, jn_az hL, jn_al hL, jn_ar hL, jn_an hL, jn_si hL, jn_sb hL, jn_sz hL, jn_sl hL, Option.bind_some, xc, xl, jsA_X, jsI_X, jsG_X, hK _ _, jlk, jmx, jMo_isLaw hL hM, c1, if_true, jlit, nI_eq, nI_leI, jneg, if_false, if_neg, if_pos, hM.so]
        · refine no (nI (jLw.wt w k)) ?_ ?_
          · unfold f_RR_law
            simp (disch := first | omega | rfl | assumption | exact jokr (by decide) (by omega) | exact jokr4 (by omega) | exact jkt_r _ _ | exact jkt_l (by decide) | exact jfk_l (by decide) | exact jkt_t _ | exact jkt_r6 _ _ | exact jkt_t6 _ | (simp only [jok, jlen]; omega) | decide) only [jm_k hL, jm_gi hL, jm_gr hL, jm_gl hL, jm_pi hL, jm_pl hL, jn_ai hL, jn_ab hL, jn_az hL, jn_al hL, jn_ar hL, jn_an hL, jn_si hL, jn_sb hL, jn_sz hL, jn_sl hL, Option.bind_some, xc, xl, jsA_X, jsI_X, jsG_X, hK _ _, jlk, jmx, jRR_isLaw hL h.D h.A h.K hC, c1, if_true, jlit, nI_eq, nI_leI, jneg, if_false, if_neg, if_pos, lr, hC.wt]
          · unfold f_Mo_law1 f_Mo_law1_35
            simp (disch := first | omega | rfl | assumption | exact jokr (by decide) (by omega) | exact jokr4 (by omega) | exact jkt_r _ _ | exact jkt_l (by decide) | exact jfk_l (by decide) | exact jkt_t _ | exact jkt_r6 _ _ | exact jkt_t6 _ | (simp only [jok, jlen]; omega) | decide) only [jm_k hL, jm_gi hL, jm_gr hL, jm_gl hL, jm_pi hL, jm_pl hL, jn_ai hL, jn_ab hL, jn_az hL, jn_al hL, jn_ar hL, jn_an hL, jn_si hL, jn_sb hL, jn_sz hL, jn_sl hL, Option.bind_some, xc, xl, jsA_X, jsI_X, jsG_X, hK _ _, jlk, jmx, jMo_isLaw hL hM, c1, if_true, jlit, nI_eq, nI_leI, jneg, if_false, if_neg, if_pos, hM.wt]
        · refine no (nI (jLw.pl w k)) ?_ ?_
          · unfold f_RR_law
            simp (disch := first | omega | rfl | assumption | exact jokr (by decide) (by omega) | exact jokr4 (by omega) | exact jkt_r _ _ | exact jkt_l (by decide) | exact jfk_l (by decide) | exact jkt_t _ | exact jkt_r6 _ _ | exact jkt_t6 _ | (simp only [jok, jlen]; omega) | decide) only [jm_k hL, jm_gi hL, jm_gr hL, jm_gl hL, jm_pi hL, jm_pl hL, jn_ai hL, jn_ab hL, jn_az hL, jn_al hL, jn_ar hL, jn_an hL, jn_si hL, jn_sb hL, jn_sz hL, jn_sl hL, Option.bind_some, xc, xl, jsA_X, jsI_X, jsG_X, hK _ _, jlk, jmx, jRR_isLaw hL h.D h.A h.K hC, c1, if_true, jlit, nI_eq, nI_leI, jneg, if_false, if_neg, if_pos, lr, hC.pl]
          · unfold f_Mo_law1 f_Mo_law1_35
            simp (disch := first | omega | rfl | assumption | exact jokr (by decide) (by omega) | exact jokr4 (by omega) | exact jkt_r _ _ | exact jkt_l (by decide) | exact jfk_l (by decide) | exact jkt_t _ | exact jkt_r6 _ _ | exact jkt_t6 _ | (simp only [jok, jlen]; omega) | decide) only [jm_k hL, jm_gi hL, jm_gr hL, jm_gl hL, jm_pi hL, jm_pl hL, jn_ai hL, jn_ab hL, jn_az hL, jn_al hL, jn_ar hL, jn_an hL, jn_si hL, jn_sb hL, jn_sz hL, jn_sl hL, Option.bind_some, xc, xl, jsA_X, jsI_X, jsG_X, hK _ _, jlk, jmx, jMo_isLaw hL hM, c1, if_true, jlit, nI_eq, nI_leI, jneg, if_false, if_neg, if_pos, hM.pl]
      · have hp1 := jLa_hasP hL (ω := ω) hK hw hC hk
        have hp2 := jMo_hasP hL (ω := ω) hK hw hM hk
        have hall : y = 3 ∨ y = 4 := by omega
        cases cp : jpb w k
        · rw [cp] at hp1 hp2
          refine no (-2) ?_ ?_
          · unfold f_RR_law
            rcases hall with rfl | rfl
            · simp (disch := first | omega | rfl | assumption | exact jokr (by decide) (by omega) | exact jokr4 (by omega) | exact jkt_r _ _ | exact jkt_l (by decide) | exact jfk_l (by decide) | exact jkt_t _ | exact jkt_r6 _ _ | exact jkt_t6 _ | (simp only [jok, jlen]; omega) | decide) only [jm_k hL, jm_gi hL, jm_gr hL, jm_gl hL, jm_pi hL, jm_pl hL, jn_ai hL, jn_ab hL, jn_az hL, jn_al hL, jn_ar hL, jn_an hL, jn_si hL, jn_sb hL, jn_sz hL, jn_sl hL, Option.bind_some, xc, xl, jsA_X, jsI_X, jsG_X, hK _ _, jlk, jmx, jRR_isLaw hL h.D h.A h.K hC, c1, if_true, jlit, nI_eq, nI_leI, jneg, if_false, if_neg, if_pos, lr, hp1]
            · simp (disch := first | omega | rfl | assumption | exact jokr (by decide) (by omega) | exact jokr4 (by omega) | exact jkt_r _ _ | exact jkt_l (by decide) | exact jfk_l (by decide) | exact jkt_t _ | exact jkt_r6 _ _ | exact jkt_t6 _ | (simp only [jok, jlen]; omega) | decide) only [jm_k hL, jm_gi hL, jm_gr hL, jm_gl hL, jm_pi hL, jm_pl hL, jn_ai hL, jn_ab hL, jn_az hL, jn_al hL, jn_ar hL, jn_an hL, jn_si hL, jn_sb hL, jn_sz hL, jn_sl hL, Option.bind_some, xc, xl, jsA_X, jsI_X, jsG_X, hK _ _, jlk, jmx, jRR_isLaw hL h.D h.A h.K hC, c1, if_true, jlit, nI_eq, nI_leI, jneg, if_false, if_neg, if_pos, lr, hp1]
          · unfold f_Mo_law1
            simp (disch := first | omega | rfl | assumption | exact jokr (by decide) (by omega) | exact jokr4 (by omega) | exact jkt_r _ _ | exact jkt_l (by decide) | exact jfk_l (by decide) | exact jkt_t _ | exact jkt_r6 _ _ | exact jkt_t6 _ | (simp only [jok, jlen]; omega) | decide) only [jm_k hL, jm_gi hL, jm_gr hL, jm_gl hL, jm_pi hL, jm_pl hL, jn_ai hL, jn_ab hL, jn_az hL, jn_al hL, jn_ar hL, jn_an hL, jn_si hL, jn_sb hL, jn_sz hL, jn_sl hL, Option.bind_some, xc, xl, jsA_X, jsI_X, jsG_X, hK _ _, jlk, jmx, jMo_isLaw hL hM, c1, if_true, jlit, nI_eq, nI_leI, jneg, if_false, if_neg, if_pos, hp2]
        · rw [cp] at hp1 hp2
          have hp := jpb_pt cp
          have hns := hw.ns k hk hp
          rcases hall with rfl | rfl
          · obtain ⟨c, u, tl', ps', tb', ω', T, a1, a2, a3, a4, a5, a6, _⟩ := jRR_autoOf hL (ω := ω) h hk hp hf
            have htl := a6.LC.tl (2 * k + sw) (by omega)
            rw [jLw.stl_tl, if_pos rfl] at htl
            have g1 : xgi (jW (L.1, L.2.1, L.2.2.1, tb') ω' T) (jad L (jl (2 * k + sw) 6)) 0 1 = some (nI (jLw.ns w k)) := by
              have := jm_gi a2 (ω := ω') (S := T) (c := jl (2 * k + sw) 6) (ci := 0) (k := 1) ⟨by omega, by omega⟩ rfl rfl
              rw [a5.s] at this
              exact this
            refine ⟨nI (jLw.ns w k), c, u, tb', ω', T, _, ps', wy, ?_, ?_, a2, a3, a6, fun cc uu hr => hr.grow (by omega) a4 htl.2⟩
            · unfold f_RR_law
              simp (disch := first | omega | rfl | assumption | exact jokr (by decide) (by omega) | exact jokr4 (by omega) | exact jkt_r _ _ | exact jkt_l (by decide) | exact jfk_l (by decide) | exact jkt_t _ | exact jkt_r6 _ _ | exact jkt_t6 _ | (simp only [jok, jlen]; omega) | decide) only [jm_k hL, jm_gi hL, jm_gr hL, jm_gl hL, jm_pi hL, jm_pl hL, jn_ai hL, jn_ab hL, jn_az hL, jn_al hL, jn_ar hL, jn_an hL, jn_si hL, jn_sb hL, jn_sz hL, jn_sl hL, Option.bind_some, xc, xl, jsA_X, jsI_X, jsG_X, hK _ _, jlk, jmx, jRR_isLaw hL h.D h.A h.K hC, c1, if_true, jlit, nI_eq, nI_leI, jneg, if_false, if_neg, if_pos, lr, hp1, a1, xc4, g1]
            · have hM' : jLM T w := a6.LM
              have hK' := a6.K
              have q : f_Mo_law1 (jad (L.1, L.2.1, L.2.2.1, tb') (jm 0)) (nI k) (nI 3) (jW (L.1, L.2.1, L.2.2.1, tb') ω' T) = some (nI (jLw.ns w k)) := by
                have hp2 := jMo_hasP a2 (ω := ω') hK' (hw.lay tb') hM' hk
                rw [cp] at hp2
                have hL := a2
                have hK := hK'
                unfold f_Mo_law1 f_Mo_law1_35
                simp (disch := first | omega | rfl | assumption | exact jokr (by decide) (by omega) | exact jokr4 (by omega) | exact jkt_r _ _ | exact jkt_l (by decide) | exact jfk_l (by decide) | exact jkt_t _ | exact jkt_r6 _ _ | exact jkt_t6 _ | (simp only [jok, jlen]; omega) | decide) only [jm_k hL, jm_gi hL, jm_gr hL, jm_gl hL, jm_pi hL, jm_pl hL, jn_ai hL, jn_ab hL, jn_az hL, jn_al hL, jn_ar hL, jn_an hL, jn_si hL, jn_sb hL, jn_sz hL, jn_sl hL, Option.bind_some, xc, xl, jsA_X, jsI_X, jsG_X, hK _ _, jlk, jmx, jMo_isLaw hL hM', c1, if_true, jlit, nI_eq, nI_leI, jneg, if_false, if_neg, if_pos, hp2, hM'.ns]
              exact q
          · refine no (nI (jLw.sz w k)) ?_ ?_
            · unfold f_RR_law
              simp (disch := first | omega | rfl | assumption | exact jokr (by decide) (by omega) | exact jokr4 (by omega) | exact jkt_r _ _ | exact jkt_l (by decide) | exact jfk_l (by decide) | exact jkt_t _ | exact jkt_r6 _ _ | exact jkt_t6 _ | (simp only [jok, jlen]; omega) | decide) only [jm_k hL, jm_gi hL, jm_gr hL, jm_gl hL, jm_pi hL, jm_pl hL, jn_ai hL, jn_ab hL, jn_az hL, jn_al hL, jn_ar hL, jn_an hL, jn_si hL, jn_sb hL, jn_sz hL, jn_sl hL, Option.bind_some, xc, xl, jsA_X, jsI_X, jsG_X, hK _ _, jlk, jmx, jRR_isLaw hL h.D h.A h.K hC, c1, if_true, jlit, nI_eq, nI_leI, jneg, if_false, if_neg, if_pos, lr, hp1, hC.sz]
            · unfold f_Mo_law1 f_Mo_law1_35
              simp (disch := first | omega | rfl | assumption | exact jokr (by decide) (by omega) | exact jokr4 (by omega) | exact jkt_r _ _ | exact jkt_l (by decide) | exact jfk_l (by decide) | exact jkt_t _ | exact jkt_r6 _ _ | exact jkt_t6 _ | (simp only [jok, jlen]; omega) | decide) only [jm_k hL, jm_gi hL, jm_gr hL, jm_gl hL, jm_pi hL, jm_pl hL, jn_ai hL, jn_ab hL, jn_az hL, jn_al hL, jn_ar hL, jn_an hL, jn_si hL, jn_sb hL, jn_sz hL, jn_sl hL, Option.bind_some, xc, xl, jsA_X, jsI_X, jsG_X, hK _ _, jlk, jmx, jMo_isLaw hL hM, c1, if_true, jlit, nI_eq, nI_leI, jneg, if_false, if_neg, if_pos, hp2, hM.sz]
    · refine no (-1) ?_ ?_
      · unfold f_RR_law
        simp (disch := first | omega | rfl | assumption | exact jokr (by decide) (by omega) | exact jokr4 (by omega) | exact jkt_r _ _ | exact jkt_l (by decide) | exact jfk_l (by decide) | exact jkt_t _ | exact jkt_r6 _ _ | exact jkt_t6 _ | (simp only [jok, jlen]; omega) | decide) only [jm_k hL, jm_gi hL, jm_gr hL, jm_gl hL, jm_pi hL, jm_pl hL, jn_ai hL, jn_ab hL, jn_az hL, jn_al hL, jn_ar hL, jn_an hL, jn_si hL, jn_sb hL, jn_sz hL, jn_sl hL, Option.bind_some, xc, xl, jRR_isLaw hL h.D h.A h.K hC, c1, if_true, jlit, nI_eq, if_neg, Int32.lt_iff_toInt_lt, Int32.le_iff_toInt_le, nI_toInt]
        (repeat' split) <;> first | rfl | (exfalso; apply hv; omega)
      · unfold f_Mo_law1
        simp (disch := first | omega | rfl | assumption | exact jokr (by decide) (by omega) | exact jokr4 (by omega) | exact jkt_r _ _ | exact jkt_l (by decide) | exact jfk_l (by decide) | exact jkt_t _ | exact jkt_r6 _ _ | exact jkt_t6 _ | (simp only [jok, jlen]; omega) | decide) only [jm_k hL, jm_gi hL, jm_gr hL, jm_gl hL, jm_pi hL, jm_pl hL, jn_ai hL, jn_ab hL, jn_az hL, jn_al hL, jn_ar hL, jn_an hL, jn_si hL, jn_sb hL, jn_sz hL, jn_sl hL, Option.bind_some, xc, xl, jMo_isLaw hL hM, c1, if_true, jlit, nI_eq, if_neg, Int32.lt_iff_toInt_lt, Int32.le_iff_toInt_le, nI_toInt]
        (repeat' split) <;> first | rfl | (exfalso; apply hv; omega)
