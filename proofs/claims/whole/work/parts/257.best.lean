/-! the best letter of a cell -/
theorem jout_le (lo hi v : Nat) : jout lo hi v ≤ lo + v := by unfold jout; omega
theorem jsr_le (A : jR) (p lo i : Nat) : jsr A p lo i ≤ 1 := by unfold jsr; split <;> omega
theorem jmt_le (w : jLw) (k : Nat) (r : Nat → Nat) (i : Nat) : jmt w k r i ≤ 1 := by unfold jmt; split <;> omega
theorem jhrs_le {A : jR} (hA : jRg A) (p : Nat) {lo : Nat} (hi f : Nat) {sp k : Nat} (hlo : lo ≤ 99999) (hsp : sp ≤ 21) (hk : k ≤ 22) : jhrs A p lo hi sp f k ≤ 3000000 := by
  have h := jsm_le (f := fun i => jout lo hi (jwin A p sp (f + i))) (m := 130300) (fun i => by
    have h1 := jout_le lo hi (jwin A p sp (f + i))
    have h2 := jwin_le hA p (f + i) hsp
    show jout lo hi (jwin A p sp (f + i)) ≤ 130300
    omega) k
  unfold jhrs
  have : k * 130300 ≤ 22 * 130300 := Nat.mul_le_mul_right _ hk
  omega
theorem jnk_le {L : jL} (hD : jdim L) {A : jR} (hA : jRg A) {w : jLw} (hw : jLg L w) {k : Nat} (hk : k < jLw.n w) (p t : Nat) : jnk w k A L p t ≤ 4000000 := by
  have h1 := hD.n8
  have h2 := hD.d21
  have hlo := hw.lo k hk
  unfold jnk
  split
  · have := jmxs_le (fun i => jtm_le (L := L) A (jLw.lt w k) i) (jn L - 1)
    unfold jfc
    omega
  · split
    · have a := jout_le (jLw.lo w k) (jLw.hi w k) (jcv A L (jLw.lt w k) t)
      have b := jcv_le (L := L) A (jLw.lt w k) t
      unfold jdc
      omega
    · unfold jpc
      split
      · have := jsm_le (f := jun A p) (m := 1) (fun i => jun_le A p i) (jd L)
        omega
      · split
        · have := jsm_le (f := jsr A p (jLw.lo w k)) (m := 1) (fun i => jsr_le A p _ i) (7 + jd L)
          omega
        · split
          · rename_i c
            have hsp := hw.sp k hk c
            have := jhrs_le hA p (jLw.hi w k) 0 (sp := jLw.sp w k) (k := jd L + 1 - jLw.sp w k) hlo (by omega) (by omega)
            omega
          · split
            · have := jsm_le (f := jmt w k (jR.row A p)) (m := 1) (fun i => jmt_le w k _ i) (7 + jd L)
              omega
            · unfold jwo
              omega
theorem jak_le {L : jL} (hD : jdim L) {A : jR} (hA : jRg A) {w : jLw} (hw : jLg L w) {k : Nat} (hk : k < jLw.n w) (p : Nat) {t : Nat} (ht : t < jd L) : jak w k A L p t ≤ 4000000 := by
  have h2 := hD.d21
  have hlo := hw.lo k hk
  unfold jak
  split
  · have := jun_le A p t
    omega
  · split
    · rename_i c
      have hsp := hw.sp k hk c
      have := jhrs_le hA p (jLw.hi w k) (t + 1 - jLw.sp w k) (sp := jLw.sp w k) (k := min t (jd L - jLw.sp w k) + 1 - (t + 1 - jLw.sp w k)) hlo (by omega) (by omega)
      omega
    · exact jnk_le hD hA hw hk p t
theorem jwsum_le {w : jLw} {L : jL} (hw : jLg L w) {f : Nat → Nat} (hf : ∀ k, k < jLw.n w → f k ≤ 4000000) : jsm (fun k => jLw.wt w k * f k) (jLw.n w) ≤ 64000000000 := by
  have key : ∀ n, n ≤ jLw.n w → jsm (fun k => jLw.wt w k * f k) n ≤ n * 4000000000 := by
    intro n
    induction n with
    | zero => intro _; exact Nat.zero_le _
    | succ n ih =>
      intro hn
      have h1 := ih (by omega)
      have h2 : jLw.wt w n * f n ≤ 1000 * 4000000 := Nat.mul_le_mul (hw.wt n (by omega)) (hf n (by omega))
      rw [jsm, Nat.succ_mul]
      omega
  have h1 := key (jLw.n w) (Nat.le_refl _)
  have h2 := hw.n16
  omega
theorem jwc_le {A : jR} (hA : jRg A) (p t : Nat) : jwc A p t ≤ 1000 := by
  have := hA.ww p t
  unfold jwc
  split <;> omega
theorem jnr_lt {L : jL} (hD : jdim L) {A : jR} (hA : jRg A) {w : jLw} (hw : jLg L w) (p t : Nat) : jnr w A L p t < 2 ^ 62 := by
  have h1 := jwsum_le hw (f := fun k => jnk w k A L p t) (fun k hk => jnk_le hD hA hw hk p t)
  have h2 := jwc_le hA p t
  unfold jnr
  omega
theorem jar_lt {L : jL} (hD : jdim L) {A : jR} (hA : jRg A) {w : jLw} (hw : jLg L w) (p : Nat) {t : Nat} (ht : t < jd L) : jar w A L p t < 2 ^ 62 := by
  have h1 := jwsum_le hw (f := fun k => jak w k A L p t) (fun k hk => jak_le hD hA hw hk p ht)
  have h2 := jwc_le hA p t
  unfold jar
  omega
theorem jcmpd {a b c : Nat} (ha : a < 2 ^ 62) (hb : b < 2 ^ 62) (hc : c < 2 ^ 62) : (lN a - lN c ≤ lN b - lN c) ↔ a ≤ b := by
  rw [Int64.le_iff_toInt_le, jlS ha hc, jlS hb hc]
  omega
/-- the first of the least ones among 0 .. k -/
def jam (f : Nat → Nat) : Nat → Nat
  | 0 => 0
  | k + 1 => if f (k + 1) < f (jam f k) then k + 1 else jam f k
theorem jam_le (f : Nat → Nat) : ∀ k, jam f k ≤ k
  | 0 => Nat.le_refl _
  | k + 1 => by rw [jam]; have := jam_le f k; split <;> omega
theorem jam_eq {f g : Nat → Nat} {K : Nat} (h : ∀ a b, a ≤ K → b ≤ K → (f a < f b ↔ g a < g b)) : ∀ k, k ≤ K → jam f k = jam g k
  | 0, _ => rfl
  | k + 1, hk => by
    have e := jam_eq h k (by omega)
    have hl := jam_le g k
    rw [jam, jam, e]
    have := h (k + 1) (jam g k) hk (by omega)
    by_cases c : f (k + 1) < f (jam g k)
    · rw [if_pos c, if_pos (this.mp c)]
    · rw [if_neg c, if_neg (fun q => c (this.mpr q))]
theorem jam_min (f : Nat → Nat) : ∀ k i, i ≤ k → f (jam f k) ≤ f i
  | 0, i, h => by rw [Nat.le_zero.mp h]; exact Nat.le_refl _
  | k + 1, i, h => by
    rw [jam]
    rcases Nat.lt_or_ge i (k + 1) with q | q
    · have := jam_min f k i (by omega)
      split <;> omega
    · rw [show i = k + 1 by omega]
      split <;> omega
theorem jam_fst (f : Nat → Nat) : ∀ k i, i < jam f k → f (jam f k) < f i
  | 0, i, h => by rw [jam] at h; omega
  | k + 1, i, h => by
    rw [jam] at h ⊢
    split
    · rename_i c
      rw [if_pos c] at h
      have := jam_min f k i (by omega)
      omega
    · rename_i c
      rw [if_neg c] at h
      exact jam_fst f k i h
/-- the best letter by either measure -/
def jbl (w : jLw) (A : jR) (L : jL) (p t : Nat) : Nat := jam (fun l => jnr w (jR.put A p t l) L p t) 8
theorem jbl_ar {L : jL} {w : jLw} (hw : jLg L w) {A : jR} {p t : Nat} (ht : t < jd L) : jam (fun l => jar w (jR.put A p t l) L p t) 8 = jbl w A L p t := by
  refine jam_eq (K := 8) (fun a b _ _ => ?_) 8 (Nat.le_refl _)
  have e1 := jdn hw (A := A) (p := p) (t := t) (l := a) ht
  have e2 := jdn hw (A := A) (p := p) (t := t) (l := b) ht
  show jar w (jR.put A p t a) L p t < jar w (jR.put A p t b) L p t ↔ jnr w (jR.put A p t a) L p t < jnr w (jR.put A p t b) L p t
  omega
theorem jMo_best17 {L : jL} (hL : jgood L) (hD : jdim L) {ω : xS} {S : jSt} {A : jR} (hA : jRg A) {sw ps wy : Nat} (hK : jLK S sw ps wy) {w : jLw} (hw : jLg L w) (h : jRM L S A) (hM : jLM S w) {p t : Nat} (hp : p < jn L) (ht : t < jd L) : f_Mo_best_17 xFU (jad L (jm 0)) (nI p) (nI t) (nI 0 - nI 1) (nI 0) (jW L ω S) = some (nI (jbl w A L p t) - nI 1, jW L ω S) := by
  refine jlpx (fun n i x => f_Mo_best_17 n (jad L (jm 0)) (nI p) (nI t) x (nI i) (jW L ω S)) (fun i => nI (jam (fun l => jnr w (jR.put A p t l) L p t) i) - nI 1) (lo := 0) (hi := 8) (Nat.zero_le _) (by omega) ?_ ?_
  · intro n i _ hi
    have hj := jam_le (fun l => jnr w (jR.put A p t l) L p t) i
    have e1 := jMo_changed hL hD hA hK (ω := ω) hw h hM hp ht (l := i + 1) (by omega)
    rw [show nI (i + 1) - nI 1 = nI i by rw [jsub (by omega), Nat.add_sub_cancel]] at e1
    have e2 := jMo_changed hL hD hA hK (ω := ω) hw h hM hp ht (l := jam (fun l => jnr w (jR.put A p t l) L p t) i) (by omega)
    have b1 := jnr_lt hD (jR.put_good hA (p := p) (t := t) (show i + 1 ≤ 8 by omega)) hw p t
    have b2 := jnr_lt hD (jR.put_good hA (p := p) (t := t) (show jam (fun l => jnr w (jR.put A p t l) L p t) i ≤ 8 by omega)) hw p t
    have b3 := jnr_lt hD hA hw p t
    rw [f_Mo_best_17, jam]
    simp (disch := first | omega | rfl | assumption | exact jokr (by decide) (by omega) | exact jokr4 (by omega) | exact jkt_r _ _ | exact jkt_l (by decide) | exact jfk_l (by decide) | exact jkt_t _ | exact jkt_r6 _ _ | exact jkt_t6 _ | (simp only [jok, jlen]; omega) | decide) only [jm_k hL, jm_gi hL, jm_gr hL, jm_gl hL, jm_pi hL, jm_pl hL, jn_ai hL, jn_ab hL, jn_az hL, jn_al hL, jn_ar hL, jn_an hL, jn_si hL, jn_sb hL, jn_sz hL, jn_sl hL, Option.bind_some, xc, xl, jlit, jlitl, jmul, nI_add, lN_add, nI_leI, nI_ltI, nI_eq, jm1, jm1g, jm1e, jm1c, if_neg, e1, e2, jcge, jcmpd]
    by_cases c : jnr w (jR.put A p t (jam (fun l => jnr w (jR.put A p t l) L p t) i)) L p t ≤ jnr w (jR.put A p t (i + 1)) L p t
    · rw [if_pos c, if_neg (by omega)]
    · rw [if_neg c, if_pos (by omega), show nI (i + 1) - nI 1 = nI i by rw [jsub (by omega), Nat.add_sub_cancel]]
  · intro n
    rw [f_Mo_best_17]
    simp (disch := first | omega | rfl | assumption | exact jokr (by decide) (by omega) | exact jokr4 (by omega) | exact jkt_r _ _ | exact jkt_l (by decide) | exact jfk_l (by decide) | exact jkt_t _ | exact jkt_r6 _ _ | exact jkt_t6 _ | (simp only [jok, jlen]; omega) | decide) only [jlit, jlitl, jmul, nI_add, lN_add, nI_leI, nI_ltI, nI_eq, jm1, jm1g, jm1e, jm1c, if_pos]
    rfl
theorem jcell_comp (S : jSt) (p t f a b : Nat) : jcell (jcell S p t f a) p t a b = jcell S p t f b := by
  refine Prod.ext (funext fun c => funext fun k => ?_) (Prod.ext (funext fun c => funext fun k => ?_) rfl)
  · show (if c = jo 18 ∧ k = 11 then (if c = jo 18 ∧ k = 11 then S.1 c k + ((if a = 0 then nI 0 else nI 1) - (if f = 0 then nI 0 else nI 1)) else S.1 c k) + ((if b = 0 then nI 0 else nI 1) - (if a = 0 then nI 0 else nI 1)) else (if c = jo 18 ∧ k = 11 then S.1 c k + ((if a = 0 then nI 0 else nI 1) - (if f = 0 then nI 0 else nI 1)) else S.1 c k)) = (if c = jo 18 ∧ k = 11 then S.1 c k + ((if b = 0 then nI 0 else nI 1) - (if f = 0 then nI 0 else nI 1)) else S.1 c k)
    by_cases q : c = jo 18 ∧ k = 11
    · rw [if_pos q, if_pos q, if_pos q]
      generalize (if a = 0 then nI 0 else nI 1) = x
      generalize (if f = 0 then nI 0 else nI 1) = y
      generalize (if b = 0 then nI 0 else nI 1) = z
      generalize S.1 c k = d
      grind
    · rw [if_neg q, if_neg q, if_neg q]
  · show (if c = jr 0 p ∧ k = 7 + t then nI b else if c = jr 3 p ∨ c = jr 4 t then (if c = jr 0 p ∧ k = 7 + t then nI a else if c = jr 3 p ∨ c = jr 4 t then S.2.1 c k - (if k = f then nI 1 else nI 0) + (if k = a then nI 1 else nI 0) else S.2.1 c k) - (if k = a then nI 1 else nI 0) + (if k = b then nI 1 else nI 0) else (if c = jr 0 p ∧ k = 7 + t then nI a else if c = jr 3 p ∨ c = jr 4 t then S.2.1 c k - (if k = f then nI 1 else nI 0) + (if k = a then nI 1 else nI 0) else S.2.1 c k)) = (if c = jr 0 p ∧ k = 7 + t then nI b else if c = jr 3 p ∨ c = jr 4 t then S.2.1 c k - (if k = f then nI 1 else nI 0) + (if k = b then nI 1 else nI 0) else S.2.1 c k)
    by_cases q : c = jr 0 p ∧ k = 7 + t
    · rw [if_pos q, if_pos q]
    · rw [if_neg q, if_neg q, if_neg q]
      by_cases q2 : c = jr 3 p ∨ c = jr 4 t
      · rw [if_pos q2, if_pos q2, if_pos q2]
        generalize (if k = a then nI 1 else nI 0) = x
        generalize (if k = f then nI 1 else nI 0) = y
        generalize (if k = b then nI 1 else nI 0) = z
        generalize S.2.1 c k = d
        grind
      · rw [if_neg q2, if_neg q2, if_neg q2]
theorem jput_put (A : jR) (p t a b : Nat) : jR.put (jR.put A p t a) p t b = jR.put A p t b := by
  refine Prod.ext (funext fun q => funext fun j => ?_) rfl
  show (if q = p ∧ j = 7 + t then b else jR.row (jR.put A p t a) q j) = (if q = p ∧ j = 7 + t then b else jR.row A q j)
  rw [jR.put_row]
  by_cases h : q = p ∧ j = 7 + t
  · rw [if_pos h, if_pos h]
  · rw [if_neg h, if_neg h, if_neg h]
theorem jRR_bestLetter {L : jL} (hL : jgood L) (hD : jdim L) {ω : xS} {S : jSt} {A : jR} (hA : jRg A) {sw ps wy : Nat} (hK : jLK S sw ps wy) {w : jLw} (hw : jLg L w) (h : jRC L S A) (hC : jLC L S w sw) {p t : Nat} (hp : p < jn L) (ht : t < jd L) : f_RR_bestLetter (jad L (jo 0)) (nI p) (nI t) (jW L ω S) = some (nI (jbl w A L p t), jW L ω S) := by
  have h1 := hD.n8
  have h2 := hD.d21
  have hf := hA.row p (7 + t)
  unfold f_RR_bestLetter
  simp (disch := first | omega | rfl | assumption | exact jokr (by decide) (by omega) | exact jokr4 (by omega) | exact jkt_r _ _ | exact jkt_l (by decide) | exact jfk_l (by decide) | exact jkt_t _ | exact jkt_r6 _ _ | exact jkt_t6 _ | (simp only [jok, jlen]; omega) | decide) only [jm_k hL, jm_gi hL, jm_gr hL, jm_gl hL, jm_pi hL, jm_pl hL, jn_ai hL, jn_ab hL, jn_az hL, jn_al hL, jn_ar hL, jn_an hL, jn_si hL, jn_sb hL, jn_sz hL, jn_sl hL, Option.bind_some, xc, xl, jsA_X, jsI_X, jsG_X, hK _ _, jlk, jmx, jRo_letterOf hL hD hA hK h hp ht]
  -- the worlds of the loop
  have hset : ∀ i l, l ≤ 8 → (i = 0 ∨ i - 1 ≤ 8) → f_Roster_setCell (jad L (jo 18)) (nI p) (nI t) (nI l) (jW L ω (if i = 0 then S else jcell S p t (jR.row A p (7 + t)) (i - 1))) = some (jW L ω (jcell S p t (jR.row A p (7 + t)) l)) := by
    intro i l hl hi
    by_cases c : i = 0
    · rw [if_pos c]
      exact jRo_setCell hL hD hA hK h hp ht hl
    · rw [if_neg c]
      have e := jRo_setCell hL hD (jR.put_good hA (p := p) (t := t) (l := i - 1) (by omega)) (show jLK (jcell S p t (jR.row A p (7 + t)) (i - 1)) sw ps wy from hK) (ω := ω) (h.put hD hp ht) hp ht hl
      rw [show jR.row (jR.put A p t (i - 1)) p (7 + t) = i - 1 by rw [jR.put_row, if_pos ⟨rfl, rfl⟩], jcell_comp] at e
      exact e
  have hcost : ∀ l, l ≤ 8 → f_RR_costAround (jad L (jo 0)) (nI p) (nI t) (jW L ω (jcell S p t (jR.row A p (7 + t)) l)) = some (lN (jar w (jR.put A p t l) L p t)) := fun l hl => jRR_around hL hD (jR.put_good hA hl) (show jLK (jcell S p t (jR.row A p (7 + t)) l) sw ps wy from hK) (ω := ω) hw (h.put hD hp ht) hC.cell hp ht
  have hX : ∀ i, jgX (if i = 0 then S else jcell S p t (jR.row A p (7 + t)) (i - 1)) = jgX S := fun i => by split <;> rfl
  refine (jlpx (fun n i (x : Int32 × Int64 × jSt) => f_RR_bestLetter_19 n (jad L (jo 0)) (nI p) (nI t) (nI (jR.row A p (7 + t))) x.1 x.2.1 (nI i) (jW L ω x.2.2)) (fun i => (nI (jam (fun l => jar w (jR.put A p t l) L p t) (i - 1)), (if i = 0 then lN 0 else lN (jar w (jR.put A p t (jam (fun l => jar w (jR.put A p t l) L p t) (i - 1))) L p t)), (if i = 0 then S else jcell S p t (jR.row A p (7 + t)) (i - 1)))) (lo := 0) (hi := 9) (r := some (nI (jbl w A L p t), jW L ω S)) (Nat.zero_le _) (by omega) ?_ ?_ : _)
  · intro n i _ hi
    have hj := jam_le (fun l => jar w (jR.put A p t l) L p t) (i - 1)
    have b1 := jar_lt hD (jR.put_good hA (p := p) (t := t) (show i ≤ 8 by omega)) hw p ht
    have b2 := jar_lt hD (jR.put_good hA (p := p) (t := t) (show jam (fun l => jar w (jR.put A p t l) L p t) (i - 1) ≤ 8 by omega)) hw p ht
    show f_RR_bestLetter_19 (n + 1) _ _ _ _ _ _ _ _ = f_RR_bestLetter_19 n _ _ _ _ _ _ _ _
    rw [f_RR_bestLetter_19]
    simp (disch := first | omega | rfl | assumption | exact jokr (by decide) (by omega) | exact jokr4 (by omega) | exact jkt_r _ _ | exact jkt_l (by decide) | exact jfk_l (by decide) | exact jkt_t _ | exact jkt_r6 _ _ | exact jkt_t6 _ | (simp only [jok, jlen]; omega) | decide) only [jm_k hL, jm_gi hL, jm_gr hL, jm_gl hL, jm_pi hL, jm_pl hL, jn_ai hL, jn_ab hL, jn_az hL, jn_al hL, jn_ar hL, jn_an hL, jn_si hL, jn_sb hL, jn_sz hL, jn_sl hL, Option.bind_some, xc, xl, jsA_X, jsI_X, jsG_X, hK _ _, jlk, jmx, hX, jlit, jlitl, jmul, nI_add, lN_add, nI_leI, nI_ltI, nI_eq, jm1, jm1g, jm1e, jm1c, if_neg, hset i i (by omega) (by omega), hcost i (by omega)]
    rw [Nat.add_sub_cancel]
    by_cases c : i = 0
    · subst c
      rw [if_pos rfl]
      rfl
    · rw [if_neg c]
      try rw [if_neg c]
      simp (disch := first | omega | rfl | assumption | exact jokr (by decide) (by omega) | exact jokr4 (by omega) | exact jkt_r _ _ | exact jkt_l (by decide) | exact jfk_l (by decide) | exact jkt_t _ | exact jkt_r6 _ _ | exact jkt_t6 _ | (simp only [jok, jlen]; omega) | decide) only [jcge, jlLE]
      have e : jam (fun l => jar w (jR.put A p t l) L p t) i = if jar w (jR.put A p t i) L p t < jar w (jR.put A p t (jam (fun l => jar w (jR.put A p t l) L p t) (i - 1))) L p t then i else jam (fun l => jar w (jR.put A p t l) L p t) (i - 1) := by
        conv => lhs; rw [show i = i - 1 + 1 by omega, jam]
        rw [show i - 1 + 1 = i by omega]
      by_cases c2 : jar w (jR.put A p t (jam (fun l => jar w (jR.put A p t l) L p t) (i - 1))) L p t ≤ jar w (jR.put A p t i) L p t
      · rw [if_pos c2, e, if_neg (by omega)]
      · rw [if_neg c2, e, if_pos (by omega)]
  · intro n
    show f_RR_bestLetter_19 (n + 1) _ _ _ _ _ _ _ _ = _
    have e := hset 9 (jR.row A p (7 + t)) hf (by omega)
    rw [f_RR_bestLetter_19]
    simp (disch := first | omega | rfl | assumption | exact jokr (by decide) (by omega) | exact jokr4 (by omega) | exact jkt_r _ _ | exact jkt_l (by decide) | exact jfk_l (by decide) | exact jkt_t _ | exact jkt_r6 _ _ | exact jkt_t6 _ | (simp only [jok, jlen]; omega) | decide) only [jm_k hL, jm_gi hL, jm_gr hL, jm_gl hL, jm_pi hL, jm_pl hL, jn_ai hL, jn_ab hL, jn_az hL, jn_al hL, jn_ar hL, jn_an hL, jn_si hL, jn_sb hL, jn_sz hL, jn_sl hL, Option.bind_some, xc, xl, jsA_X, jsI_X, jsG_X, hK _ _, jlk, jmx, hX, jlit, jlitl, jmul, nI_add, lN_add, nI_leI, nI_ltI, nI_eq, jm1, jm1g, jm1e, jm1c, if_pos, e]
    rw [show (9 - 1 : Nat) = 8 from rfl, jbl_ar hw ht]
    have e2 := jcell_back S (l := jR.row A p (7 + t)) (h.row p (7 + t) hp (by omega))
    rw [jcell_comp] at e2
    rw [e2]
