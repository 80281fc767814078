/-! THE FIRST AUTOMATON: sets numbered as they are come to, pair by pair (pair m: state m / 9, letter m % 9). After m pairs: how many; the set of a number; a set's number and 1, or 0 -/
def jex (δ : Nat → Nat → Nat) : Nat → Nat × (Nat → Nat) × (Nat → Nat)
  | 0 => (1, fun _ => 1024, fun x => if x = 1024 then 1 else 0)
  | m + 1 => if (jex δ m).2.2 (δ ((jex δ m).2.1 (m / 9)) (m % 9)) = 0 then ((jex δ m).1 + 1, fun i => if i = (jex δ m).1 then δ ((jex δ m).2.1 (m / 9)) (m % 9) else (jex δ m).2.1 i, fun x => if x = δ ((jex δ m).2.1 (m / 9)) (m % 9) then (jex δ m).1 + 1 else (jex δ m).2.2 x) else jex δ m
def jxc (δ : Nat → Nat → Nat) (m : Nat) : Nat := (jex δ m).1
def jxs (δ : Nat → Nat → Nat) (m : Nat) : Nat → Nat := (jex δ m).2.1
def jxn (δ : Nat → Nat → Nat) (m : Nat) : Nat → Nat := (jex δ m).2.2
/-- the set to which pair m leads, and its number -/
def jxt (δ : Nat → Nat → Nat) (m : Nat) : Nat := δ (jxs δ m (m / 9)) (m % 9)
def jxg (δ : Nat → Nat → Nat) (m : Nat) : Nat := jxn δ (m + 1) (jxt δ m) - 1
theorem jx_new {δ : Nat → Nat → Nat} {m : Nat} (h : jxn δ m (jxt δ m) = 0) : jxc δ (m + 1) = jxc δ m + 1 ∧ (∀ i, jxs δ (m + 1) i = if i = jxc δ m then jxt δ m else jxs δ m i) ∧ ∀ x, jxn δ (m + 1) x = if x = jxt δ m then jxc δ m + 1 else jxn δ m x := by
  have e : jex δ (m + 1) = (jxc δ m + 1, fun i => if i = jxc δ m then jxt δ m else jxs δ m i, fun x => if x = jxt δ m then jxc δ m + 1 else jxn δ m x) := by
    rw [jex]; exact if_pos h
  unfold jxc jxs jxn
  rw [e]
  exact ⟨rfl, fun _ => rfl, fun _ => rfl⟩
theorem jx_old {δ : Nat → Nat → Nat} {m : Nat} (h : jxn δ m (jxt δ m) ≠ 0) : jxc δ (m + 1) = jxc δ m ∧ jxs δ (m + 1) = jxs δ m ∧ jxn δ (m + 1) = jxn δ m := by
  have e : jex δ (m + 1) = jex δ m := by
    rw [jex]; exact if_neg h
  unfold jxc jxs jxn
  rw [e]
  exact ⟨rfl, rfl, rfl⟩
def jXI (δ : Nat → Nat → Nat) (m : Nat) : Prop := (∀ i, i < jxc δ m → jxn δ m (jxs δ m i) = i + 1) ∧ (∀ x, jxn δ m x ≠ 0 → jxn δ m x - 1 < jxc δ m ∧ jxs δ m (jxn δ m x - 1) = x) ∧ (∀ i, i < jxc δ m → jxs δ m i ≤ 1024) ∧ (1 ≤ jxc δ m) ∧ (jxs δ m 0 = 1024)
theorem jXI.a {δ : Nat → Nat → Nat} {m : Nat} (h : jXI δ m) : ∀ i, i < jxc δ m → jxn δ m (jxs δ m i) = i + 1 := h.1
theorem jXI.b {δ : Nat → Nat → Nat} {m : Nat} (h : jXI δ m) : ∀ x, jxn δ m x ≠ 0 → jxn δ m x - 1 < jxc δ m ∧ jxs δ m (jxn δ m x - 1) = x := h.2.1
theorem jXI.d {δ : Nat → Nat → Nat} {m : Nat} (h : jXI δ m) : ∀ i, i < jxc δ m → jxs δ m i ≤ 1024 := h.2.2.1
theorem jXI.c {δ : Nat → Nat → Nat} {m : Nat} (h : jXI δ m) : 1 ≤ jxc δ m := h.2.2.2.1
theorem jXI.z {δ : Nat → Nat → Nat} {m : Nat} (h : jXI δ m) : jxs δ m 0 = 1024 := h.2.2.2.2
theorem jx_inv {δ : Nat → Nat → Nat} (hδ : ∀ s l, δ s l < 1024) : ∀ m, jXI δ m
  | 0 => by
    refine ⟨fun i hi => ?_, fun x hx => ?_, fun i _ => Nat.le_refl _, Nat.le_refl _, rfl⟩
    · have hi : i < 1 := hi
      have : i = 0 := by omega
      subst this
      rfl
    · have hx : (if x = 1024 then 1 else 0) ≠ 0 := hx
      by_cases c : x = 1024
      · subst c; exact ⟨(show 0 < 1 by decide), rfl⟩
      · rw [if_neg c] at hx; exact absurd rfl hx
  | m + 1 => by
    have ih := jx_inv hδ m
    by_cases h : jxn δ m (jxt δ m) = 0
    · obtain ⟨h1, h2, h3⟩ := jx_new h
      have hc := ih.c
      refine ⟨fun i hi => ?_, fun x hx => ?_, fun i hi => ?_, by omega, ?_⟩
      · rw [h1] at hi
        rw [h2, h3]
        by_cases c : i = jxc δ m
        · rw [if_pos c, if_pos rfl, c]
        · rw [if_neg c]
          have := ih.a i (by omega)
          rw [if_neg (fun q => by rw [q, h] at this; omega)]
          exact this
      · rw [h3] at hx
        rw [h3, h1]
        by_cases c : x = jxt δ m
        · rw [if_pos c, h2, Nat.add_sub_cancel, if_pos rfl]
          exact ⟨by omega, c.symm⟩
        · rw [if_neg c] at hx ⊢
          have := ih.b x hx
          rw [h2, if_neg (by omega)]
          exact ⟨by omega, this.2⟩
      · rw [h1] at hi
        rw [h2]
        split
        · have := hδ (jxs δ m (m / 9)) (m % 9)
          unfold jxt
          omega
        · exact ih.d i (by omega)
      · rw [h2, if_neg (by omega)]; exact ih.z
    · obtain ⟨h1, h2, h3⟩ := jx_old h
      unfold jXI
      rw [h1, h2, h3]
      exact ih
theorem jx_le {δ : Nat → Nat → Nat} (hδ : ∀ s l, δ s l < 1024) (m : Nat) : jxc δ m ≤ 1025 := by
  have h := jx_inv hδ m
  rcases Nat.lt_or_ge 1025 (jxc δ m) with q | q
  · exfalso
    obtain ⟨i, hi, e⟩ := jpigeon 1026 (fun i => jxs δ m i) (fun i hi => by have := h.d i (by omega); show jxs δ m i < 1026; omega) (fun i j hi hj e => by
      have e : jxs δ m i = jxs δ m j := e
      have h1 := h.a i (by omega)
      have h2 := h.a j (by omega)
      rw [e, h2] at h1
      omega) 1025 (by omega)
    have e : jxs δ m i = 1025 := e
    have := h.d i (by omega)
    omega
  · exact q
theorem jx_room {δ : Nat → Nat → Nat} (hδ : ∀ s l, δ s l < 1024) {m : Nat} (h : jxn δ m (jxt δ m) = 0) : jxc δ m < 1025 := by
  have h1 := (jx_new h).1
  have h2 := jx_le hδ (m + 1)
  omega
theorem jx_mono {δ : Nat → Nat → Nat} : ∀ {a b : Nat}, a ≤ b → jxc δ a ≤ jxc δ b := by
  intro a b
  induction b with
  | zero => intro h1; rw [Nat.le_zero.mp h1]; exact Nat.le_refl _
  | succ b ih =>
    intro h1
    rcases Nat.lt_or_ge a (b + 1) with q | q
    · have := ih (by omega)
      by_cases h : jxn δ b (jxt δ b) = 0
      · have := (jx_new h).1; omega
      · have := (jx_old h).1; omega
    · rw [show a = b + 1 by omega]; exact Nat.le_refl _
/-- what is known stays -/
theorem jx_keep {δ : Nat → Nat → Nat} : ∀ {a b : Nat}, a ≤ b → (∀ i, i < jxc δ a → jxs δ b i = jxs δ a i) ∧ ∀ x, jxn δ a x ≠ 0 → jxn δ b x = jxn δ a x := by
  intro a b
  induction b with
  | zero => intro h1; rw [Nat.le_zero.mp h1]; exact ⟨fun _ _ => rfl, fun _ _ => rfl⟩
  | succ b ih =>
    intro h1
    rcases Nat.lt_or_ge a (b + 1) with q | q
    · obtain ⟨i1, i2⟩ := ih (by omega)
      have hm : jxc δ a ≤ jxc δ b := jx_mono (by omega)
      by_cases h : jxn δ b (jxt δ b) = 0
      · obtain ⟨h1, h2, h3⟩ := jx_new h
        refine ⟨fun i hi => ?_, fun x hx => ?_⟩
        · rw [h2, if_neg (by omega)]; exact i1 i hi
        · have := i2 x hx
          rw [h3, if_neg (fun z => by rw [← z, this] at h; exact hx h)]; exact this
      · obtain ⟨h1, h2, h3⟩ := jx_old h
        rw [h2, h3]
        exact ⟨i1, i2⟩
    · rw [show a = b + 1 by omega]; exact ⟨fun _ _ => rfl, fun _ _ => rfl⟩
def jisN (δ : Nat → Nat → Nat) (N : Nat) : Prop := (1 ≤ N) ∧ (N ≤ 1025) ∧ (jxc δ (9 * N) = N) ∧ (∀ k, k < N → k < jxc δ (9 * k))
theorem jisN.p {δ : Nat → Nat → Nat} {N : Nat} (h : jisN δ N) : 1 ≤ N := h.1
theorem jisN.u {δ : Nat → Nat → Nat} {N : Nat} (h : jisN δ N) : N ≤ 1025 := h.2.1
theorem jisN.e {δ : Nat → Nat → Nat} {N : Nat} (h : jisN δ N) : jxc δ (9 * N) = N := h.2.2.1
theorem jisN.k {δ : Nat → Nat → Nat} {N : Nat} (h : jisN δ N) : ∀ k, k < N → k < jxc δ (9 * k) := h.2.2.2
theorem jisN.uniq {δ : Nat → Nat → Nat} {N N' : Nat} (h : jisN δ N) (h' : jisN δ N') : N = N' := by
  rcases Nat.lt_trichotomy N N' with q | q | q
  · have := h'.k N q; rw [h.e] at this; omega
  · exact q
  · have := h.k N' q; rw [h'.e] at this; omega
theorem jisN.ex {δ : Nat → Nat → Nat} (hδ : ∀ s l, δ s l < 1024) : ∃ N, jisN δ N := by
  have key : ∀ n, (∀ k, k < n → k < jxc δ (9 * k)) ∨ ∃ N, jisN δ N := by
    intro n
    induction n with
    | zero => exact Or.inl fun k hk => absurd hk (Nat.not_lt_zero k)
    | succ n ih =>
      rcases ih with h | h
      · rcases Nat.lt_or_ge n (jxc δ (9 * n)) with q | q
        · refine Or.inl fun k hk => ?_
          rcases Nat.lt_or_ge k n with r | r
          · exact h k r
          · rw [show k = n by omega]; exact q
        · have h1 := (jx_inv hδ (9 * n)).c
          have h2 := jx_le hδ (9 * n)
          refine Or.inr ⟨n, by omega, ?_, ?_, h⟩
          · have h3 := h (n - 1) (by omega)
            have h4 : jxc δ (9 * (n - 1)) ≤ jxc δ (9 * n) := jx_mono (by omega)
            omega
          · have h3 := h (n - 1) (by omega)
            have h4 : jxc δ (9 * (n - 1)) ≤ jxc δ (9 * n) := jx_mono (by omega)
            omega
      · exact Or.inr h
  rcases key 1027 with h | h
  · exfalso
    have h1 := h 1026 (by omega)
    have h2 := jx_le hδ (9 * 1026)
    omega
  · exact h
theorem jisN.kn {δ : Nat → Nat → Nat} {N : Nat} (h : jisN δ N) {m : Nat} (hm : m < 9 * N) : m / 9 < jxc δ m := by
  have h1 := h.k (m / 9) (by omega)
  have h2 : jxc δ (9 * (m / 9)) ≤ jxc δ m := jx_mono (by omega)
  omega
theorem jisN.bo {δ : Nat → Nat → Nat} (hδ : ∀ s l, δ s l < 1024) {N : Nat} (h : jisN δ N) : jBO N (jxg δ) (jxc δ) := by
  refine ⟨rfl, h.e, fun m hm => ?_, fun m hm => h.kn hm⟩
  have hi := jx_inv hδ m
  by_cases q : jxn δ m (jxt δ m) = 0
  · obtain ⟨h1, h2, h3⟩ := jx_new q
    right
    refine ⟨?_, h1⟩
    unfold jxg
    rw [h3, if_pos rfl, Nat.add_sub_cancel]
  · obtain ⟨h1, h2, h3⟩ := jx_old q
    left
    refine ⟨?_, h1⟩
    unfold jxg
    rw [h3]
    exact (hi.b _ q).1
/-- the states' sets, at the end -/
theorem jisN.step {δ : Nat → Nat → Nat} (hδ : ∀ s l, δ s l < 1024) {N : Nat} (h : jisN δ N) {m : Nat} (hm : m < 9 * N) : jxs δ (9 * N) (jxg δ m) = δ (jxs δ (9 * N) (m / 9)) (m % 9) ∧ jxt δ m = δ (jxs δ (9 * N) (m / 9)) (m % 9) := by
  have e1 : jxs δ (9 * N) (m / 9) = jxs δ m (m / 9) := (jx_keep (show m ≤ 9 * N by omega)).1 _ (h.kn hm)
  have hi := jx_inv hδ (m + 1)
  have h0 : jxn δ (m + 1) (jxt δ m) ≠ 0 := by
    by_cases q : jxn δ m (jxt δ m) = 0
    · rw [(jx_new q).2.2, if_pos rfl]; omega
    · rw [(jx_old q).2.2]; exact q
  have h1 := hi.b _ h0
  have e2 : jxs δ (9 * N) (jxg δ m) = jxs δ (m + 1) (jxg δ m) := (jx_keep (show m + 1 ≤ 9 * N by omega)).1 _ h1.1
  rw [e1, e2]
  exact ⟨h1.2, rfl⟩
/-! WHAT THE ROUNDS OF REFINING PART -/
def jRl (tg fin : Nat → Nat) : Nat → Nat → Nat → Prop
  | 0 => fun a b => fin a = fin b
  | r + 1 => fun a b => jRl tg fin r a b ∧ ∀ l, l < 9 → jRl tg fin r (tg (9 * a + l)) (tg (9 * b + l))
def jRI (tg fin : Nat → Nat) (a b : Nat) : Prop := ∀ r, jRl tg fin r a b
theorem jRI.fin {tg fin : Nat → Nat} {a b : Nat} (h : jRI tg fin a b) : fin a = fin b := h 0
theorem jRI.on {tg fin : Nat → Nat} {a b l : Nat} (h : jRI tg fin a b) (hl : l < 9) : jRI tg fin (tg (9 * a + l)) (tg (9 * b + l)) := fun r => (h (r + 1)).2 l hl
/-- a numbering by round r, and one of the next round with as many numbers: all further rounds part the same -/
theorem jRl_stop {n q : Nat} {tg fin P g : Nat → Nat} {r : Nat} (ht : ∀ m, m < 9 * n → tg m < n) (hg : jNum n q (jRl tg fin r) g) (hP : jNum n q (jRl tg fin (r + 1)) P) : jNum n q (jRI tg fin) P ∧ jNum n q (jRI tg fin) g := by
  have h1 := jstable hP.lt hg.on hg.lt (fun a b ha hb e => (hg.eq a b ha hb).mpr ((hP.eq a b ha hb).mp e).1)
  have h2 : ∀ a b, a < n → b < n → jRl tg fin r a b → jRl tg fin (r + 1) a b := fun a b ha hb e => (hP.eq a b ha hb).mp (h1 a b ha hb ((hg.eq a b ha hb).mpr e))
  have up : ∀ i a b, a < n → b < n → jRl tg fin r a b → jRl tg fin (r + i) a b := by
    intro i
    induction i with
    | zero => intro a b _ _ e; exact e
    | succ i ih =>
      intro a b ha hb e
      refine ⟨ih a b ha hb e, fun l hl => ih _ _ (ht _ (by omega)) (ht _ (by omega)) ((h2 a b ha hb e).2 l hl)⟩
  have dn : ∀ i j a b, jRl tg fin (j + i) a b → jRl tg fin j a b := by
    intro i
    induction i with
    | zero => intro j a b e; exact e
    | succ i ih => intro j a b e; exact ih j a b e.1
  have all : ∀ a b, a < n → b < n → (jRl tg fin r a b ↔ jRI tg fin a b) := fun a b ha hb => ⟨fun e i => by
    rcases Nat.lt_or_ge i r with z | z
    · exact dn (r - i) i a b (by rw [show i + (r - i) = r by omega]; exact e)
    · have := up (i - r) a b ha hb e
      rw [show r + (i - r) = i by omega] at this
      exact this, fun e => e r⟩
  refine ⟨⟨hP.lt, hP.on, hP.fo, fun a b ha hb => ⟨fun e => (all a b ha hb).mp ((hP.eq a b ha hb).mp e).1, fun e => (hP.eq a b ha hb).mpr (e (r + 1))⟩⟩, ⟨hg.lt, hg.on, hg.fo, fun a b ha hb => ⟨fun e => (all a b ha hb).mp ((hg.eq a b ha hb).mp e), fun e => (hg.eq a b ha hb).mpr (e r)⟩⟩⟩
theorem jNum.le {n q : Nat} {R : Nat → Nat → Prop} {P : Nat → Nat} (h : jNum n q R P) : ∀ k, k < n → P k ≤ k := by
  intro k
  induction k using Nat.strongRecOn with
  | _ k ih =>
    intro hk
    rcases Nat.eq_zero_or_pos (P k) with z | z
    · omega
    · obtain ⟨k', h1, h2⟩ := h.fo k (P k - 1) hk (by omega)
      have := ih k' h1 (by omega)
      omega
theorem jNum.q {n q : Nat} {R : Nat → Nat → Prop} {P : Nat → Nat} (h : jNum n q R P) : q ≤ n := by
  rcases Nat.eq_zero_or_pos q with z | z
  · omega
  · obtain ⟨k, h1, h2⟩ := h.on (q - 1) (by omega)
    have := h.le k h1
    omega
/-- a finer relation has no fewer parts -/
theorem jNum.finer {n q q' : Nat} {R R' : Nat → Nat → Prop} {P P' : Nat → Nat} (h : jNum n q R P) (h' : jNum n q' R' P') (hf : ∀ a b, a < n → b < n → R' a b → R a b) : q ≤ q' := by
  rcases Nat.lt_or_ge q' q with z | z
  · exfalso
    have hx : ∀ v, ∃ k, v < q → k < n ∧ P k = v := fun v => by
      by_cases hv : v < q
      · obtain ⟨k, h⟩ := h.on v hv; exact ⟨k, fun _ => h⟩
      · exact ⟨0, fun h => absurd h hv⟩
    have hc : ∃ f : Nat → Nat, ∀ v, v < q → f v < n ∧ P (f v) = v := ⟨fun v => Classical.choose (hx v), fun v hv => Classical.choose_spec (hx v) hv⟩
    obtain ⟨f, hfv⟩ := hc
    obtain ⟨i, h1, h2⟩ := jpigeon q (fun v => P' (f v)) (fun v hv => by have := h'.lt _ (hfv v hv).1; show P' (f v) < q; omega) (fun v w hv hw e => by
      have e : P' (f v) = P' (f w) := e
      have h3 := hf _ _ (hfv v hv).1 (hfv w hw).1 ((h'.eq _ _ (hfv v hv).1 (hfv w hw).1).mp e)
      have h4 := (h.eq _ _ (hfv v hv).1 (hfv w hw).1).mpr h3
      rw [(hfv v hv).2, (hfv w hw).2] at h4
      exact h4) q' z
    have h2 : P' (f i) = q' := h2
    have := h'.lt _ (hfv i h1).1
    omega
  · exact z
/-! THE LEAST AUTOMATON of a step δ and ends ac: what both sides make -/
def jAS (δ : Nat → Nat → Nat) (ac : Nat → Nat) (ns : Nat) (nx fe : Nat → Nat) : Prop := ∃ (N : Nat) (P : Nat → Nat), jisN δ N ∧ jNum N ns (jRI (jxg δ) (fun k => ac (jxs δ (9 * N) k))) P ∧ (∀ k l, k < N → l < 9 → nx (9 * P k + l) = P (jxg δ (9 * k + l))) ∧ ∀ k, k < N → fe (P k) = ac (jxs δ (9 * N) k)
theorem jAS.uniq {δ : Nat → Nat → Nat} {ac : Nat → Nat} {ns ns' : Nat} {nx nx' fe fe' : Nat → Nat} (hδ : ∀ s l, δ s l < 1024) (h : jAS δ ac ns nx fe) (h' : jAS δ ac ns' nx' fe') : ns = ns' ∧ (∀ s l, s < ns → l < 9 → nx (9 * s + l) = nx' (9 * s + l)) ∧ ∀ s, s < ns → fe s = fe' s := by
  obtain ⟨N, P, h1, h2, h3, h4⟩ := h
  obtain ⟨N', P', h1', h2', h3', h4'⟩ := h'
  have e := h1.uniq h1'
  subst e
  obtain ⟨e1, e2⟩ := jNum.uniq (fun a b _ _ => Iff.rfl) h2 h2'
  have hb := h1.bo hδ
  refine ⟨e1, fun s l hs hl => ?_, fun s hs => ?_⟩
  · obtain ⟨k, hk, rfl⟩ := h2.on s hs
    rw [h3 k l hk hl, e2 k hk, h3' k l hk hl, e2 _ (hb.lt (by omega))]
  · obtain ⟨k, hk, rfl⟩ := h2.on s hs
    rw [h4 k hk, e2 k hk, h4' k hk]
theorem jAS.fo {δ : Nat → Nat → Nat} {ac : Nat → Nat} {N ns : Nat} {P : Nat → Nat} (h2 : jNum N ns (jRI (jxg δ) (fun k => ac (jxs δ (9 * N) k))) P) (hb : jBO N (jxg δ) (jxc δ)) : jFO N ns (jxg δ) P :=
  ⟨h2.lt, h2.on, h2.fo, fun a b l ha hbn hl e => (h2.eq _ _ (hb.lt (by omega)) (hb.lt (by omega))).mpr (((h2.eq a b ha hbn).mp e).on hl)⟩
theorem jAS.ns {δ : Nat → Nat → Nat} {ac : Nat → Nat} {ns : Nat} {nx fe : Nat → Nat} (h : jAS δ ac ns nx fe) : 1 ≤ ns ∧ ns ≤ 1025 := by
  obtain ⟨N, P, h1, h2, h3, h4⟩ := h
  have hq := h2.q
  have hp := h1.p
  have hu := h1.u
  have := h2.lt 0 (by omega)
  omega
theorem jAS.nx {δ : Nat → Nat → Nat} {ac : Nat → Nat} {ns : Nat} {nx fe : Nat → Nat} (hδ : ∀ s l, δ s l < 1024) (h : jAS δ ac ns nx fe) {m : Nat} (hm : m < 9 * ns) : nx m < ns := by
  obtain ⟨N, P, h1, h2, h3, h4⟩ := h
  obtain ⟨k, hk, e⟩ := h2.on (m / 9) (by omega)
  have := h3 k (m % 9) hk (by omega)
  rw [e, show 9 * (m / 9) + m % 9 = m by omega] at this
  rw [this]
  exact h2.lt _ ((h1.bo hδ).lt (by omega))
theorem jAS.bo {δ : Nat → Nat → Nat} {ac : Nat → Nat} {ns : Nat} {nx fe : Nat → Nat} (hδ : ∀ s l, δ s l < 1024) (h : jAS δ ac ns nx fe) : ∃ c, jBO ns nx c := by
  obtain ⟨N, P, h1, h2, h3, h4⟩ := h
  have hb := h1.bo hδ
  exact ⟨_, jquo h1.p hb (jAS.fo h2 hb) (fun s l k hs hl hk e => by rw [← e, h3 k l hk hl])⟩
/-- a run of states and a run of sets -/
theorem jAS.run {δ : Nat → Nat → Nat} {ac : Nat → Nat} {ns : Nat} {nx fe : Nat → Nat} (hδ : ∀ s l, δ s l < 1024) (h : jAS δ ac ns nx fe) (rs rn x : Nat → Nat) (hs0 : rs 0 = 1024) (hs : ∀ n, rs (n + 1) = δ (rs n) (x n)) (hn0 : rn 0 = 0) (hn : ∀ n, rn (n + 1) = nx (9 * rn n + x n)) (n : Nat) (hx : ∀ i, i < n → x i < 9) : rn n < ns ∧ fe (rn n) = ac (rs n) := by
  obtain ⟨N, P, h1, h2, h3, h4⟩ := h
  have hb := h1.bo hδ
  have hp := h1.p
  have key : ∀ n, (∀ i, i < n → x i < 9) → ∃ k, k < N ∧ rn n = P k ∧ rs n = jxs δ (9 * N) k := by
    intro n
    induction n with
    | zero =>
      intro _
      have := h2.le 0 (by omega)
      exact ⟨0, by omega, by rw [hn0]; omega, by rw [hs0, (jx_inv hδ (9 * N)).z]⟩
    | succ n ih =>
      intro hx
      obtain ⟨k, hk, e1, e2⟩ := ih (fun i hi => hx i (by omega))
      have hl := hx n (by omega)
      refine ⟨jxg δ (9 * k + x n), hb.lt (by omega), ?_, ?_⟩
      · rw [hn, e1, h3 k _ hk hl]
      · rw [hs, e2, (h1.step hδ (m := 9 * k + x n) (by omega)).1, show (9 * k + x n) / 9 = k by omega, show (9 * k + x n) % 9 = x n by omega]
  obtain ⟨k, hk, e1, e2⟩ := key n hx
  rw [e1, e2]
  exact ⟨h2.lt k hk, h4 k hk⟩
