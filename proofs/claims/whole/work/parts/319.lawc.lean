/-! A LAW of the text: sort, weight, place, low, high, span, letter, pattern -/
abbrev jD : Type := Nat × Nat × Nat × Nat × Nat × Nat × Nat × jPs
def jD.so (D : jD) : Nat := D.1
def jD.wt (D : jD) : Nat := D.2.1
def jD.pl (D : jD) : Nat := D.2.2.1
def jD.lo (D : jD) : Nat := D.2.2.2.1
def jD.hi (D : jD) : Nat := D.2.2.2.2.1
def jD.sp (D : jD) : Nat := D.2.2.2.2.2.1
def jD.lt (D : jD) : Nat := D.2.2.2.2.2.2.1
def jD.s (D : jD) : jPs := D.2.2.2.2.2.2.2
/-- up to its weight; r1 the reader behind its name -/
def jLb (tp : Nat → Nat) (ts d so lo hi sp lt : Nat) (s : jPs) (e1 : Nat) (rr : Nat × Nat × Nat) : Prop :=
  (so = 0 ∧ lo = 0 ∧ hi = 0 ∧ sp = 0 ∧ lt = 0 ∧ rr = (0, 0, e1)) ∨
  (so = 1 ∧ lo = (jNm tp ts 0 10000 (0, 0, e1)).1 ∧ hi = 0 ∧ sp = 0 ∧ lt = 0 ∧ rr = (jNm tp ts 0 10000 (0, 0, e1)).2) ∨
  (so = 2 ∧ ∃ a b c, a = jNm tp ts 0 99999 (0, 0, e1) ∧ b = jNm tp ts a.1 99999 a.2 ∧ c = jNm tp ts 1 d b.2 ∧ lo = a.1 ∧ hi = b.1 ∧ sp = c.1 ∧ lt = 0 ∧ rr = c.2) ∨
  ((so = 3 ∨ so = 4) ∧ lo = 0 ∧ hi = 0 ∧ sp = 0 ∧ lt = 0 ∧ ((jtK tp ts e1 = 4 ∧ jPt tp ts e1 s rr) ∨ (jtK tp ts e1 ≠ 4 ∧ rr = jEx tp ts 4 (0, 0, e1)))) ∨
  (so = 5 ∧ lo = 0 ∧ hi = 0 ∧ sp = 0 ∧ lt = (jLe tp ts (0, 0, e1)).1 ∧ rr = (jLe tp ts (0, 0, e1)).2) ∨
  (so = 6 ∧ ∃ a b c, a = jLe tp ts (0, 0, e1) ∧ b = jNm tp ts 0 8 a.2 ∧ c = jNm tp ts b.1 8 b.2 ∧ lo = b.1 ∧ hi = c.1 ∧ sp = 0 ∧ lt = a.1 ∧ rr = c.2)
def jLaw (tp : Nat → Nat) (ts d e : Nat) (D : jD) (r : Nat × Nat × Nat) : Prop := jSo tp ts e (jD.so D) ∧ jD.pl D = jtB tp ts e ∧ ((jD.so D = 7 ∧ r = (2, jtB tp ts e, jtE tp ts e)) ∨ ∃ rr, jLb tp ts d (jD.so D) (jD.lo D) (jD.hi D) (jD.sp D) (jD.lt D) (jD.s D) (jtE tp ts e) rr ∧ jD.wt D = (jNm tp ts 0 1000 rr).1 ∧ r = jEx tp ts 5 (jNm tp ts 0 1000 rr).2)
theorem jLaw.ex {tp : Nat → Nat} {ts : Nat} (d : Nat) {e : Nat} (hs : ts ≤ 1500) (hb : ∀ i, tp i < 256) (he : jtE tp ts e ≤ ts) : ∃ D r, jLaw tp ts d e D r := by
  obtain ⟨so, hso⟩ := jSo.ex tp ts e
  have hl := hso.l
  have key : so < 7 → ∃ lo hi sp lt s rr, jLb tp ts d so lo hi sp lt s (jtE tp ts e) rr := by
    intro h7
    have : so = 0 ∨ so = 1 ∨ so = 2 ∨ (so = 3 ∨ so = 4) ∨ so = 5 ∨ so = 6 := by omega
    rcases this with c | c | c | c | c | c
    · exact ⟨0, 0, 0, 0, jp00, _, Or.inl ⟨c, rfl, rfl, rfl, rfl, rfl⟩⟩
    · exact ⟨_, 0, 0, 0, jp00, _, Or.inr (Or.inl ⟨c, rfl, rfl, rfl, rfl, rfl⟩)⟩
    · exact ⟨_, _, _, 0, jp00, _, Or.inr (Or.inr (Or.inl ⟨c, _, _, _, rfl, rfl, rfl, rfl, rfl, rfl, rfl, rfl⟩))⟩
    · by_cases k4 : jtK tp ts (jtE tp ts e) = 4
      · obtain ⟨s, r, h⟩ := jPt.ex hs hb he k4
        exact ⟨0, 0, 0, 0, s, r, Or.inr (Or.inr (Or.inr (Or.inl ⟨c, rfl, rfl, rfl, rfl, Or.inl ⟨k4, h⟩⟩)))⟩
      · exact ⟨0, 0, 0, 0, jp00, _, Or.inr (Or.inr (Or.inr (Or.inl ⟨c, rfl, rfl, rfl, rfl, Or.inr ⟨k4, rfl⟩⟩)))⟩
    · exact ⟨0, 0, 0, _, jp00, _, Or.inr (Or.inr (Or.inr (Or.inr (Or.inl ⟨c, rfl, rfl, rfl, rfl, rfl⟩))))⟩
    · exact ⟨_, _, 0, _, jp00, _, Or.inr (Or.inr (Or.inr (Or.inr (Or.inr ⟨c, _, _, _, rfl, rfl, rfl, rfl, rfl, rfl, rfl, rfl⟩))))⟩
  by_cases c : so = 7
  · exact ⟨(so, 0, jtB tp ts e, 0, 0, 0, 0, jp00), _, hso, rfl, Or.inl ⟨c, rfl⟩⟩
  · obtain ⟨lo, hi, sp, lt, s, rr, h⟩ := key (by omega)
    exact ⟨(so, _, jtB tp ts e, lo, hi, sp, lt, s), _, hso, rfl, Or.inr ⟨rr, h, rfl, rfl⟩⟩
/-! the class's law -/
def jisNl (j : Nat) : jC → Prop := fun c => jis29 c ∨ c = jl j 0
theorem jisNl_l {j q : Nat} (h : q ≠ 0) : ¬ jisNl j (jl j q) := fun z => by
  rcases z with z | z
  · rcases z with z | z <;> cases z
  · have : q = 0 := by simpa using z
    exact h this
theorem jisNl_o {j q : Nat} (h : q ≠ 29 ∧ q ≠ 30) : ¬ jisNl j (jo q) := fun z => by
  rcases z with z | z
  · exact jis29_o h z
  · cases z
theorem jkl0 {L : jL} (hL : jgood L) {ω : xS} {S : jSt} {j : Nat} (hj : j < 32) {α : Type} {q : Option α} : xk (jW L ω S) (jad L (jl j 0)) 4 q = q := jm_k hL ⟨hj, by omega⟩ rfl
theorem jxp_l {L : jL} (hL : jgood L) {ω : xS} {S : jSt} {j q : Nat} {v : Int32} (hj : j < 32) (hq : 2 ≤ q) (hq2 : q ≤ 8) : xp (jW L ω S) (jad L (jl j 0)) 4 q (.int v) = some (jW L ω (jsI S (jl j 0) q v)) := by
  have : q = 2 ∨ q = 3 ∨ q = 4 ∨ q = 5 ∨ q = 6 ∨ q = 7 ∨ q = 8 := by omega
  rcases this with rfl | rfl | rfl | rfl | rfl | rfl | rfl <;> simp (disch := first | omega | rfl | assumption | exact jokr (by decide) (by omega) | exact jokr4 (by omega) | exact jkt_r _ _ | exact jkt_l (by decide) | exact jfk_l (by decide) | exact jkt_t _ | exact jkt_r6 _ _ | exact jkt_t6 _ | (simp only [jok, jlen]; omega) | decide) only [jm_pi hL]
theorem jxg_l {L : jL} (hL : jgood L) {ω : xS} {S : jSt} {j q : Nat} {v : Int32} (hj : j < 32) (hq : 2 ≤ q) (hq2 : q ≤ 8) (h : jgI S (jl j 0) q = v) : xgi (jW L ω S) (jad L (jl j 0)) 4 q = some v := by
  have : q = 2 ∨ q = 3 ∨ q = 4 ∨ q = 5 ∨ q = 6 ∨ q = 7 ∨ q = 8 := by omega
  rcases this with rfl | rfl | rfl | rfl | rfl | rfl | rfl <;> simp (disch := first | omega | rfl | assumption | exact jokr (by decide) (by omega) | exact jokr4 (by omega) | exact jkt_r _ _ | exact jkt_l (by decide) | exact jfk_l (by decide) | exact jkt_t _ | exact jkt_r6 _ _ | exact jkt_t6 _ | (simp only [jok, jlen]; omega) | decide) only [jm_gi hL, h]
theorem jCr.of {S T : jSt} {d ts : Nat} {r : Nat × Nat × Nat} (h : jCr S d ts r) (e1 : jgI T (jo 29) = jgI S (jo 29)) (e2 : jgI T (jo 30) = jgI S (jo 30)) : jCr T d ts r := ⟨by rw [e1]; exact h.d, by rw [e1]; exact h.f, h.f4, by rw [e1, e2]; exact h.z, by rw [e1]; exact h.p⟩
theorem jRd_num {L : jL} (hL : jgood L) {ω : xS} {S : jSt} {sw ps wy : Nat} (hK : jLK S sw ps wy) {tp : Nat → Nat} {ts d j lo hi q : Nat} {x1 x2 : Int32} {r : Nat × Nat × Nat} (hj : j < 32) (hT : jTc S tp ts) (hr : jCr S d ts r) (hlo : lo < 2 ^ 31) (hhi : hi < 2 ^ 31) (e1 : x1 = nI lo) (e2 : x2 = nI hi) (hq : 2 ≤ q) (hq2 : q ≤ 8) : ∃ T, (∀ K : xS → Option xS, (xc (xk (jW L ω S) (jad L (jo 29)) 5 (f_LawReader_number (jad L (jo 29)) x1 x2 (jW L ω S))) fun t w => (xp w (jad L (jl j 0)) 4 q (.int t)).bind K) = K (jW L ω T)) ∧ jfq (jisNl j) S T ∧ jCr T d ts (jNm tp ts lo hi r).2 ∧ ∀ q', jgI T (jl j 0) q' = if q' = q then nI (jNm tp ts lo hi r).1 else jgI S (jl j 0) q' := by
  obtain ⟨T1, a1, a2, a3⟩ := jRd_number hL (ω := ω) hK hT hr hlo hhi
  have i0 : jgI T1 (jl j 0) = jgI S (jl j 0) := (a2.2.2 _ (fun z => by rcases z with z | z <;> cases z)).1
  refine ⟨jsI T1 (jl j 0) q (nI (jNm tp ts lo hi r).1), fun K => ?_, (a2.weak (fun c hc => Or.inl hc)).trans (jfq.sI _ _ _ (Or.inr rfl)), a3.of (jsI_fn (fun z => by cases z)) (jsI_fn (fun z => by cases z)), fun q' => by rw [jsI_c, i0]⟩
  rw [jk29 hL, e1, e2, a1]
  simp only [xc]
  rw [jxp_l hL hj hq hq2, Option.bind_some]
theorem jRd_let {L : jL} (hL : jgood L) {ω : xS} {S : jSt} {sw ps wy : Nat} (hK : jLK S sw ps wy) {tp : Nat → Nat} {ts d j : Nat} {r : Nat × Nat × Nat} (hj : j < 32) (hT : jTc S tp ts) (hr : jCr S d ts r) : ∃ T, (∀ K : xS → Option xS, (xc (xk (jW L ω S) (jad L (jo 29)) 5 (f_LawReader_shiftLetter (jad L (jo 29)) (jW L ω S))) fun t w => (xp w (jad L (jl j 0)) 4 8 (.int t)).bind K) = K (jW L ω T)) ∧ jfq (jisNl j) S T ∧ jCr T d ts (jLe tp ts r).2 ∧ ∀ q', jgI T (jl j 0) q' = if q' = 8 then nI (jLe tp ts r).1 else jgI S (jl j 0) q' := by
  obtain ⟨T1, a1, a2, a3⟩ := jRd_letter hL (ω := ω) hK hT hr
  have i0 : jgI T1 (jl j 0) = jgI S (jl j 0) := (a2.2.2 _ (fun z => by rcases z with z | z <;> cases z)).1
  refine ⟨jsI T1 (jl j 0) 8 (nI (jLe tp ts r).1), fun K => ?_, (a2.weak (fun c hc => Or.inl hc)).trans (jfq.sI _ _ _ (Or.inr rfl)), a3.of (jsI_fn (fun z => by cases z)) (jsI_fn (fun z => by cases z)), fun q' => by rw [jsI_c, i0]⟩
  rw [jk29 hL, a1]
  simp only [xc]
  rw [jxp_l hL hj (by omega) (by omega), Option.bind_some]
theorem jRd_tail {L : jL} (hL : jgood L) {ω : xS} {S : jSt} {sw ps wy : Nat} (hK : jLK S sw ps wy) {tp : Nat → Nat} {ts d j : Nat} {r : Nat × Nat × Nat} (hj : j < 32) (hT : jTc S tp ts) (hr : jCr S d ts r) : ∃ T, (xc (xk (jW L ω S) (jad L (jo 29)) 5 (f_LawReader_number (jad L (jo 29)) 0 1000 (jW L ω S))) fun t w => (xp w (jad L (jl j 0)) 4 3 (.int t)).bind fun w81 => xc (xk w81 (jad L (jo 29)) 5 (f_LawReader_expect (jad L (jo 29)) 5 w81)) fun _ w84 => some w84) = some (jW L ω T) ∧ jfq (jisNl j) S T ∧ jCr T d ts (jEx tp ts 5 (jNm tp ts 0 1000 r).2) ∧ ∀ q', jgI T (jl j 0) q' = if q' = 3 then nI (jNm tp ts 0 1000 r).1 else jgI S (jl j 0) q' := by
  obtain ⟨T1, a1, a2, a3, a4⟩ := jRd_num hL (ω := ω) hK (q := 3) (lo := 0) (hi := 1000) (x1 := 0) (x2 := 1000) hj hT hr (by decide) (by decide) rfl rfl (by decide) (by decide)
  obtain ⟨T, b1, b2, b3, _⟩ := jRd_expect hL (ω := ω) (hK.of a2.1) (hT.fq a2 (jisNl_o (by decide)) (jisNl_o (by decide))) a3 (k := 5) (by decide) (by decide)
  have b1 : f_LawReader_expect (jad L (jo 29)) 5 (jW L ω T1) = _ := b1
  refine ⟨T, ?_, a2.trans (b2.weak (fun c hc => Or.inl hc)), b3, fun q' => ?_⟩
  · rw [a1, jk29 hL, b1]
    simp only [xc]
  · rw [(b2.2.2 _ (fun z => by rcases z with z | z <;> cases z)).1]; exact a4 q'
theorem jRd_start {L : jL} (hL : jgood L) {ω : xS} {S : jSt} {sw ps wy : Nat} (hK : jLK S sw ps wy) {j so b : Nat} (hj : j < 32) : f_Law_start (jad L (jl j 0)) (nI so) (nI b) (jW L ω S) = some (jW L ω (jsI (jsI (jsI S (jl j 0) 2 (nI so)) (jl j 0) 4 (nI b)) (jl j 6) 1 (nI 0))) := by
  unfold f_Law_start
  rw [jxp_l hL hj (by omega) (by omega), Option.bind_some, jxp_l hL hj (by omega) (by omega), Option.bind_some]
  simp (disch := first | omega | rfl | assumption | exact jokr (by decide) (by omega) | exact jokr4 (by omega) | exact jkt_r _ _ | exact jkt_l (by decide) | exact jfk_l (by decide) | exact jkt_t _ | exact jkt_r6 _ _ | exact jkt_t6 _ | (simp only [jok, jlen]; omega) | decide) only [jm_k hL, jm_gi hL, jm_gr hL, jm_gl hL, jm_pi hL, jm_pl hL, jn_ai hL, jn_ab hL, jn_az hL, jn_al hL, jn_ar hL, jn_an hL, jn_si hL, jn_sb hL, jn_sz hL, jn_sl hL, Option.bind_some, xc, xl, jsA_X, jsI_X, jsG_X, hK _ _, jlk, jmx, jlit]
theorem jPq.of {S T : jSt} {j : Nat} {s : jPs} (h : jPq S j s) (e1 : jgI T (jl j 1) = jgI S (jl j 1)) (e2 : jgA T (jl j 2) = jgA S (jl j 2)) (e4 : jgA T (jl j 4) = jgA S (jl j 4)) (e5 : jgA T (jl j 5) = jgA S (jl j 5)) : jPq T j s := ⟨by rw [e1]; exact h.z, by rw [e1]; exact h.fi, by rw [e1]; exact h.la, by rw [e1]; exact h.no, fun l hl => by
    obtain ⟨t, t1, t2, t3⟩ := (h.tk l hl).x
    exact ⟨t, t1, by rw [e2]; exact t2, t3⟩, by rw [e4]; exact h.al, by rw [e5]; exact h.au⟩
/-- the rows of a law's object -/
def jDC (T : jSt) (j : Nat) (D : jD) : Prop := (jgI T (jl j 0) 2 = nI (jD.so D)) ∧ (jgI T (jl j 0) 3 = nI (jD.wt D)) ∧ (jgI T (jl j 0) 4 = nI (jD.pl D)) ∧ (jD.so D = 1 ∨ jD.so D = 2 ∨ jD.so D = 6 → jgI T (jl j 0) 5 = nI (jD.lo D)) ∧ (jD.so D = 2 ∨ jD.so D = 6 → jgI T (jl j 0) 6 = nI (jD.hi D)) ∧ (jD.so D = 2 → jgI T (jl j 0) 7 = nI (jD.sp D)) ∧ (jD.so D = 5 ∨ jD.so D = 6 → jgI T (jl j 0) 8 = nI (jD.lt D)) ∧ (jgI T (jl j 6) 1 = nI 0) ∧ (jD.so D = 3 ∨ jD.so D = 4 → jPq T j (jD.s D))
theorem jDC.so {T : jSt} {j : Nat} {D : jD} (h : jDC T j D) : jgI T (jl j 0) 2 = nI (jD.so D) := h.1
theorem jDC.wt {T : jSt} {j : Nat} {D : jD} (h : jDC T j D) : jgI T (jl j 0) 3 = nI (jD.wt D) := h.2.1
theorem jDC.pl {T : jSt} {j : Nat} {D : jD} (h : jDC T j D) : jgI T (jl j 0) 4 = nI (jD.pl D) := h.2.2.1
theorem jDC.lo {T : jSt} {j : Nat} {D : jD} (h : jDC T j D) : jD.so D = 1 ∨ jD.so D = 2 ∨ jD.so D = 6 → jgI T (jl j 0) 5 = nI (jD.lo D) := h.2.2.2.1
theorem jDC.hi {T : jSt} {j : Nat} {D : jD} (h : jDC T j D) : jD.so D = 2 ∨ jD.so D = 6 → jgI T (jl j 0) 6 = nI (jD.hi D) := h.2.2.2.2.1
theorem jDC.sp {T : jSt} {j : Nat} {D : jD} (h : jDC T j D) : jD.so D = 2 → jgI T (jl j 0) 7 = nI (jD.sp D) := h.2.2.2.2.2.1
theorem jDC.lt {T : jSt} {j : Nat} {D : jD} (h : jDC T j D) : jD.so D = 5 ∨ jD.so D = 6 → jgI T (jl j 0) 8 = nI (jD.lt D) := h.2.2.2.2.2.2.1
theorem jDC.au {T : jSt} {j : Nat} {D : jD} (h : jDC T j D) : jgI T (jl j 6) 1 = nI 0 := h.2.2.2.2.2.2.2.1
theorem jDC.pq {T : jSt} {j : Nat} {D : jD} (h : jDC T j D) : jD.so D = 3 ∨ jD.so D = 4 → jPq T j (jD.s D) := h.2.2.2.2.2.2.2.2
def jisRL (j : Nat) : jC → Prop := fun c => jisNl j c ∨ jisPP j c ∨ c = jl j 6
theorem jNm_b {tp : Nat → Nat} {ts lo hi : Nat} {r : Nat × Nat × Nat} (hlo : lo < 1000000) (hr : r.1 = 0 → r.2.2 ≤ ts) : (jNm tp ts lo hi r).1 < 1000000 := by
  unfold jNm
  by_cases c : r.1 = 0 ∧ jtK tp ts r.2.2 = 3
  · rw [if_pos c]; exact jNv_lt (hr c.1) c.2
  · rw [if_neg c]; exact hlo
theorem jRd_law {L : jL} (hL : jgood L) {ω : xS} {S : jSt} {sw ps wy : Nat} (hK : jLK S sw ps wy) {tp : Nat → Nat} {ts d j e : Nat} {D : jD} {r : Nat × Nat × Nat} (hj : j < 32) (hd : d < 2 ^ 31) (hT : jTc S tp ts) (hes : e ≤ ts) (hr : jCr S d ts (0, 0, jtE tp ts e)) (k1 : jgI S (jo 30) 1 = nI (jtK tp ts e)) (k2 : jgI S (jo 30) 2 = nI (jtB tp ts e)) (k3 : jgI S (jo 30) 3 = nI (jtE tp ts e)) (hD : jLaw tp ts d e D r) : ∃ T, f_LawReader_readLaw (jad L (jo 29)) (jad L (jl j 0)) (jW L ω S) = some (jW L ω T) ∧ jfq (jisRL j) S T ∧ jCr T d ts r ∧ (r.1 = 0 → jDC T j D) := by
  obtain ⟨so, wt, pl, lo, hi, sp, lt, s⟩ := D
  obtain ⟨hso, hpl, hD⟩ := hD
  have hso : jSo tp ts e so := hso
  have hpl : pl = jtB tp ts e := hpl
  have gb : xgi (jW L ω S) (jad L (jo 30)) 10 2 = some (nI (jtB tp ts e)) := by simp (disch := first | omega | rfl | assumption | exact jokr (by decide) (by omega) | exact jokr4 (by omega) | exact jkt_r _ _ | exact jkt_l (by decide) | exact jfk_l (by decide) | exact jkt_t _ | exact jkt_r6 _ _ | exact jkt_t6 _ | (simp only [jok, jlen]; omega) | decide) only [jm_gi hL, k2]
  have hsrt := jRd_sort hL (ω := ω) hK hT hes k1 k2 k3 hso
  unfold f_LawReader_readLaw
  rw [jk29 hL, hsrt, Option.bind_some]
  rcases hD with ⟨h7, rfl⟩ | ⟨rr, hD, hwt, rfl⟩
  · have h7 : so = 7 := h7
    rw [h7, if_neg (show ¬ (7 : Nat) < 7 by decide), if_neg (show ¬ (0 : Int32) ≤ -1 by decide), jr30 hL hK, Option.bind_some, gb, Option.bind_some, jk29 hL]
    obtain ⟨T, a1, a2, a3, _⟩ := jRd_refuse hL (ω := ω) hK (ts := ts) (x := 2) (v := jtB tp ts e) (r := (0, 0, jtE tp ts e)) hr.d (by decide) (by decide)
    have a1 : f_LawReader_refuse (jad L (jo 29)) 2 (nI (jtB tp ts e)) (jW L ω S) = _ := a1
    refine ⟨T, ?_, a2.weak (fun c hc => Or.inl (Or.inl hc)), a3, fun z => absurd z (by show ¬ (2 = 0); decide)⟩
    rw [a1, Option.bind_some]
  · have hD : jLb tp ts d so lo hi sp lt s (jtE tp ts e) rr := hD
    have hwt : wt = (jNm tp ts 0 1000 rr).1 := hwt
    have hs7 : so < 7 := by
      rcases hD with ⟨z, _⟩ | ⟨z, _⟩ | ⟨z, _⟩ | ⟨z, _⟩ | ⟨z, _⟩ | ⟨z, _⟩ <;> omega
    -- the law's object begun
    have f1 : jfq (jisRL j) S (jsI (jsI (jsI S (jl j 0) 2 (nI so)) (jl j 0) 4 (nI (jtB tp ts e))) (jl j 6) 1 (nI 0)) := ((jfq.sI _ _ _ (Or.inl (Or.inr rfl))).trans (jfq.sI _ _ _ (Or.inl (Or.inr rfl)))).trans (jfq.sI _ _ _ (Or.inr (Or.inr rfl)))
    have nR1 : ∀ q, q < 29 → ¬ jisRL j (jo q) := fun q hq z => by
      rcases z with z | z | z
      · exact jisNl_o (by omega) z
      · rcases z with z | z | z
        · rcases z with z | z | z | z | z | z | z <;> first | exact absurd z (jone (by omega)) | cases z
        · cases z
        · cases z
      · cases z
    have st := jRd_start hL (ω := ω) (S := S) hK (so := so) (b := jtB tp ts e) hj
    have hK1 := hK.of f1.1
    have hT1 := hT.fq f1 (nR1 1 (by omega)) (nR1 2 (by omega))
    have i1 : ∀ q, jgI (jsI (jsI (jsI S (jl j 0) 2 (nI so)) (jl j 0) 4 (nI (jtB tp ts e))) (jl j 6) 1 (nI 0)) (jl j 0) q = if q = 4 then nI (jtB tp ts e) else if q = 2 then nI so else jgI S (jl j 0) q := fun q => by
      rw [jsI_fn (fun z => by have : (0 : Nat) = 6 := by simpa using z
                              omega), jsI_c, jsI_c]
    have r1 : jCr (jsI (jsI (jsI S (jl j 0) 2 (nI so)) (jl j 0) 4 (nI (jtB tp ts e))) (jl j 6) 1 (nI 0)) d ts (0, 0, jtE tp ts e) := hr.of (by rw [jsI_fn (fun z => by cases z), jsI_fn (fun z => by cases z), jsI_fn (fun z => by cases z)]) (by rw [jsI_fn (fun z => by cases z), jsI_fn (fun z => by cases z), jsI_fn (fun z => by cases z)])
    have a6 : jgI (jsI (jsI (jsI S (jl j 0) 2 (nI so)) (jl j 0) 4 (nI (jtB tp ts e))) (jl j 6) 1 (nI 0)) (jl j 6) 1 = nI 0 := by rw [jsI_c, if_pos rfl]
    rw [if_pos hs7, if_pos (show (0 : Int32) ≤ nI so from (nI_leI (a := 0) (by omega) (by omega)).mpr (Nat.zero_le _)), jr30 hL hK, Option.bind_some, gb, Option.bind_some, jkl0 hL hj, st, Option.bind_some]
    generalize jsI (jsI (jsI S (jl j 0) 2 (nI so)) (jl j 0) 4 (nI (jtB tp ts e))) (jl j 6) 1 (nI 0) = U at f1 hK1 hT1 i1 r1 a6
    have wN : ∀ c, jisNl j c → jisRL j c := fun c hc => Or.inl hc
    -- the end: weight and semicolon
    have fin : ∀ (V : jSt), jfq (jisNl j) U V → jCr V d ts rr → (∀ q, q = 2 ∨ q = 4 → jgI V (jl j 0) q = jgI U (jl j 0) q) → (so = 1 ∨ so = 2 ∨ so = 6 → jgI V (jl j 0) 5 = nI lo) → (so = 2 ∨ so = 6 → jgI V (jl j 0) 6 = nI hi) → (so = 2 → jgI V (jl j 0) 7 = nI sp) → (so = 5 ∨ so = 6 → jgI V (jl j 0) 8 = nI lt) → so ≠ 3 → so ≠ 4 → ∃ T, (xc (xk (jW L ω V) (jad L (jo 29)) 5 (f_LawReader_number (jad L (jo 29)) 0 1000 (jW L ω V))) fun t w => (xp w (jad L (jl j 0)) 4 3 (.int t)).bind fun w81 => xc (xk w81 (jad L (jo 29)) 5 (f_LawReader_expect (jad L (jo 29)) 5 w81)) fun _ w84 => some w84) = some (jW L ω T) ∧ jfq (jisRL j) S T ∧ jCr T d ts (jEx tp ts 5 (jNm tp ts 0 1000 rr).2) ∧ ((jEx tp ts 5 (jNm tp ts 0 1000 rr).2).1 = 0 → jDC T j (so, wt, pl, lo, hi, sp, lt, s)) := by
      intro V fV cV v24 v5 v6 v7 v8 n3 n4
      obtain ⟨T, b1, b2, b3, b4⟩ := jRd_tail hL (ω := ω) (hK1.of fV.1) hj (hT1.fq fV (jisNl_o (by decide)) (jisNl_o (by decide))) cV
      refine ⟨T, b1, f1.trans ((fV.trans b2).weak wN), b3, fun _ => ⟨?_, ?_, ?_, fun z => ?_, fun z => ?_, fun z => ?_, fun z => ?_, ?_, fun z => ?_⟩⟩
      · rw [b4, if_neg (by decide), v24 2 (Or.inl rfl), i1, if_neg (by decide), if_pos rfl]; rfl
      · rw [b4, if_pos rfl]; exact congrArg nI hwt.symm
      · rw [b4, if_neg (by decide), v24 4 (Or.inr rfl), i1, if_pos rfl]; exact congrArg nI hpl.symm
      · rw [b4, if_neg (by decide)]; exact v5 z
      · rw [b4, if_neg (by decide)]; exact v6 z
      · rw [b4, if_neg (by decide)]; exact v7 z
      · rw [b4, if_neg (by decide)]; exact v8 z
      · rw [((fV.trans b2).2.2 _ (jisNl_l (by decide))).1]; exact a6
      · have z : so = 3 ∨ so = 4 := z
        omega
    rcases hD with ⟨rfl, c1, c2, c3, c4, rfl⟩ | ⟨rfl, c1, c2, c3, c4, rfl⟩ | ⟨rfl, a, b, c, ha, hb, hc, c1, c2, c3, c4, rfl⟩ | ⟨hso34, c1, c2, c3, c4, hD⟩ | ⟨rfl, c1, c2, c3, c4, rfl⟩ | ⟨rfl, a, b, c, ha, hb, hc, c1, c2, c3, c4, rfl⟩
    · rw [if_neg (show ¬ nI 0 = (1 : Int32) by decide), if_neg (show ¬ nI 0 = (2 : Int32) by decide), if_neg (show ¬ nI 0 = (3 : Int32) by decide), if_neg (show ¬ nI 0 = (4 : Int32) by decide), if_neg (show ¬ nI 0 = (5 : Int32) by decide), if_neg (show ¬ nI 0 = (6 : Int32) by decide)]
      exact fin U (jfq.refl _ _) r1 (fun _ _ => rfl) (fun z => by omega) (fun z => by omega) (fun z => by omega) (fun z => by omega) (by decide) (by decide)
    · rw [if_pos (show nI 1 = (1 : Int32) from rfl)]
      obtain ⟨V, g1, g2, g3, g4⟩ := jRd_num hL (ω := ω) hK1 (q := 5) (lo := 0) (hi := 10000) (x1 := 0) (x2 := 10000) hj hT1 r1 (by decide) (by decide) rfl rfl (by decide) (by decide)
      rw [g1]
      exact fin V g2 g3 (fun q hq => by rw [g4, if_neg (by omega)]) (fun _ => by rw [g4, if_pos rfl, c1]) (fun z => by omega) (fun z => by omega) (fun z => by omega) (by decide) (by decide)
    · have hEr : jtE tp ts e ≤ ts := (hr.z rfl).2.2
      have ba : a.1 < 1000000 := by rw [ha]; exact jNm_b (by decide) (fun _ => hEr)
      rw [if_neg (show ¬ nI 2 = (1 : Int32) by decide), if_pos (show nI 2 = (2 : Int32) from rfl)]
      obtain ⟨V, g1, g2, g3, g4⟩ := jRd_num hL (ω := ω) hK1 (q := 5) (lo := 0) (hi := 99999) (x1 := 0) (x2 := 99999) hj hT1 r1 (by decide) (by decide) rfl rfl (by decide) (by decide)
      rw [← ha] at g3 g4
      have v5 : jgI V (jl j 0) 5 = nI a.1 := by rw [g4, if_pos rfl]
      obtain ⟨V2, m1, m2, m3, m4⟩ := jRd_num hL (ω := ω) (hK1.of g2.1) (q := 6) (lo := a.1) (hi := 99999) (x1 := nI a.1) (x2 := 99999) hj (hT1.fq g2 (jisNl_o (by decide)) (jisNl_o (by decide))) g3 (by omega) (by decide) rfl rfl (by decide) (by decide)
      rw [← hb] at m3 m4
      have F2 := g2.trans m2
      have hdd : jgI V2 (jo 29) 2 = nI d := m3.d
      have gd : xgi (jW L ω V2) (jad L (jo 29)) 5 2 = some (nI d) := by simp (disch := first | omega | rfl | assumption | exact jokr (by decide) (by omega) | exact jokr4 (by omega) | exact jkt_r _ _ | exact jkt_l (by decide) | exact jfk_l (by decide) | exact jkt_t _ | exact jkt_r6 _ _ | exact jkt_t6 _ | (simp only [jok, jlen]; omega) | decide) only [jm_gi hL, hdd]
      obtain ⟨V3, n1, n2, n3, n4⟩ := jRd_num hL (ω := ω) (hK1.of F2.1) (q := 7) (lo := 1) (hi := d) (x1 := 1) (x2 := nI d) hj (hT1.fq F2 (jisNl_o (by decide)) (jisNl_o (by decide))) m3 (by decide) hd rfl rfl (by decide) (by decide)
      rw [← hc] at n3 n4
      rw [g1, jxg_l hL hj (by omega) (by omega) v5, Option.bind_some, m1, gd, Option.bind_some, n1]
      exact fin V3 (F2.trans n2) n3 (fun q hq => by rw [n4, if_neg (by omega), m4, if_neg (by omega), g4, if_neg (by omega)]) (fun _ => by rw [n4, if_neg (by decide), m4, if_neg (by decide), v5, c1]) (fun _ => by rw [n4, if_neg (by decide), m4, if_pos rfl, c2]) (fun _ => by rw [n4, if_pos rfl, c3]) (fun z => by omega) (by decide) (by decide)
    · -- a pattern
      have e128 : (if nI so = 1 then (xc (xk (jW L ω U) (jad L (jo 29)) 5 (f_LawReader_number (jad L (jo 29)) 0 10000 (jW L ω U))) fun t11 w12 => (xp w12 (jad L (jl j 0)) 4 5 (.int t11)).bind fun w13 => xc (xk w13 (jad L (jo 29)) 5 (f_LawReader_number (jad L (jo 29)) 0 1000 w13)) fun t15 w16 => (xp w16 (jad L (jl j 0)) 4 3 (.int t15)).bind fun w17 => xc (xk w17 (jad L (jo 29)) 5 (f_LawReader_expect (jad L (jo 29)) 5 w17)) fun t19 w20 => some w20) else f_LawReader_readLaw_128 (jad L (jo 29)) (jad L (jl j 0)) (jW L ω U)) = f_LawReader_readLaw_128 (jad L (jo 29)) (jad L (jl j 0)) (jW L ω U) := if_neg (by rcases hso34 with z | z <;> rw [z] <;> decide)
      have x34 : ∀ (A B C E F G H : Option xS), (if nI so = (1 : Int32) then A else if nI so = (2 : Int32) then B else if nI so = (3 : Int32) then C else if nI so = (4 : Int32) then C else if nI so = (5 : Int32) then E else if nI so = (6 : Int32) then F else G) = C := fun A B C E F G H => by
        rcases hso34 with z | z
        · rw [z, if_neg (show ¬ nI 3 = (1 : Int32) by decide), if_neg (show ¬ nI 3 = (2 : Int32) by decide), if_pos (show nI 3 = (3 : Int32) from rfl)]
        · rw [z, if_neg (show ¬ nI 4 = (1 : Int32) by decide), if_neg (show ¬ nI 4 = (2 : Int32) by decide), if_neg (show ¬ nI 4 = (3 : Int32) by decide), if_pos (show nI 4 = (4 : Int32) from rfl)]
      rw [x34 _ _ _ _ _ _ none]
      have r0 : xgr (jW L ω U) (jad L (jl j 0)) 4 0 = some (jad L (jl j 1)) := by
        have hK := hK1
        simp (disch := first | omega | rfl | assumption | exact jokr (by decide) (by omega) | exact jokr4 (by omega) | exact jkt_r _ _ | exact jkt_l (by decide) | exact jfk_l (by decide) | exact jkt_t _ | exact jkt_r6 _ _ | exact jkt_t6 _ | (simp only [jok, jlen]; omega) | decide) only [jm_k hL, jm_gi hL, jm_gr hL, jm_gl hL, jm_pi hL, jm_pl hL, jn_ai hL, jn_ab hL, jn_az hL, jn_al hL, jn_ar hL, jn_an hL, jn_si hL, jn_sb hL, jn_sz hL, jn_sl hL, Option.bind_some, xc, xl, jsA_X, jsI_X, jsG_X, hK _ _, jlk, jmx]
      -- behind the pattern
      have go : ∀ V : jSt, f_LawReader_pattern (jad L (jo 29)) (jad L (jl j 1)) (jW L ω U) = some (jW L ω V) → jfq (fun c => jis29 c ∨ jisPP j c) U V → jCr V d ts rr → (rr.1 = 0 → jPq V j s) → ∃ T, f_LawReader_readLaw_128 (jad L (jo 29)) (jad L (jl j 0)) (jW L ω U) = some (jW L ω T) ∧ jfq (jisRL j) S T ∧ jCr T d ts (jEx tp ts 5 (jNm tp ts 0 1000 rr).2) ∧ ((jEx tp ts 5 (jNm tp ts 0 1000 rr).2).1 = 0 → jDC T j (so, wt, pl, lo, hi, sp, lt, s)) := by
        intro V p1 p2 p3 p4
        have pw : jfq (jisRL j) U V := p2.weak (fun c hc => by
          rcases hc with z | z
          · exact Or.inl (Or.inl z)
          · exact Or.inr (Or.inl z))
        obtain ⟨T, b1, b2, b3, b4⟩ := jRd_tail hL (ω := ω) (hK1.of p2.1) hj (hT1.fq pw (nR1 1 (by omega)) (nR1 2 (by omega))) p3
        have nP : ∀ q, q = 0 ∨ q = 6 → ¬ (jis29 (jl j q) ∨ jisPP j (jl j q)) := fun q hq z => by
          rcases z with (z | z) | (z | z | z | z | z | z | z) | z | z <;> first | (cases z; omega) | cases z
        have V0 : jgI V (jl j 0) = jgI U (jl j 0) := (p2.2.2 _ (nP 0 (Or.inl rfl))).1
        have V6 : jgI V (jl j 6) = jgI U (jl j 6) := (p2.2.2 _ (nP 6 (Or.inr rfl))).1
        refine ⟨T, ?_, (f1.trans pw).trans (b2.weak wN), b3, fun z0 => ⟨?_, ?_, ?_, fun z => ?_, fun z => ?_, fun z => ?_, fun z => ?_, ?_, fun z => ?_⟩⟩
        · unfold f_LawReader_readLaw_128
          rw [r0, Option.bind_some, jk29 hL, p1, Option.bind_some]
          exact b1
        · rw [b4, if_neg (by decide), V0, i1, if_neg (by decide), if_pos rfl]; rfl
        · rw [b4, if_pos rfl]; exact congrArg nI hwt.symm
        · rw [b4, if_neg (by decide), V0, i1, if_pos rfl]; exact congrArg nI hpl.symm
        · have z : so = 1 ∨ so = 2 ∨ so = 6 := z
          omega
        · have z : so = 2 ∨ so = 6 := z
          omega
        · have z : so = 2 := z
          omega
        · have z : so = 5 ∨ so = 6 := z
          omega
        · rw [(b2.2.2 _ (jisNl_l (by decide))).1, V6]; exact a6
        · have hrr : rr.1 = 0 := by
            rcases Nat.eq_zero_or_pos rr.1 with y | y
            · exact y
            · exfalso
              have y1 : jNm tp ts 0 1000 rr = (0, rr) := by
                unfold jNm
                rw [if_neg (fun w => by omega), jEx_st (by omega)]
              rw [y1] at z0
              have z0 : (jEx tp ts 5 rr).1 = 0 := z0
              rw [jEx_st (by omega)] at z0
              omega
          exact (p4 hrr).of (b2.2.2 _ (jisNl_l (by decide))).1 (b2.2.2 _ (jisNl_l (by decide))).2 (b2.2.2 _ (jisNl_l (by decide))).2 (b2.2.2 _ (jisNl_l (by decide))).2
      rcases hD with ⟨k4, hD⟩ | ⟨k4, rfl⟩
      · obtain ⟨V, p1, p2, p3, p4⟩ := jRd_pattern hL (ω := ω) hK1 hj hT1 r1 k4 hD
        exact go V p1 p2 p3 p4
      · obtain ⟨V, p1, p2, p3⟩ := jRd_pattern0 hL (ω := ω) hK1 (a1 := jad L (jl j 1)) hT1 r1 k4
        refine go V p1 (p2.weak (fun c hc => Or.inl hc)) p3 (fun z => ?_)
        rw [jEx_no (r := (0, 0, jtE tp ts e)) rfl k4] at z
        exfalso
        revert z
        show ¬ ((if jtK tp ts (jtE tp ts e) = 0 then 1 else 2) = 0)
        split <;> decide
    · rw [if_neg (show ¬ nI 5 = (1 : Int32) by decide), if_neg (show ¬ nI 5 = (2 : Int32) by decide), if_neg (show ¬ nI 5 = (3 : Int32) by decide), if_neg (show ¬ nI 5 = (4 : Int32) by decide), if_pos (show nI 5 = (5 : Int32) from rfl)]
      obtain ⟨V, g1, g2, g3, g4⟩ := jRd_let hL (ω := ω) hK1 hj hT1 r1
      rw [g1]
      exact fin V g2 g3 (fun q hq => by rw [g4, if_neg (by omega)]) (fun z => by omega) (fun z => by omega) (fun z => by omega) (fun _ => by rw [g4, if_pos rfl, c4]) (by decide) (by decide)
    · have hEr : jtE tp ts e ≤ ts := (hr.z rfl).2.2
      rw [if_neg (show ¬ nI 6 = (1 : Int32) by decide), if_neg (show ¬ nI 6 = (2 : Int32) by decide), if_neg (show ¬ nI 6 = (3 : Int32) by decide), if_neg (show ¬ nI 6 = (4 : Int32) by decide), if_neg (show ¬ nI 6 = (5 : Int32) by decide), if_pos (show nI 6 = (6 : Int32) from rfl)]
      obtain ⟨V, g1, g2, g3, g4⟩ := jRd_let hL (ω := ω) hK1 hj hT1 r1
      rw [← ha] at g3 g4
      have ba : b.1 < 1000000 := by rw [hb]; exact jNm_b (by decide) (fun z => (g3.z z).2.2)
      obtain ⟨V2, m1, m2, m3, m4⟩ := jRd_num hL (ω := ω) (hK1.of g2.1) (q := 5) (lo := 0) (hi := 8) (x1 := 0) (x2 := 8) hj (hT1.fq g2 (jisNl_o (by decide)) (jisNl_o (by decide))) g3 (by decide) (by decide) rfl rfl (by decide) (by decide)
      rw [← hb] at m3 m4
      have F2 := g2.trans m2
      have v5 : jgI V2 (jl j 0) 5 = nI b.1 := by rw [m4, if_pos rfl]
      obtain ⟨V3, n1, n2, n3, n4⟩ := jRd_num hL (ω := ω) (hK1.of F2.1) (q := 6) (lo := b.1) (hi := 8) (x1 := nI b.1) (x2 := 8) hj (hT1.fq F2 (jisNl_o (by decide)) (jisNl_o (by decide))) m3 (by omega) (by decide) rfl rfl (by decide) (by decide)
      rw [← hc] at n3 n4
      rw [g1, m1, jxg_l hL hj (by omega) (by omega) v5, Option.bind_some, n1]
      exact fin V3 (F2.trans n2) n3 (fun q hq => by rw [n4, if_neg (by omega), m4, if_neg (by omega), g4, if_neg (by omega)]) (fun _ => by rw [n4, if_neg (by decide), v5, c1]) (fun _ => by rw [n4, if_pos rfl, c2]) (fun z => by omega) (fun _ => by rw [n4, if_neg (by decide), m4, if_neg (by decide), g4, if_pos rfl, c4]) (by decide) (by decide)
