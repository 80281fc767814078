/-! ALL THAT HOLDS BETWEEN TWO CALLS -/
def jTp (S : jSt) (tp : Nat → Nat) (ts : Nat) : Prop := (ts ≤ 1500) ∧ (∀ i, tp i < 256) ∧ (jgI S (jo 1) 1 = nI ts) ∧ (∀ i, i < ts → jgA S (jo 2) i = nI (tp i)) ∧ (jgI S (jm 0) 11 = nI ts) ∧ (∀ i, i < ts → jgA S (jm 9) i &&& nI 255 = nI (tp i))
theorem jTp.s {S : jSt} {tp : Nat → Nat} {ts : Nat} (h : jTp S tp ts) : ts ≤ 1500 := h.1
theorem jTp.b {S : jSt} {tp : Nat → Nat} {ts : Nat} (h : jTp S tp ts) : ∀ i, tp i < 256 := h.2.1
theorem jTp.c {S : jSt} {tp : Nat → Nat} {ts : Nat} (h : jTp S tp ts) : jgI S (jo 1) 1 = nI ts := h.2.2.1
theorem jTp.cb {S : jSt} {tp : Nat → Nat} {ts : Nat} (h : jTp S tp ts) : ∀ i, i < ts → jgA S (jo 2) i = nI (tp i) := h.2.2.2.1
theorem jTp.m {S : jSt} {tp : Nat → Nat} {ts : Nat} (h : jTp S tp ts) : jgI S (jm 0) 11 = nI ts := h.2.2.2.2.1
theorem jTp.mb {S : jSt} {tp : Nat → Nat} {ts : Nat} (h : jTp S tp ts) : ∀ i, i < ts → jgA S (jm 9) i &&& nI 255 = nI (tp i) := h.2.2.2.2.2
def jIv (L : jL) (S : jSt) (A : jR) (w : jLw) (H : jH) (tp : Nat → Nat) (ts sw ps wy : Nat) : Prop := (jdim L) ∧ (jRg A) ∧ (jLK S sw ps wy) ∧ (jRC L S A) ∧ (jRM L S A) ∧ (jLg L w) ∧ (jLC L S w sw) ∧ (jLM S w) ∧ (jHg L H.1 H.2) ∧ (∃ nw, jHC S H.1 nw H.2) ∧ (∃ fr, jHM S H.1 fr H.2) ∧ (ps ≤ 1) ∧ (wy ≤ 1) ∧ (jTp S tp ts) ∧ (jgI S (jo 29) 4 = jgI S (jm 0) 12) ∧ (jgI S (jo 29) 2 = nI (jd L)) ∧ (∀ j, j < 32 → jgN S (jt j) ≤ 10250)
theorem jIv.D {L : jL} {S : jSt} {A : jR} {w : jLw} {H : jH} {tp : Nat → Nat} {ts sw ps wy : Nat} (h : jIv L S A w H tp ts sw ps wy) : jdim L := h.1
theorem jIv.A {L : jL} {S : jSt} {A : jR} {w : jLw} {H : jH} {tp : Nat → Nat} {ts sw ps wy : Nat} (h : jIv L S A w H tp ts sw ps wy) : jRg A := h.2.1
theorem jIv.K {L : jL} {S : jSt} {A : jR} {w : jLw} {H : jH} {tp : Nat → Nat} {ts sw ps wy : Nat} (h : jIv L S A w H tp ts sw ps wy) : jLK S sw ps wy := h.2.2.1
theorem jIv.RC {L : jL} {S : jSt} {A : jR} {w : jLw} {H : jH} {tp : Nat → Nat} {ts sw ps wy : Nat} (h : jIv L S A w H tp ts sw ps wy) : jRC L S A := h.2.2.2.1
theorem jIv.RM {L : jL} {S : jSt} {A : jR} {w : jLw} {H : jH} {tp : Nat → Nat} {ts sw ps wy : Nat} (h : jIv L S A w H tp ts sw ps wy) : jRM L S A := h.2.2.2.2.1
theorem jIv.W {L : jL} {S : jSt} {A : jR} {w : jLw} {H : jH} {tp : Nat → Nat} {ts sw ps wy : Nat} (h : jIv L S A w H tp ts sw ps wy) : jLg L w := h.2.2.2.2.2.1
theorem jIv.LC {L : jL} {S : jSt} {A : jR} {w : jLw} {H : jH} {tp : Nat → Nat} {ts sw ps wy : Nat} (h : jIv L S A w H tp ts sw ps wy) : jLC L S w sw := h.2.2.2.2.2.2.1
theorem jIv.LM {L : jL} {S : jSt} {A : jR} {w : jLw} {H : jH} {tp : Nat → Nat} {ts sw ps wy : Nat} (h : jIv L S A w H tp ts sw ps wy) : jLM S w := h.2.2.2.2.2.2.2.1
theorem jIv.H {L : jL} {S : jSt} {A : jR} {w : jLw} {H : jH} {tp : Nat → Nat} {ts sw ps wy : Nat} (h : jIv L S A w H tp ts sw ps wy) : jHg L H.1 H.2 := h.2.2.2.2.2.2.2.2.1
theorem jIv.HC {L : jL} {S : jSt} {A : jR} {w : jLw} {H : jH} {tp : Nat → Nat} {ts sw ps wy : Nat} (h : jIv L S A w H tp ts sw ps wy) : ∃ nw, jHC S H.1 nw H.2 := h.2.2.2.2.2.2.2.2.2.1
theorem jIv.HM {L : jL} {S : jSt} {A : jR} {w : jLw} {H : jH} {tp : Nat → Nat} {ts sw ps wy : Nat} (h : jIv L S A w H tp ts sw ps wy) : ∃ fr, jHM S H.1 fr H.2 := h.2.2.2.2.2.2.2.2.2.2.1
theorem jIv.p1 {L : jL} {S : jSt} {A : jR} {w : jLw} {H : jH} {tp : Nat → Nat} {ts sw ps wy : Nat} (h : jIv L S A w H tp ts sw ps wy) : ps ≤ 1 := h.2.2.2.2.2.2.2.2.2.2.2.1
theorem jIv.w1 {L : jL} {S : jSt} {A : jR} {w : jLw} {H : jH} {tp : Nat → Nat} {ts sw ps wy : Nat} (h : jIv L S A w H tp ts sw ps wy) : wy ≤ 1 := h.2.2.2.2.2.2.2.2.2.2.2.2.1
theorem jIv.T {L : jL} {S : jSt} {A : jR} {w : jLw} {H : jH} {tp : Nat → Nat} {ts sw ps wy : Nat} (h : jIv L S A w H tp ts sw ps wy) : jTp S tp ts := h.2.2.2.2.2.2.2.2.2.2.2.2.2.1
theorem jIv.P {L : jL} {S : jSt} {A : jR} {w : jLw} {H : jH} {tp : Nat → Nat} {ts sw ps wy : Nat} (h : jIv L S A w H tp ts sw ps wy) : jgI S (jo 29) 4 = jgI S (jm 0) 12 := h.2.2.2.2.2.2.2.2.2.2.2.2.2.2.1
theorem jIv.Dy {L : jL} {S : jSt} {A : jR} {w : jLw} {H : jH} {tp : Nat → Nat} {ts sw ps wy : Nat} (h : jIv L S A w H tp ts sw ps wy) : jgI S (jo 29) 2 = nI (jd L) := h.2.2.2.2.2.2.2.2.2.2.2.2.2.2.2.1
theorem jIv.tn {L : jL} {S : jSt} {A : jR} {w : jLw} {H : jH} {tp : Nat → Nat} {ts sw ps wy : Nat} (h : jIv L S A w H tp ts sw ps wy) : ∀ j, j < 32 → jgN S (jt j) ≤ 10250 := h.2.2.2.2.2.2.2.2.2.2.2.2.2.2.2.2
/-- cells that the roster's calls leave as they are: tape, reader, laws -/
def jisO : jC → Prop := fun c => c = jo 1 ∨ c = jo 2 ∨ c = jo 29 ∨ jisL c
theorem jisO_RH {c : jC} (hc : jisO c) : jisRH c := by
  rcases hc with rfl | rfl | rfl | hc
  · refine ⟨fun ⟨q, a, b, e⟩ => ?_, fun e => ?_⟩
    · have : 1 = q := by simpa using e
      omega
    · rcases e with ⟨q, a, b, e⟩ | ⟨t, p, e⟩
      · have : 1 = q := by simpa using e
        omega
      · cases e
  · refine ⟨fun ⟨q, a, b, e⟩ => ?_, fun e => ?_⟩
    · have : 2 = q := by simpa using e
      omega
    · rcases e with ⟨q, a, b, e⟩ | ⟨t, p, e⟩
      · have : 2 = q := by simpa using e
        omega
      · cases e
  · refine ⟨fun ⟨q, a, b, e⟩ => ?_, fun e => ?_⟩
    · have : 29 = q := by simpa using e
      omega
    · rcases e with ⟨q, a, b, e⟩ | ⟨t, p, e⟩
      · have : 29 = q := by simpa using e
        omega
      · cases e
  · exact jisL_RH hc
theorem jisO_M {c : jC} (hc : jisO c) : ¬ jisM c := by
  rintro ⟨q, rfl⟩
  rcases hc with h | h | h | h | ⟨j, k, h⟩ | ⟨j, h⟩ <;> cases h
theorem jisR_M {c : jC} (hc : jisR c) : ¬ jisM c := by
  rintro ⟨q, rfl⟩
  rcases hc with ⟨z, a, b, h⟩ | ⟨t, p, h⟩ <;> cases h
theorem jisH_M {c : jC} (hc : jisH c) : ¬ jisM c := by
  rintro ⟨q, rfl⟩
  obtain ⟨z, a, b, h⟩ := hc
  cases h
/-- a roster's call: the class's step, then the reference's -/
theorem jIv.step {L : jL} {S S1 S2 : jSt} {A A' : jR} {w : jLw} {H H' : jH} {tp : Nat → Nat} {ts sw ps wy : Nat} (h : jIv L S A w H tp ts sw ps wy) (hA' : jRg A') (hH' : jHg L H'.1 H'.2) (hRC : jRC L S1 A') (hHC : ∃ nw, jHC S1 H'.1 nw H'.2) (e1 : jeqv jisRH S S1) (x1 : jgX S1 = jgX S) (hRM : jRM L S2 A') (hLM : jLM S2 w) (hHM : ∃ fr, jHM S2 H'.1 fr H'.2) (e2 : jeqv (fun c => ¬ jisM c) S1 S2) (x2 : jgX S2 = jgX S1) (k2 : jmk S1 S2) : jIv L S2 A' w H' tp ts sw ps wy := by
  have eO : jeqv jisO S S2 := (e1.weak (fun c hc => jisO_RH hc)).trans (e2.weak (fun c hc => jisO_M hc))
  have eM : jeqv jisM S S1 := e1.weak (fun c hc => jisM_RH hc)
  obtain ⟨nw, hHC⟩ := hHC
  have m0 := (eM (jm 0) ⟨0, rfl⟩).1
  have m9 := (eM (jm 9) ⟨9, rfl⟩).2.1
  refine ⟨h.D, hA', h.K.of (x2.trans x1), hRC.same (e2.weak (fun c hc => jisR_M hc)), hRM, h.W, h.LC.eqv (eO.weak (fun c hc => Or.inr (Or.inr (Or.inr hc)))), hLM, hH', ⟨nw, hHC.same (e2.weak (fun c hc => jisH_M hc))⟩, hHM, h.p1, h.w1, ⟨h.T.s, h.T.b, ?_, ?_, ?_, ?_⟩, ?_, ?_, ?_⟩
  · rw [(eO (jo 1) (Or.inl rfl)).1]; exact h.T.c
  · intro i hi; rw [(eO (jo 2) (Or.inr (Or.inl rfl))).2.1]; exact h.T.cb i hi
  · rw [k2.1, m0]; exact h.T.m
  · intro i hi; rw [k2.2.2, m9]; exact h.T.mb i hi
  · rw [(eO (jo 29) (Or.inr (Or.inr (Or.inl rfl)))).1, k2.2.1, m0]; exact h.P
  · rw [(eO (jo 29) (Or.inr (Or.inr (Or.inl rfl)))).1]; exact h.Dy
  · intro j hj; rw [(eO (jt j) (Or.inr (Or.inr (Or.inr (Or.inr (Or.inr ⟨j, rfl⟩)))))).2.2.2]; exact h.tn j hj
/-- one call, on both sides: the same answer, and all holds again -/
def jOp (L : jL) (ω : xS) (S : jSt) (w : jLw) (tp : Nat → Nat) (ts sw ps wy : Nat) (α : Type) (f g : xS → Option (α × xS)) : Prop := ∃ (r : α) (S1 S2 : jSt) (A' : jR) (H' : jH), f (jW L ω S) = some (r, jW L ω S1) ∧ g (jW L ω S1) = some (r, jW L ω S2) ∧ jIv L S2 A' w H' tp ts sw ps wy ∧ jLK S1 sw ps wy
theorem jOp_no {L : jL} {ω : xS} {S : jSt} {A : jR} {w : jLw} {H : jH} {tp : Nat → Nat} {ts sw ps wy : Nat} {α : Type} {f g : xS → Option (α × xS)} (h : jIv L S A w H tp ts sw ps wy) {r : α} (h1 : f (jW L ω S) = some (r, jW L ω S) ∧ g (jW L ω S) = some (r, jW L ω S)) : jOp L ω S w tp ts sw ps wy α f g := ⟨r, S, S, A, H, h1.1, h1.2, h, h.K⟩
theorem jnR_RH {S S' : jSt} (h : jeqv (fun c => ¬ jisR c) S S') : jeqv jisRH S S' := h.weak (fun c hc => hc.2)
theorem jop_shift {L : jL} (hL : jgood L) {ω : xS} {S : jSt} {A : jR} {w : jLw} {H : jH} {tp : Nat → Nat} {ts sw ps wy : Nat} (h : jIv L S A w H tp ts sw ps wy) (x1 x2 x3 x4 : Int32) : jOp L ω S w tp ts sw ps wy Int32 (f_RR_shift (jad L (jo 0)) x1 x2 x3 x4) (f_Mo_shift (jad L (jm 0)) x1 x2 x3 x4) := by
  by_cases hv : 0 ≤ x1.toInt ∧ x1.toInt ≤ 7 ∧ 0 ≤ x2.toInt ∧ x2.toInt ≤ 1439 ∧ 1 ≤ x3.toInt ∧ x3.toInt ≤ 1440 ∧ 0 ≤ x4.toInt ∧ x4.toInt ≤ 9
  · obtain ⟨k, _, hk, rfl⟩ := jrng (lo := 0) (hi := 7) hv.1 hv.2.1
    obtain ⟨b, _, hb, rfl⟩ := jrng (lo := 0) (hi := 1439) hv.2.2.1 hv.2.2.2.1
    obtain ⟨m, h1, hm, rfl⟩ := jrng (lo := 1) (hi := 1440) hv.2.2.2.2.1 hv.2.2.2.2.2.1
    obtain ⟨s, _, hs, rfl⟩ := jrng (lo := 0) (hi := 9) hv.2.2.2.2.2.2.1 hv.2.2.2.2.2.2.2
    obtain ⟨S1, a1, a2, a3, a4⟩ := jRR_shift hL h.D h.A h.K (ω := ω) h.RC (k := k) (b := b) (m := m) (s := s) (by omega) (by omega) h1 hm (by omega)
    have eM : jeqv jisM S S1 := a3.weak (fun c hc => fun q => jisR_M q hc)
    have hH1 : ∃ nw, jHC S1 H.1 nw H.2 := h.HC.elim fun nw z => ⟨nw, z.same (a3.weak (fun c hc q => jisR_H q hc))⟩
    obtain ⟨S2, b1, b2, b3, b4, b5, b6, b7⟩ := jMo_shift hL h.D h.A (h.K.of a4) (ω := ω) (h.RM.same eM) (k := k) (b := b) (m := m) (s := s) (by omega) (by omega) h1 hm (by omega)
    refine ⟨nI 1, S1, S2, jR.sh A (k + 1) b m s, H, a1, b1, h.step (jR.sh_good h.A (by omega) (by omega) hm (by omega)) h.H a2 hH1 (jnR_RH a3) a4 b2 ((h.LM.eqv eM).same (by rw [b3]) (fun q hq _ => b4 q (by omega))) ?_ b6 b7 ⟨by rw [b3], by rw [b3], b4 9 (by omega)⟩, h.K.of a4⟩
    · obtain ⟨fr, z⟩ := h.HM
      have z := z.same eM
      refine ⟨fr, ?_⟩
      unfold jHM at z ⊢
      rw [b3, b4 25 (by omega), b4 26 (by omega)]
      exact z
  · exact jOp_no h (jno_shift hL h.D h.A h.K hv)
