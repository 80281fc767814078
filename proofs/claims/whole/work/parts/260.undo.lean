/-! undo -/
theorem jHi_drop {L : jL} (hL : jgood L) (hD : jdim L) {ω : xS} {S : jSt} {A : jR} (hA : jRg A) {sw ps wy : Nat} (hK : jLK S sw ps wy) {cn nw : Nat} {e : Nat → Nat × Nat × Nat} (h : jHC S cn nw e) (hc : cn ≤ 200) (h0 : cn ≠ 0) : ∃ S', f_History_dropNewest (jad L (jo 3)) (jW L ω S) = some (jW L ω S') ∧ jHC S' (cn - 1) ((nw + 199) % 200) (fun i => e (i + 1)) ∧ jeqv (fun c => ¬ jisH c) S S' ∧ jgX S' = jgX S := by
  have hn := h.n2
  have hm : (nw + 199) % 200 < 200 := Nat.mod_lt _ (by decide)
  have e1 : nI (nw + 200) - nI 1 = nI (nw + 199) := by rw [jsub (by omega)]; congr 1
  have e2 : nI cn - nI 1 = nI (cn - 1) := jsub (by omega)
  unfold f_History_dropNewest
  simp (disch := first | omega | rfl | assumption | exact jokr (by decide) (by omega) | exact jokr4 (by omega) | exact jkt_r _ _ | exact jkt_l (by decide) | exact jfk_l (by decide) | exact jkt_t _ | exact jkt_r6 _ _ | exact jkt_t6 _ | (simp only [jok, jlen]; omega) | decide) only [jm_k hL, jm_gi hL, jm_gr hL, jm_gl hL, jm_pi hL, jm_pl hL, jn_ai hL, jn_ab hL, jn_az hL, jn_al hL, jn_ar hL, jn_an hL, jn_si hL, jn_sb hL, jn_sz hL, jn_sl hL, Option.bind_some, xc, xl, jlit, nI_add, h.n, e1, jrem, jsI_ne (show jo 3 ≠ jo 3 ∨ 4 ≠ 3 from Or.inr (by decide)), h.k, e2]
  refine ⟨_, rfl, ⟨?_, ?_, hm, ?_, ?_, ?_⟩, ?_, rfl⟩
  · rw [jsI_I, if_pos ⟨rfl, rfl⟩]
  · rw [jsI_ne (Or.inr (by decide)), jsI_I, if_pos ⟨rfl, rfl⟩]
  · intro i hi
    rw [jsI_A, jsI_A, show ((nw + 199) % 200 + 200 - i) % 200 = (nw + 200 - (i + 1)) % 200 by omega]
    exact h.p (i + 1) (by omega)
  · intro i hi
    rw [jsI_A, jsI_A, show ((nw + 199) % 200 + 200 - i) % 200 = (nw + 200 - (i + 1)) % 200 by omega]
    exact h.t (i + 1) (by omega)
  · intro i hi
    rw [jsI_A, jsI_A, show ((nw + 199) % 200 + 200 - i) % 200 = (nw + 200 - (i + 1)) % 200 by omega]
    exact h.l (i + 1) (by omega)
  · have n3 : ¬ (fun c => ¬ jisH c) (jo 3) := fun q => q ⟨3, by omega, by omega, rfl⟩
    exact (jeqv.sI _ _ _ n3).trans (jeqv.sI _ _ _ n3)
theorem jisR_H {c : jC} (hc : jisR c) : ¬ jisH c := fun q => by
  obtain ⟨z, a, b, rfl⟩ := q
  rcases hc with ⟨y, c1, c2, c3⟩ | ⟨y1, y2, c3⟩
  · have : z = y := by simpa using c3
    omega
  · cases c3
theorem jcell_R (S : jSt) (p t f l : Nat) : jeqv (fun c => ¬ jisR c) S (jcell S p t f l) := jeqv.cell S p t f l (fun q => q (Or.inl ⟨18, by omega, by omega, rfl⟩)) (fun q => q (Or.inr ⟨0, p, rfl⟩)) (fun q => q (Or.inr ⟨3, p, rfl⟩)) (fun q => q (Or.inr ⟨4, t, rfl⟩))
theorem jRR_undo {L : jL} (hL : jgood L) (hD : jdim L) {ω : xS} {S : jSt} {A : jR} (hA : jRg A) {sw ps wy : Nat} (hK : jLK S sw ps wy) (h : jRC L S A) {cn nw : Nat} {e : Nat → Nat × Nat × Nat} (hh : jHC S cn nw e) (hg : jHg L cn e) (h0 : cn ≠ 0) : ∃ S', f_RR_undo (jad L (jo 0)) (jW L ω S) = some (nI (cn - 1), jW L ω S') ∧ jRC L S' (jR.put A (e 0).1 (e 0).2.1 (e 0).2.2) ∧ (∃ nw', jHC S' (cn - 1) nw' (fun i => e (i + 1))) ∧ jeqv (fun c => ¬ jisH c ∧ ¬ jisR c) S S' ∧ jgX S' = jgX S := by
  have hn := hh.n2
  have hc := hg.c
  have hp := hg.p 0 (by omega)
  have ht := hg.t 0 (by omega)
  have hl := hg.l 0 (by omega)
  have e1 := hh.p 0 (by omega)
  have e2 := hh.t 0 (by omega)
  have e3 := hh.l 0 (by omega)
  rw [show (nw + 200 - 0) % 200 = nw by omega] at e1 e2 e3
  have e4 := jRo_setCell hL hD hA hK (ω := ω) h hp ht hl
  have hh1 : jHC (jcell S (e 0).1 (e 0).2.1 (jR.row A (e 0).1 (7 + (e 0).2.1)) (e 0).2.2) cn nw e := hh.same ((jcell_R S _ _ _ _).weak (fun c hc q => jisR_H q hc))
  have eX : jgX (jcell S (e 0).1 (e 0).2.1 (jR.row A (e 0).1 (7 + (e 0).2.1)) (e 0).2.2) = jgX S := rfl
  obtain ⟨S2, f1, f2, f3, f4⟩ := jHi_drop hL hD hA (hK.of eX) (ω := ω) hh1 hc h0
  refine ⟨S2, ?_, (h.put hD hp ht).same (f3.weak (fun c hc => jisR_H hc)), ⟨_, f2⟩, (jcell_R S _ _ _ _).weak (fun c hc => hc.2) |>.trans (f3.weak (fun c hc => hc.1)), f4.trans eX⟩
  unfold f_RR_undo
  simp (disch := first | omega | rfl | assumption | exact jokr (by decide) (by omega) | exact jokr4 (by omega) | exact jkt_r _ _ | exact jkt_l (by decide) | exact jfk_l (by decide) | exact jkt_t _ | exact jkt_r6 _ _ | exact jkt_t6 _ | (simp only [jok, jlen]; omega) | decide) only [jm_k hL, jm_gi hL, jm_gr hL, jm_gl hL, jm_pi hL, jm_pl hL, jn_ai hL, jn_ab hL, jn_az hL, jn_al hL, jn_ar hL, jn_an hL, jn_si hL, jn_sb hL, jn_sz hL, jn_sl hL, Option.bind_some, xc, xl, jsA_X, jsI_X, jsG_X, hK _ _, jlk, jmx, jlit, hh.k, hh.n, nI_eq, if_neg, e1, e2, e3, e4, eX, f1, f4, f2.k]
theorem jMo_undo {L : jL} (hL : jgood L) (hD : jdim L) {ω : xS} {S : jSt} {A : jR} (hA : jRg A) {sw ps wy : Nat} (hK : jLK S sw ps wy) {w : jLw} (h : jRM L S A) (hM : jLM S w) {cn fr : Nat} {e : Nat → Nat × Nat × Nat} (hh : jHM S cn fr e) (hg : jHg L cn e) (h0 : cn ≠ 0) : ∃ S', f_Mo_undo (jad L (jm 0)) (jW L ω S) = some (nI (cn - 1), jW L ω S') ∧ jRM L S' (jR.put A (e 0).1 (e 0).2.1 (e 0).2.2) ∧ jLM S' w ∧ (∃ fr', jHM S' (cn - 1) fr' (fun i => e (i + 1))) ∧ jeqv (fun c => ¬ jisM c) S S' ∧ jgX S' = jgX S ∧ jmk S S' := by
  have h1 := hD.n8
  have h2 := hD.d21
  have hf := hh.f2
  have hc := hg.c
  have hp := hg.p 0 (by omega)
  have ht := hg.t 0 (by omega)
  have e1 := hh.c 0 (by omega)
  have e2 := hh.l 0 (by omega)
  have hm : (fr + cn - 1) % 200 < 200 := Nat.mod_lt _ (by decide)
  rw [show (fr + cn - 1 - 0) % 200 = (fr + cn - 1) % 200 by omega] at e1 e2
  have e3 : nI cn - nI 1 = nI (cn - 1) := jsub (by omega)
  have e4 : fr + (cn - 1) = fr + cn - 1 := by omega
  have n0 : ¬ (fun c => ¬ jisM c) (jm 0) := fun q => q ⟨0, rfl⟩
  have n1 : ¬ (fun c => ¬ jisM c) (jm 1) := fun q => q ⟨1, rfl⟩
  unfold f_Mo_undo
  simp (disch := first | omega | rfl | assumption | exact jokr (by decide) (by omega) | exact jokr4 (by omega) | exact jkt_r _ _ | exact jkt_l (by decide) | exact jfk_l (by decide) | exact jkt_t _ | exact jkt_r6 _ _ | exact jkt_t6 _ | (simp only [jok, jlen]; omega) | decide) only [jm_k hL, jm_gi hL, jm_gr hL, jm_gl hL, jm_pi hL, jm_pl hL, jn_ai hL, jn_ab hL, jn_az hL, jn_al hL, jn_ar hL, jn_an hL, jn_si hL, jn_sb hL, jn_sz hL, jn_sl hL, Option.bind_some, xc, xl, jsA_X, jsI_X, jsG_X, hK _ _, jlk, jmx, jlit, hh.k, nI_eq, if_neg, e3, jsI_ne (show jm 0 ≠ jm 0 ∨ 31 ≠ 32 from Or.inr (by decide)), hh.f, jsI_I, and_self, if_true, nI_add, e4, jrem, jsI_A, e1, e2, jsA_I]
  refine ⟨_, rfl, ?_, ?_, ?_, (jeqv.sI _ _ _ n0).trans (jeqv.sA _ _ _ n1), rfl, rfl, rfl, by rw [jsA_fn (by decide), jsI_A]⟩
  · have hR1 : jRM L (jsI S (jm 0) 32 (nI (cn - 1))) A := by
      unfold jRM at h ⊢
      rw [jsI_ne (Or.inr (by decide)), jsI_ne (Or.inr (by decide)), jsI_A]
      exact h
    exact hR1.put hD hp ht
  · exact (hM.same (S' := jsI S (jm 0) 32 (nI (cn - 1))) (by rw [jsI_ne (Or.inr (by decide))]) (fun q _ _ => rfl)).put _ _
  · refine ⟨fr, ?_, ?_, hf, ?_, ?_⟩
    · rw [jsA_I, jsI_I, if_pos ⟨rfl, rfl⟩]
    · rw [jsA_I, jsI_ne (Or.inr (by decide))]; exact hh.f
    · intro i hi
      rw [jsA_ne (by decide), jsI_A, show (fr + (cn - 1) - 1 - i) % 200 = (fr + cn - 1 - (i + 1)) % 200 by omega]
      exact hh.c (i + 1) (by omega)
    · intro i hi
      rw [jsA_ne (by decide), jsI_A, show (fr + (cn - 1) - 1 - i) % 200 = (fr + cn - 1 - (i + 1)) % 200 by omega]
      exact hh.l (i + 1) (by omega)
