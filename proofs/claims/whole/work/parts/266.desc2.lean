/-! descents: step after step -/
abbrev jH : Type := Nat × (Nat → Nat × Nat × Nat)
/-- one step: what becomes of the roster and of the history -/
def jstA (w : jLw) (L : jL) (A : jR) : jR := jR.put A (jall w A L (jn L)).2.1 (jall w A L (jn L)).2.2.1 (jall w A L (jn L)).2.2.2
def jstH (w : jLw) (L : jL) (A : jR) (H : jH) : jH := (min 200 (H.1 + 1), jadd ((jall w A L (jn L)).2.1, (jall w A L (jn L)).2.2.1, jR.row A (jall w A L (jn L)).2.1 (7 + (jall w A L (jn L)).2.2.1)) H.2)
def jit (w : jLw) (L : jL) : Nat → jR → jH → Nat × jR × jH
  | 0, A, H => (0, A, H)
  | n + 1, A, H => if (jall w A L (jn L)).1 < 0 then ((jit w L n (jstA w L A) (jstH w L A H)).1 + 1, (jit w L n (jstA w L A) (jstH w L A H)).2) else (0, A, H)
theorem jstA_good {L : jL} (hD : jdim L) {A : jR} (hA : jRg A) {w : jLw} (hw : jLg L w) : jRg (jstA w L A) := jR.put_good hA (jall_good hD hA hw (jn L) (Nat.le_refl _)).2.2.2.2.1
theorem jstH_good {L : jL} (hD : jdim L) {A : jR} (hA : jRg A) {w : jLw} (hw : jLg L w) {H : jH} (hH : jHg L H.1 H.2) : jHg L (jstH w L A H).1 (jstH w L A H).2 := by
  have hq := jall_good hD hA hw (jn L) (Nat.le_refl _)
  have hc := hH.c
  refine ⟨by show min 200 (H.1 + 1) ≤ 200; omega, fun i hi => ?_, fun i hi => ?_, fun i hi => ?_⟩
  · have hi : i < min 200 (H.1 + 1) := hi
    rcases i with _ | i
    · exact hq.2.2.1
    · exact hH.p i (by omega)
  · have hi : i < min 200 (H.1 + 1) := hi
    rcases i with _ | i
    · exact hq.2.2.2.1
    · exact hH.t i (by omega)
  · have hi : i < min 200 (H.1 + 1) := hi
    rcases i with _ | i
    · exact hA.row _ _
    · exact hH.l i (by omega)
theorem jit_good {L : jL} (hD : jdim L) {w : jLw} (hw : jLg L w) : ∀ n {A : jR} {H : jH}, jRg A → jHg L H.1 H.2 → jRg (jit w L n A H).2.1 ∧ jHg L (jit w L n A H).2.2.1 (jit w L n A H).2.2.2
  | 0, A, H, hA, hH => ⟨hA, hH⟩
  | n + 1, A, H, hA, hH => by
    rw [jit]
    split
    · exact jit_good hD hw n (jstA_good hD hA hw) (jstH_good hD hA hw hH)
    · exact ⟨hA, hH⟩
def jisRH : jC → Prop := fun c => ¬ jisH c ∧ ¬ jisR c
theorem jisL_RH {c : jC} (hc : jisL c) : jisRH c := by
  rcases hc with rfl | ⟨j, q, rfl⟩ | ⟨j, rfl⟩
  · refine ⟨fun ⟨q, a, b, e⟩ => ?_, fun e => ?_⟩
    · have : 0 = q := by simpa using e
      omega
    · rcases e with ⟨q, a, b, e⟩ | ⟨t, p, e⟩
      · have : 0 = q := by simpa using e
        omega
      · cases e
  · exact ⟨fun ⟨q, a, b, e⟩ => (by cases e), fun e => e.elim (fun ⟨q, a, b, e⟩ => (by cases e)) (fun ⟨t, p, e⟩ => (by cases e))⟩
  · exact ⟨fun ⟨q, a, b, e⟩ => (by cases e), fun e => e.elim (fun ⟨q, a, b, e⟩ => (by cases e)) (fun ⟨t, p, e⟩ => (by cases e))⟩
theorem jisM_RH {c : jC} (hc : jisM c) : jisRH c := by
  obtain ⟨q, rfl⟩ := hc
  exact ⟨fun ⟨q, a, b, e⟩ => (by cases e), fun e => e.elim (fun ⟨q, a, b, e⟩ => (by cases e)) (fun ⟨t, p, e⟩ => (by cases e))⟩
theorem jRR_desc {L : jL} (hL : jgood L) (hD : jdim L) {ω : xS} {w : jLw} (hw : jLg L w) {sw ps wy : Nat} {x : Nat} : ∀ (r n d : Nat) {S : jSt} {A : jR} {H : jH}, d + r = x → x ≤ 3 → r < n → jRg A → jLK S sw ps wy → jRC L S A → jLC L S w sw → jHg L H.1 H.2 → (∃ nw, jHC S H.1 nw H.2) → ∃ S', f_RR_descend_13 n (jad L (jo 0)) (nI x) (nI d) (jW L ω S) = some (nI (d + (jit w L r A H).1), jW L ω S') ∧ jRC L S' (jit w L r A H).2.1 ∧ (∃ nw, jHC S' (jit w L r A H).2.2.1 nw (jit w L r A H).2.2.2) ∧ jeqv jisRH S S' ∧ jgX S' = jgX S := by
  intro r
  induction r with
  | zero =>
    intro n d S A H h1 h2 h3 hA hK h hC hH hh
    obtain ⟨n, rfl⟩ : ∃ m, n = m + 1 := ⟨n - 1, by omega⟩
    refine ⟨S, ?_, h, hh, jeqv.refl _ _, rfl⟩
    rw [f_RR_descend_13, show x = d by omega, if_pos ((nI_leI (by omega) (by omega)).mpr (Nat.le_refl _))]
    rfl
  | succ r ih =>
    intro n d S A H h1 h2 h3 hA hK h hC hH hh
    obtain ⟨n, rfl⟩ : ∃ m, n = m + 1 := ⟨n - 1, by omega⟩
    obtain ⟨nw, hh⟩ := hh
    have hq := jall_good hD hA hw (jn L) (Nat.le_refl _)
    have hs := jRR_step hL hD hA hK (ω := ω) hw h hC
    rw [f_RR_descend_13]
    simp (disch := first | omega | rfl | assumption | exact jokr (by decide) (by omega) | exact jokr4 (by omega) | exact jkt_r _ _ | exact jkt_l (by decide) | exact jfk_l (by decide) | exact jkt_t _ | exact jkt_r6 _ _ | exact jkt_t6 _ | (simp only [jok, jlen]; omega) | decide) only [jm_k hL, jm_gi hL, jm_gr hL, jm_gl hL, jm_pi hL, jm_pl hL, jn_ai hL, jn_ab hL, jn_az hL, jn_al hL, jn_ar hL, jn_an hL, jn_si hL, jn_sb hL, jn_sz hL, jn_sl hL, Option.bind_some, xc, xl, nI_leI, if_neg]
    rw [hs, jit]
    by_cases c : (jall w A L (jn L)).1 < 0
    · rw [if_pos c, if_pos c]
      obtain ⟨S1, e1, e2, e3, e4, e5⟩ := jRR_keep hL hD hA hK (ω := ω) h hC hh hH.c hq.2.2.1 hq.2.2.2.1 hq.2.2.2.2.1
      rw [e1]
      simp (disch := first | omega | rfl | assumption | exact jokr (by decide) (by omega) | exact jokr4 (by omega) | exact jkt_r _ _ | exact jkt_l (by decide) | exact jfk_l (by decide) | exact jkt_t _ | exact jkt_r6 _ _ | exact jkt_t6 _ | (simp only [jok, jlen]; omega) | decide) only [jm_k hL, jm_gi hL, jm_gr hL, jm_gl hL, jm_pi hL, jm_pl hL, jn_ai hL, jn_ab hL, jn_az hL, jn_al hL, jn_ar hL, jn_an hL, jn_si hL, jn_sb hL, jn_sz hL, jn_sl hL, Option.bind_some, xc, xl, jlit, nI_eq, if_neg, nI_add]
      obtain ⟨S2, f1, f2, f3, f4, f5⟩ := ih n (d + 1) (S := S1) (A := jstA w L A) (H := jstH w L A H) (by omega) h2 (by omega) (jstA_good hD hA hw) (hK.of e5) e2 (hC.eqv (e4.weak (fun c hc => jisL_RH hc))) (jstH_good hD hA hw hH) ⟨_, e3⟩
      refine ⟨S2, ?_, f2, f3, e4.trans f4, f5.trans e5⟩
      rw [f1, show d + 1 + (jit w L r (jstA w L A) (jstH w L A H)).1 = d + ((jit w L r (jstA w L A) (jstH w L A H)).1 + 1) by omega]
    · rw [if_neg c, if_neg c]
      refine ⟨S, ?_, h, ⟨nw, hh⟩, jeqv.refl _ _, rfl⟩
      simp (disch := first | omega | rfl | assumption | exact jokr (by decide) (by omega) | exact jokr4 (by omega) | exact jkt_r _ _ | exact jkt_l (by decide) | exact jfk_l (by decide) | exact jkt_t _ | exact jkt_r6 _ _ | exact jkt_t6 _ | (simp only [jok, jlen]; omega) | decide) only [jlit, Option.bind_some, xc, nI_eq, if_pos]
      rfl
theorem jMo_desc {L : jL} (hL : jgood L) (hD : jdim L) {ω : xS} {w : jLw} (hw : jLg L w) {sw ps wy : Nat} {x : Nat} : ∀ (r n d : Nat) {S : jSt} {A : jR} {H : jH}, d + r = x → x ≤ 3 → r + 1 < n → jRg A → jLK S sw ps wy → jRM L S A → jLM S w → jHg L H.1 H.2 → (∃ fr, jHM S H.1 fr H.2) → ∃ S', f_Mo_descend_15 n (jad L (jm 0)) (nI x) (nI d) (nI 1) (jW L ω S) = some (nI (d + (jit w L r A H).1), jW L ω S') ∧ jRM L S' (jit w L r A H).2.1 ∧ jLM S' w ∧ (∃ fr, jHM S' (jit w L r A H).2.2.1 fr (jit w L r A H).2.2.2) ∧ jeqv (fun c => ¬ jisM c) S S' ∧ jgX S' = jgX S ∧ jmk S S' := by
  intro r
  induction r with
  | zero =>
    intro n d S A H h1 h2 h3 hA hK h hM hH hh
    obtain ⟨n, rfl⟩ : ∃ m, n = m + 1 := ⟨n - 1, by omega⟩
    refine ⟨S, ?_, h, hM, hh, jeqv.refl _ _, rfl, jmk.refl S⟩
    rw [f_Mo_descend_15, show x = d by omega, if_pos ((nI_leI (by omega) (by omega)).mpr (Nat.le_refl _))]
    rfl
  | succ r ih =>
    intro n d S A H h1 h2 h3 hA hK h hM hH hh
    obtain ⟨n, rfl⟩ : ∃ m, n = m + 2 := ⟨n - 2, by omega⟩
    obtain ⟨fr, hh⟩ := hh
    have hq := jall_good hD hA hw (jn L) (Nat.le_refl _)
    have hs := jMo_desc36 hL hD hA hK (ω := ω) hw h hM (x1 := nI x) (x2 := nI d) (k15 := f_Mo_descend_15 (n + 1))
    rw [f_Mo_descend_15]
    have z0 : (0 : Int64) = jz 0 := rfl
    have z1 : (-1 : Int32) = nI 0 - nI 1 := by decide
    have g1 : ¬ nI x ≤ nI d := fun q => by have := (nI_leI (by omega) (by omega)).mp q; omega
    rw [if_neg g1, if_neg (show ¬ nI 1 = 0 by decide)]
    have hs : f_Mo_descend_36 (f_Mo_descend_15 (n + 1)) xFU (jad L (jm 0)) (nI x) (nI d) 0 (-1) (-1) 0 (jW L ω S) = _ := hs
    rw [hs, jit]
    by_cases c : (jall w A L (jn L)).1 < 0
    · rw [if_pos c, if_pos c]
      obtain ⟨S1, e1, e2, e3, e4, e5, e6, e7⟩ := jMo_set hL hD hA hK (ω := ω) h hM hh hH.c hq.2.2.1 hq.2.2.2.1 hq.2.2.2.2.1
      rw [e1, Option.bind_some, nI_add]
      obtain ⟨S2, f1, f2, f3, f4, f5, f6, f7⟩ := ih (n + 1) (d + 1) (S := S1) (A := jstA w L A) (H := jstH w L A H) (by omega) h2 (by omega) (jstA_good hD hA hw) (hK.of e6) e2 e3 (jstH_good hD hA hw hH) e4
      refine ⟨S2, ?_, f2, f3, f4, e5.trans f5, f6.trans e6, e7.trans f7⟩
      rw [f1, show d + 1 + (jit w L r (jstA w L A) (jstH w L A H)).1 = d + ((jit w L r (jstA w L A) (jstH w L A H)).1 + 1) by omega]
    · rw [if_neg c, if_neg c]
      refine ⟨S, ?_, h, hM, ⟨fr, hh⟩, jeqv.refl _ _, rfl, jmk.refl S⟩
      rw [f_Mo_descend_15, if_neg g1, if_pos (show nI 0 = 0 from rfl)]
      rfl
