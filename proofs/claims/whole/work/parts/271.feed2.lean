/-! feed -/
def jfdC (S : jSt) (ts : Nat) (x : Int64) : Nat → jSt
  | 0 => S
  | i + 1 => jsI (jsA (jfdC S ts x i) (jo 2) (ts + i) (nI (jby x i))) (jo 1) 1 (nI (ts + (i + 1)))
def jfdM (S : jSt) (ts : Nat) (x : Int64) : Nat → jSt
  | 0 => S
  | i + 1 => jsI (jsA (jfdM S ts x i) (jm 9) (ts + i) (vp_nar .byte (xi2b (Int64.toInt32 (xlshr x (nI (8 * i))))))) (jm 0) 11 (nI (ts + (i + 1)))
def jtp2 (tp : Nat → Nat) (ts : Nat) (x : Int64) : Nat → Nat := fun k => if k < ts then tp k else jby x (k - ts)
theorem jfdC_X (S : jSt) (ts : Nat) (x : Int64) : ∀ i, jgX (jfdC S ts x i) = jgX S
  | 0 => rfl
  | i + 1 => jfdC_X S ts x i
theorem jfdM_X (S : jSt) (ts : Nat) (x : Int64) : ∀ i, jgX (jfdM S ts x i) = jgX S
  | 0 => rfl
  | i + 1 => jfdM_X S ts x i
theorem jfdC_I {S : jSt} {ts : Nat} (x : Int64) (h : jgI S (jo 1) 1 = nI ts) : ∀ i, jgI (jfdC S ts x i) (jo 1) 1 = nI (ts + i)
  | 0 => h
  | i + 1 => by rw [jfdC, jsI_I, if_pos ⟨rfl, rfl⟩]
theorem jfdM_I {S : jSt} {ts : Nat} (x : Int64) (h : jgI S (jm 0) 11 = nI ts) : ∀ i, jgI (jfdM S ts x i) (jm 0) 11 = nI (ts + i)
  | 0 => h
  | i + 1 => by rw [jfdM, jsI_I, if_pos ⟨rfl, rfl⟩]
theorem jfdC_A {S : jSt} {tp : Nat → Nat} {ts : Nat} (x : Int64) (h : ∀ k, k < ts → jgA S (jo 2) k = nI (tp k)) : ∀ i k, k < ts + i → jgA (jfdC S ts x i) (jo 2) k = nI (jtp2 tp ts x k)
  | 0, k, hk => by
    unfold jtp2
    rw [if_pos (show k < ts by omega)]
    exact h k (by omega)
  | i + 1, k, hk => by
    rw [jfdC, jsI_A, jsA_A]
    by_cases c : k = ts + i
    · rw [if_pos ⟨rfl, c⟩]
      unfold jtp2
      rw [if_neg (by omega), c, Nat.add_sub_cancel_left]
    · rw [if_neg (fun q => c q.2)]
      exact jfdC_A x h i k (by omega)
theorem jfdM_A {S : jSt} {tp : Nat → Nat} {ts : Nat} (x : Int64) (h : ∀ k, k < ts → jgA S (jm 9) k &&& nI 255 = nI (tp k)) : ∀ i k, i ≤ 8 → k < ts + i → jgA (jfdM S ts x i) (jm 9) k &&& nI 255 = nI (jtp2 tp ts x k)
  | 0, k, _, hk => by
    unfold jtp2
    rw [if_pos (show k < ts by omega)]
    exact h k (by omega)
  | i + 1, k, h8, hk => by
    rw [jfdM, jsI_A, jsA_A]
    by_cases c : k = ts + i
    · rw [if_pos ⟨rfl, c⟩, jby_m x (by omega)]
      unfold jtp2
      rw [if_neg (by omega), c, Nat.add_sub_cancel_left]
    · rw [if_neg (fun q => c q.2)]
      exact jfdM_A x h i k (by omega) (by omega)
theorem jfdC_eqv {P : jC → Prop} (S : jSt) (ts : Nat) (x : Int64) (h1 : ¬ P (jo 1)) (h2 : ¬ P (jo 2)) : ∀ i, jeqv P S (jfdC S ts x i)
  | 0 => jeqv.refl _ _
  | i + 1 => ((jfdC_eqv S ts x h1 h2 i).trans (jeqv.sA _ _ _ h2)).trans (jeqv.sI _ _ _ h1)
theorem jfdM_eqv {P : jC → Prop} (S : jSt) (ts : Nat) (x : Int64) (h1 : ¬ P (jm 0)) (h2 : ¬ P (jm 9)) : ∀ i, jeqv P S (jfdM S ts x i)
  | 0 => jeqv.refl _ _
  | i + 1 => ((jfdM_eqv S ts x h1 h2 i).trans (jeqv.sA _ _ _ h2)).trans (jeqv.sI _ _ _ h1)
theorem jfdM_k (S : jSt) (ts : Nat) (x : Int64) : ∀ i, (∀ k, k ≠ 11 → jgI (jfdM S ts x i) (jm 0) k = jgI S (jm 0) k) ∧ ∀ q, q ≠ 9 → jgA (jfdM S ts x i) (jm q) = jgA S (jm q)
  | 0 => ⟨fun _ _ => rfl, fun _ _ => rfl⟩
  | i + 1 => ⟨fun k hk => by rw [jfdM, jsI_ne (Or.inr hk), jsA_I]; exact (jfdM_k S ts x i).1 k hk, fun q hq => by rw [jfdM, jsI_A, jsA_fn (jmne hq)]; exact (jfdM_k S ts x i).2 q hq⟩
theorem jTa_append {L : jL} (hL : jgood L) {ω : xS} {S : jSt} {sw ps wy : Nat} (hK : jLK S sw ps wy) {ts n0 : Nat} {x : Int64} (h : jgI S (jo 1) 1 = nI ts) (hn : n0 ≤ 8) (ht : ts + n0 ≤ 1500) : f_Tape_append (jad L (jo 1)) (nI n0) x (jW L ω S) = some (jW L ω (jfdC S ts x n0)) := by
  unfold f_Tape_append
  refine jlpx (fun n i (T : jSt) => f_Tape_append_3 n (jad L (jo 1)) (nI n0) x (nI i) (jW L ω T)) (fun i => jfdC S ts x i) (lo := 0) (hi := n0) (Nat.zero_le _) (by omega) ?_ ?_
  · intro n i _ hi
    have eI := jfdC_I x h i
    have eX := jfdC_X S ts x i
    rw [f_Tape_append_3, jfdC]
    simp (disch := first | omega | rfl | assumption | exact jokr (by decide) (by omega) | exact jokr4 (by omega) | exact jkt_r _ _ | exact jkt_l (by decide) | exact jfk_l (by decide) | exact jkt_t _ | exact jkt_r6 _ _ | exact jkt_t6 _ | (simp only [jok, jlen]; omega) | decide) only [jm_k hL, jm_gi hL, jm_gr hL, jm_gl hL, jm_pi hL, jm_pl hL, jn_ai hL, jn_ab hL, jn_az hL, jn_al hL, jn_ar hL, jn_an hL, jn_si hL, jn_sb hL, jn_sz hL, jn_sl hL, Option.bind_some, xc, xl, jsA_X, jsI_X, eX, hK _ _, jlk, jlit, jlitl, jmul, nI_add, lN_add, nI_leI, nI_ltI, nI_eq, jm1, jm1g, jm1e, jm1c, eI, if_neg, jsA_I, jby_c]
    rfl
  · intro n
    rw [f_Tape_append_3, if_pos ((nI_leI (by omega) (by omega)).mpr (Nat.le_refl _))]
theorem jMo_feed31 {L : jL} (hL : jgood L) {ω : xS} {S : jSt} {sw ps wy : Nat} (hK : jLK S sw ps wy) {ts n0 : Nat} {x : Int64} (h : jgI S (jm 0) 11 = nI ts) (hn : n0 ≤ 8) (ht : ts + n0 ≤ 1500) : f_Mo_feed_31 xFU (jad L (jm 0)) (nI n0) x (nI 0) (jW L ω S) = some (nI (ts + n0), jW L ω (jfdM S ts x n0)) := by
  refine jlpx (fun n i (T : jSt) => f_Mo_feed_31 n (jad L (jm 0)) (nI n0) x (nI i) (jW L ω T)) (fun i => jfdM S ts x i) (lo := 0) (hi := n0) (Nat.zero_le _) (by omega) ?_ ?_
  · intro n i _ hi
    have eI := jfdM_I x h i
    have eX := jfdM_X S ts x i
    rw [f_Mo_feed_31, jfdM]
    simp (disch := first | omega | rfl | assumption | exact jokr (by decide) (by omega) | exact jokr4 (by omega) | exact jkt_r _ _ | exact jkt_l (by decide) | exact jfk_l (by decide) | exact jkt_t _ | exact jkt_r6 _ _ | exact jkt_t6 _ | (simp only [jok, jlen]; omega) | decide) only [jm_k hL, jm_gi hL, jm_gr hL, jm_gl hL, jm_pi hL, jm_pl hL, jn_ai hL, jn_ab hL, jn_az hL, jn_al hL, jn_ar hL, jn_an hL, jn_si hL, jn_sb hL, jn_sz hL, jn_sl hL, Option.bind_some, xc, xl, jsA_X, jsI_X, eX, hK _ _, jlk, jmx, jlit, jlitl, jmul, nI_add, lN_add, nI_leI, nI_ltI, nI_eq, jm1, jm1g, jm1e, jm1c, eI, if_neg, jsA_I]
    rfl
  · intro n
    have eI := jfdM_I x h n0
    rw [f_Mo_feed_31, if_pos ((nI_leI (by omega) (by omega)).mpr (Nat.le_refl _))]
    simp (disch := first | omega | rfl | assumption | exact jokr (by decide) (by omega) | exact jokr4 (by omega) | exact jkt_r _ _ | exact jkt_l (by decide) | exact jfk_l (by decide) | exact jkt_t _ | exact jkt_r6 _ _ | exact jkt_t6 _ | (simp only [jok, jlen]; omega) | decide) only [jm_k hL, jm_gi hL, jm_gr hL, jm_gl hL, jm_pi hL, jm_pl hL, jn_ai hL, jn_ab hL, jn_az hL, jn_al hL, jn_ar hL, jn_an hL, jn_si hL, jn_sb hL, jn_sz hL, jn_sl hL, Option.bind_some, xc, xl, eI]
theorem jIv.tape {L : jL} {S S2 : jSt} {A : jR} {w : jLw} {H : jH} {tp tp' : Nat → Nat} {ts ts' sw ps wy : Nat} (h : jIv L S A w H tp ts sw ps wy) (hT : jTp S2 tp' ts') (e : jeqv (fun c => c ≠ jo 1 ∧ c ≠ jo 2 ∧ ¬ jisM c) S S2) (x : jgX S2 = jgX S) (mI : ∀ k, k ≠ 11 → jgI S2 (jm 0) k = jgI S (jm 0) k) (mA : ∀ q, q ≠ 9 → jgA S2 (jm q) = jgA S (jm q)) : jIv L S2 A w H tp' ts' sw ps wy := by
  have oR : ∀ c, jisR c → c ≠ jo 1 ∧ c ≠ jo 2 ∧ ¬ jisM c := fun c hc => by
    refine ⟨fun z => ?_, fun z => ?_, jisR_M hc⟩
    · rcases hc with ⟨q, a, b, e⟩ | ⟨t, p, e⟩
      · rw [z] at e
        have : 1 = q := by simpa using e
        omega
      · rw [z] at e; cases e
    · rcases hc with ⟨q, a, b, e⟩ | ⟨t, p, e⟩
      · rw [z] at e
        have : 2 = q := by simpa using e
        omega
      · rw [z] at e; cases e
  have oH : ∀ c, jisH c → c ≠ jo 1 ∧ c ≠ jo 2 ∧ ¬ jisM c := fun c hc => by
    refine ⟨fun z => ?_, fun z => ?_, jisH_M hc⟩
    · obtain ⟨q, a, b, e⟩ := hc
      rw [z] at e
      have : 1 = q := by simpa using e
      omega
    · obtain ⟨q, a, b, e⟩ := hc
      rw [z] at e
      have : 2 = q := by simpa using e
      omega
  have oL : ∀ c, jisL c → c ≠ jo 1 ∧ c ≠ jo 2 ∧ ¬ jisM c := fun c hc => by
    refine ⟨fun z => ?_, fun z => ?_, jisO_M (Or.inr (Or.inr (Or.inr hc)))⟩
    · rcases hc with e | ⟨j, q, e⟩ | ⟨j, e⟩ <;> rw [z] at e <;> cases e
    · rcases hc with e | ⟨j, q, e⟩ | ⟨j, e⟩ <;> rw [z] at e <;> cases e
  obtain ⟨nw, hHC⟩ := h.HC
  obtain ⟨fr, hHM⟩ := h.HM
  have e29 := (e (jo 29) ⟨by decide, by decide, fun ⟨q, z⟩ => (by cases z)⟩).1
  refine ⟨h.D, h.A, h.K.of x, h.RC.same (e.weak oR), ?_, h.W, h.LC.eqv (e.weak oL), h.LM.same (mI 20 (by decide)) (fun q h1 _ => mA q (by omega)), h.H, ⟨nw, hHC.same (e.weak oH)⟩, ⟨fr, ?_⟩, h.p1, h.w1, hT, ?_, ?_, ?_⟩
  · have hr := h.RM
    unfold jRM at hr ⊢
    rw [mI 0 (by decide), mI 1 (by decide), mA 1 (by decide), mA 2 (by decide), mA 3 (by decide), mA 4 (by decide), mA 5 (by decide), mA 6 (by decide), mA 7 (by decide), mA 8 (by decide)]
    exact hr
  · unfold jHM at hHM ⊢
    rw [mI 32 (by decide), mI 31 (by decide), mA 25 (by decide), mA 26 (by decide)]
    exact hHM
  · rw [e29, mI 12 (by decide)]; exact h.P
  · rw [e29]; exact h.Dy
  · intro j hj
    rw [(e (jt j) (oL _ (Or.inr (Or.inr ⟨j, rfl⟩)))).2.2.2]
    exact h.tn j hj
theorem jop_feed {L : jL} (hL : jgood L) {ω : xS} {S : jSt} {A : jR} {w : jLw} {H : jH} {tp : Nat → Nat} {ts sw ps wy : Nat} (h : jIv L S A w H tp ts sw ps wy) (x1 : Int32) (x2 : Int64) : ∃ (r : Int32) (S1 S2 : jSt) (tp' : Nat → Nat) (ts' : Nat), f_RR_feed (jad L (jo 0)) x1 x2 (jW L ω S) = some (r, jW L ω S1) ∧ f_Mo_feed (jad L (jm 0)) x1 x2 (jW L ω S1) = some (r, jW L ω S2) ∧ jIv L S2 A w H tp' ts' sw ps wy ∧ jLK S1 sw ps wy := by
  have hK := h.K
  have hts := h.T.s
  have hTc := h.T.c
  have hTm := h.T.m
  by_cases hv : 1 ≤ x1.toInt ∧ x1.toInt ≤ 8
  · obtain ⟨n0, h1, hn, rfl⟩ := jrng (lo := 1) (hi := 8) hv.1 hv.2
    by_cases c : ts + n0 ≤ 1500
    · have e1 := jTa_append hL hK (ω := ω) (x := x2) h.T.c hn c
      have eX := jfdC_X S ts x2 n0
      have eI := jfdC_I x2 h.T.c n0
      have eq1 := jfdC_eqv (P := fun c => c ≠ jo 1 ∧ c ≠ jo 2) S ts x2 (fun q => q.1 rfl) (fun q => q.2 rfl) n0
      have eM : jeqv jisM S (jfdC S ts x2 n0) := eq1.weak (fun c hc => by obtain ⟨q, rfl⟩ := hc; exact ⟨fun z => (by cases z), fun z => (by cases z)⟩)
      have m0 := (eM (jm 0) ⟨0, rfl⟩).1
      have hm : jgI (jfdC S ts x2 n0) (jm 0) 11 = nI ts := by rw [m0]; exact h.T.m
      have e2 := jMo_feed31 hL (hK.of eX) (ω := ω) (x := x2) hm hn c
      have ek := jfdM_k (jfdC S ts x2 n0) ts x2 n0
      have eq2 := jfdM_eqv (P := fun c => ¬ jisM c) (jfdC S ts x2 n0) ts x2 (fun q => q ⟨0, rfl⟩) (fun q => q ⟨9, rfl⟩) n0
      refine ⟨nI (ts + n0), jfdC S ts x2 n0, jfdM (jfdC S ts x2 n0) ts x2 n0, jtp2 tp ts x2, ts + n0, ?_, ?_, ?_, hK.of eX⟩
      · unfold f_RR_feed
        simp (disch := first | omega | rfl | assumption | exact jokr (by decide) (by omega) | exact jokr4 (by omega) | exact jkt_r _ _ | exact jkt_l (by decide) | exact jfk_l (by decide) | exact jkt_t _ | exact jkt_r6 _ _ | exact jkt_t6 _ | (simp only [jok, jlen]; omega) | decide) only [jm_k hL, jm_gi hL, jm_gr hL, jm_gl hL, jm_pi hL, jm_pl hL, jn_ai hL, jn_ab hL, jn_az hL, jn_al hL, jn_ar hL, jn_an hL, jn_si hL, jn_sb hL, jn_sz hL, jn_sl hL, Option.bind_some, xc, xl, jsA_X, jsI_X, jsG_X, hK _ _, jlk, jmx, eX, jlit, nI_ltI, nI_leI, nI_add, if_neg, if_pos, hTc, e1, eI]
      · unfold f_Mo_feed
        simp (disch := first | omega | rfl | assumption | exact jokr (by decide) (by omega) | exact jokr4 (by omega) | exact jkt_r _ _ | exact jkt_l (by decide) | exact jfk_l (by decide) | exact jkt_t _ | exact jkt_r6 _ _ | exact jkt_t6 _ | (simp only [jok, jlen]; omega) | decide) only [jm_k hL, jm_gi hL, jm_gr hL, jm_gl hL, jm_pi hL, jm_pl hL, jn_ai hL, jn_ab hL, jn_az hL, jn_al hL, jn_ar hL, jn_an hL, jn_si hL, jn_sb hL, jn_sz hL, jn_sl hL, Option.bind_some, xc, xl, jlit, nI_ltI, nI_leI, nI_add, if_neg, if_pos, hm, e2]
      · refine h.tape ⟨c, ?_, ?_, ?_, ?_, ?_⟩ ?_ ((jfdM_X _ ts x2 n0).trans eX) ?_ ?_
        · intro i
          unfold jtp2
          split
          · exact h.T.b i
          · exact jby_lt _ _
        · rw [(eq2 (jo 1) (fun ⟨q, z⟩ => (by cases z))).1]; exact eI
        · intro i hi
          rw [(eq2 (jo 2) (fun ⟨q, z⟩ => (by cases z))).2.1]
          exact jfdC_A x2 h.T.cb n0 i hi
        · exact jfdM_I x2 hm n0
        · intro i hi
          exact jfdM_A x2 (fun k hk => by rw [(eM (jm 9) ⟨9, rfl⟩).2.1]; exact h.T.mb k hk) n0 i hn hi
        · exact (eq1.weak (fun c hc => ⟨hc.1, hc.2.1⟩)).trans (eq2.weak (fun c hc => hc.2.2))
        · intro k hk; rw [ek.1 k hk, m0]
        · intro q hq; rw [ek.2 q hq, (eM (jm q) ⟨q, rfl⟩).2.1]
    · refine ⟨-3, S, S, tp, ts, ?_, ?_, h, hK⟩
      · unfold f_RR_feed
        simp (disch := first | omega | rfl | assumption | exact jokr (by decide) (by omega) | exact jokr4 (by omega) | exact jkt_r _ _ | exact jkt_l (by decide) | exact jfk_l (by decide) | exact jkt_t _ | exact jkt_r6 _ _ | exact jkt_t6 _ | (simp only [jok, jlen]; omega) | decide) only [jm_k hL, jm_gi hL, jm_gr hL, jm_gl hL, jm_pi hL, jm_pl hL, jn_ai hL, jn_ab hL, jn_az hL, jn_al hL, jn_ar hL, jn_an hL, jn_si hL, jn_sb hL, jn_sz hL, jn_sl hL, Option.bind_some, xc, xl, jsA_X, jsI_X, jsG_X, hK _ _, jlk, jmx, jlit, nI_ltI, nI_leI, nI_add, if_neg, if_pos, hTc]
        try rfl
      · unfold f_Mo_feed
        simp (disch := first | omega | rfl | assumption | exact jokr (by decide) (by omega) | exact jokr4 (by omega) | exact jkt_r _ _ | exact jkt_l (by decide) | exact jfk_l (by decide) | exact jkt_t _ | exact jkt_r6 _ _ | exact jkt_t6 _ | (simp only [jok, jlen]; omega) | decide) only [jm_k hL, jm_gi hL, jm_gr hL, jm_gl hL, jm_pi hL, jm_pl hL, jn_ai hL, jn_ab hL, jn_az hL, jn_al hL, jn_ar hL, jn_an hL, jn_si hL, jn_sb hL, jn_sz hL, jn_sl hL, Option.bind_some, xc, xl, jlit, nI_ltI, nI_leI, nI_add, if_neg, if_pos, hTm]
        try rfl
  · refine ⟨-1, S, S, tp, ts, ?_, ?_, h, hK⟩
    · unfold f_RR_feed
      simp (disch := first | omega | rfl | assumption | exact jokr (by decide) (by omega) | exact jokr4 (by omega) | exact jkt_r _ _ | exact jkt_l (by decide) | exact jfk_l (by decide) | exact jkt_t _ | exact jkt_r6 _ _ | exact jkt_t6 _ | (simp only [jok, jlen]; omega) | decide) only [jlit, Int32.lt_iff_toInt_lt, Int32.le_iff_toInt_le, nI_toInt]
      (repeat' split) <;> first | rfl | (exfalso; apply hv; omega)
    · unfold f_Mo_feed
      simp (disch := first | omega | rfl | assumption | exact jokr (by decide) (by omega) | exact jokr4 (by omega) | exact jkt_r _ _ | exact jkt_l (by decide) | exact jfk_l (by decide) | exact jkt_t _ | exact jkt_r6 _ _ | exact jkt_t6 _ | (simp only [jok, jlen]; omega) | decide) only [jlit, Int32.lt_iff_toInt_lt, Int32.le_iff_toInt_le, nI_toInt]
      (repeat' split) <;> first | rfl | (exfalso; apply hv; omega)
