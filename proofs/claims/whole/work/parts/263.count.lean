/-! at, minutes, count, place -/
theorem jeq_at {L : jL} (hL : jgood L) (hD : jdim L) {ω : xS} {S : jSt} {A : jR} (hA : jRg A) {sw ps wy : Nat} (hK : jLK S sw ps wy) (h : jRC L S A) (h' : jRM L S A) (x y : Int32) : ∃ r, f_RR_at (jad L (jo 0)) x y (jW L ω S) = some r ∧ f_Mo_at (jad L (jm 0)) x y (jW L ω S) = some r := by
  have h8 := hD.n8
  have h2 := hD.d21
  cases c1 : jbel (jn L) x
  · refine ⟨-9, ?_, ?_⟩
    · unfold f_RR_at; simp (disch := first | omega | rfl | assumption | exact jokr (by decide) (by omega) | exact jokr4 (by omega) | exact jkt_r _ _ | exact jkt_l (by decide) | exact jfk_l (by decide) | exact jkt_t _ | exact jkt_r6 _ _ | exact jkt_t6 _ | (simp only [jok, jlen]; omega) | decide) only [jm_k hL, jm_gi hL, jm_gr hL, jm_gl hL, jm_pi hL, jm_pl hL, jn_ai hL, jn_ab hL, jn_az hL, jn_al hL, jn_ar hL, jn_an hL, jn_si hL, jn_sb hL, jn_sz hL, jn_sl hL, Option.bind_some, xc, xl, jRR_isCell hL hD hA hK h, c1]; rfl
    · unfold f_Mo_at; simp (disch := first | omega | rfl | assumption | exact jokr (by decide) (by omega) | exact jokr4 (by omega) | exact jkt_r _ _ | exact jkt_l (by decide) | exact jfk_l (by decide) | exact jkt_t _ | exact jkt_r6 _ _ | exact jkt_t6 _ | (simp only [jok, jlen]; omega) | decide) only [jm_k hL, jm_gi hL, jm_gr hL, jm_gl hL, jm_pi hL, jm_pl hL, jn_ai hL, jn_ab hL, jn_az hL, jn_al hL, jn_ar hL, jn_an hL, jn_si hL, jn_sb hL, jn_sz hL, jn_sl hL, Option.bind_some, xc, xl, jMo_isCell hL hD hA hK h', c1]; rfl
  · cases c2 : jbel (jd L) y
    · refine ⟨-9, ?_, ?_⟩
      · unfold f_RR_at; simp (disch := first | omega | rfl | assumption | exact jokr (by decide) (by omega) | exact jokr4 (by omega) | exact jkt_r _ _ | exact jkt_l (by decide) | exact jfk_l (by decide) | exact jkt_t _ | exact jkt_r6 _ _ | exact jkt_t6 _ | (simp only [jok, jlen]; omega) | decide) only [jm_k hL, jm_gi hL, jm_gr hL, jm_gl hL, jm_pi hL, jm_pl hL, jn_ai hL, jn_ab hL, jn_az hL, jn_al hL, jn_ar hL, jn_an hL, jn_si hL, jn_sb hL, jn_sz hL, jn_sl hL, Option.bind_some, xc, xl, jRR_isCell hL hD hA hK h, c1, c2]; rfl
      · unfold f_Mo_at; simp (disch := first | omega | rfl | assumption | exact jokr (by decide) (by omega) | exact jokr4 (by omega) | exact jkt_r _ _ | exact jkt_l (by decide) | exact jfk_l (by decide) | exact jkt_t _ | exact jkt_r6 _ _ | exact jkt_t6 _ | (simp only [jok, jlen]; omega) | decide) only [jm_k hL, jm_gi hL, jm_gr hL, jm_gl hL, jm_pi hL, jm_pl hL, jn_ai hL, jn_ab hL, jn_az hL, jn_al hL, jn_ar hL, jn_an hL, jn_si hL, jn_sb hL, jn_sz hL, jn_sl hL, Option.bind_some, xc, xl, jMo_isCell hL hD hA hK h', c1, c2]; rfl
    · obtain ⟨p, hp, rfl⟩ := (jbel_iff (by omega)).mp c1
      obtain ⟨t, ht, rfl⟩ := (jbel_iff (by omega)).mp c2
      refine ⟨nI (jR.row A p (7 + t)) - nI 1, ?_, ?_⟩
      · unfold f_RR_at
        simp (disch := first | omega | rfl | assumption | exact jokr (by decide) (by omega) | exact jokr4 (by omega) | exact jkt_r _ _ | exact jkt_l (by decide) | exact jfk_l (by decide) | exact jkt_t _ | exact jkt_r6 _ _ | exact jkt_t6 _ | (simp only [jok, jlen]; omega) | decide) only [jm_k hL, jm_gi hL, jm_gr hL, jm_gl hL, jm_pi hL, jm_pl hL, jn_ai hL, jn_ab hL, jn_az hL, jn_al hL, jn_ar hL, jn_an hL, jn_si hL, jn_sb hL, jn_sz hL, jn_sl hL, Option.bind_some, xc, xl, jRR_isCell hL hD hA hK h, c1, c2, Bool.and_self, if_true, jsA_X, jsI_X, jsG_X, hK _ _, jlk, jmx, jlit, jlitl, jmul, nI_add, lN_add, nI_leI, nI_ltI, nI_eq, jm1, jm1g, jm1e, jm1c, if_neg, jRo_letterOf hL hD hA hK h]
      · unfold f_Mo_at
        simp (disch := first | omega | rfl | assumption | exact jokr (by decide) (by omega) | exact jokr4 (by omega) | exact jkt_r _ _ | exact jkt_l (by decide) | exact jfk_l (by decide) | exact jkt_t _ | exact jkt_r6 _ _ | exact jkt_t6 _ | (simp only [jok, jlen]; omega) | decide) only [jm_k hL, jm_gi hL, jm_gr hL, jm_gl hL, jm_pi hL, jm_pl hL, jn_ai hL, jn_ab hL, jn_az hL, jn_al hL, jn_ar hL, jn_an hL, jn_si hL, jn_sb hL, jn_sz hL, jn_sl hL, Option.bind_some, xc, xl, jMo_isCell hL hD hA hK h', c1, c2, Bool.and_self, if_true, jsA_X, jsI_X, jsG_X, hK _ _, jlk, jmx, jlit, jlitl, jmul, nI_add, lN_add, nI_leI, nI_ltI, nI_eq, jm1, jm1g, jm1e, jm1c, if_neg, h'.cell]
theorem jeq_minutes {L : jL} (hL : jgood L) (hD : jdim L) {ω : xS} {S : jSt} {A : jR} (hA : jRg A) {sw ps wy : Nat} (hK : jLK S sw ps wy) (h : jRC L S A) (h' : jRM L S A) (x y z : Int32) : ∃ r, f_RR_minutes (jad L (jo 0)) x y z (jW L ω S) = some r ∧ f_Mo_minutes (jad L (jm 0)) x y z (jW L ω S) = some r := by
  have h8 := hD.n8
  have h2 := hD.d21
  cases c1 : jbel (jn L) x
  · refine ⟨-1, ?_, ?_⟩
    · unfold f_RR_minutes; simp (disch := first | omega | rfl | assumption | exact jokr (by decide) (by omega) | exact jokr4 (by omega) | exact jkt_r _ _ | exact jkt_l (by decide) | exact jfk_l (by decide) | exact jkt_t _ | exact jkt_r6 _ _ | exact jkt_t6 _ | (simp only [jok, jlen]; omega) | decide) only [jm_k hL, jm_gi hL, jm_gr hL, jm_gl hL, jm_pi hL, jm_pl hL, jn_ai hL, jn_ab hL, jn_az hL, jn_al hL, jn_ar hL, jn_an hL, jn_si hL, jn_sb hL, jn_sz hL, jn_sl hL, Option.bind_some, xc, xl, jRR_isCell hL hD hA hK h, c1]; rfl
    · unfold f_Mo_minutes; simp (disch := first | omega | rfl | assumption | exact jokr (by decide) (by omega) | exact jokr4 (by omega) | exact jkt_r _ _ | exact jkt_l (by decide) | exact jfk_l (by decide) | exact jkt_t _ | exact jkt_r6 _ _ | exact jkt_t6 _ | (simp only [jok, jlen]; omega) | decide) only [jm_k hL, jm_gi hL, jm_gr hL, jm_gl hL, jm_pi hL, jm_pl hL, jn_ai hL, jn_ab hL, jn_az hL, jn_al hL, jn_ar hL, jn_an hL, jn_si hL, jn_sb hL, jn_sz hL, jn_sl hL, Option.bind_some, xc, xl, jMo_isCell hL hD hA hK h', c1]; rfl
  · cases c2 : jbel (jd L) y
    · refine ⟨-1, ?_, ?_⟩
      · unfold f_RR_minutes; simp (disch := first | omega | rfl | assumption | exact jokr (by decide) (by omega) | exact jokr4 (by omega) | exact jkt_r _ _ | exact jkt_l (by decide) | exact jfk_l (by decide) | exact jkt_t _ | exact jkt_r6 _ _ | exact jkt_t6 _ | (simp only [jok, jlen]; omega) | decide) only [jm_k hL, jm_gi hL, jm_gr hL, jm_gl hL, jm_pi hL, jm_pl hL, jn_ai hL, jn_ab hL, jn_az hL, jn_al hL, jn_ar hL, jn_an hL, jn_si hL, jn_sb hL, jn_sz hL, jn_sl hL, Option.bind_some, xc, xl, jRR_isCell hL hD hA hK h, c1, c2]; rfl
      · unfold f_Mo_minutes; simp (disch := first | omega | rfl | assumption | exact jokr (by decide) (by omega) | exact jokr4 (by omega) | exact jkt_r _ _ | exact jkt_l (by decide) | exact jfk_l (by decide) | exact jkt_t _ | exact jkt_r6 _ _ | exact jkt_t6 _ | (simp only [jok, jlen]; omega) | decide) only [jm_k hL, jm_gi hL, jm_gr hL, jm_gl hL, jm_pi hL, jm_pl hL, jn_ai hL, jn_ab hL, jn_az hL, jn_al hL, jn_ar hL, jn_an hL, jn_si hL, jn_sb hL, jn_sz hL, jn_sl hL, Option.bind_some, xc, xl, jMo_isCell hL hD hA hK h', c1, c2]; rfl
    · cases c3 : jbel (jd L) z
      · refine ⟨-1, ?_, ?_⟩
        · unfold f_RR_minutes; simp (disch := first | omega | rfl | assumption | exact jokr (by decide) (by omega) | exact jokr4 (by omega) | exact jkt_r _ _ | exact jkt_l (by decide) | exact jfk_l (by decide) | exact jkt_t _ | exact jkt_r6 _ _ | exact jkt_t6 _ | (simp only [jok, jlen]; omega) | decide) only [jm_k hL, jm_gi hL, jm_gr hL, jm_gl hL, jm_pi hL, jm_pl hL, jn_ai hL, jn_ab hL, jn_az hL, jn_al hL, jn_ar hL, jn_an hL, jn_si hL, jn_sb hL, jn_sz hL, jn_sl hL, Option.bind_some, xc, xl, jRR_isCell hL hD hA hK h, jRR_isDay hL hD hA hK h, c1, c2, c3]; rfl
        · unfold f_Mo_minutes; simp (disch := first | omega | rfl | assumption | exact jokr (by decide) (by omega) | exact jokr4 (by omega) | exact jkt_r _ _ | exact jkt_l (by decide) | exact jfk_l (by decide) | exact jkt_t _ | exact jkt_r6 _ _ | exact jkt_t6 _ | (simp only [jok, jlen]; omega) | decide) only [jm_k hL, jm_gi hL, jm_gr hL, jm_gl hL, jm_pi hL, jm_pl hL, jn_ai hL, jn_ab hL, jn_az hL, jn_al hL, jn_ar hL, jn_an hL, jn_si hL, jn_sb hL, jn_sz hL, jn_sl hL, Option.bind_some, xc, xl, jMo_isCell hL hD hA hK h', c1, c2, c3]; rfl
      · obtain ⟨p, hp, rfl⟩ := (jbel_iff (by omega)).mp c1
        obtain ⟨f, hf, rfl⟩ := (jbel_iff (by omega)).mp c2
        obtain ⟨g, hg, rfl⟩ := (jbel_iff (by omega)).mp c3
        by_cases c : f ≤ g
        · refine ⟨lN (jsm (fun q => jmn A p (f + q)) (g + 1 - f)), ?_, jMo_minutes hL hD hA hK h' hp c hg⟩
          unfold f_RR_minutes
          simp (disch := first | omega | rfl | assumption | exact jokr (by decide) (by omega) | exact jokr4 (by omega) | exact jkt_r _ _ | exact jkt_l (by decide) | exact jfk_l (by decide) | exact jkt_t _ | exact jkt_r6 _ _ | exact jkt_t6 _ | (simp only [jok, jlen]; omega) | decide) only [jm_k hL, jm_gi hL, jm_gr hL, jm_gl hL, jm_pi hL, jm_pl hL, jn_ai hL, jn_ab hL, jn_az hL, jn_al hL, jn_ar hL, jn_an hL, jn_si hL, jn_sb hL, jn_sz hL, jn_sl hL, Option.bind_some, xc, xl, jRR_isCell hL hD hA hK h, jRR_isDay hL hD hA hK h, c1, c2, c3, Bool.and_self, if_true, jlit, nI_eq, nI_leI, if_neg, if_pos, jsA_X, jsI_X, jsG_X, hK _ _, jlk, jmx, jRo_minutes hL hD hA hK h hp (show f ≤ g + 1 by omega) hg]
        · refine ⟨-1, ?_, ?_⟩
          · unfold f_RR_minutes
            simp (disch := first | omega | rfl | assumption | exact jokr (by decide) (by omega) | exact jokr4 (by omega) | exact jkt_r _ _ | exact jkt_l (by decide) | exact jfk_l (by decide) | exact jkt_t _ | exact jkt_r6 _ _ | exact jkt_t6 _ | (simp only [jok, jlen]; omega) | decide) only [jm_k hL, jm_gi hL, jm_gr hL, jm_gl hL, jm_pi hL, jm_pl hL, jn_ai hL, jn_ab hL, jn_az hL, jn_al hL, jn_ar hL, jn_an hL, jn_si hL, jn_sb hL, jn_sz hL, jn_sl hL, Option.bind_some, xc, xl, jRR_isCell hL hD hA hK h, jRR_isDay hL hD hA hK h, c1, c2, c3, Bool.and_self, if_true, jlit, nI_eq, nI_leI, if_neg]
            try rfl
          · unfold f_Mo_minutes
            simp (disch := first | omega | rfl | assumption | exact jokr (by decide) (by omega) | exact jokr4 (by omega) | exact jkt_r _ _ | exact jkt_l (by decide) | exact jfk_l (by decide) | exact jkt_t _ | exact jkt_r6 _ _ | exact jkt_t6 _ | (simp only [jok, jlen]; omega) | decide) only [jm_k hL, jm_gi hL, jm_gr hL, jm_gl hL, jm_pi hL, jm_pl hL, jn_ai hL, jn_ab hL, jn_az hL, jn_al hL, jn_ar hL, jn_an hL, jn_si hL, jn_sb hL, jn_sz hL, jn_sl hL, Option.bind_some, xc, xl, jMo_isCell hL hD hA hK h', c1, c2, c3, Bool.and_self, if_true, jlit, nI_eq, nI_leI, if_neg]
            try rfl
def jcn (b : Bool) (A : jR) (p t : Nat) : Nat := if b then jno (jR.row A p (7 + t)) else jno (jR.ww A p t)
theorem jMo_count15 {L : jL} (hL : jgood L) (hD : jdim L) {ω : xS} {S : jSt} {A : jR} (hA : jRg A) {sw ps wy : Nat} (hK : jLK S sw ps wy) (h : jRM L S A) {p v : Nat} {x : Int32} {k4 : Nat → Int32 → Int32 → Int32 → xS → Option Int32} (hp : p < jn L) : f_Mo_count_15 k4 xFU (jad L (jm 0)) x (nI v) (nI p) (nI 0) (jW L ω S) = k4 (jad L (jm 0)) x (nI (v + jsm (jcn (decide (x = nI 2)) A p) (jd L))) (nI (p + 1)) (jW L ω S) := by
  have h8 := hD.n8
  have h2 := hD.d21
  refine jlpx (fun n i y => f_Mo_count_15 k4 n (jad L (jm 0)) x y (nI p) (nI i) (jW L ω S)) (fun i => nI (v + jsm (jcn (decide (x = nI 2)) A p) i)) (lo := 0) (hi := jd L) (Nat.zero_le _) (by omega) ?_ ?_
  · intro n i _ hi
    have hr := hA.row p (7 + i)
    have hw := hA.ww p i
    rw [f_Mo_count_15, jsm]
    simp (disch := first | omega | rfl | assumption | exact jokr (by decide) (by omega) | exact jokr4 (by omega) | exact jkt_r _ _ | exact jkt_l (by decide) | exact jfk_l (by decide) | exact jkt_t _ | exact jkt_r6 _ _ | exact jkt_t6 _ | (simp only [jok, jlen]; omega) | decide) only [jm_k hL, jm_gi hL, jm_gr hL, jm_gl hL, jm_pi hL, jm_pl hL, jn_ai hL, jn_ab hL, jn_az hL, jn_al hL, jn_ar hL, jn_an hL, jn_si hL, jn_sb hL, jn_sz hL, jn_sl hL, Option.bind_some, xc, xl, jsA_X, jsI_X, jsG_X, hK _ _, jlk, jmx, jlit, jlitl, jmul, nI_add, lN_add, nI_leI, nI_ltI, nI_eq, jm1, jm1g, jm1e, jm1c, h.d, if_neg, h.cell, h.ww]
    by_cases c : x = nI 2
    · rw [if_pos c]
      have e : jcn (decide (x = nI 2)) A p i = jno (jR.row A p (7 + i)) := by unfold jcn; rw [if_pos (decide_eq_true c)]
      rw [e]
      unfold jno
      by_cases c2 : jR.row A p (7 + i) = 0
      · rw [if_pos c2, if_pos c2, Nat.add_assoc]
      · rw [if_neg c2, if_neg c2, Nat.add_assoc]
    · rw [if_neg c]
      have e : jcn (decide (x = nI 2)) A p i = jno (jR.ww A p i) := by unfold jcn; rw [if_neg (by simp [c])]
      rw [e]
      unfold jno
      by_cases c2 : jR.ww A p i = 0
      · rw [if_pos (by omega), if_pos c2, Nat.add_assoc]
      · rw [if_neg (by omega), if_neg c2, Nat.add_assoc]
  · intro n
    rw [f_Mo_count_15]
    simp (disch := first | omega | rfl | assumption | exact jokr (by decide) (by omega) | exact jokr4 (by omega) | exact jkt_r _ _ | exact jkt_l (by decide) | exact jfk_l (by decide) | exact jkt_t _ | exact jkt_r6 _ _ | exact jkt_t6 _ | (simp only [jok, jlen]; omega) | decide) only [jm_k hL, jm_gi hL, jm_gr hL, jm_gl hL, jm_pi hL, jm_pl hL, jn_ai hL, jn_ab hL, jn_az hL, jn_al hL, jn_ar hL, jn_an hL, jn_si hL, jn_sb hL, jn_sz hL, jn_sl hL, Option.bind_some, xc, xl, jlit, jlitl, jmul, nI_add, lN_add, nI_leI, nI_ltI, nI_eq, jm1, jm1g, jm1e, jm1c, h.d, if_pos]
/-- what is counted: laws, bytes, filled cells, wishes, kept cells -/
theorem jMo_count {L : jL} (hL : jgood L) (hD : jdim L) {ω : xS} {S : jSt} {A : jR} (hA : jRg A) {sw ps wy : Nat} (hK : jLK S sw ps wy) (h : jRM L S A) {w : jLw} (hM : jLM S w) {ts cn : Nat} (hts : jgI S (jm 0) 11 = nI ts) (hcn : jgI S (jm 0) 32 = nI cn) (x : Int32) : f_Mo_count (jad L (jm 0)) x (jW L ω S) = some (if x = nI 0 then nI (jLw.n w) else if x = nI 1 then nI ts else if x = nI 2 then nI (jsm (fun p => jsm (fun t => jno (jR.row A p (7 + t))) (jd L)) (jn L)) else if x = nI 3 then nI (jsm (fun p => jsm (fun t => jno (jR.ww A p t)) (jd L)) (jn L)) else if x = nI 4 then nI cn else -nI 1) := by
  have h8 := hD.n8
  have h2 := hD.d21
  unfold f_Mo_count
  refine jlpx (fun n i y => f_Mo_count_4 n (jad L (jm 0)) x y (nI i) (jW L ω S)) (fun i => nI (jsm (fun p => jsm (jcn (decide (x = nI 2)) A p) (jd L)) i)) (lo := 0) (hi := jn L) (Nat.zero_le _) (by omega) ?_ ?_
  · intro n i _ hi
    rw [f_Mo_count_4, jsm]
    simp (disch := first | omega | rfl | assumption | exact jokr (by decide) (by omega) | exact jokr4 (by omega) | exact jkt_r _ _ | exact jkt_l (by decide) | exact jfk_l (by decide) | exact jkt_t _ | exact jkt_r6 _ _ | exact jkt_t6 _ | (simp only [jok, jlen]; omega) | decide) only [jm_k hL, jm_gi hL, jm_gr hL, jm_gl hL, jm_pi hL, jm_pl hL, jn_ai hL, jn_ab hL, jn_az hL, jn_al hL, jn_ar hL, jn_an hL, jn_si hL, jn_sb hL, jn_sz hL, jn_sl hL, Option.bind_some, xc, xl, jlit, jlitl, jmul, nI_add, lN_add, nI_leI, nI_ltI, nI_eq, jm1, jm1g, jm1e, jm1c, h.n, if_neg]
    rw [jMo_count15 hL hD hA hK h hi]
  · intro n
    rw [f_Mo_count_4]
    simp (disch := first | omega | rfl | assumption | exact jokr (by decide) (by omega) | exact jokr4 (by omega) | exact jkt_r _ _ | exact jkt_l (by decide) | exact jfk_l (by decide) | exact jkt_t _ | exact jkt_r6 _ _ | exact jkt_t6 _ | (simp only [jok, jlen]; omega) | decide) only [jm_k hL, jm_gi hL, jm_gr hL, jm_gl hL, jm_pi hL, jm_pl hL, jn_ai hL, jn_ab hL, jn_az hL, jn_al hL, jn_ar hL, jn_an hL, jn_si hL, jn_sb hL, jn_sz hL, jn_sl hL, Option.bind_some, xc, xl, jlit, jlitl, jmul, nI_add, lN_add, nI_leI, nI_ltI, nI_eq, jm1, jm1g, jm1e, jm1c, h.n, if_pos, hM.n, hts, hcn]
    by_cases c0 : x = nI 0
    · rw [if_pos c0, if_pos c0]
    rw [if_neg c0, if_neg c0]
    by_cases c1 : x = nI 1
    · rw [if_pos c1, if_pos c1]
    rw [if_neg c1, if_neg c1]
    by_cases c2 : x = nI 2
    · rw [if_pos c2, if_pos c2]
      have e : jcn (decide (x = nI 2)) A = fun p t => jno (jR.row A p (7 + t)) := by funext p t; unfold jcn; rw [if_pos (decide_eq_true c2)]
      rw [e]
    rw [if_neg c2, if_neg c2]
    have e : jcn (decide (x = nI 2)) A = fun p t => jno (jR.ww A p t) := by funext p t; unfold jcn; rw [if_neg (by simp [c2])]
    rw [e]
    by_cases c3 : x = nI 3
    · rw [if_pos c3, if_pos c3]
    rw [if_neg c3, if_neg c3]
    by_cases c4 : x = nI 4
    · rw [if_pos c4, if_pos c4]
    rw [if_neg c4, if_neg c4]
theorem jRR_count {L : jL} (hL : jgood L) (hD : jdim L) {ω : xS} {S : jSt} {A : jR} (hA : jRg A) {sw ps wy : Nat} (hK : jLK S sw ps wy) (h : jRC L S A) {w : jLw} (hC : jLC L S w sw) {ts cn : Nat} (hts : jgI S (jo 1) 1 = nI ts) (hcn : jgI S (jo 3) 4 = nI cn) (x : Int32) : f_RR_count (jad L (jo 0)) x (jW L ω S) = some (if x = nI 0 then nI (jLw.n w) else if x = nI 1 then nI ts else if x = nI 2 then nI (jsm (fun p => jsm (fun t => jno (jR.row A p (7 + t))) (jd L)) (jn L)) else if x = nI 3 then nI (jsm (fun p => jsm (fun t => jno (jR.ww A p t)) (jd L)) (jn L)) else if x = nI 4 then nI cn else -nI 1) := by
  unfold f_RR_count
  simp (disch := first | omega | rfl | assumption | exact jokr (by decide) (by omega) | exact jokr4 (by omega) | exact jkt_r _ _ | exact jkt_l (by decide) | exact jfk_l (by decide) | exact jkt_t _ | exact jkt_r6 _ _ | exact jkt_t6 _ | (simp only [jok, jlen]; omega) | decide) only [jm_k hL, jm_gi hL, jm_gr hL, jm_gl hL, jm_pi hL, jm_pl hL, jn_ai hL, jn_ab hL, jn_az hL, jn_al hL, jn_ar hL, jn_an hL, jn_si hL, jn_sb hL, jn_sz hL, jn_sl hL, Option.bind_some, xc, xl, jsA_X, jsI_X, jsG_X, hK _ _, jlk, jmx, jlit, hC.n, hts, hcn, h.fi, h.wi]
  by_cases c0 : x = nI 0
  · rw [if_pos c0, if_pos c0]
  rw [if_neg c0, if_neg c0]
  by_cases c1 : x = nI 1
  · rw [if_pos c1, if_pos c1]
  rw [if_neg c1, if_neg c1]
  by_cases c2 : x = nI 2
  · rw [if_pos c2, if_pos c2]
  rw [if_neg c2, if_neg c2]
  by_cases c3 : x = nI 3
  · rw [if_pos c3, if_pos c3]
  rw [if_neg c3, if_neg c3]
  by_cases c4 : x = nI 4
  · rw [if_pos c4, if_pos c4]
  rw [if_neg c4, if_neg c4]
