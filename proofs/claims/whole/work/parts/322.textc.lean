/-! THE TEXT: its laws one by one; k the law that is next, m = 16 - k, e the reader's end -/
def jTx (tp : Nat → Nat) (ts d : Nat) (Ds : Nat → jD) (n : Nat) (r : Nat × Nat × Nat) : Nat → Nat → Nat → Prop
  | 0, k, e => (jtK tp ts e = 1 ∧ n = k ∧ r = (0, 0, jtE tp ts e)) ∨ (jtK tp ts e = 0 ∧ r = (1, jtB tp ts e, jtE tp ts e)) ∨ (jtK tp ts e ≠ 0 ∧ jtK tp ts e ≠ 1 ∧ r = (3, jtB tp ts e, jtE tp ts e))
  | m + 1, k, e => (jtK tp ts e = 1 ∧ n = k ∧ r = (0, 0, jtE tp ts e)) ∨ (jtK tp ts e = 0 ∧ r = (1, jtB tp ts e, jtE tp ts e)) ∨ (jtK tp ts e ≠ 0 ∧ jtK tp ts e ≠ 1 ∧ ∃ r1, jLaw tp ts d e (Ds k) r1 ∧ ((r1.1 ≠ 0 ∧ r = r1) ∨ (r1.1 = 0 ∧ jTx tp ts d Ds n r m (k + 1) r1.2.2)))
theorem jtE5 {tp : Nat → Nat} {ts e : Nat} (h : jtK tp ts e = 5) : jtE tp ts e ≤ ts := by
  unfold jtK jtC at h
  unfold jtE jtC
  by_cases c1 : ts ≤ jtB tp ts e
  · rw [if_pos c1] at h
    exact absurd h (by show ¬ (1 = 5); decide)
  · rw [if_neg c1] at h ⊢
    by_cases c2 : tp (jtB tp ts e) = 59
    · rw [if_pos c2]; show jtB tp ts e + 1 ≤ ts; omega
    · rw [if_neg c2] at h
      exfalso
      revert h
      (repeat' split) <;> (try dsimp only) <;> (try split) <;> (intro h; omega)
theorem jLaw.le {tp : Nat → Nat} {ts d e : Nat} {D : jD} {r : Nat × Nat × Nat} (h : jLaw tp ts d e D r) (h0 : r.1 = 0) : r.2.2 ≤ ts := by
  obtain ⟨_, _, ⟨_, rfl⟩ | ⟨rr, _, _, rfl⟩⟩ := h
  · exact absurd h0 (by show ¬ (2 = 0); decide)
  · have x0 := jEx_0 h0
    generalize (jNm tp ts 0 1000 rr).2 = x at h0 x0 ⊢
    unfold jEx at h0 ⊢
    rw [if_pos x0] at h0 ⊢
    by_cases c : jtK tp ts x.2.2 = 5
    · rw [if_pos c]; exact jtE5 c
    · rw [if_neg c] at h0
      exfalso
      revert h0
      show ¬ ((if jtK tp ts x.2.2 = 0 then 1 else 2) = 0)
      split <;> decide
theorem jTx.ext {tp : Nat → Nat} {ts d n : Nat} {Ds Es : Nat → jD} {r : Nat × Nat × Nat} : ∀ {m k e : Nat}, (∀ i, k ≤ i → Ds i = Es i) → jTx tp ts d Ds n r m k e → jTx tp ts d Es n r m k e
  | 0, _, _, _, h => h
  | m + 1, k, e, hE, h => by
    rcases h with h | h | ⟨h1, h2, r1, h3, h4⟩
    · exact Or.inl h
    · exact Or.inr (Or.inl h)
    · refine Or.inr (Or.inr ⟨h1, h2, r1, by rw [← hE k (Nat.le_refl _)]; exact h3, ?_⟩)
      rcases h4 with h4 | ⟨h4, h5⟩
      · exact Or.inl h4
      · exact Or.inr ⟨h4, jTx.ext (fun i hi => hE i (by omega)) h5⟩
def jD00 : Nat → jD := fun _ => (0, 0, 0, 0, 0, 0, 0, jp00)
theorem jTx.ex {tp : Nat → Nat} {ts : Nat} (d : Nat) (hs : ts ≤ 1500) (hb : ∀ i, tp i < 256) (m : Nat) : ∀ (k e : Nat), e ≤ ts → ∃ Ds n r, jTx tp ts d Ds n r m k e := by
  induction m with
  | zero =>
    intro k e he
    by_cases c1 : jtK tp ts e = 1
    · exact ⟨jD00, k, _, Or.inl ⟨c1, rfl, rfl⟩⟩
    · by_cases c0 : jtK tp ts e = 0
      · exact ⟨jD00, k, _, Or.inr (Or.inl ⟨c0, rfl⟩)⟩
      · exact ⟨jD00, k, _, Or.inr (Or.inr ⟨c0, c1, rfl⟩)⟩
  | succ m ih =>
    intro k e he
    by_cases c1 : jtK tp ts e = 1
    · exact ⟨jD00, k, _, Or.inl ⟨c1, rfl, rfl⟩⟩
    · by_cases c0 : jtK tp ts e = 0
      · exact ⟨jD00, k, _, Or.inr (Or.inl ⟨c0, rfl⟩)⟩
      · obtain ⟨D, r1, hD⟩ := jLaw.ex d hs hb ((jtE_le (tp := tp) he).2.1 c0)
        by_cases c2 : r1.1 = 0
        · obtain ⟨Ds, n, r, hx⟩ := ih (k + 1) r1.2.2 (hD.le c2)
          refine ⟨fun i => if i = k then D else Ds i, n, r, Or.inr (Or.inr ⟨c0, c1, r1, ?_, Or.inr ⟨c2, ?_⟩⟩)⟩
          · show jLaw tp ts d e (if k = k then D else Ds k) r1
            rw [if_pos rfl]; exact hD
          · exact hx.ext (fun i hi => by show Ds i = if i = k then D else Ds i; rw [if_neg (by omega)])
        · exact ⟨fun _ => D, k, r1, Or.inr (Or.inr ⟨c0, c1, r1, hD, Or.inl ⟨c2, rfl⟩⟩)⟩
/-! the class reads a text -/
theorem jisRL_o {j q : Nat} (hq : q < 29) : ¬ jisRL j (jo q) := fun z => by
  rcases z with z | z | z
  · exact jisNl_o (by omega) z
  · rcases z with z | z | z
    · rcases z with z | z | z | z | z | z | z <;> first | exact absurd z (jone (by omega)) | cases z
    · cases z
    · cases z
  · cases z
def jisRT (b : Nat) : jC → Prop := fun c => ∃ i, i < 16 ∧ jisRL (2 * i + b) c
theorem jisRT_29 {b : Nat} {c : jC} (h : jis29 c) : jisRT b c := ⟨0, by omega, Or.inl (Or.inl h)⟩
theorem jDC.fr {S T : jSt} {i j : Nat} {D : jD} (h : jDC S j D) (e : jfq (jisRL i) S T) (hij : i ≠ j) : jDC T j D := by
  have n : ∀ q, ¬ jisRL i (jl j q) := fun q z => by
    rcases z with ((z | z) | z) | ((z | z | z | z | z | z | z) | z | z) | z <;> first | (cases z; omega) | cases z
  have a0 := (e.2.2 _ (n 0)).1
  exact ⟨by rw [a0]; exact h.so, by rw [a0]; exact h.wt, by rw [a0]; exact h.pl, fun z => by rw [a0]; exact h.lo z, fun z => by rw [a0]; exact h.hi z, fun z => by rw [a0]; exact h.sp z, fun z => by rw [a0]; exact h.lt z, by rw [(e.2.2 _ (n 6)).1]; exact h.au, fun z => (h.pq z).of (e.2.2 _ (n 1)).1 (e.2.2 _ (n 2)).2 (e.2.2 _ (n 4)).2 (e.2.2 _ (n 5)).2⟩
theorem jDC.f29 {S T : jSt} {j : Nat} {D : jD} (h : jDC S j D) (e : jfq jis29 S T) : jDC T j D := h.fr (i := j + 1) (e.weak (fun c hc => Or.inl (Or.inl hc))) (by omega)
theorem jRd_stop {L : jL} (hL : jgood L) {ω : xS} {S : jSt} {sw ps wy : Nat} (hK : jLK S sw ps wy) {ts d fu a1 : Nat} {r : Nat × Nat × Nat} {x2 x3 : Int32} (hf : 1 ≤ fu) (hr : jCr S d ts r) (h : r.1 ≠ 0) : f_LawReader_readLaws_22 fu (jad L (jo 29)) a1 x2 x3 (jW L ω S) = some (x2, jW L ω S) := by
  obtain ⟨fu, rfl⟩ : ∃ f, fu = f + 1 := ⟨fu - 1, by omega⟩
  have h4 := hr.f4
  have g : xgi (jW L ω S) (jad L (jo 29)) 5 3 = some (nI r.1) := by simp (disch := first | omega | rfl | assumption | exact jokr (by decide) (by omega) | exact jokr4 (by omega) | exact jkt_r _ _ | exact jkt_l (by decide) | exact jfk_l (by decide) | exact jkt_t _ | exact jkt_r6 _ _ | exact jkt_t6 _ | (simp only [jok, jlen]; omega) | decide) only [jm_gi hL, hr.f]
  rw [f_LawReader_readLaws_22]
  split
  · rfl
  · rw [g, Option.bind_some, if_neg (fun z => h ((jz0 _ h4).mp z))]
theorem jRd_an {L : jL} (hL : jgood L) {ω : xS} {S : jSt} {b : Nat} (hb : b ≤ 1) : xan (jW L ω S) (jad L (jo (16 + b))) = some (nI 16) := by
  rcases (show b = 0 ∨ b = 1 by omega) with rfl | rfl
  · exact jn_an hL (c := jo 16) (by simp only [jok]; omega) (by decide)
  · exact jn_an hL (c := jo 17) (by simp only [jok]; omega) (by decide)
theorem jRd_ar {L : jL} (hL : jgood L) {ω : xS} {S : jSt} {sw ps wy : Nat} (hK : jLK S sw ps wy) {b k : Nat} (hb : b ≤ 1) (hk : k < 16) : xar (jW L ω S) 3 (jad L (jo (16 + b))) (nI k) = some (jad L (jl (2 * k + b) 0)) := by
  rcases (show b = 0 ∨ b = 1 by omega) with rfl | rfl
  · have e := jn_ar hL (ω := ω) (S := S) (c := jo 16) (k := k) (t := 3) (by simp only [jok]; omega) rfl (Or.inr rfl) (show k < 16 from hk) (by omega)
    rw [hK (jo 16) k] at e
    exact e
  · have e := jn_ar hL (ω := ω) (S := S) (c := jo 17) (k := k) (t := 3) (by simp only [jok]; omega) rfl (Or.inr rfl) (show k < 16 from hk) (by omega)
    rw [hK (jo 17) k] at e
    exact e
theorem jRd_laws {L : jL} (hL : jgood L) {ω : xS} {sw ps wy : Nat} {tp : Nat → Nat} {ts d b : Nat} {Ds : Nat → jD} {n : Nat} {r : Nat × Nat × Nat} (hd : d < 2 ^ 31) (hb : b ≤ 1) (m : Nat) : ∀ (k e fu : Nat) (S : jSt), k + m = 16 → m + 2 ≤ fu → jLK S sw ps wy → jTc S tp ts → jCr S d ts (0, 0, e) → jTx tp ts d Ds n r m k e → (∀ i, i < k → jDC S (2 * i + b) (Ds i)) → ∃ (T : jSt) (x : Int32), f_LawReader_readLaws_22 fu (jad L (jo 29)) (jad L (jo (16 + b))) (nI k) (nI k) (jW L ω S) = some (x, jW L ω T) ∧ jfq (jisRT b) S T ∧ jCr T d ts r ∧ (r.1 = 0 → x = nI n ∧ n ≤ 16 ∧ ∀ i, i < n → jDC T (2 * i + b) (Ds i)) := by
  induction m with
  | zero =>
    intro k e fu S hkm hfu hK hT hr hX hp
    have hk : k = 16 := by omega
    obtain ⟨fu, rfl⟩ : ∃ f, fu = f + 1 := ⟨fu - 1, by omega⟩
    obtain ⟨z1, z2, hes⟩ := hr.z rfl
    have hes : e ≤ ts := hes
    have hle := jtK_le (tp := tp) (ts := ts) (e := e)
    have g : xgi (jW L ω S) (jad L (jo 29)) 5 3 = some (nI 0) := by simp (disch := first | omega | rfl | assumption | exact jokr (by decide) (by omega) | exact jokr4 (by omega) | exact jkt_r _ _ | exact jkt_l (by decide) | exact jfk_l (by decide) | exact jkt_t _ | exact jkt_r6 _ _ | exact jkt_t6 _ | (simp only [jok, jlen]; omega) | decide) only [jm_gi hL, hr.f]
    obtain ⟨T1, a1, a2, a3, a4, a5⟩ := jTk_adv hL (ω := ω) hK hT z2 hes
    have hK1 := hK.of a2.1
    have n29 : jgI T1 (jo 29) = jgI S (jo 29) := (a2.2.2 _ (fun z => absurd z (jone (by decide)))).1
    have d1 : jgI T1 (jo 29) 2 = nI d := by rw [n29]; exact hr.d
    have f29 : jfq jis29 S T1 := a2.weak (fun c hc => Or.inr hc)
    have gb : xgi (jW L ω T1) (jad L (jo 30)) 10 2 = some (nI (jtB tp ts e)) := by simp (disch := first | omega | rfl | assumption | exact jokr (by decide) (by omega) | exact jokr4 (by omega) | exact jkt_r _ _ | exact jkt_l (by decide) | exact jfk_l (by decide) | exact jkt_t _ | exact jkt_r6 _ _ | exact jkt_t6 _ | (simp only [jok, jlen]; omega) | decide) only [jm_gi hL, a4]
    rw [f_LawReader_readLaws_22, if_neg (show ¬ (16 : Int32) < nI k from fun z => by rw [hk] at z; exact absurd z (by decide)), g, Option.bind_some, if_pos (show nI 0 = (0 : Int32) from rfl), jr30 hL hK, Option.bind_some, jk30 hL, a1]
    simp only [xc]
    rcases hX with ⟨c1, rfl, rfl⟩ | ⟨c0, rfl⟩ | ⟨c0, c1, rfl⟩
    · rw [if_pos (show nI (jtK tp ts e) = (1 : Int32) by rw [c1]; rfl)]
      refine ⟨T1, _, rfl, f29.weak (fun c hc => jisRT_29 hc), ⟨d1, by rw [n29]; exact hr.f, Nat.zero_le _, fun _ => ⟨by rw [n29]; exact z1, a5, (jtE_le (tp := tp) hes).2.1 (by omega)⟩, fun z => absurd rfl z⟩, fun _ => ⟨rfl, by omega, fun i hi => (hp i hi).f29 f29⟩⟩
    · obtain ⟨T2, b1, b2, b3, _⟩ := jRd_refuse hL (ω := ω) hK1 (ts := ts) (x := 1) (v := jtB tp ts e) (r := (0, 0, jtE tp ts e)) d1 (by decide) (by decide)
      have b1 : f_LawReader_refuse (jad L (jo 29)) 1 (nI (jtB tp ts e)) (jW L ω T1) = _ := b1
      rw [if_neg (show ¬ nI (jtK tp ts e) = (1 : Int32) by rw [c0]; decide), if_pos (show nI (jtK tp ts e) = (0 : Int32) by rw [c0]; rfl), jr30 hL hK1, Option.bind_some, gb, Option.bind_some, jk29 hL, b1, Option.bind_some]
      exact ⟨T2, _, jRd_stop hL (hK1.of b2.1) (by omega) b3 (by show ¬ (1 = 0); decide), (f29.trans b2).weak (fun c hc => jisRT_29 hc), b3, fun z => absurd z (by show ¬ (1 = 0); decide)⟩
    · obtain ⟨T2, b1, b2, b3, _⟩ := jRd_refuse hL (ω := ω) hK1 (ts := ts) (x := 3) (v := jtB tp ts e) (r := (0, 0, jtE tp ts e)) d1 (by decide) (by decide)
      have b1 : f_LawReader_refuse (jad L (jo 29)) 3 (nI (jtB tp ts e)) (jW L ω T1) = _ := b1
      rw [if_neg (show ¬ nI (jtK tp ts e) = (1 : Int32) from fun z => by rw [jlit, nI_eq (by omega) (by omega)] at z; exact c1 z), if_neg (show ¬ nI (jtK tp ts e) = (0 : Int32) from fun z => by rw [jlit, nI_eq (by omega) (by omega)] at z; exact c0 z), jRd_an hL hb, Option.bind_some, if_neg (show ¬ nI k < nI 16 by rw [hk]; decide), jr30 hL hK1, Option.bind_some, gb, Option.bind_some, jk29 hL, b1, Option.bind_some]
      exact ⟨T2, _, jRd_stop hL (hK1.of b2.1) (by omega) b3 (by show ¬ (3 = 0); decide), (f29.trans b2).weak (fun c hc => jisRT_29 hc), b3, fun z => absurd z (by show ¬ (3 = 0); decide)⟩
  | succ m ih =>
    intro k e fu S hkm hfu hK hT hr hX hp
    obtain ⟨fu, rfl⟩ : ∃ f, fu = f + 1 := ⟨fu - 1, by omega⟩
    obtain ⟨z1, z2, hes⟩ := hr.z rfl
    have hes : e ≤ ts := hes
    have hle := jtK_le (tp := tp) (ts := ts) (e := e)
    have g : xgi (jW L ω S) (jad L (jo 29)) 5 3 = some (nI 0) := by simp (disch := first | omega | rfl | assumption | exact jokr (by decide) (by omega) | exact jokr4 (by omega) | exact jkt_r _ _ | exact jkt_l (by decide) | exact jfk_l (by decide) | exact jkt_t _ | exact jkt_r6 _ _ | exact jkt_t6 _ | (simp only [jok, jlen]; omega) | decide) only [jm_gi hL, hr.f]
    obtain ⟨T1, a1, a2, a3, a4, a5⟩ := jTk_adv hL (ω := ω) hK hT z2 hes
    have hK1 := hK.of a2.1
    have n29 : jgI T1 (jo 29) = jgI S (jo 29) := (a2.2.2 _ (fun z => absurd z (jone (by decide)))).1
    have d1 : jgI T1 (jo 29) 2 = nI d := by rw [n29]; exact hr.d
    have f29 : jfq jis29 S T1 := a2.weak (fun c hc => Or.inr hc)
    have gb : xgi (jW L ω T1) (jad L (jo 30)) 10 2 = some (nI (jtB tp ts e)) := by simp (disch := first | omega | rfl | assumption | exact jokr (by decide) (by omega) | exact jokr4 (by omega) | exact jkt_r _ _ | exact jkt_l (by decide) | exact jfk_l (by decide) | exact jkt_t _ | exact jkt_r6 _ _ | exact jkt_t6 _ | (simp only [jok, jlen]; omega) | decide) only [jm_gi hL, a4]
    have hT1 := hT.fq f29 (jis29_o (by decide)) (jis29_o (by decide))
    rw [f_LawReader_readLaws_22, if_neg (show ¬ (16 : Int32) < nI k from fun z => by have := (nI_ltI (a := 16) (by omega) (by omega)).mp z; omega), g, Option.bind_some, if_pos (show nI 0 = (0 : Int32) from rfl), jr30 hL hK, Option.bind_some, jk30 hL, a1]
    simp only [xc]
    rcases hX with ⟨c1, rfl, rfl⟩ | ⟨c0, rfl⟩ | ⟨c0, c1, r1, hD, hX⟩
    · rw [if_pos (show nI (jtK tp ts e) = (1 : Int32) by rw [c1]; rfl)]
      refine ⟨T1, _, rfl, f29.weak (fun c hc => jisRT_29 hc), ⟨d1, by rw [n29]; exact hr.f, Nat.zero_le _, fun _ => ⟨by rw [n29]; exact z1, a5, (jtE_le (tp := tp) hes).2.1 (by omega)⟩, fun z => absurd rfl z⟩, fun _ => ⟨rfl, by omega, fun i hi => (hp i hi).f29 f29⟩⟩
    · obtain ⟨T2, b1, b2, b3, _⟩ := jRd_refuse hL (ω := ω) hK1 (ts := ts) (x := 1) (v := jtB tp ts e) (r := (0, 0, jtE tp ts e)) d1 (by decide) (by decide)
      have b1 : f_LawReader_refuse (jad L (jo 29)) 1 (nI (jtB tp ts e)) (jW L ω T1) = _ := b1
      rw [if_neg (show ¬ nI (jtK tp ts e) = (1 : Int32) by rw [c0]; decide), if_pos (show nI (jtK tp ts e) = (0 : Int32) by rw [c0]; rfl), jr30 hL hK1, Option.bind_some, gb, Option.bind_some, jk29 hL, b1, Option.bind_some]
      exact ⟨T2, _, jRd_stop hL (hK1.of b2.1) (by omega) b3 (by show ¬ (1 = 0); decide), (f29.trans b2).weak (fun c hc => jisRT_29 hc), b3, fun z => absurd z (by show ¬ (1 = 0); decide)⟩
    · have hc1 : jCr T1 d ts (0, 0, jtE tp ts e) := ⟨d1, by rw [n29]; exact hr.f, Nat.zero_le _, fun _ => ⟨by rw [n29]; exact z1, a5, (jtE_le (tp := tp) hes).2.1 c0⟩, fun z => absurd rfl z⟩
      obtain ⟨T2, b1, b2, b3, b4⟩ := jRd_law hL (ω := ω) hK1 (j := 2 * k + b) (by omega) hd hT1 hes hc1 a3 a4 a5 hD
      have hK2 := hK1.of b2.1
      have hT2 := hT1.fq b2 (jisRL_o (by decide)) (jisRL_o (by decide))
      have F2 : jfq (jisRT b) S T2 := (f29.weak (fun c hc => jisRT_29 hc)).trans (b2.weak (fun c hc => ⟨k, by omega, hc⟩))
      have ek : nI k + 1 = nI (k + 1) := by rw [jlit, nI_add]
      rw [if_neg (show ¬ nI (jtK tp ts e) = (1 : Int32) from fun z => by rw [jlit, nI_eq (by omega) (by omega)] at z; exact c1 z), if_neg (show ¬ nI (jtK tp ts e) = (0 : Int32) from fun z => by rw [jlit, nI_eq (by omega) (by omega)] at z; exact c0 z), jRd_an hL hb, Option.bind_some, if_pos (show nI k < nI 16 from (nI_ltI (by omega) (by omega)).mpr (by omega)), jRd_ar hL hK1 hb (by omega), Option.bind_some, jk29 hL, b1, Option.bind_some, ek]
      rcases hX with ⟨h0, rfl⟩ | ⟨h0, hX⟩
      · exact ⟨T2, _, jRd_stop hL hK2 (by omega) b3 h0, F2, b3, fun z => absurd z h0⟩
      · have b3' : jCr T2 d ts (0, 0, r1.2.2) := ⟨b3.d, by have := b3.f; rw [h0] at this; exact this, Nat.zero_le _, fun _ => b3.z h0, fun z => absurd rfl z⟩
        obtain ⟨T, x, g1, g2, g3, g4⟩ := ih (k + 1) r1.2.2 fu T2 (by omega) (by omega) hK2 hT2 b3' hX (fun i hi => by
          by_cases c : i = k
          · rw [c]; exact b4 h0
          · exact ((hp i (by omega)).f29 f29).fr b2 (by omega))
        exact ⟨T, x, g1, F2.trans g2, g3, g4⟩
/-- the reader's whole run -/
theorem jRd_readLaws {L : jL} (hL : jgood L) {ω : xS} {S : jSt} {sw ps wy : Nat} (hK : jLK S sw ps wy) {tp : Nat → Nat} {ts d b : Nat} {Ds : Nat → jD} {n : Nat} {r : Nat × Nat × Nat} (hd : d < 2 ^ 31) (hb : b ≤ 1) (hT : jTc S tp ts) (h2 : jgI S (jo 29) 2 = nI d) (hX : jTx tp ts d Ds n r 16 0 0) : ∃ (T : jSt) (x : Int32), f_LawReader_readLaws (jad L (jo 29)) (jad L (jo (16 + b))) (jW L ω S) = some (x, jW L ω T) ∧ jfq (jisRT b) S T ∧ jCr T d ts r ∧ (r.1 = 0 → x = nI n ∧ n ≤ 16 ∧ ∀ i, i < n → jDC T (2 * i + b) (Ds i)) := by
  have f1 : jfq jis29 S (jsI (jsI (jsI S (jo 29) 3 0) (jo 29) 4 (-2)) (jo 30) 3 0) := ((jfq.sI _ _ _ (Or.inl rfl)).trans (jfq.sI _ _ _ (Or.inl rfl))).trans (jfq.sI _ _ _ (Or.inr rfl))
  have c1 : jCr (jsI (jsI (jsI S (jo 29) 3 0) (jo 29) 4 (-2)) (jo 30) 3 0) d ts (0, 0, 0) := by
    refine ⟨?_, ?_, Nat.zero_le _, fun _ => ⟨?_, ?_, Nat.zero_le _⟩, fun z => absurd rfl z⟩
    · rw [jsI_fn (jone (by decide)), jsI_c, if_neg (by decide), jsI_c, if_neg (by decide)]; exact h2
    · rw [jsI_fn (jone (by decide)), jsI_c, if_neg (by decide), jsI_c, if_pos rfl]; rfl
    · rw [jsI_fn (jone (by decide)), jsI_c, if_pos rfl]
    · rw [jsI_c, if_pos rfl]; rfl
  have e0 : f_LawReader_readLaws (jad L (jo 29)) (jad L (jo (16 + b))) (jW L ω S) = f_LawReader_readLaws_22 xFU (jad L (jo 29)) (jad L (jo (16 + b))) (nI 0) (nI 0) (jW L ω (jsI (jsI (jsI S (jo 29) 3 0) (jo 29) 4 (-2)) (jo 30) 3 0)) := by
    unfold f_LawReader_readLaws f_Tokens_rewind
    simp (disch := first | omega | rfl | assumption | exact jokr (by decide) (by omega) | exact jokr4 (by omega) | exact jkt_r _ _ | exact jkt_l (by decide) | exact jfk_l (by decide) | exact jkt_t _ | exact jkt_r6 _ _ | exact jkt_t6 _ | (simp only [jok, jlen]; omega) | decide) only [jm_k hL, jm_gi hL, jm_gr hL, jm_gl hL, jm_pi hL, jm_pl hL, jn_ai hL, jn_ab hL, jn_az hL, jn_al hL, jn_ar hL, jn_an hL, jn_si hL, jn_sb hL, jn_sz hL, jn_sl hL, Option.bind_some, xc, xl, jsA_X, jsI_X, jsG_X, hK _ _, jlk, jmx]
    rfl
  generalize jsI (jsI (jsI S (jo 29) 3 0) (jo 29) 4 (-2)) (jo 30) 3 0 = U at f1 c1 e0
  obtain ⟨T, x, g1, g2, g3, g4⟩ := jRd_laws hL (ω := ω) hd hb 16 0 0 xFU U (by omega) (by unfold xFU; omega) (hK.of f1.1) (hT.fq f1 (jis29_o (by decide)) (jis29_o (by decide))) c1 hX (fun i hi => by omega)
  exact ⟨T, x, e0.trans g1, (f1.weak (fun c hc => jisRT_29 hc)).trans g2, g3, g4⟩
