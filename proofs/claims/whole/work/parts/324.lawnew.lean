/-! A NEW TEXT'S LAWS are lawful -/
theorem jNm_ok {tp : Nat → Nat} {ts lo hi : Nat} {r : Nat × Nat × Nat} (h : (jNm tp ts lo hi r).2.1 = 0) : lo ≤ (jNm tp ts lo hi r).1 ∧ (jNm tp ts lo hi r).1 ≤ hi := by
  unfold jNm at h ⊢
  by_cases c : r.1 = 0 ∧ jtK tp ts r.2.2 = 3
  · rw [if_pos c] at h ⊢
    by_cases c2 : jNv tp ts r.2.2 < lo ∨ hi < jNv tp ts r.2.2
    · rw [if_pos c2] at h
      exact absurd h (by show ¬ (4 = 0); decide)
    · show lo ≤ jNv tp ts r.2.2 ∧ jNv tp ts r.2.2 ≤ hi
      omega
  · rw [if_neg c] at h
    have h : (jEx tp ts 3 r).1 = 0 := h
    have h0 := jEx_0 h
    exfalso
    rw [jEx_no h0 (fun z => c ⟨h0, z⟩)] at h
    revert h
    show ¬ ((if jtK tp ts r.2.2 = 0 then 1 else 2) = 0)
    split <;> decide
theorem jLe_ok {tp : Nat → Nat} {ts : Nat} {r : Nat × Nat × Nat} (hr : r.2.2 ≤ ts) (h : (jLe tp ts r).2.1 = 0) : 1 ≤ (jLe tp ts r).1 ∧ (jLe tp ts r).1 ≤ 8 := by
  unfold jLe at h ⊢
  by_cases c : r.1 = 0 ∧ jtK tp ts r.2.2 = 2
  · obtain ⟨t1, t2, t3, t4⟩ := jtk2 hr c.2
    have tb := t4 (jtB tp ts r.2.2) (Nat.le_refl _) t1
    rw [if_pos c] at h ⊢
    by_cases c2 : jtE tp ts r.2.2 - jtB tp ts r.2.2 = 1 ∧ tp (jtB tp ts r.2.2) ≤ 104
    · rw [if_pos c2]
      show 1 ≤ tp (jtB tp ts r.2.2) - 96 ∧ tp (jtB tp ts r.2.2) - 96 ≤ 8
      omega
    · rw [if_neg c2] at h
      exact absurd h (by show ¬ (2 = 0); decide)
  · rw [if_neg c] at h
    have h : (jEx tp ts 2 r).1 = 0 := h
    have h0 := jEx_0 h
    exfalso
    rw [jEx_no h0 (fun z => c ⟨h0, z⟩)] at h
    revert h
    show ¬ ((if jtK tp ts r.2.2 = 0 then 1 else 2) = 0)
    split <;> decide
theorem jLe_0 {tp : Nat → Nat} {ts : Nat} {r : Nat × Nat × Nat} (h : (jLe tp ts r).2.1 = 0) : r.1 = 0 := by
  rcases Nat.eq_zero_or_pos r.1 with z | z
  · exact z
  · rw [jLe_st (by omega)] at h
    exact h
theorem jtB_lt {tp : Nat → Nat} {ts e : Nat} (h : jtK tp ts e ≠ 1) : jtB tp ts e < ts := by
  rcases Nat.lt_or_ge (jtB tp ts e) ts with z | z
  · exact z
  · exfalso
    apply h
    unfold jtK jtC
    rw [if_pos z]
def jDo (d : Nat) (D : jD) : Prop := (jD.so D ≤ 6) ∧ (jD.wt D ≤ 1000) ∧ (jD.pl D < 1500) ∧ (jD.lo D ≤ 99999) ∧ (jD.hi D ≤ 99999) ∧ (jD.so D = 2 ∨ jD.so D = 6 → jD.lo D ≤ jD.hi D) ∧ (jD.so D = 2 → 1 ≤ jD.sp D ∧ jD.sp D ≤ d) ∧ (jD.so D = 5 ∨ jD.so D = 6 → 1 ≤ jD.lt D ∧ jD.lt D ≤ 8) ∧ (jD.so D = 3 ∨ jD.so D = 4 → jPi (jD.s D) ∧ jPs.sz (jD.s D) ≤ 10 ∧ jPs.hs (jD.s D) = 1 ∧ jPs.d (jD.s D) = 0)
theorem jDo.so {d : Nat} {D : jD} (h : jDo d D) : jD.so D ≤ 6 := h.1
theorem jDo.wt {d : Nat} {D : jD} (h : jDo d D) : jD.wt D ≤ 1000 := h.2.1
theorem jDo.pl {d : Nat} {D : jD} (h : jDo d D) : jD.pl D < 1500 := h.2.2.1
theorem jDo.lo {d : Nat} {D : jD} (h : jDo d D) : jD.lo D ≤ 99999 := h.2.2.2.1
theorem jDo.hi {d : Nat} {D : jD} (h : jDo d D) : jD.hi D ≤ 99999 := h.2.2.2.2.1
theorem jDo.lh {d : Nat} {D : jD} (h : jDo d D) : jD.so D = 2 ∨ jD.so D = 6 → jD.lo D ≤ jD.hi D := h.2.2.2.2.2.1
theorem jDo.sp {d : Nat} {D : jD} (h : jDo d D) : jD.so D = 2 → 1 ≤ jD.sp D ∧ jD.sp D ≤ d := h.2.2.2.2.2.2.1
theorem jDo.lt {d : Nat} {D : jD} (h : jDo d D) : jD.so D = 5 ∨ jD.so D = 6 → 1 ≤ jD.lt D ∧ jD.lt D ≤ 8 := h.2.2.2.2.2.2.2.1
theorem jDo.pt {d : Nat} {D : jD} (h : jDo d D) : jD.so D = 3 ∨ jD.so D = 4 → jPi (jD.s D) ∧ jPs.sz (jD.s D) ≤ 10 ∧ jPs.hs (jD.s D) = 1 ∧ jPs.d (jD.s D) = 0 := h.2.2.2.2.2.2.2.2
theorem jLaw.ok {tp : Nat → Nat} {ts d e : Nat} {D : jD} {r : Nat × Nat × Nat} (h : jLaw tp ts d e D r) (h0 : r.1 = 0) (hs : ts ≤ 1500) (he : e ≤ ts) (hk : jtK tp ts e ≠ 1) (hk0 : jtK tp ts e ≠ 0) : jDo d D := by
  have hpat := h.pat h0
  obtain ⟨so, wt, pl, lo, hi, sp, lt, s⟩ := D
  have hE := (jtE_le (tp := tp) he).2.1 hk0
  have hB := jtB_lt hk
  obtain ⟨_, hpl, ⟨_, rfl⟩ | ⟨rr, hb, hwt, rfl⟩⟩ := h
  · exact absurd h0 (by show ¬ (2 = 0); decide)
  · have w0 := jEx_0 h0
    have wk := jNm_ok w0
    have r0 := jNm_0 w0
    have hpl : pl = jtB tp ts e := hpl
    have hwt : wt = (jNm tp ts 0 1000 rr).1 := hwt
    have hpat : so = 3 ∨ so = 4 → ∃ r', jPt tp ts (jtE tp ts e) s r' ∧ r'.1 = 0 := hpat
    have key : so ≤ 6 ∧ lo ≤ 99999 ∧ hi ≤ 99999 ∧ (so = 2 ∨ so = 6 → lo ≤ hi) ∧ (so = 2 → 1 ≤ sp ∧ sp ≤ d) ∧ (so = 5 ∨ so = 6 → 1 ≤ lt ∧ lt ≤ 8) := by
      rcases hb with ⟨z, a1, a2, a3, a4, _⟩ | ⟨z, a1, a2, a3, a4, q⟩ | ⟨z, a, b, c, ha, hb, hc, a1, a2, a3, a4, q⟩ | ⟨z, a1, a2, a3, a4, _⟩ | ⟨z, a1, a2, a3, a4, q⟩ | ⟨z, a, b, c, ha, hb, hc, a1, a2, a3, a4, q⟩
      · have z : so = 0 := z
        have a1 : lo = 0 := a1
        have a2 : hi = 0 := a2
        omega
      · have z : so = 1 := z
        have a1 : lo = (jNm tp ts 0 10000 (0, 0, jtE tp ts e)).1 := a1
        have a2 : hi = 0 := a2
        rw [q] at r0
        have := jNm_ok r0
        omega
      · have z : so = 2 := z
        have a1 : lo = a.1 := a1
        have a2 : hi = b.1 := a2
        have a3 : sp = c.1 := a3
        rw [q] at r0
        have r0' := r0
        rw [hc] at r0'
        have c1 := jNm_ok r0'
        rw [← hc] at c1
        have r1 := jNm_0 r0'
        have r1' := r1
        rw [hb] at r1'
        have c2 := jNm_ok r1'
        rw [← hb] at c2
        have r2 := jNm_0 r1'
        rw [ha] at r2
        have c3 := jNm_ok r2
        rw [← ha] at c3
        omega
      · have z : so = 3 ∨ so = 4 := z
        have a1 : lo = 0 := a1
        have a2 : hi = 0 := a2
        omega
      · have z : so = 5 := z
        have a1 : lo = 0 := a1
        have a2 : hi = 0 := a2
        have a4 : lt = (jLe tp ts (0, 0, jtE tp ts e)).1 := a4
        rw [q] at r0
        have := jLe_ok (r := (0, 0, jtE tp ts e)) hE r0
        omega
      · have z : so = 6 := z
        have a1 : lo = b.1 := a1
        have a2 : hi = c.1 := a2
        have a4 : lt = a.1 := a4
        rw [q] at r0
        have r0' := r0
        rw [hc] at r0'
        have c1 := jNm_ok r0'
        rw [← hc] at c1
        have r1 := jNm_0 r0'
        have r1' := r1
        rw [hb] at r1'
        have c2 := jNm_ok r1'
        rw [← hb] at c2
        have r2 := jNm_0 r1'
        rw [ha] at r2
        have c3 := jLe_ok (r := (0, 0, jtE tp ts e)) hE r2
        rw [← ha] at c3
        omega
    obtain ⟨k1, k2, k3, k4, k5, k6⟩ := key
    refine ⟨k1, ?_, ?_, k2, k3, k4, k5, k6, fun z => ?_⟩
    · show wt ≤ 1000; omega
    · show pl < 1500; omega
    · obtain ⟨r', q1, q2⟩ := hpat z
      obtain ⟨o1, o2, o3, o4, _⟩ := q1.ok q2
      exact ⟨o1, o2, o3, o4⟩
theorem jTx.ok {tp : Nat → Nat} {ts d n : Nat} {Ds : Nat → jD} {r : Nat × Nat × Nat} (hs : ts ≤ 1500) (h0 : r.1 = 0) (m : Nat) : ∀ (k e : Nat), e ≤ ts → jTx tp ts d Ds n r m k e → ∀ i, k ≤ i → i < n → jDo d (Ds i) := by
  induction m with
  | zero =>
    intro k e he h i h1 h2
    rcases h with ⟨_, h, _⟩ | ⟨_, rfl⟩ | ⟨_, _, rfl⟩
    · omega
    · exact absurd h0 (by show ¬ (1 = 0); decide)
    · exact absurd h0 (by show ¬ (3 = 0); decide)
  | succ m ih =>
    intro k e he h i h1 h2
    rcases h with ⟨_, h, _⟩ | ⟨_, rfl⟩ | ⟨c0, c1, r1, hD, hX⟩
    · omega
    · exact absurd h0 (by show ¬ (1 = 0); decide)
    · rcases hX with ⟨q, rfl⟩ | ⟨q, hX⟩
      · exact absurd h0 q
      · by_cases c : i = k
        · rw [c]; exact hD.ok q hs he c1 c0
        · exact ih (k + 1) r1.2.2 (hD.le q) hX i (by omega) h2
/-! every pattern has a word, so its automaton has an end -/
theorem jbit_ex {a : Nat} (h : a ≠ 0) (h2 : a < 512) : ∃ l, l < 9 ∧ jbit a l = 1 := by
  rcases Classical.em (∃ l, l < 9 ∧ jbit a l = 1) with z | z
  · exact z
  · exfalso
    apply h
    apply Nat.eq_of_testBit_eq
    intro i
    rw [Nat.zero_testBit]
    by_cases hi : i < 9
    · cases y : a.testBit i
      · rfl
      · exact absurd ⟨i, hi, (jbit_tb a i).mpr y⟩ z
    · exact Nat.testBit_lt_two_pow (Nat.lt_of_lt_of_le (show a < 2 ^ 9 from h2) (Nat.pow_le_pow_right (by decide) (by omega)))
theorem jalive {s : jPs} (h : jPi s) (hz : jPs.sz s ≤ 10) (h1 : jPs.hs s = 1) {ns : Nat} {nx fe : Nat → Nat} (hA : jAS (jdl (jPs.sz s) (jPs.ls s) (jfO s)) (jac2 (jpU s).2.1 (jpU s).2.2) ns nx fe) : ∃ st, st < ns ∧ fe st = 1 := by
  obtain ⟨u1, u2, u3, u4, _⟩ := jpU_ok h h1
  have hδ : ∀ s' l, jdl (jPs.sz s) (jPs.ls s) (jfO s) s' l < 1024 := fun s' l => jdl_lt hz
  rcases u2 with z | ⟨n, p, p0, pi, pn⟩
  · have := hA.run hδ (jrs (jdl (jPs.sz s) (jPs.ls s) (jfO s)) (fun _ => 0)) (jrn nx (fun _ => 0)) (fun _ => 0) rfl (fun _ => rfl) rfl (fun _ => rfl) 0 (fun i hi => by omega)
    refine ⟨_, this.1, ?_⟩
    rw [this.2]
    show jac2 _ _ 1024 = 1
    unfold jac2
    rw [if_pos (Or.inr ⟨rfl, z⟩)]
  · have hp : ∀ i, i ≤ n → p i < jPs.sz s := fun i hi => by
      rcases i with _ | i
      · exact (u1.f _ p0).2
      · exact u4 _ _ (pi i (by omega))
    have hx : ∀ i, ∃ l, l < 9 ∧ (i ≤ n → jbit (jPs.ls s (p i)) l = 1) := fun i => by
      by_cases c : i ≤ n
      · obtain ⟨l, a, b⟩ := jbit_ex (h.ln _ (hp i c)) (h.ls _)
        exact ⟨l, a, fun _ => b⟩
      · exact ⟨0, by omega, fun z => absurd z c⟩
    obtain ⟨x, hx⟩ := Classical.axiomOfChoice hx
    have hr := hA.run hδ (jrs (jdl (jPs.sz s) (jPs.ls s) (jfO s)) x) (jrn nx x) x rfl (fun _ => rfl) rfl (fun _ => rfl) (n + 1) (fun i _ => (hx i).1)
    have key : ∀ i, i ≤ n → (jrs (jdl (jPs.sz s) (jPs.ls s) (jfO s)) x (i + 1)).testBit (p i) = true := by
      intro i
      induction i with
      | zero =>
        intro hi
        show (jdl (jPs.sz s) (jPs.ls s) (jfO s) 1024 (x 0)).testBit (p 0) = true
        rw [jdl_tb]
        refine ⟨hp 0 hi, ⟨10, by omega, by decide, ?_⟩, (hx 0).2 hi⟩
        show (if 10 = 10 then (jpU s).1 else jpF s 10).testBit (p 0) = true
        rw [if_pos rfl]; exact p0
      | succ i ih =>
        intro hi
        have h2 := ih (by omega)
        show (jdl (jPs.sz s) (jPs.ls s) (jfO s) (jrs (jdl (jPs.sz s) (jPs.ls s) (jfO s)) x (i + 1)) (x (i + 1))).testBit (p (i + 1)) = true
        rw [jdl_tb]
        have hpi := hp i (by omega)
        refine ⟨hp (i + 1) hi, ⟨p i, by omega, (jbit_tb _ _).mpr h2, ?_⟩, (hx (i + 1)).2 hi⟩
        show (if p i = 10 then (jpU s).1 else jpF s (p i)).testBit (p (i + 1)) = true
        rw [if_neg (by omega)]; exact pi i (by omega)
    refine ⟨_, hr.1, ?_⟩
    rw [hr.2]
    have hk := key n (Nat.le_refl _)
    unfold jac2
    rw [if_pos]
    left
    intro z
    have : ((jrs (jdl (jPs.sz s) (jPs.ls s) (jfO s)) x (n + 1)) &&& (jpU s).2.1).testBit (p n) = true := by rw [Nat.testBit_and, hk, pn]; rfl
    rw [z, Nat.zero_testBit] at this
    cases this
/-- the laws of a text, with the automata q -/
def jLwN (n : Nat) (Ds : Nat → jD) (q : Nat → Nat × (Nat → Nat) × (Nat → Nat)) (tl : Nat → Nat) : jLw := (n, fun k => jD.so (Ds k), fun k => jD.wt (Ds k), fun k => jD.pl (Ds k), fun k => jD.lo (Ds k), fun k => jD.hi (Ds k), fun k => jD.sp (Ds k), fun k => jD.lt (Ds k), fun k => jPs.sz (jD.s (Ds k)), fun k => jPs.ls (jD.s (Ds k)), fun k => jfO (jD.s (Ds k)), fun k => (jpU (jD.s (Ds k))).2.1, fun k => (jpU (jD.s (Ds k))).2.2, fun k => (q k).1, fun k => (q k).2.1, fun k => (q k).2.2, tl)
theorem jLwN_g {L : jL} {n : Nat} {Ds : Nat → jD} {q : Nat → Nat × (Nat → Nat) × (Nat → Nat)} {tl : Nat → Nat} {T : jSt} (hn : n ≤ 16) (hD : ∀ i, i < n → jDo (jd L) (Ds i)) (hq : ∀ i, i < n → jD.so (Ds i) = 3 ∨ jD.so (Ds i) = 4 → jDP T i (jD.s (Ds i)) (q i).1 (q i).2.1 (q i).2.2) : jLg L (jLwN n Ds q tl) := by
  have hδ : ∀ k, k < n → jD.so (Ds k) = 3 ∨ jD.so (Ds k) = 4 → ∀ s' l, jdl (jPs.sz (jD.s (Ds k))) (jPs.ls (jD.s (Ds k))) (jfO (jD.s (Ds k))) s' l < 1024 := fun k hk hp s' l => jdl_lt ((hD k hk).pt hp).2.1
  have p10 : ∀ {a b : Nat}, a < 2 ^ b → b ≤ 10 → a < 1024 := fun {a b} h1 h2 => Nat.lt_of_lt_of_le h1 (Nat.pow_le_pow_right (n := 2) (by decide) h2)
  refine ⟨hn, fun k hk => (hD k hk).so, fun k hk => (hD k hk).wt, fun k hk => (hD k hk).pl, fun k hk => (hD k hk).lo, fun k hk => (hD k hk).hi, fun k hk => (hD k hk).lh, fun k hk => (hD k hk).sp, fun k hk => (hD k hk).lt, fun k hk hp => ((hD k hk).pt hp).2.1, fun k p hk hp => ((hD k hk).pt hp).1.ls p, fun k p hk hp => ?_, fun k hk hp => ?_, fun k hk hp => ?_, fun k hk hp => (hq k hk hp).as.ns, fun k m hk hp hm => (hq k hk hp).as.nx (hδ k hk hp) hm, fun k s hk hp => (hq k hk hp).f1 s, fun k x m hk hp hx => ((hq k hk hp).as.run (hδ k hk hp) (jrs (jLw.dl (jLwN n Ds q tl) k) x) (jrn (jLw.nx (jLwN n Ds q tl) k) x) x rfl (fun _ => rfl) rfl (fun _ => rfl) m hx).2, fun k hk hp => (hq k hk hp).as.bo (hδ k hk hp), fun k hk hp => ?_, fun k hk hp => (hq k hk hp).as⟩
  · obtain ⟨o1, o2, o3, o4⟩ := (hD k hk).pt hp
    obtain ⟨u1, u2, u3, u4, _⟩ := jpU_ok o1 o3
    show (if p = 10 then (jpU (jD.s (Ds k))).1 else jpF (jD.s (Ds k)) p) < 1024
    split
    · exact p10 (jFr.lt (fun i hi => (u1.f i hi).2)) o2
    · exact p10 (jFr.lt (fun i hi => u4 p i hi)) o2
  · obtain ⟨o1, o2, o3, o4⟩ := (hD k hk).pt hp
    obtain ⟨u1, u2, u3, u4, _⟩ := jpU_ok o1 o3
    exact p10 (jFr.lt (fun i hi => (u1.l i hi).2)) o2
  · obtain ⟨o1, o2, o3, o4⟩ := (hD k hk).pt hp
    exact (jpU_ok o1 o3).1.e
  · obtain ⟨o1, o2, o3, o4⟩ := (hD k hk).pt hp
    exact jalive o1 o2 o3 (hq k hk hp).as
/-! both sides' rows of the new laws -/
theorem jLwN_M {n : Nat} {Ds : Nat → jD} {q : Nat → Nat × (Nat → Nat) × (Nat → Nat)} {tl : Nat → Nat} {T : jSt} (hn : jgI T (jm 0) 20 = nI n) (hD : ∀ i, i < n → jDN T i (Ds i)) (hq : ∀ i, i < n → jD.so (Ds i) = 3 ∨ jD.so (Ds i) = 4 → jDP T i (jD.s (Ds i)) (q i).1 (q i).2.1 (q i).2.2) : jLM T (jLwN n Ds q tl) := ⟨hn, fun k hk => (hD k hk).1.so, fun k hk => (hD k hk).1.wt, fun k hk => (hD k hk).1.pl, fun k hk => (hD k hk).1.lo, fun k hk => (hD k hk).1.hi, fun k hk => (hD k hk).1.sp, fun k hk => (hD k hk).1.lt, fun k hk hp => (hq k hk hp).sz, fun k p hk hp => (hq k hk hp).ls p, fun k p hk hp => (hq k hk hp).fo p, fun k hk hp => (hq k hk hp).la, fun k hk hp => (hq k hk hp).no, fun k hk hp => (hq k hk hp).ns, fun k m hk hp => (hq k hk hp).nx m, fun k s hk hp => (hq k hk hp).fe s⟩
theorem jos_ext {f g : Nat → Nat} {s : Nat} : ∀ {n : Nat}, (∀ i, i < n → f i = g i) → jos f s n = jos g s n
  | 0, _ => rfl
  | n + 1, h => by rw [jos, jos, jos_ext (fun i hi => h i (by omega)), h n (by omega)]
theorem jLwN_C {L : jL} {n b : Nat} {Ds : Nat → jD} {q : Nat → Nat × (Nat → Nat) × (Nat → Nat)} {tl : Nat → Nat} {T : jSt} (hb : b ≤ 1) (hn : jgI T (jo 0) 8 = nI n) (hD : ∀ i, i < n → jDC T (2 * i + b) (Ds i)) (htl : ∀ j, j < 32 → jgN T (jt j) = 10 * tl j ∧ tl j ≤ 1025) : jLC L T (jLwN n Ds q tl) b := by
  refine ⟨hb, hn, fun k hk => (hD k hk).so, fun k hk => (hD k hk).wt, fun k hk => (hD k hk).pl, fun k hk => (hD k hk).lo, fun k hk => (hD k hk).hi, fun k hk => (hD k hk).sp, fun k hk => (hD k hk).lt, fun k hk hp => ((hD k hk).pq hp).z, fun k hk hp => ?_, fun k hk hp => ((hD k hk).pq hp).la, fun k hk hp => ((hD k hk).pq hp).no, fun k l hk hp hl => (((hD k hk).pq hp).tk l hl).x, fun k u hk hp hu => ?_, fun k u hk hp hu => ?_, fun k hk hp => Or.inl (hD k hk).au, htl⟩
  · rw [((hD k hk).pq hp).fi]
    show nI (jpU (jD.s (Ds k))).1 = nI (if 10 = 10 then (jpU (jD.s (Ds k))).1 else jpF (jD.s (Ds k)) 10)
    rw [if_pos rfl]
  · rw [((hD k hk).pq hp).al u hu]
    refine congrArg nI (jos_ext (fun i hi => ?_))
    show jpF (jD.s (Ds k)) i = if i = 10 then (jpU (jD.s (Ds k))).1 else jpF (jD.s (Ds k)) i
    rw [if_neg (by omega)]
  · rw [((hD k hk).pq hp).au u hu]
    refine congrArg nI (jos_ext (fun i hi => ?_))
    show jpF (jD.s (Ds k)) (5 + i) = if 5 + i = 10 then (jpU (jD.s (Ds k))).1 else jpF (jD.s (Ds k)) (5 + i)
    rw [if_neg (by omega)]
