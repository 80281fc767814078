
theorem xB7 {P : Nat → Prop} (h : P 0 ∧ P 1 ∧ P 2 ∧ P 3 ∧ P 4 ∧ P 5 ∧ P 6) : ∀ i, i < 7 → P i := fun i hi => by
  rcases (show i = 0 ∨ i = 1 ∨ i = 2 ∨ i = 3 ∨ i = 4 ∨ i = 5 ∨ i = 6 by omega) with rfl | rfl | rfl | rfl | rfl | rfl | rfl
  · exact h.1
  · exact h.2.1
  · exact h.2.2.1
  · exact h.2.2.2.1
  · exact h.2.2.2.2.1
  · exact h.2.2.2.2.2.1
  · exact h.2.2.2.2.2.2
set_option maxHeartbeats 4000000 in
set_option maxRecDepth 100000 in
theorem x_strings {s : State} {b : Nat} (hgv : (Jvm.Cond.and given_1 narrow_1).before #[Value.ref b] s = true) : ∃ adK adV : Nat → Nat, vk_S 7 xSn xSb adK adV (fun q => s.heap.size ≤ q) s s.heap ∧ ∀ i : Nat, i < 7 → (Term.string "RosterRules$Law" (xSi.getD i 0)).eval #[Value.ref b] s none [] s = some (.ref (adK i)) := by
  have hfl := flat_of_before _ hgv
  refine vk_Sof (args := #[Value.ref b]) (N := 7) (tm := (fun i => Term.string "RosterRules$Law" (xSi.getD i 0))) (len := xSn) (byt := xSb) ?_ ?_ ?_ ?_ ?_ ?_ ?_ (fun a h => Nat.not_le.mpr h)
  · exact xB7 ⟨by decide, by decide, by decide, by decide, by decide, by decide, by decide⟩
  · exact xB7 ⟨hfl _ (by decide +kernel), hfl _ (by decide +kernel), hfl _ (by decide +kernel), hfl _ (by decide +kernel), hfl _ (by decide +kernel), hfl _ (by decide +kernel), hfl _ (by decide +kernel)⟩
  · exact xB7 ⟨hfl _ (by decide +kernel), hfl _ (by decide +kernel), hfl _ (by decide +kernel), hfl _ (by decide +kernel), hfl _ (by decide +kernel), hfl _ (by decide +kernel), hfl _ (by decide +kernel)⟩
  · exact xB7 ⟨hfl _ (by decide +kernel), hfl _ (by decide +kernel), hfl _ (by decide +kernel), hfl _ (by decide +kernel), hfl _ (by decide +kernel), hfl _ (by decide +kernel), hfl _ (by decide +kernel)⟩
  · exact xB7 ⟨hfl _ (by decide +kernel), hfl _ (by decide +kernel), hfl _ (by decide +kernel), hfl _ (by decide +kernel), hfl _ (by decide +kernel), hfl _ (by decide +kernel), hfl _ (by decide +kernel)⟩
  · intro i hi
    rcases (show i = 0 ∨ i = 1 ∨ i = 2 ∨ i = 3 ∨ i = 4 ∨ i = 5 ∨ i = 6 by omega) with rfl | rfl | rfl | rfl | rfl | rfl | rfl
    · intro j hj
      have hj : j < 5 := hj
      rcases (show j = 0 ∨ j = 1 ∨ j = 2 ∨ j = 3 ∨ j = 4 by omega) with rfl | rfl | rfl | rfl | rfl <;> exact hfl _ (by decide +kernel)
    · intro j hj
      have hj : j < 4 := hj
      rcases (show j = 0 ∨ j = 1 ∨ j = 2 ∨ j = 3 by omega) with rfl | rfl | rfl | rfl <;> exact hfl _ (by decide +kernel)
    · intro j hj
      have hj : j < 5 := hj
      rcases (show j = 0 ∨ j = 1 ∨ j = 2 ∨ j = 3 ∨ j = 4 by omega) with rfl | rfl | rfl | rfl | rfl <;> exact hfl _ (by decide +kernel)
    · intro j hj
      have hj : j < 5 := hj
      rcases (show j = 0 ∨ j = 1 ∨ j = 2 ∨ j = 3 ∨ j = 4 by omega) with rfl | rfl | rfl | rfl | rfl <;> exact hfl _ (by decide +kernel)
    · intro j hj
      have hj : j < 5 := hj
      rcases (show j = 0 ∨ j = 1 ∨ j = 2 ∨ j = 3 ∨ j = 4 by omega) with rfl | rfl | rfl | rfl | rfl <;> exact hfl _ (by decide +kernel)
    · intro j hj
      have hj : j < 4 := hj
      rcases (show j = 0 ∨ j = 1 ∨ j = 2 ∨ j = 3 by omega) with rfl | rfl | rfl | rfl <;> exact hfl _ (by decide +kernel)
    · intro j hj
      have hj : j < 5 := hj
      rcases (show j = 0 ∨ j = 1 ∨ j = 2 ∨ j = 3 ∨ j = 4 by omega) with rfl | rfl | rfl | rfl | rfl <;> exact hfl _ (by decide +kernel)

  · intro i j hi hj hij
    rcases (show i = 0 ∨ i = 1 ∨ i = 2 ∨ i = 3 ∨ i = 4 ∨ i = 5 ∨ i = 6 by omega) with rfl | rfl | rfl | rfl | rfl | rfl | rfl <;> rcases (show j = 0 ∨ j = 1 ∨ j = 2 ∨ j = 3 ∨ j = 4 ∨ j = 5 ∨ j = 6 by omega) with rfl | rfl | rfl | rfl | rfl | rfl | rfl <;> first | exact absurd rfl hij | exact Or.inl (hfl _ (by decide +kernel)) | exact Or.inr (hfl _ (by decide +kernel))

set_option maxHeartbeats 4000000 in
set_option maxRecDepth 100000 in
theorem x_entry {p : Program} {s : State} {m : MethodId} {meth : Method} {c : Code} {b L : Nat} {xs : Nat → Int32} (C0 : lw_At p s m meth c b L xs) : ∃ E : xV, E.2.2 = s.heap.size ∧ xK E s s.heap := by
  obtain ⟨hx, hb, hr, hml, hown, hts, hX, hbl, hlocks, hgv⟩ := C0
  have ht : ∀ w ∈ xTbl, w.before #[Value.ref b] s = true := fun w h => hts w (xTbl_in w h)
  have hfl := flat_of_before _ hgv
  obtain ⟨c0, i0, k0⟩ := u_known (C := RC_0) (T := TC_0) (N := 2) (n := 2) ht iC_0 (ht _ wd_2_88)
  obtain ⟨c1, i1, k1⟩ := u_known (C := RC_1) (T := TC_1) (N := 9) (n := 9) ht iC_1 (ht _ wd_1_72)
  obtain ⟨c2, i2, k2⟩ := u_known (C := RC_2) (T := TC_2) (N := 5) (n := 5) ht iC_2 (ht _ wd_1_45)
  obtain ⟨c3, i3, k3⟩ := u_known (C := RC_3) (T := TC_3) (N := 1) (n := 1) ht iC_3 (ht _ wd_1_180)
  obtain ⟨c4, i4, k4⟩ := u_known (C := RC_4) (T := TC_4) (N := 9) (n := 9) ht iC_4 (ht _ wd_2_38)
  obtain ⟨c5, i5, k5⟩ := u_known (C := RC_5) (T := TC_5) (N := 5) (n := 5) ht iC_5 (ht _ wd_1_190)
  obtain ⟨c6, i6, k6⟩ := u_known (C := RC_6) (T := TC_6) (N := 12) (n := 12) ht iC_6 (ht _ wd_1_216)
  obtain ⟨c7, i7, k7⟩ := u_known (C := RC_7) (T := TC_7) (N := 9) (n := 9) ht iC_7 (ht _ wd_2_44)
  obtain ⟨c8, i8, k8⟩ := u_known (C := RC_8) (T := TC_8) (N := 13) (n := 13) ht iC_8 (ht _ wd_1_109)
  obtain ⟨c9, i9, k9⟩ := u_known (C := RC_9) (T := TC_9) (N := 2) (n := 2) ht iC_9 (ht _ wd_1_28)
  obtain ⟨c10, i10, k10⟩ := u_known (C := RC_10) (T := TC_10) (N := 4) (n := 4) ht iC_10 (ht _ wd_1_196)
  obtain ⟨c11, i11, k11⟩ := u_known (C := RC_11) (T := TC_11) (N := 9) (n := 9) ht iC_11 (ht _ wd_1_20)
  obtain ⟨c12, i12, k12⟩ := u_known (C := RC_12) (T := TC_12) (N := 65) (n := 65) ht iC_12 (ht _ wd_4_211)
  obtain ⟨a0, ka0, q0, f0, g0, e0⟩ := Cond.arrayClass_spec (ht _ xArr_i)
  obtain ⟨a1, ka1, q1, f1, g1, e1⟩ := Cond.arrayClass_spec (ht _ xArr_l)
  obtain ⟨a4, ka4, q4, f4, g4, e4⟩ := Cond.arrayClass_spec (ht _ xArr_b)
  obtain ⟨a5, ka5, q5, f5, g5, e5⟩ := Cond.arrayClass_spec (ht _ xArr_z)
  have hao : (Cond.arrayOver (.object "RosterRules$Law")).before #[Value.ref b] s = true := hts _ (List.mem_append_right _ (xTab_1 (List.mem_of_getElem? (i := 107) (by decide +kernel))))
  have haa : (Cond.arrayOver (.array .int)).before #[Value.ref b] s = true := hts _ (List.mem_append_right _ (xTab_1 (List.mem_of_getElem? (i := 121) (by decide +kernel))))
  obtain ⟨q3, a3, ka3, h3, -, g3, e3, f3⟩ := Cond.arrayOver_spec hao
  obtain ⟨q2, a2, ka2, h2, -, g2, e2, f2⟩ := arrayOverA_spec haa
  obtain ⟨adK, adV, hS1, hS2⟩ := x_strings hgv
  refine ⟨((fun k => [c0, c1, c2, c3, c4, c5, c6, c7, c8, c9, c10, c11, c12].getD k c0, fun k => [i0, i1, i2, i3, i4, i5, i6, i7, i8, i9, i10, i11, i12].getD k i0), fun t => if t < 100 then [a0, a1, a2, a3, a4, a5].getD t a0 else if t < 200 then adK (t - 100) else adV (t - 200), s.heap.size), rfl, ?_, ?_, ?_, va_AO.of hao, haa, ?_, ?_, ?_, ?_⟩
  · intro c q hq
    match c, hq with
    | 0, hq => cases hq; exact k0
    | 1, hq => cases hq; exact k1
    | 2, hq => cases hq; exact k2
    | 3, hq => cases hq; exact k3
    | 4, hq => cases hq; exact k4
    | 5, hq => cases hq; exact k5
    | 6, hq => cases hq; exact k6
    | 7, hq => cases hq; exact k7
    | 8, hq => cases hq; exact k8
    | 9, hq => cases hq; exact k9
    | 10, hq => cases hq; exact k10
    | 11, hq => cases hq; exact k11
    | 12, hq => cases hq; exact k12
    | c + 13, hq => simp [xCl] at hq
  · intro t ty hq
    match t, hq with
    | 0, hq => cases hq; exact ⟨fun N z => ⟨(fun k h => by cases h), ka0, g0, q0, e0⟩, f0⟩
    | 1, hq => cases hq; exact ⟨fun N z => ⟨(fun k h => by cases h), ka1, g1, q1, e1⟩, f1⟩
    | 2, hq => cases hq; exact ⟨fun N z => ⟨(fun k h => by cases h), ka2, g2, q2, e2⟩, f2⟩
    | 3, hq => cases hq; exact ⟨fun N z => ⟨(fun k h => by cases h), ka3, g3, q3, e3⟩, ka3, q3, g3, e3, h3, f3⟩
    | 4, hq => cases hq; exact ⟨fun N z => ⟨(fun k h => by cases h), ka4, g4, q4, e4⟩, f4⟩
    | 5, hq => cases hq; exact ⟨fun N z => ⟨(fun k h => by cases h), ka5, g5, q5, e5⟩, f5⟩
    | t + 6, hq => simp [xTy] at hq
  · intro w hw
    have hn := (List.mem_filter.mp hw).2
    have hz := hts w (List.mem_append_right _ (List.mem_filter.mp hw).1)
    cases w <;> first | (cases hn; done) | exact va_Nw.of rfl hz
  · exact xB7 ⟨vk_R.of (hts _ (List.mem_append_right _ (xTab_2 (List.mem_of_getElem? (i := 227) (by decide +kernel))))) (hS2 0 (by decide)), vk_R.of (hts _ (List.mem_append_right _ (xTab_2 (List.mem_of_getElem? (i := 228) (by decide +kernel))))) (hS2 1 (by decide)), vk_R.of (hts _ (List.mem_append_right _ (xTab_2 (List.mem_of_getElem? (i := 229) (by decide +kernel))))) (hS2 2 (by decide)), vk_R.of (hts _ (List.mem_append_right _ (xTab_2 (List.mem_of_getElem? (i := 230) (by decide +kernel))))) (hS2 3 (by decide)), vk_R.of (hts _ (List.mem_append_right _ (xTab_2 (List.mem_of_getElem? (i := 231) (by decide +kernel))))) (hS2 4 (by decide)), vk_R.of (hts _ (List.mem_append_right _ (xTab_2 (List.mem_of_getElem? (i := 232) (by decide +kernel))))) (hS2 5 (by decide)), vk_R.of (hts _ (List.mem_append_right _ (xTab_2 (List.mem_of_getElem? (i := 233) (by decide +kernel))))) (hS2 6 (by decide))⟩
  · have e1 : ∀ i, i < 7 → (if 100 + i < 100 then [a0, a1, a2, a3, a4, a5].getD (100 + i) a0 else if 100 + i < 200 then adK (100 + i - 100) else adV (100 + i - 200)) = adK i := fun i hi => by rw [if_neg (by omega), if_pos (by omega), Nat.add_sub_cancel_left]
    have e2 : ∀ i, i < 7 → (if 200 + i < 100 then [a0, a1, a2, a3, a4, a5].getD (200 + i) a0 else if 200 + i < 200 then adK (200 + i - 100) else adV (200 + i - 200)) = adV i := fun i hi => by rw [if_neg (by omega), if_neg (by omega), Nat.add_sub_cancel_left]
    refine ⟨fun i hi => ?_, fun i j hi hj e => ?_⟩
    · have := hS1.1 i hi
      rw [← e1 i hi, ← e2 i hi] at this
      exact this
    · refine hS1.2 i j hi hj ?_
      rw [← e1 i hi, ← e1 j hj]
      exact e
  · exact va_Zof (hts _ (List.mem_append_right _ (xTab_3 (List.mem_of_getElem? (i := 7) (by decide +kernel))))) (hts _ (List.mem_append_right _ (xTab_1 (List.mem_of_getElem? (i := 15) (by decide +kernel))))) (va_eqi (hfl _ (by decide +kernel))) (fun a h => Nat.not_le.mpr h)
  · exact va_Zqof (hts _ (List.mem_append_right _ (xTab_3 (List.mem_of_getElem? (i := 23) (by decide +kernel))))) (hts _ (List.mem_append_right _ (xTab_1 (List.mem_of_getElem? (i := 17) (by decide +kernel))))) (hfl _ (by decide +kernel)) (fun a h => Nat.not_le.mpr h)
set_option maxHeartbeats 4000000 in
set_option maxRecDepth 100000 in
/-- the law, from its entry, by its function -/
theorem x_whole {p : Program} {e : Env} {s : State} {m : MethodId} {below : List Frame} {meth : Method} {c : Code} (l : Launch) {b L : Nat} {xs : Nat → Int32} (C0 : lw_At p s m meth c b L xs) (hf : f_law xs L s.heap.size (fun _ => none) = some ()) : W p l e room_1 s m #[Value.ref b] below meth c s.heap [] 0 0 (lw_Z below #[Value.ref b] s) (entryFrame m ([Value.ref b] : List Value).toArray 4) := by
  obtain ⟨E, hE, hK⟩ := x_entry C0
  obtain ⟨hx, hb, hr, hml, hown, hts, hX, hbl, hlocks, hgv⟩ := C0
  have S : CallFix p m c code 4 s #[Value.ref b] xTbl "RosterRulesLaw" := ⟨hx, hb, hml, hown, fun w h => hts w (xTbl_in w h)⟩
  have hw : xW E s.heap.size (fun _ => none) s s.heap s.heap [] := ⟨hK, ⟨rfl, Nat.le_of_eq hE, fun a q h => by cases h⟩, va_S.rf⟩
  have hl := lv_entry ([.ref b]) (n := 4) (Nat.le_of_ble_eq_true rfl)
  rw [lg_entry_eq]
  generalize (lg_sl ([.ref b]) ++ List.replicate (4 - (lg_sl ([.ref b])).length) Slot.unset).toArray = ls at hl ⊢
  have hl : lv_has ls 4 [(0, .ref b)] := hl
  exact w_law S hr hlocks hX hbl hE _ _ _ _ _ hw hl hf
