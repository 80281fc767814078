/-! rows of the machine over the world -/
def xLk (own : String) (index ci k : Nat) : Prop := ∃ (C : String) (T : u_T) (N : Nat), xCl[ci]? = some (C, T, N) ∧ k < N ∧ (∀ w ∈ u_ws C T N, w ∈ xTbl) ∧ (Cond.fieldLink own index (T k).1 (T k).2.1 (T k).2.2.1 ∈ xTbl ∨ ∃ host, Cond.fieldLinkNest own index (T k).1 (T k).2.1 (T k).2.2.1 host ∈ xNs)
def xLp (own : String) (index ci k : Nat) (ty : FieldType) : Prop := ∃ (C : String) (T : u_T) (N : Nat) (ty0 : Nat → FieldType), xCl[ci]? = some (C, T, N) ∧ k < N ∧ (∀ w ∈ u_ws C T N, w ∈ xTbl) ∧ (Cond.fieldLink own index (T k).1 (T k).2.1 (T k).2.2.1 ∈ xTbl ∨ ∃ host, Cond.fieldLinkNest own index (T k).1 (T k).2.1 (T k).2.2.1 host ∈ xNs) ∧ (∀ k, k < N → parseFieldDescriptor (T k).2.2.1 = some (ty0 k)) ∧ (∀ a, a < N → ∀ b, b < N → a ≠ b → (T a).2.1 ≠ (T b).2.1) ∧ (T k).2.2.2 = false ∧ parseFieldDescriptor (T k).2.2.1 = some ty
theorem xK.same {E : xV} {u U : State} {Hh : Heap} (hv : u.vm = U.vm) (h : xK E u Hh) : xK E U Hh := by
  have ha : u.vm.Alike U.vm := by rw [hv]; exact Vm.Alike.refl _
  refine ⟨fun c q hq => u_Kn_moved ha (h.1 c q hq), fun t ty ht => ⟨arrOfT_moved ha (h.2.1 t ty ht).1, (h.2.1 t ty ht).2.moved ha⟩, fun w hw => ?_, h.2.2.2.1.moved ha, over_moved (a := #[]) (a' := #[]) ha h.2.2.2.2.1, fun i hi => (h.2.2.2.2.2.1 i hi).same hv.symm, h.2.2.2.2.2.2.1.moved ha, h.2.2.2.2.2.2.2.1.moved ha, h.2.2.2.2.2.2.2.2.moved ha⟩
  have hn := List.all_eq_true.mp xNs_nest w hw
  have hz := h.2.2.1 w hw
  cases w <;> first | (cases hn; done) | exact va_Nw.same rfl hv hz
theorem xK.moved {E : xV} {s U : State} {H0 H : Heap} {locs : List Loc} (hW : s.WarmedH U.vm) (h : xK E s H0) (hS : va_S (fun q => E.2.2 ≤ q) H0 H locs) : xK E U H := by
  have ha := hW.alike
  refine ⟨fun c q hq => u_Kn_moved ha (h.1 c q hq), fun t ty ht => ⟨arrOfT_moved ha (h.2.1 t ty ht).1, (h.2.1 t ty ht).2.moved ha⟩, fun w hw => ?_, h.2.2.2.1.moved ha, over_moved (a := #[]) (a' := #[]) ha h.2.2.2.2.1, fun i hi => (h.2.2.2.2.2.1 i hi).warm hW, (h.2.2.2.2.2.2.1.moved ha).kept hS.2.1, (h.2.2.2.2.2.2.2.1.moved ha).kept hS.2.1, (h.2.2.2.2.2.2.2.2.moved ha).kept hS.2.1⟩
  have hn := List.all_eq_true.mp xNs_nest w hw
  have hz := h.2.2.1 w hw
  cases w <;> first | (cases hn; done) | exact va_Nw.warmF hW hz | exact va_Nw.warmM hW hz
def xB (E : xV) (z : Nat) (ω : xS) (U : State) : Prop := xK E U U.heap ∧ xP E z ω U.heap
def xQ (E : xV) (v : Option Value) (z : Nat) (ω : xS) : Array Value → State → Outcome → State → Prop := fun _ st oc t => oc = .returned v ∧ xP E z ω t.heap ∧ va_F (fun q => E.2.2 ≤ q) st t
abbrev xM (l : Launch) (E : xV) (y : MethodName) (ws : List Cond) (rm : Room) (avs : List Value) (z : Nat) (ω : xS) (v : Option Value) (z1 : Nat) (ω1 : xS) : Prop := Met l y ws rm (va_Pc avs (xB E z ω)) (xQ E v z1 ω1) rm.cells rm.slots (fun q => E.2.2 ≤ q)
theorem xB_blind (avs : List Value) (E : xV) (z : Nat) (ω : xS) : FrameBlind (va_Pc avs (xB E z ω)) := fun a U g mk q => ⟨q.1, xK.same (u := U) (U := U.calling g mk a) rfl q.2.1, q.2.2⟩
section XR
variable {p : Program} {l : Launch} {e : Env} {R : Room} {s : State} {m : MethodId} {args : Array Value} {below : List Frame} {meth : Method} {c : Code} {H : Heap} {locs : List Loc} {cells slots : Nat} {Q : State → Prop}
variable {cc : ByteArray} {nL : Nat} {own : String} {pc : Nat} {ls : Array Slot} {rest : List Value} {E : xV} {z z1 : Nat} {ω ω1 : xS} {H0 : Heap} {a : Nat} {index ci k : Nat}
theorem x_get (S : CallFix p m c cc nL s args xTbl own) (hw : xW E z ω s H0 H locs) (hl : xLk own index ci k) {v : Value} (hg : xg ω a ci k = some v) (hdg : decode cc pc = .ok (.getfield index, 3))
    (kk : W p l e R s m args below meth c H locs cells slots Q (F0 m (pc + 3) ls (v :: rest))) : W p l e R s m args below meth c H locs cells slots Q (F0 m pc ls (.ref a :: rest)) := by
  obtain ⟨C, T, N, h1, h2, h3, h4⟩ := hl
  obtain ⟨fs, q1, q2⟩ := xg_spec hg
  obtain ⟨hx, hb, hml, hown, hts⟩ := S
  have hP : va_P E.1 xCl [(a, .inr (ci, fs))] H := fun j q hj => by
    match j, hj with
    | 0, hj => cases hj; exact (hw.2.1.2.2 a _ q1).2
    | j + 1, hj => simp at hj
  rcases h4 with h4 | ⟨host, h4⟩
  · exact va_get (D := E.1) hx hb hts h3 hown hw.1.k0 hP 0 rfl h1 k h2 (hts _ h4) (fun _ h9 => h9) q2 hdg kk
  · exact va_getN (D := E.1) (host := host) hx hb hts h3 hown hw.1.k0 hP 0 rfl h1 k h2 (va_Nw.use rfl (hw.1.2.2.1 _ h4)) (fun _ h9 => h9) q2 hdg kk
theorem x_geti (S : CallFix p m c cc nL s args xTbl own) (hw : xW E z ω s H0 H locs) (hl : xLk own index ci k) {v : Int32} (hg : xgi ω a ci k = some v) (hdg : decode cc pc = .ok (.getfield index, 3))
    (kk : W p l e R s m args below meth c H locs cells slots Q (F0 m (pc + 3) ls (.int v :: rest))) : W p l e R s m args below meth c H locs cells slots Q (F0 m pc ls (.ref a :: rest)) := x_get S hw hl (xgi_spec hg) hdg kk
theorem x_getl (S : CallFix p m c cc nL s args xTbl own) (hw : xW E z ω s H0 H locs) (hl : xLk own index ci k) {v : Int64} (hg : xgl ω a ci k = some v) (hdg : decode cc pc = .ok (.getfield index, 3))
    (kk : W p l e R s m args below meth c H locs cells slots Q (F0 m (pc + 3) ls (.long v :: rest))) : W p l e R s m args below meth c H locs cells slots Q (F0 m pc ls (.ref a :: rest)) := x_get S hw hl (xgl_spec hg) hdg kk
theorem x_getr (S : CallFix p m c cc nL s args xTbl own) (hw : xW E z ω s H0 H locs) (hl : xLk own index ci k) {v : Nat} (hg : xgr ω a ci k = some v) (hdg : decode cc pc = .ok (.getfield index, 3))
    (kk : W p l e R s m args below meth c H locs cells slots Q (F0 m (pc + 3) ls (.ref v :: rest))) : W p l e R s m args below meth c H locs cells slots Q (F0 m pc ls (.ref a :: rest)) := x_get S hw hl (xgr_spec hg) hdg kk
theorem x_put (S : CallFix p m c cc nL s args xTbl own) (hw : xW E z ω s H0 H locs) {ty : FieldType} (hl : xLp own index ci k ty) {v : Value} (hn : narrow ty v = v) (hfit : fits ty v = true) (hp : xp ω a ci k v = some ω1) (hdg : decode cc pc = .ok (.putfield index, 3))
    (kk : ∀ (H1 : Heap) (locs1 : List Loc), xW E z ω1 s H0 H1 locs1 → W p l e R s m args below meth c H1 locs1 cells slots Q (F0 m (pc + 3) ls rest)) : W p l e R s m args below meth c H locs cells slots Q (F0 m pc ls (v :: .ref a :: rest)) := by
  obtain ⟨C, T, N, ty0, hc, hk, hin, hlk, hty, hnm, hfin, hd⟩ := hl
  obtain ⟨fs, he, hlen, rfl⟩ := xp_spec hp
  obtain ⟨hx, hb, hml, hown, hts⟩ := S
  have hap := va_apart (own := own) hts hin ty0 hty hnm hw.1.k0 hc
  obtain ⟨r, h1, cell, q1, q2, q3, q4⟩ := (hw.2.1.2.2 a _ he).2
  have hr : r = (C, T, N) := Option.some.inj (h1.symm.trans hc)
  subst hr
  obtain ⟨hS, hfc, kC, hkC, hkind⟩ := hw.1.1 ci _ hc
  obtain ⟨cf, kf, fi, f, hi, hsl⟩ := hS k hk
  have hlay := hts _ (hin _ (u_in_lay hk))
  unfold u_lay at hlay
  rw [if_neg (by rw [hfin]; decide)] at hlay
  have hst := (u_facts hfc hkC (u_lays hts hin hk) hi).1
  have h6 := u_store hfc hkC hkind hlay hi hd hn hfit
  have fin : ∀ H' : Heap, H'[a]? = some (cell.setSlot f.slot v) → H'.size = H.size → (∀ q, q ≠ a → H'[q]? = H[q]?) → W p l e R s m args below meth c H' (locs ++ [⟨a, f.slot⟩]) cells slots Q (F0 m (pc + 3) ls rest) := by
    intro H' e1 e2 e3
    rw [hsl] at e1 ⊢
    exact kk H' _ (hw.put (e := .inr (ci, fs.set k v)) he ⟨_, hc, t_OB.to (V := updV (vp_V fs) k v) ⟨_, e1, q2, q3, t_set q4 hap hk v⟩ (fun j _ => vp_updV_set hlen v j)⟩ e2 e3)
  rcases hlk with hlk | ⟨host, hlk⟩
  · exact W.putK hx hb (f := f) ⟨hown, hts _ hlk, ⟨_, _, _, hi⟩, hst⟩ (by rw [q2]; exact h6) q1 q3 (by rw [hsl]; exact k2_hasslot (q4 k hk)) rfl rfl hdg fin
  · exact va_WputK hx hb (f := f) hown (va_Nw.use rfl (hw.1.2.2.1 _ hlk)) hi hst (by rw [q2]; exact h6) q1 q3 (by rw [hsl]; exact k2_hasslot (q4 k hk)) rfl rfl hdg fin
theorem x_puti (S : CallFix p m c cc nL s args xTbl own) (hw : xW E z ω s H0 H locs) (hl : xLp own index ci k .int) {v : Int32} (hp : xp ω a ci k (.int v) = some ω1) (hdg : decode cc pc = .ok (.putfield index, 3))
    (kk : ∀ (H1 : Heap) (locs1 : List Loc), xW E z ω1 s H0 H1 locs1 → W p l e R s m args below meth c H1 locs1 cells slots Q (F0 m (pc + 3) ls rest)) : W p l e R s m args below meth c H locs cells slots Q (F0 m pc ls (.int v :: .ref a :: rest)) := x_put S hw hl (vp_nar_int v) rfl hp hdg kk
theorem x_iald (S : CallFix p m c cc nL s args xTbl own) (hw : xW E z ω s H0 H locs) {i v : Int32} (hg : xai ω a i = some v) (hdg : decode cc pc = .ok (.iaload, 1))
    (kk : W p l e R s m args below meth c H locs cells slots Q (F0 m (pc + 1) ls (.int v :: rest))) : W p l e R s m args below meth c H locs cells slots Q (F0 m pc ls (.int i :: .ref a :: rest)) := by
  obtain ⟨n, f, q1, q2, rfl⟩ := xai_spec hg
  have hP : va_P E.1 xCl [(a, .inl (E.2.1 0, n, .inl f))] H := fun j q hj => by
    match j, hj with
    | 0, hj => cases hj; exact (hw.2.1.2.2 a _ q1).2
    | j + 1, hj => simp at hj
  exact va_iald (D := E.1) S.1 S.2.1 (hw.1.k1 (t := 0) xTy_0) hP 0 0 rfl rfl q2 hdg kk
theorem x_bald (S : CallFix p m c cc nL s args xTbl own) (hw : xW E z ω s H0 H locs) {i v : Int32} (hg : xab ω a i = some v) (hdg : decode cc pc = .ok (.baload, 1))
    (kk : W p l e R s m args below meth c H locs cells slots Q (F0 m (pc + 1) ls (.int v :: rest))) : W p l e R s m args below meth c H locs cells slots Q (F0 m pc ls (.int i :: .ref a :: rest)) := by
  obtain ⟨n, f, q1, q2, rfl⟩ := xab_spec hg
  have hP : va_P E.1 xCl [(a, .inl (E.2.1 4, n, .inl f))] H := fun j q hj => by
    match j, hj with
    | 0, hj => cases hj; exact (hw.2.1.2.2 a _ q1).2
    | j + 1, hj => simp at hj
  exact va_bald (D := E.1) S.1 S.2.1 (hw.1.k1 (t := 4) xTy_4) hP 0 0 rfl rfl q2 hdg kk
theorem x_zald (S : CallFix p m c cc nL s args xTbl own) (hw : xW E z ω s H0 H locs) {i v : Int32} (hg : xaz ω a i = some v) (hdg : decode cc pc = .ok (.baload, 1))
    (kk : W p l e R s m args below meth c H locs cells slots Q (F0 m (pc + 1) ls (.int v :: rest))) : W p l e R s m args below meth c H locs cells slots Q (F0 m pc ls (.int i :: .ref a :: rest)) := by
  obtain ⟨n, f, q1, q2, rfl⟩ := xaz_spec hg
  have hP : va_P E.1 xCl [(a, .inl (E.2.1 5, n, .inl f))] H := fun j q hj => by
    match j, hj with
    | 0, hj => cases hj; exact (hw.2.1.2.2 a _ q1).2
    | j + 1, hj => simp at hj
  exact va_zald (D := E.1) S.1 S.2.1 (hw.1.k1 (t := 5) xTy_5) hP 0 0 rfl rfl q2 hdg kk
theorem x_lald (S : CallFix p m c cc nL s args xTbl own) (hw : xW E z ω s H0 H locs) {i : Int32} {v : Int64} (hg : xal ω a i = some v) (hdg : decode cc pc = .ok (.laload, 1))
    (kk : W p l e R s m args below meth c H locs cells slots Q (F0 m (pc + 1) ls (.long v :: rest))) : W p l e R s m args below meth c H locs cells slots Q (F0 m pc ls (.int i :: .ref a :: rest)) := by
  obtain ⟨n, f, q1, q2, rfl⟩ := xal_spec hg
  have hP : va_P E.1 xCl [(a, .inl (E.2.1 1, n, .inr (.inl f)))] H := fun j q hj => by
    match j, hj with
    | 0, hj => cases hj; exact (hw.2.1.2.2 a _ q1).2
    | j + 1, hj => simp at hj
  exact va_lald (D := E.1) S.1 S.2.1 (hw.1.k1 (t := 1) xTy_1) hP 0 0 rfl rfl q2 hdg kk
theorem x_aald (S : CallFix p m c cc nL s args xTbl own) (hw : xW E z ω s H0 H locs) {t : Nat} {ty : FieldType} (ht : xTy[t]? = some ty) (href : ty.isReference = true) {i : Int32} {v : Nat} (hg : xar ω t a i = some v) (hdg : decode cc pc = .ok (.aaload, 1))
    (kk : W p l e R s m args below meth c H locs cells slots Q (F0 m (pc + 1) ls (.ref v :: rest))) : W p l e R s m args below meth c H locs cells slots Q (F0 m pc ls (.int i :: .ref a :: rest)) := by
  obtain ⟨n, f, q1, q2, q3⟩ := xar_spec hg
  have hcell : H[a]? = some (arrV (E.2.1 t) n (fun j => va_rf (f j))) := (hw.2.1.2.2 a _ q1).2
  have hlt : i.toNatClampNeg < n := Nat.not_le.mp fun q => q2 (Or.inr q)
  exact W.aald (v := .ref v) (ty := ty) S.1 S.2.1 hcell ((hw.1.2.1 t ty ht).1 n (fun j => va_rf (f j))) href (fun q => by cases q) (by rw [arrV_size]; exact q2) (by rw [arrV_read _ _ hlt, q3]; rfl) rfl rfl hdg kk
theorem x_alen (S : CallFix p m c cc nL s args xTbl own) (hw : xW E z ω s H0 H locs) {v : Int32} (hg : xan ω a = some v) (hdg : decode cc pc = .ok (.arraylength, 1))
    (kk : W p l e R s m args below meth c H locs cells slots Q (F0 m (pc + 1) ls (.int v :: rest))) : W p l e R s m args below meth c H locs cells slots Q (F0 m pc ls (.ref a :: rest)) := by
  obtain ⟨t, x, q1, q2, rfl⟩ := xan_spec hg
  have hP : va_P E.1 xCl [(a, .inl (E.2.1 t, x))] H := fun j q hj => by
    match j, hj with
    | 0, hj => cases hj; exact (hw.2.1.2.2 a _ q1).2
    | j + 1, hj => simp at hj
  exact va_alen (D := E.1) S.1 S.2.1 (hw.1.k1 (t := t) (List.getElem?_eq_getElem q2)) hP 0 0 rfl rfl rfl hdg kk
theorem x_iast (S : CallFix p m c cc nL s args xTbl own) (hw : xW E z ω s H0 H locs) {i v : Int32} (hg : xsi ω a i v = some ω1) (hdg : decode cc pc = .ok (.iastore, 1))
    (kk : ∀ (H1 : Heap) (locs1 : List Loc), xW E z ω1 s H0 H1 locs1 → W p l e R s m args below meth c H1 locs1 cells slots Q (F0 m (pc + 1) ls rest)) : W p l e R s m args below meth c H locs cells slots Q (F0 m pc ls (.int v :: .int i :: .ref a :: rest)) := by
  obtain ⟨n, f, q1, q2, rfl⟩ := xsi_spec hg
  have hcell : H[a]? = some (arrV (E.2.1 0) n (fun j => .int (f j))) := (hw.2.1.2.2 a _ q1).2
  refine W.iast S.1 S.2.1 hcell ((hw.1.2.1 0 _ xTy_0).1 n (fun j => .int (f j))) (fun q => by cases q) (by rw [arrV_size]; exact q2) rfl rfl hdg fun H1 e1 hz oq => ?_
  refine kk H1 _ (hw.put (e := .inl (0, n, .inl (upd f i.toNatClampNeg v))) q1 ?_ hz oq)
  show H1[a]? = some (vp_cell _ _)
  rw [e1, vp_cell_i, arrV_store]
  congr 2
  funext q
  by_cases hq : q = i.toNatClampNeg
  · subst hq
    simp [updV, upd]
  · simp [updV, upd, hq]
theorem x_bast (S : CallFix p m c cc nL s args xTbl own) (hw : xW E z ω s H0 H locs) {i v : Int32} (hg : xsb ω a i v = some ω1) (hdg : decode cc pc = .ok (.bastore, 1))
    (kk : ∀ (H1 : Heap) (locs1 : List Loc), xW E z ω1 s H0 H1 locs1 → W p l e R s m args below meth c H1 locs1 cells slots Q (F0 m (pc + 1) ls rest)) : W p l e R s m args below meth c H locs cells slots Q (F0 m pc ls (.int v :: .int i :: .ref a :: rest)) := by
  obtain ⟨n, f, q1, q2, rfl⟩ := xsb_spec hg
  have hcell : H[a]? = some (arrV (E.2.1 4) n (fun j => .int (f j))) := (hw.2.1.2.2 a _ q1).2
  refine W.bast S.1 S.2.1 hcell ((hw.1.2.1 4 _ xTy_4).1 n (fun j => .int (f j))) (fun q => by cases q) (by rw [arrV_size]; exact q2) rfl rfl hdg fun H1 e1 hz oq => ?_
  refine kk H1 _ (hw.put (e := .inl (4, n, .inl (upd f i.toNatClampNeg (vp_nar .byte v)))) q1 ?_ hz oq)
  show H1[a]? = some (vp_cell _ _)
  rw [e1, vp_cell_i, arrV_store]
  congr 2
  funext q
  by_cases hq : q = i.toNatClampNeg
  · subst hq
    simp [updV, upd, vp_nar]
    try rfl
  · simp [updV, upd, hq]
theorem x_zast (S : CallFix p m c cc nL s args xTbl own) (hw : xW E z ω s H0 H locs) {i v : Int32} (hg : xsz ω a i v = some ω1) (hdg : decode cc pc = .ok (.bastore, 1))
    (kk : ∀ (H1 : Heap) (locs1 : List Loc), xW E z ω1 s H0 H1 locs1 → W p l e R s m args below meth c H1 locs1 cells slots Q (F0 m (pc + 1) ls rest)) : W p l e R s m args below meth c H locs cells slots Q (F0 m pc ls (.int v :: .int i :: .ref a :: rest)) := by
  obtain ⟨n, f, q1, q2, rfl⟩ := xsz_spec hg
  have hcell : H[a]? = some (arrV (E.2.1 5) n (fun j => .int (f j))) := (hw.2.1.2.2 a _ q1).2
  refine W.zast S.1 S.2.1 hcell ((hw.1.2.1 5 _ xTy_5).1 n (fun j => .int (f j))) (fun q => by cases q) (by rw [arrV_size]; exact q2) rfl rfl hdg fun H1 e1 hz oq => ?_
  refine kk H1 _ (hw.put (e := .inl (5, n, .inl (upd f i.toNatClampNeg (vp_nar .boolean v)))) q1 ?_ hz oq)
  show H1[a]? = some (vp_cell _ _)
  rw [e1, vp_cell_i, arrV_store]
  congr 2
  funext q
  by_cases hq : q = i.toNatClampNeg
  · subst hq
    simp [updV, upd, vp_nar]
    try rfl
  · simp [updV, upd, hq]
theorem x_last (S : CallFix p m c cc nL s args xTbl own) (hw : xW E z ω s H0 H locs) {i : Int32} {v : Int64} (hg : xsl ω a i v = some ω1) (hdg : decode cc pc = .ok (.lastore, 1))
    (kk : ∀ (H1 : Heap) (locs1 : List Loc), xW E z ω1 s H0 H1 locs1 → W p l e R s m args below meth c H1 locs1 cells slots Q (F0 m (pc + 1) ls rest)) : W p l e R s m args below meth c H locs cells slots Q (F0 m pc ls (.long v :: .int i :: .ref a :: rest)) := by
  obtain ⟨n, f, q1, q2, rfl⟩ := xsl_spec hg
  have hcell : H[a]? = some (arrV (E.2.1 1) n (fun j => .long (f j))) := (hw.2.1.2.2 a _ q1).2
  refine W.last S.1 S.2.1 hcell ((hw.1.2.1 1 _ xTy_1).1 n (fun j => .long (f j))) (fun q => by cases q) (by rw [arrV_size]; exact q2) rfl rfl hdg fun H1 e1 hz oq => ?_
  refine kk H1 _ (hw.put (e := .inl (1, n, .inr (.inl (vp_updL f i.toNatClampNeg v)))) q1 ?_ hz oq)
  show H1[a]? = some (vp_cell _ _)
  rw [e1, vp_cell_l, arrV_store]
  congr 2
  funext q
  by_cases hq : q = i.toNatClampNeg
  · subst hq
    simp [updV, vp_updL]
  · simp [updV, vp_updL, hq]
/-! ends -/
theorem x_iret (S : CallFix p m c cc nL s args xTbl own) (hr : meth.sig.returnType = some .int) (hlocks : meth.locks = false) (hw : xW E z ω s s.heap H locs) {v : Int32} (hdg : decode cc pc = .ok (.ireturn, 1)) : W p l e R s m args below meth c H locs cells slots (MQ below (xQ E (some (.int v)) z ω) args s cells slots (fun q => E.2.2 ≤ q)) (F0 m pc ls [.int v]) :=
  W.iret S.1 S.2.1 hr (fun t ht _ => ⟨rfl, by rw [ht]; exact hw.2.1, hw.2.2.F ht⟩) hw.2.2.2.2 hdg hlocks
theorem x_zret (S : CallFix p m c cc nL s args xTbl own) (hr : meth.sig.returnType = some .boolean) (hlocks : meth.locks = false) (hw : xW E z ω s s.heap H locs) {v : Int32} (hn : narrow .boolean (.int v) = .int v) (hdg : decode cc pc = .ok (.ireturn, 1)) : W p l e R s m args below meth c H locs cells slots (MQ below (xQ E (some (.int v)) z ω) args s cells slots (fun q => E.2.2 ≤ q)) (F0 m pc ls [.int v]) :=
  W.zret S.1 S.2.1 hr hn (fun t ht _ => ⟨rfl, by rw [ht]; exact hw.2.1, hw.2.2.F ht⟩) hw.2.2.2.2 hdg hlocks
theorem x_lret (S : CallFix p m c cc nL s args xTbl own) (hr : meth.sig.returnType = some .long) (hlocks : meth.locks = false) (hw : xW E z ω s s.heap H locs) {v : Int64} (hdg : decode cc pc = .ok (.lreturn, 1)) : W p l e R s m args below meth c H locs cells slots (MQ below (xQ E (some (.long v)) z ω) args s cells slots (fun q => E.2.2 ≤ q)) (F0 m pc ls [.long v]) :=
  W.lret S.1 S.2.1 hr (fun t ht _ => ⟨rfl, by rw [ht]; exact hw.2.1, hw.2.2.F ht⟩) hw.2.2.2.2 hdg hlocks
theorem x_aret (S : CallFix p m c cc nL s args xTbl own) {rt : FieldType} (hr : meth.sig.returnType = some rt) (hrt : (∃ n, rt = .object n) ∨ ∃ t, rt = .array t) (hlocks : meth.locks = false) (hw : xW E z ω s s.heap H locs) {v : Nat} (hdg : decode cc pc = .ok (.areturn, 1)) : W p l e R s m args below meth c H locs cells slots (MQ below (xQ E (some (.ref v)) z ω) args s cells slots (fun q => E.2.2 ≤ q)) (F0 m pc ls [.ref v]) :=
  W.aret S.1 S.2.1 hr hrt (Or.inr ⟨v, rfl⟩) (fun t ht _ => ⟨rfl, by rw [ht]; exact hw.2.1, hw.2.2.F ht⟩) hw.2.2.2.2 hdg hlocks
theorem x_vret (S : CallFix p m c cc nL s args xTbl own) (hr : meth.sig.returnType = none) (hlocks : meth.locks = false) (hw : xW E z ω s s.heap H locs) (hdg : decode cc pc = .ok (.return_, 1)) : W p l e R s m args below meth c H locs cells slots (MQ below (xQ E none z ω) args s cells slots (fun q => E.2.2 ≤ q)) (F0 m pc ls []) :=
  W.vret S.1 S.2.1 hr (fun t ht _ => ⟨rfl, by rw [ht]; exact hw.2.1, hw.2.2.F ht⟩) hw.2.2.2.2 hdg hlocks
/-! calls: the callee gets the whole world -/
theorem x_run {mc ms : Nat} {st0 : List Value} {av : Array Value} {v : Option Value} (hr : va_Run p l e R s m args below meth c H locs cells slots mc ms (F0 m pc ls st0) rest (xQ E v z1 ω1 av) (fun q => E.2.2 ≤ q)) (hw : xW E z ω s H0 H locs)
    (kk : ∀ (H1 : Heap) (locs1 : List Loc), xW E z1 ω1 s H0 H1 locs1 → W p l e R s m args below meth c H1 locs1 (cells + mc) (slots + ms) Q (F0 m (pc + 3) ls (v.toList ++ rest))) : W p l e R s m args below meth c H locs cells slots Q (F0 m pc ls st0) := by
  intro T hT X
  obtain ⟨v', st₀, t, T', L, h0, X', hL, e1, e2, ⟨hv, hP, hz, hk⟩, st⟩ := hr T hT X
  cases hv
  rw [h0] at hz hk
  have hS := hw.2.2
  obtain ⟨t2, a1, b1⟩ := kk T'.heap (locs ++ L) ⟨hw.1, by rw [e1]; exact hP, Nat.le_trans hS.1 (by rw [e1]; exact hz), fun q h1 h2 => by rw [e1, hk q (Nat.lt_of_lt_of_le h1 hS.1) h2]; exact hS.2.1 q h1 h2, fun q hq => by
      rcases List.mem_append.mp hq with h | h
      · exact hS.2.2 q h
      · exact hL q h⟩ T' rfl X'
  exact ⟨t2, st t2 a1, b1⟩
def xk {α : Type} (ω : xS) (b ci : Nat) (o : Option α) : Option α := match ω b with
  | some (.inr (c, _)) => if c = ci then o else none
  | _ => none
theorem xkb {α : Type} {ω : xS} {b ci : Nat} {o : Option α} {r : α} (h : xk ω b ci o = some r) : (∃ fs, ω b = some (.inr (ci, fs))) ∧ o = some r := by
  unfold xk at h
  split at h
  · rename_i c fs hq
    split at h
    · rename_i hc
      subst hc
      exact ⟨⟨fs, hq⟩, h⟩
    · cases h
  · cases h
/-- an instance method of a class of ours, called on an object of that very class -/
theorem x_callV (S : CallFix p m c cc nL s args xTbl own) (hw : xW E z ω s H0 H locs) {y : MethodName} {bytes : ByteArray} {maxL n : Nat} {ret : Option FieldType} {ws : List Cond} {rm : Room} {C : String} {T : u_T} {N : Nat} {b : Nat} {As st0 st1 : List Value} {v : Option Value}
    (hM : xM l E y ws rm (.ref b :: As) z ω v z1 ω1) (cw : CallW R s args own C index y bytes maxL ret ws rm rm.cells rm.slots n) (hc : xCl[ci]? = some (C, T, N)) (hbc : ∃ fs, ω b = some (.inr (ci, fs)))
    (hn : As.length = n) (hsize : ls.size = nL) (hst : st0 = As.reverse ++ .ref b :: rest) (hst1 : v.toList ++ rest = st1) (hcat : (rest.map fun v => v.category).sum ≤ 8) (hdg : decode cc pc = .ok (.invokevirtual index, 3)) (hf : cells + rm.cells ≤ R.cells ∧ slots + rm.slots ≤ R.slots)
    (kk : ∀ (H1 : Heap) (locs1 : List Loc), xW E z1 ω1 s H0 H1 locs1 → W p l e R s m args below meth c H1 locs1 (cells + rm.cells) (slots + rm.slots) Q (F0 m (pc + 3) ls st1)) : W p l e R s m args below meth c H locs cells slots Q (F0 m pc ls st0) := by
  subst hst1
  obtain ⟨fs, hbc⟩ := hbc
  have hP : va_P E.1 xCl [(b, .inr (ci, fs))] H := fun j q hj => by
    match j, hj with
    | 0, hj => cases hj; exact (hw.2.1.2.2 b _ hbc).2
    | j + 1, hj => simp at hj
  exact x_run (va_runV (As := As) (rest := rest) S hM cw ⟨xB_blind _ _ _ _, va_recv hw.1.k0 hP (q0 := 0) hc rfl, fun U hU hW => ⟨rfl, by rw [hU]; exact hw.1.moved hW hw.2.2, by rw [hU]; exact hw.2.1⟩⟩ rfl hn hsize hst (lv_room hcat) hdg hf) hw kk
/-- a static method of the same class -/
theorem x_callS (S : CallFix p m c cc nL s args xTbl own) (hw : xW E z ω s H0 H locs) {y : MethodName} {bytes : ByteArray} {maxL n : Nat} {ret : Option FieldType} {ws : List Cond} {rm : Room} {As st0 st1 : List Value} {v : Option Value}
    (hM : xM l E y ws rm As z ω v z1 ω1) (cw : CallB R s args own index y bytes maxL ret ws rm rm.cells rm.slots n ∧ (Cond.static y).before args s = true)
    (hn : As.length = n) (hsize : ls.size = nL) (hst : st0 = As.reverse ++ rest) (hst1 : v.toList ++ rest = st1) (hcat : (rest.map fun v => v.category).sum ≤ 8) (hdg : decode cc pc = .ok (.invokestatic index, 3)) (hf : cells + rm.cells ≤ R.cells ∧ slots + rm.slots ≤ R.slots)
    (kk : ∀ (H1 : Heap) (locs1 : List Loc), xW E z1 ω1 s H0 H1 locs1 → W p l e R s m args below meth c H1 locs1 (cells + rm.cells) (slots + rm.slots) Q (F0 m (pc + 3) ls st1)) : W p l e R s m args below meth c H locs cells slots Q (F0 m pc ls st0) := by
  subst hst1
  exact x_run (va_runS (As := As) (rest := rest) S hM cw ⟨xB_blind _ _ _ _, fun U hU hW => ⟨rfl, by rw [hU]; exact hw.1.moved hW hw.2.2, by rw [hU]; exact hw.2.1⟩⟩ rfl hn hsize hst (lv_room hcat) hdg hf) hw kk
end XR
/-- a contract out of the walk of its body -/
theorem x_start {l : Launch} {E : xV} {y : MethodName} {cc : ByteArray} {maxL : Nat} {ret : Option FieldType} {ws : List Cond} {rm : Room} {avs : List Value} {z z1 : Nat} {ω ω1 : xS} {v : Option Value} (hy : plainName y.cls = true) (hws : ws = Cond.code y cc maxL ret :: xTbl) (hlen : (lg_sl avs).length ≤ maxL)
    (body : ∀ (p : Program) (e : Env) (s : State) (m : MethodId) (below : List Frame) (meth : Method) (c : Code), CallFix p m c cc maxL s avs.toArray xTbl y.cls → meth.sig.returnType = ret → meth.locks = false → (y.name = "<init>" → meth.name = "<init>") → ∀ ls : Array Slot, lv_has ls maxL (lv_args 0 avs) → xW E z ω s s.heap s.heap [] →
      W p l e (headSpec ws rm).room s m avs.toArray below meth c s.heap [] 0 0 (MQ below (xQ E v z1 ω1) avs.toArray s rm.cells rm.slots (fun q => E.2.2 ≤ q)) (F0 m 0 ls [])) : xM l E y ws rm avs z ω v z1 ω1 := by
  refine Met.ofW (cc := cc) (maxL := maxL) (ret := ret) hy hws ?_
  intro p e s m args below meth c s₁ B hml hv
  obtain ⟨rfl, hK, hP⟩ := hv
  have hts := atoms_spec (ws := ws) B.pre
  rw [lg_entry_eq]
  exact body p e s m below meth c ⟨B.exec, B.bytes, hml, findClass_of_methodNamed B.named, fun w h => hts w (by rw [hws]; exact List.mem_cons_of_mem _ h)⟩ B.returns B.notSynchronized (fun h => (name_of_methodNamed B.named B.method).1.trans h) _ (lv_entry avs hlen) ⟨hK, hP, va_S.rf⟩
