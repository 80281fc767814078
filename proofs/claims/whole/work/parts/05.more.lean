/-! Math.max and Math.min, Object's constructor, new cells -/
def xMx (own : String) (index : Nat) : Prop := Cond.methodLink own index Lib.Math.max.name ∈ xTbl ∧ Cond.static Lib.Math.max.name ∈ xTbl ∧ Cond.initialized "java/lang/Math" ∈ xTbl ∧ Cond.code Lib.Math.max.name Lib.Math.max.code 2 (some .int) ∈ xTbl
def xMn (own : String) (index : Nat) : Prop := Cond.methodLink own index Lib.Math.min.name ∈ xTbl ∧ Cond.static Lib.Math.min.name ∈ xTbl ∧ Cond.initialized "java/lang/Math" ∈ xTbl ∧ Cond.code Lib.Math.min.name Lib.Math.min.code 2 (some .int) ∈ xTbl
def xMxl (own : String) (index : Nat) : Prop := Cond.methodLink own index Lib.MathLoose.max_long.x ∈ xTbl ∧ Cond.static Lib.MathLoose.max_long.x ∈ xTbl ∧ Cond.initialized "java/lang/Math" ∈ xTbl ∧ Cond.code Lib.MathLoose.max_long.x Lib.MathLoose.max_long.code 4 (some .long) ∈ xTbl
def xOb (own : String) (index : Nat) : Prop := Cond.methodLink own index Lib.objectInit ∈ xTbl ∧ Cond.instanceMethod Lib.objectInit ∈ xTbl ∧ Cond.code Lib.objectInit ⟨#[0xb1]⟩ 1 none ∈ xTbl
section XR2
variable {p : Program} {l : Launch} {e : Env} {R : Room} {s : State} {m : MethodId} {args : Array Value} {below : List Frame} {meth : Method} {c : Code} {H : Heap} {locs : List Loc} {cells slots : Nat} {Q : State → Prop}
variable {cc : ByteArray} {nL : Nat} {own : String} {pc : Nat} {ls : Array Slot} {rest : List Value} {E : xV} {z z1 : Nat} {ω ω1 : xS} {H0 : Heap} {a : Nat} {index ci k : Nat}
theorem x_mmax (S : CallFix p m c cc nL s args xTbl own) (hsz : ls.size = nL) (hl : xMx own index) {x y : Int32} (hdg : decode cc pc = .ok (.invokestatic index, 3)) (hframes : 1 ≤ R.frames) (hlocals : (rest.map fun v => v.category).sum + 13 ≤ R.locals) (hc : cells ≤ R.cells) (hs : slots ≤ R.slots)
    (kk : W p l e R s m args below meth c H locs cells slots Q (F0 m (pc + 3) ls (.int (xmax x y) :: rest))) : W p l e R s m args below meth c H locs cells slots Q (F0 m pc ls (.int y :: .int x :: rest)) :=
  va_mmax S.1 S.2.1 (by rw [S.2.2.1, hsz]) S.2.2.2.1 (S.2.2.2.2 _ hl.1) (S.2.2.2.2 _ hl.2.1) (S.2.2.2.2 _ hl.2.2.1) (S.2.2.2.2 _ hl.2.2.2) hframes hlocals hc hs hdg kk
theorem x_mmin (S : CallFix p m c cc nL s args xTbl own) (hsz : ls.size = nL) (hl : xMn own index) {x y : Int32} (hdg : decode cc pc = .ok (.invokestatic index, 3)) (hframes : 1 ≤ R.frames) (hlocals : (rest.map fun v => v.category).sum + 13 ≤ R.locals) (hc : cells ≤ R.cells) (hs : slots ≤ R.slots)
    (kk : W p l e R s m args below meth c H locs cells slots Q (F0 m (pc + 3) ls (.int (xmin x y) :: rest))) : W p l e R s m args below meth c H locs cells slots Q (F0 m pc ls (.int y :: .int x :: rest)) :=
  va_mmin S.1 S.2.1 (by rw [S.2.2.1, hsz]) S.2.2.2.1 (S.2.2.2.2 _ hl.1) (S.2.2.2.2 _ hl.2.1) (S.2.2.2.2 _ hl.2.2.1) (S.2.2.2.2 _ hl.2.2.2) hframes hlocals hc hs hdg kk
theorem x_mmaxl (S : CallFix p m c cc nL s args xTbl own) (hsz : ls.size = nL) (hl : xMxl own index) {x y : Int64} (hdg : decode cc pc = .ok (.invokestatic index, 3)) (hframes : 1 ≤ R.frames) (hlocals : (rest.map fun v => v.category).sum + 15 ≤ R.locals) (hc : cells ≤ R.cells) (hs : slots ≤ R.slots)
    (kk : W p l e R s m args below meth c H locs cells slots Q (F0 m (pc + 3) ls (.long (xmaxl x y) :: rest))) : W p l e R s m args below meth c H locs cells slots Q (F0 m pc ls (.long y :: .long x :: rest)) :=
  va_mmax_long S.1 S.2.1 (by rw [S.2.2.1, hsz]) S.2.2.2.1 (S.2.2.2.2 _ hl.1) (S.2.2.2.2 _ hl.2.1) (S.2.2.2.2 _ hl.2.2.1) (S.2.2.2.2 _ hl.2.2.2) hframes hlocals hc hs hdg kk
theorem x_obj (S : CallFix p m c cc nL s args xTbl own) (hsz : ls.size = nL) (hl : xOb own index) (hdg : decode cc pc = .ok (.invokespecial index, 3)) (hframes : 1 ≤ R.frames) (hlocals : 2 * (F0 m pc ls (.ref a :: rest)).monitorRoom + (rest.map fun v => v.category).sum + 12 ≤ R.locals)
    (kk : W p l e R s m args below meth c H locs cells slots Q (F0 m (pc + 3) ls rest)) : W p l e R s m args below meth c H locs cells slots Q (F0 m pc ls (.ref a :: rest)) :=
  W.objInit S.1 S.2.1 S.2.2.2.1 (S.2.2.2.2 _ hl.1) (S.2.2.2.2 _ hl.2.1) (S.2.2.2.2 _ hl.2.2) rfl (by rw [S.2.2.1]; exact hsz) rfl hdg hframes hlocals kk
end XR2
/-! new cells: the next one lies at z -/
theorem xP.push {E : xV} {z : Nat} {ω : xS} {H H1 : Heap} {e : xE} (h : xP E z ω H) (he : x_at E z e H1) (hz : H1.size = z + 1) (o1 : ∀ q : Nat, q < z → H1[q]? = H[q]?) : xP E (z + 1) (xu ω z e) H1 := by
  refine ⟨hz, Nat.le_succ_of_le h.2.1, fun b f hb => ?_⟩
  by_cases hab : b = z
  · subst hab
    rw [xu_self] at hb
    cases hb
    exact ⟨h.2.1, he⟩
  · rw [xu_ne _ _ hab] at hb
    have hlt := (h.2.2 b f hb).2.lt
    rw [h.1] at hlt
    exact ⟨(h.2.2 b f hb).1, (h.2.2 b f hb).2.kept (o1 b hlt)⟩
theorem xW.push {E : xV} {z : Nat} {ω : xS} {s : State} {H0 H H1 : Heap} {locs : List Loc} {e : xE} (h : xW E z ω s H0 H locs) (he : x_at E z e H1) (hz : H1.size = z + 1) (o1 : ∀ q : Nat, q < z → H1[q]? = H[q]?) : xW E (z + 1) (xu ω z e) s H0 H1 locs := by
  have hs := h.2.1.1
  refine ⟨h.1, h.2.1.push he hz o1, ⟨?_, fun q h1 h2 => ?_, h.2.2.2.2⟩⟩
  · have := h.2.2.1
    omega
  · have := h.2.2.1
    rw [o1 q (by omega)]
    exact h.2.2.2.1 q h1 h2
def xNw (own : String) (index ci N : Nat) (fs : List Value) : Prop := ∃ (C : String) (T : u_T) (ty0 : Nat → FieldType), xCl[ci]? = some (C, T, N) ∧ (∀ w ∈ u_ws C T N, w ∈ xTbl) ∧ (∀ k, k < N → parseFieldDescriptor (T k).2.2.1 = some (ty0 k)) ∧ (∀ j, j < N → defaultValue (ty0 j) = vp_V fs j) ∧ Cond.classLink own index C ∈ xTbl ∧ Cond.instantiable C N ∈ xTbl ∧ Cond.initialized C ∈ xTbl
def xLf (own : String) (index ci k : Nat) (ty : FieldType) : Prop := ∃ (C : String) (T : u_T) (N : Nat) (ty0 : Nat → FieldType), xCl[ci]? = some (C, T, N) ∧ k < N ∧ (∀ w ∈ u_ws C T N, w ∈ xTbl) ∧ Cond.fieldLink own index (T k).1 (T k).2.1 (T k).2.2.1 ∈ xTbl ∧ (∀ k, k < N → parseFieldDescriptor (T k).2.2.1 = some (ty0 k)) ∧ (∀ a, a < N → ∀ b, b < N → a ≠ b → (T a).2.1 ≠ (T b).2.1) ∧ (T k).2.2.2 = true ∧ (T k).1 = own ∧ parseFieldDescriptor (T k).2.2.1 = some ty
section XR3
variable {p : Program} {l : Launch} {e : Env} {R : Room} {s : State} {m : MethodId} {args : Array Value} {below : List Frame} {meth : Method} {c : Code} {H : Heap} {locs : List Loc} {cells slots : Nat} {Q : State → Prop}
variable {cc : ByteArray} {nL : Nat} {own : String} {pc : Nat} {ls : Array Slot} {rest : List Value} {E : xV} {z z1 : Nat} {ω ω1 : xS} {H0 : Heap} {a : Nat} {index ci k : Nat}
theorem x_new (S : CallFix p m c cc nL s args xTbl own) (hw : xW E z ω s H0 H locs) {N : Nat} {fs : List Value} (hl : xNw own index ci N fs) (hu : ω1 = xu ω z (.inr (ci, fs))) (hcells : cells + 1 ≤ R.cells) (hslots : slots + N ≤ R.slots) (hdg : decode cc pc = .ok (.new index, 3))
    (kk : ∀ H1 : Heap, xW E (z + 1) ω1 s H0 H1 locs → W p l e R s m args below meth c H1 locs (cells + 1) (slots + N) Q (F0 m (pc + 3) ls (.ref z :: rest))) : W p l e R s m args below meth c H locs cells slots Q (F0 m pc ls rest) := by
  subst hu
  obtain ⟨C, T, ty0, hc, hin, hty, hfs, h1, h2, h3⟩ := hl
  obtain ⟨hx, hb, hml, hown, hts⟩ := S
  have hKn := hw.1.1 ci _ hc
  refine W.newcK hx hb hown (hts _ h1) (hts _ h2) (hts _ h3) rfl hdg hcells hslots hKn.2.1 hw.2.1.1 fun H1 kC hkC e1 hz o1 => ?_
  exact kk H1 (hw.push (e := .inr (ci, fs)) ⟨_, hc, (u_born ty0 hts hin hKn hkC e1 hty).to hfs⟩ hz (fun q hq => o1 q hq))
theorem x_putF (S : CallFix p m c cc nL s args xTbl own) (hi2 : meth.name = "<init>") (hw : xW E z ω s H0 H locs) {ty : FieldType} (hl : xLf own index ci k ty) {v : Value} (hn : narrow ty v = v) (hfit : fits ty v = true) (hp : xp ω a ci k v = some ω1) (hdg : decode cc pc = .ok (.putfield index, 3))
    (kk : ∀ (H1 : Heap) (locs1 : List Loc), xW E z ω1 s H0 H1 locs1 → W p l e R s m args below meth c H1 locs1 cells slots Q (F0 m (pc + 3) ls rest)) : W p l e R s m args below meth c H locs cells slots Q (F0 m pc ls (v :: .ref a :: rest)) := by
  obtain ⟨C, T, N, ty0, hc, hk, hin, hlk, hty, hnm, hfin, hdecl, hd⟩ := hl
  obtain ⟨fs, he, hlen, rfl⟩ := xp_spec hp
  obtain ⟨hx, hb, hml, hown, hts⟩ := S
  have hap := va_apart (own := own) hts hin ty0 hty hnm hw.1.k0 hc
  obtain ⟨r, h1, cell, q1, q2, q3, q4⟩ := (hw.2.1.2.2 a _ he).2
  have hr : r = (C, T, N) := Option.some.inj (h1.symm.trans hc)
  subst hr
  obtain ⟨hS, hfc, kC, hkC, hkind⟩ := hw.1.1 ci _ hc
  obtain ⟨cf, kf, fi, f, hi, hsl⟩ := hS k hk
  have hlay := hts _ (hin _ (u_in_lay hk))
  unfold u_lay at hlay
  rw [if_pos hfin] at hlay
  have hst := (u_facts hfc hkC (u_lays hts hin hk) hi).1
  have hcf : m.cls = cf := by
    obtain ⟨_, _, c', _, _, _, -, -, hf', -, -, -, hown2, -⟩ := Cond.laysFinal_spec hlay
    have e1 : c' = cf := by have := hi.symm.trans hf'; simp at this; exact this.1.symm
    rw [hdecl] at hown2
    rw [← e1]; exact Option.some.inj (hown.symm.trans hown2)
  have h6 := u_fits hfc hkC hkind (Or.inr hlay) hi hd hn hfit
  refine W.putFinK hx hb hown (hts _ hlk) hi hst hcf hi2 (by rw [q2]; exact h6) q1 q3 (by rw [hsl]; exact k2_hasslot (q4 k hk)) rfl rfl hdg fun H' e1 e2 e3 => ?_
  rw [hsl] at e1 ⊢
  exact kk H' _ (hw.put (e := .inr (ci, fs.set k v)) he ⟨_, hc, t_OB.to (V := updV (vp_V fs) k v) ⟨_, e1, q2, q3, t_set q4 hap hk v⟩ (fun j _ => vp_updV_set hlen v j)⟩ e2 e3)
theorem x_newi (S : CallFix p m c cc nL s args xTbl own) (hw : xW E z ω s H0 H locs) (harr : Cond.arrayClass .int ∈ xTbl) {n : Int32} {N : Nat} (hn : ¬ n < 0) (hN : n.toNatClampNeg = N) (hbytes : N * 4 ≤ 536870912) (hu : ω1 = xu ω z (.inl (0, N, .inl (fun _ => 0)))) (hcells : cells + 1 ≤ R.cells) (hslots : slots + N ≤ R.slots) (hdg : decode cc pc = .ok (.newarray .int, 2))
    (kk : ∀ H1 : Heap, xW E (z + 1) ω1 s H0 H1 locs → W p l e R s m args below meth c H1 locs (cells + 1) (slots + N) Q (F0 m (pc + 2) ls (.ref z :: rest))) : W p l e R s m args below meth c H locs cells slots Q (F0 m pc ls (.int n :: rest)) := by
  subst hu
  obtain ⟨hx, hb, hml, hown, hts⟩ := S
  refine va_newaK hx hb (atype := .int) (hts _ harr) rfl hdg rfl hn hN hbytes hcells hslots hw.2.1.1 fun H1 cA e1 hz o1 hAr hNm => ?_
  have hcA : cA = E.2.1 0 := Option.some.inj (hNm.symm.trans (hw.1.2.1 0 _ xTy_0).2)
  subst hcA
  exact kk H1 (hw.push (e := .inl (0, N, .inl (fun _ => 0))) e1 hz o1)
theorem x_newl (S : CallFix p m c cc nL s args xTbl own) (hw : xW E z ω s H0 H locs) (harr : Cond.arrayClass .long ∈ xTbl) {n : Int32} {N : Nat} (hn : ¬ n < 0) (hN : n.toNatClampNeg = N) (hbytes : N * 8 ≤ 536870912) (hu : ω1 = xu ω z (.inl (1, N, .inr (.inl (fun _ => 0))))) (hcells : cells + 1 ≤ R.cells) (hslots : slots + N ≤ R.slots) (hdg : decode cc pc = .ok (.newarray .long, 2))
    (kk : ∀ H1 : Heap, xW E (z + 1) ω1 s H0 H1 locs → W p l e R s m args below meth c H1 locs (cells + 1) (slots + N) Q (F0 m (pc + 2) ls (.ref z :: rest))) : W p l e R s m args below meth c H locs cells slots Q (F0 m pc ls (.int n :: rest)) := by
  subst hu
  obtain ⟨hx, hb, hml, hown, hts⟩ := S
  refine va_newaK hx hb (atype := .long) (hts _ harr) rfl hdg rfl hn hN hbytes hcells hslots hw.2.1.1 fun H1 cA e1 hz o1 hAr hNm => ?_
  have hcA : cA = E.2.1 1 := Option.some.inj (hNm.symm.trans (hw.1.2.1 1 _ xTy_1).2)
  subst hcA
  exact kk H1 (hw.push (e := .inl (1, N, .inr (.inl (fun _ => 0)))) e1 hz o1)
/-- a constructor of ours; its object lies on the stack -/
theorem x_callI (S : CallFix p m c cc nL s args xTbl own) (hw : xW E z ω s H0 H locs) {y : MethodName} {bytes : ByteArray} {maxL n : Nat} {ws : List Cond} {rm : Room} {b : Nat} {As st0 : List Value}
    (hM : xM l E y ws rm (.ref b :: As) z ω none z1 ω1) (cw : CallB R s args own index y bytes maxL none ws rm rm.cells rm.slots n ∧ y.name = "<init>" ∧ (Cond.instanceMethod y).before args s = true)
    (hn : As.length = n) (hsize : ls.size = nL) (hst : st0 = As.reverse ++ .ref b :: rest) (hcat : (rest.map fun v => v.category).sum ≤ 8) (hdg : decode cc pc = .ok (.invokespecial index, 3)) (hf : cells + rm.cells ≤ R.cells ∧ slots + rm.slots ≤ R.slots)
    (kk : ∀ (H1 : Heap) (locs1 : List Loc), xW E z1 ω1 s H0 H1 locs1 → W p l e R s m args below meth c H1 locs1 (cells + rm.cells) (slots + rm.slots) Q (F0 m (pc + 3) ls rest)) : W p l e R s m args below meth c H locs cells slots Q (F0 m pc ls st0) :=
  x_run (va_runI (As := As) (rest := rest) S hM cw ⟨xB_blind _ _ _ _, fun U hU hW => ⟨rfl, hw.1.moved hW, by rw [hU]; exact hw.2.1⟩⟩ rfl hn hsize hst (lv_room hcat) hdg hf) hw kk
theorem x_callIN (S : CallFix p m c cc nL s args xTbl own) (hw : xW E z ω s H0 H locs) {y : MethodName} {bytes : ByteArray} {maxL n : Nat} {ws : List Cond} {rm : Room} {host : String} {b : Nat} {As st0 : List Value}
    (hM : xM l E y ws rm (.ref b :: As) z ω none z1 ω1) (cw : va_CN R s args own index y host bytes maxL none ws rm rm.cells rm.slots n ∧ y.name = "<init>" ∧ (Cond.instanceMethod y).before args s = true)
    (hn : As.length = n) (hsize : ls.size = nL) (hst : st0 = As.reverse ++ .ref b :: rest) (hcat : (rest.map fun v => v.category).sum ≤ 8) (hdg : decode cc pc = .ok (.invokespecial index, 3)) (hf : cells + rm.cells ≤ R.cells ∧ slots + rm.slots ≤ R.slots)
    (kk : ∀ (H1 : Heap) (locs1 : List Loc), xW E z1 ω1 s H0 H1 locs1 → W p l e R s m args below meth c H1 locs1 (cells + rm.cells) (slots + rm.slots) Q (F0 m (pc + 3) ls rest)) : W p l e R s m args below meth c H locs cells slots Q (F0 m pc ls st0) :=
  x_run (va_runIN (As := As) (rest := rest) S hM cw ⟨xB_blind _ _ _ _, fun U hU hW => ⟨rfl, hw.1.moved hW, by rw [hU]; exact hw.2.1⟩⟩ rfl hn hsize hst (lv_room hcat) hdg hf) hw kk
end XR3

theorem xGI {y : MethodName} {b : ByteArray} {n : Nat} {r : Option FieldType} (h5 : Cond.code y b n r ∈ xTbl) : GoodIn xTbl (Cond.code y b n r :: xTbl) := fun w hw => by
  rcases List.mem_cons.mp hw with rfl | hw
  · exact ⟨h5, xTbl_good _ h5⟩
  · exact ⟨hw, xTbl_good _ hw⟩
theorem xGV {own C : String} {index : Nat} {y : MethodName} {b : ByteArray} {n : Nat} {r : Option FieldType} (h1 : Cond.methodLink own index y ∈ xTbl) (h2 : Cond.instanceMethod y ∈ xTbl) (h3 : Cond.selects C y y ∈ xTbl) (h4 : Cond.initialized C ∈ xTbl) (h5 : Cond.code y b n r ∈ xTbl) : GoodIn xTbl (wsV own index C y (Cond.code y b n r :: xTbl)) := fun w hw => by
  unfold wsV at hw
  rcases List.mem_append.mp hw with hw | hw
  · simp only [List.mem_cons, List.not_mem_nil, or_false] at hw
    rcases hw with rfl | rfl | rfl | rfl
    · exact ⟨h1, xTbl_good _ h1⟩
    · exact ⟨h2, xTbl_good _ h2⟩
    · exact ⟨h3, xTbl_good _ h3⟩
    · exact ⟨h4, xTbl_good _ h4⟩
  · exact xGI h5 w hw
theorem xGS {own : String} {index : Nat} {y : MethodName} {b : ByteArray} {n : Nat} {r : Option FieldType} (h1 : Cond.methodLink own index y ∈ xTbl) (h2 : Cond.static y ∈ xTbl) (h3 : Cond.initialized own ∈ xTbl) (h5 : Cond.code y b n r ∈ xTbl) : GoodIn xTbl (wsS own index y (Cond.code y b n r :: xTbl)) := fun w hw => by
  unfold wsS at hw
  rcases List.mem_append.mp hw with hw | hw
  · simp only [List.mem_cons, List.not_mem_nil, or_false] at hw
    rcases hw with rfl | rfl | rfl
    · exact ⟨h1, xTbl_good _ h1⟩
    · exact ⟨h2, xTbl_good _ h2⟩
    · exact ⟨h3, xTbl_good _ h3⟩
  · exact xGI h5 w hw
theorem xe1 {α : Type} {a c : α} (h : some a = some c) : c = a := (Option.some.inj h).symm
theorem xe2 {α β : Type} {a c : α} {b d : β} (h : some (a, b) = some (c, d)) : c = a ∧ d = b := ⟨(congrArg Prod.fst (Option.some.inj h)).symm, (congrArg Prod.snd (Option.some.inj h)).symm⟩
