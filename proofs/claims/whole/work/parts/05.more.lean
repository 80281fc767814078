/-! Math.max and Math.min, Object's constructor, new cells -/
def xMx (own : String) (index : Nat) : Prop := Cond.methodLink own index Lib.Math.max.name ∈ xTbl ∧ Cond.static Lib.Math.max.name ∈ xTbl ∧ Cond.initialized "java/lang/Math" ∈ xTbl ∧ Cond.code Lib.Math.max.name Lib.Math.max.code 2 (some .int) ∈ xTbl
def xMn (own : String) (index : Nat) : Prop := Cond.methodLink own index Lib.Math.min.name ∈ xTbl ∧ Cond.static Lib.Math.min.name ∈ xTbl ∧ Cond.initialized "java/lang/Math" ∈ xTbl ∧ Cond.code Lib.Math.min.name Lib.Math.min.code 2 (some .int) ∈ xTbl
def xMxl (own : String) (index : Nat) : Prop := Cond.methodLink own index Lib.MathLoose.max_long.x ∈ xTbl ∧ Cond.static Lib.MathLoose.max_long.x ∈ xTbl ∧ Cond.initialized "java/lang/Math" ∈ xTbl ∧ Cond.code Lib.MathLoose.max_long.x Lib.MathLoose.max_long.code 4 (some .long) ∈ xTbl
def xOb (own : String) (index : Nat) : Prop := Cond.methodLink own index Lib.objectInit ∈ xTbl ∧ Cond.instanceMethod Lib.objectInit ∈ xTbl ∧ Cond.code Lib.objectInit ⟨#[0xb1]⟩ 1 none ∈ xTbl
section XR2
variable {p : Program} {l : Launch} {e : Env} {R : Room} {s : State} {m : MethodId} {args : Array Value} {below : List Frame} {meth : Method} {c : Code} {H : Heap} {locs : List Loc} {cells slots : Nat} {Q : State → Prop}
variable {cc : ByteArray} {nL : Nat} {own : String} {pc : Nat} {ls : Array Slot} {rest : List Value} {E : xV} {z z1 : Nat} {ω ω1 : xS} {H0 : Heap} {a : Nat} {index ci k : Nat}
theorem x_mmax (S : CallFix p m c cc nL s args xTbl own) (hsz : ls.size = nL) (hl : xMx own index) {x y : Int32} (hdg : decode cc pc = .ok (.invokestatic index, 3)) (hframes : 1 ≤ R.frames) (hlocals : (rest.map fun v => v.category).sum + 13 ≤ R.locals) (hc : cells ≤ R.cells) (hs : slots ≤ R.slots)
    (kk : W p l e R s m args below meth c H locs cells slots Q (F0 m (pc + 3) ls (.int (xmax x y) :: rest))) : W p l e R s m args below meth c H locs cells slots Q (F0 m pc ls (.int y :: .int x :: rest)) :=
  va_mmax S.1 S.2.1 (by rw [S.2.2.1, hsz]) S.2.2.2.1 (S.2.2.2.2 _ hl.1) (S.2.2.2.2 _ hl.2.1) (S.2.2.2.2 _ hl.2.2.1) (S.2.2.2.2 _ hl.2.2.2) hframes hlocals hc hs hdg kk
theorem x_mmin (S : CallFix p m c cc nL s args xTbl own) (hsz : ls.size = nL) (hl : xMn own index) {x y : Int32} (hdg : decode cc pc = .ok (.invokestatic index, 3)) (hframes : 1 ≤ R.frames) (hlocals : (rest.map fun v => v.category).sum + 13 ≤ R.locals) (hc : cells ≤ R.cells) (hs : slots ≤ R.slots)
    (kk : W p l e R s m args below meth c H locs cells slots Q (F0 m (pc + 3) ls (.int (xmin x y) :: rest))) : W p l e R s m args below meth c H locs cells slots Q (F0 m pc ls (.int y :: .int x :: rest)) :=
  va_mmin S.1 S.2.1 (by rw [S.2.2.1, hsz]) S.2.2.2.1 (S.2.2.2.2 _ hl.1) (S.2.2.2.2 _ hl.2.1) (S.2.2.2.2 _ hl.2.2.1) (S.2.2.2.2 _ hl.2.2.2) hframes hlocals hc hs hdg kk
theorem x_mmaxl (S : CallFix p m c cc nL s args xTbl own) (hsz : ls.size = nL) (hl : xMxl own index) {x y : Int64} (hdg : decode cc pc = .ok (.invokestatic index, 3)) (hframes : 1 ≤ R.frames) (hlocals : (rest.map fun v => v.category).sum + 15 ≤ R.locals) (hc : cells ≤ R.cells) (hs : slots ≤ R.slots)
    (kk : W p l e R s m args below meth c H locs cells slots Q (F0 m (pc + 3) ls (.long (xmaxl x y) :: rest))) : W p l e R s m args below meth c H locs cells slots Q (F0 m pc ls (.long y :: .long x :: rest)) :=
  va_mmax_long S.1 S.2.1 (by rw [S.2.2.1, hsz]) S.2.2.2.1 (S.2.2.2.2 _ hl.1) (S.2.2.2.2 _ hl.2.1) (S.2.2.2.2 _ hl.2.2.1) (S.2.2.2.2 _ hl.2.2.2) hframes hlocals hc hs hdg kk
theorem x_obj (S : CallFix p m c cc nL s args xTbl own) (hsz : ls.size = nL) (hl : xOb own index) (hdg : decode cc pc = .ok (.invokespecial index, 3)) (hframes : 1 ≤ R.frames) (hlocals : 2 * (F0 m pc ls (.ref a :: rest)).monitorRoom + (rest.map fun v => v.category).sum + 12 ≤ R.locals)
    (kk : W p l e R s m args below meth c H locs cells slots Q (F0 m (pc + 3) ls rest)) : W p l e R s m args below meth c H locs cells slots Q (F0 m pc ls (.ref a :: rest)) :=
  W.objInit S.1 S.2.1 S.2.2.2.1 (S.2.2.2.2 _ hl.1) (S.2.2.2.2 _ hl.2.1) (S.2.2.2.2 _ hl.2.2) rfl (by rw [S.2.2.1]; exact hsz) rfl hdg hframes hlocals kk
end XR2
/-! new cells: the next one lies at z -/
theorem xP.push {E : xV} {z : Nat} {ω : xS} {H H1 : Heap} {e : xE} (h : xP E z ω H) (he : x_at E z e H1) (hz : H1.size = z + 1) (o1 : ∀ q : Nat, q < z → H1[q]? = H[q]?) : xP E (z + 1) (xu ω z e) H1 := by
  refine ⟨hz, Nat.le_succ_of_le h.2.1, fun b f hb => ?_⟩
  by_cases hab : b = z
  · subst hab
    rw [xu_self] at hb
    cases hb
    exact ⟨h.2.1, he⟩
  · rw [xu_ne _ _ hab] at hb
    have hlt := (h.2.2 b f hb).2.lt
    rw [h.1] at hlt
    exact ⟨(h.2.2 b f hb).1, (h.2.2 b f hb).2.kept (o1 b hlt)⟩
theorem xW.push {E : xV} {z : Nat} {ω : xS} {s : State} {H0 H H1 : Heap} {locs : List Loc} {e : xE} (h : xW E z ω s H0 H locs) (he : x_at E z e H1) (hz : H1.size = z + 1) (o1 : ∀ q : Nat, q < z → H1[q]? = H[q]?) : xW E (z + 1) (xu ω z e) s H0 H1 locs := by
  have hs := h.2.1.1
  refine ⟨h.1, h.2.1.push he hz o1, ⟨?_, fun q h1 h2 => ?_, h.2.2.2.2⟩⟩
  · have := h.2.2.1
    omega
  · have := h.2.2.1
    rw [o1 q (by omega)]
    exact h.2.2.2.1 q h1 h2
def xNw (own : String) (index ci N : Nat) (fs : List Value) : Prop := ∃ (C : String) (T : u_T) (ty0 : Nat → FieldType), xCl[ci]? = some (C, T, N) ∧ (∀ w ∈ u_ws C T N, w ∈ xTbl) ∧ (∀ k, k < N → parseFieldDescriptor (T k).2.2.1 = some (ty0 k)) ∧ (∀ j, j < N → defaultValue (ty0 j) = vp_V fs j) ∧ Cond.classLink own index C ∈ xTbl ∧ Cond.instantiable C N ∈ xTbl ∧ Cond.initialized C ∈ xTbl
def xLf (own : String) (index ci k : Nat) (ty : FieldType) : Prop := ∃ (C : String) (T : u_T) (N : Nat) (ty0 : Nat → FieldType), xCl[ci]? = some (C, T, N) ∧ k < N ∧ (∀ w ∈ u_ws C T N, w ∈ xTbl) ∧ Cond.fieldLink own index (T k).1 (T k).2.1 (T k).2.2.1 ∈ xTbl ∧ (∀ k, k < N → parseFieldDescriptor (T k).2.2.1 = some (ty0 k)) ∧ (∀ a, a < N → ∀ b, b < N → a ≠ b → (T a).2.1 ≠ (T b).2.1) ∧ (T k).2.2.2 = true ∧ (T k).1 = own ∧ parseFieldDescriptor (T k).2.2.1 = some ty
section XR3
variable {p : Program} {l : Launch} {e : Env} {R : Room} {s : State} {m : MethodId} {args : Array Value} {below : List Frame} {meth : Method} {c : Code} {H : Heap} {locs : List Loc} {cells slots : Nat} {Q : State → Prop}
variable {cc : ByteArray} {nL : Nat} {own : String} {pc : Nat} {ls : Array Slot} {rest : List Value} {E : xV} {z z1 : Nat} {ω ω1 : xS} {H0 : Heap} {a : Nat} {index ci k : Nat}
theorem x_new (S : CallFix p m c cc nL s args xTbl own) (hw : xW E z ω s H0 H locs) {N : Nat} {fs : List Value} (hl : xNw own index ci N fs) (hu : ω1 = xu ω z (.inr (ci, fs))) (hcells : cells + 1 ≤ R.cells) (hslots : slots + N ≤ R.slots) (hdg : decode cc pc = .ok (.new index, 3))
    (kk : ∀ H1 : Heap, xW E (z + 1) ω1 s H0 H1 locs → W p l e R s m args below meth c H1 locs (cells + 1) (slots + N) Q (F0 m (pc + 3) ls (.ref z :: rest))) : W p l e R s m args below meth c H locs cells slots Q (F0 m pc ls rest) := by
  subst hu
  obtain ⟨C, T, ty0, hc, hin, hty, hfs, h1, h2, h3⟩ := hl
  obtain ⟨hx, hb, hml, hown, hts⟩ := S
  have hKn := hw.1.1 ci _ hc
  refine W.newcK hx hb hown (hts _ h1) (hts _ h2) (hts _ h3) rfl hdg hcells hslots hKn.2.1 hw.2.1.1 fun H1 kC hkC e1 hz o1 => ?_
  exact kk H1 (hw.push (e := .inr (ci, fs)) ⟨_, hc, (u_born ty0 hts hin hKn hkC e1 hty).to hfs⟩ hz (fun q hq => o1 q hq))
theorem x_putF (S : CallFix p m c cc nL s args xTbl own) (hi2 : meth.name = "<init>") (hw : xW E z ω s H0 H locs) {ty : FieldType} (hl : xLf own index ci k ty) {v : Value} (hn : narrow ty v = v) (hfit : fits ty v = true) (hp : xp ω a ci k v = some ω1) (hdg : decode cc pc = .ok (.putfield index, 3))
    (kk : ∀ (H1 : Heap) (locs1 : List Loc), xW E z ω1 s H0 H1 locs1 → W p l e R s m args below meth c H1 locs1 cells slots Q (F0 m (pc + 3) ls rest)) : W p l e R s m args below meth c H locs cells slots Q (F0 m pc ls (v :: .ref a :: rest)) := by
  obtain ⟨C, T, N, ty0, hc, hk, hin, hlk, hty, hnm, hfin, hdecl, hd⟩ := hl
  obtain ⟨fs, he, hlen, rfl⟩ := xp_spec hp
  obtain ⟨hx, hb, hml, hown, hts⟩ := S
  have hap := va_apart (own := own) hts hin ty0 hty hnm hw.1.k0 hc
  obtain ⟨r, h1, cell, q1, q2, q3, q4⟩ := (hw.2.1.2.2 a _ he).2
  have hr : r = (C, T, N) := Option.some.inj (h1.symm.trans hc)
  subst hr
  obtain ⟨hS, hfc, kC, hkC, hkind⟩ := hw.1.1 ci _ hc
  obtain ⟨cf, kf, fi, f, hi, hsl⟩ := hS k hk
  have hlay := hts _ (hin _ (u_in_lay hk))
  unfold u_lay at hlay
  rw [if_pos hfin] at hlay
  have hst := (u_facts hfc hkC (u_lays hts hin hk) hi).1
  have hcf : m.cls = cf := by
    obtain ⟨_, _, c', _, _, _, -, -, hf', -, -, -, hown2, -⟩ := Cond.laysFinal_spec hlay
    have e1 : c' = cf := by have := hi.symm.trans hf'; simp at this; exact this.1.symm
    rw [hdecl] at hown2
    rw [← e1]; exact Option.some.inj (hown.symm.trans hown2)
  have h6 := u_fits hfc hkC hkind (Or.inr hlay) hi hd hn hfit
  refine W.putFinK hx hb hown (hts _ hlk) hi hst hcf hi2 (by rw [q2]; exact h6) q1 q3 (by rw [hsl]; exact k2_hasslot (q4 k hk)) rfl rfl hdg fun H' e1 e2 e3 => ?_
  rw [hsl] at e1 ⊢
  exact kk H' _ (hw.put (e := .inr (ci, fs.set k v)) he ⟨_, hc, t_OB.to (V := updV (vp_V fs) k v) ⟨_, e1, q2, q3, t_set q4 hap hk v⟩ (fun j _ => vp_updV_set hlen v j)⟩ e2 e3)
theorem x_newi (S : CallFix p m c cc nL s args xTbl own) (hw : xW E z ω s H0 H locs) (harr : Cond.arrayClass .int ∈ xTbl) {n : Int32} {N : Nat} (hn : ¬ n < 0) (hN : n.toNatClampNeg = N) (hbytes : N * 4 ≤ 536870912) (hu : ω1 = xu ω z (.inl (0, N, .inl (fun _ => 0)))) (hcells : cells + 1 ≤ R.cells) (hslots : slots + N ≤ R.slots) (hdg : decode cc pc = .ok (.newarray .int, 2))
    (kk : ∀ H1 : Heap, xW E (z + 1) ω1 s H0 H1 locs → W p l e R s m args below meth c H1 locs (cells + 1) (slots + N) Q (F0 m (pc + 2) ls (.ref z :: rest))) : W p l e R s m args below meth c H locs cells slots Q (F0 m pc ls (.int n :: rest)) := by
  subst hu
  obtain ⟨hx, hb, hml, hown, hts⟩ := S
  refine va_newaK hx hb (atype := .int) (hts _ harr) rfl hdg rfl hn hN hbytes hcells hslots hw.2.1.1 fun H1 cA e1 hz o1 hAr hNm => ?_
  have hcA : cA = E.2.1 0 := Option.some.inj (hNm.symm.trans (hw.1.2.1 0 _ xTy_0).2)
  subst hcA
  exact kk H1 (hw.push (e := .inl (0, N, .inl (fun _ => 0))) e1 hz o1)
theorem x_newb (S : CallFix p m c cc nL s args xTbl own) (hw : xW E z ω s H0 H locs) (harr : Cond.arrayClass .byte ∈ xTbl) {n : Int32} {N : Nat} (hn : ¬ n < 0) (hN : n.toNatClampNeg = N) (hbytes : N ≤ 536870912) (hu : ω1 = xu ω z (.inl (4, N, .inl (fun _ => 0)))) (hcells : cells + 1 ≤ R.cells) (hslots : slots + N ≤ R.slots) (hdg : decode cc pc = .ok (.newarray .byte, 2))
    (kk : ∀ H1 : Heap, xW E (z + 1) ω1 s H0 H1 locs → W p l e R s m args below meth c H1 locs (cells + 1) (slots + N) Q (F0 m (pc + 2) ls (.ref z :: rest))) : W p l e R s m args below meth c H locs cells slots Q (F0 m pc ls (.int n :: rest)) := by
  subst hu
  obtain ⟨hx, hb, hml, hown, hts⟩ := S
  refine va_newaK hx hb (atype := .byte) (hts _ harr) rfl hdg rfl hn hN (by show N * 1 ≤ _; omega) hcells hslots hw.2.1.1 fun H1 cA e1 hz o1 hAr hNm => ?_
  have hcA : cA = E.2.1 4 := Option.some.inj (hNm.symm.trans (hw.1.2.1 4 _ xTy_4).2)
  subst hcA
  exact kk H1 (hw.push (e := .inl (4, N, .inl (fun _ => 0))) e1 hz o1)
theorem x_newz (S : CallFix p m c cc nL s args xTbl own) (hw : xW E z ω s H0 H locs) (harr : Cond.arrayClass .boolean ∈ xTbl) {n : Int32} {N : Nat} (hn : ¬ n < 0) (hN : n.toNatClampNeg = N) (hbytes : N ≤ 536870912) (hu : ω1 = xu ω z (.inl (5, N, .inl (fun _ => 0)))) (hcells : cells + 1 ≤ R.cells) (hslots : slots + N ≤ R.slots) (hdg : decode cc pc = .ok (.newarray .boolean, 2))
    (kk : ∀ H1 : Heap, xW E (z + 1) ω1 s H0 H1 locs → W p l e R s m args below meth c H1 locs (cells + 1) (slots + N) Q (F0 m (pc + 2) ls (.ref z :: rest))) : W p l e R s m args below meth c H locs cells slots Q (F0 m pc ls (.int n :: rest)) := by
  subst hu
  obtain ⟨hx, hb, hml, hown, hts⟩ := S
  refine va_newaK hx hb (atype := .boolean) (hts _ harr) rfl hdg rfl hn hN (by show N * 1 ≤ _; omega) hcells hslots hw.2.1.1 fun H1 cA e1 hz o1 hAr hNm => ?_
  have hcA : cA = E.2.1 5 := Option.some.inj (hNm.symm.trans (hw.1.2.1 5 _ xTy_5).2)
  subst hcA
  exact kk H1 (hw.push (e := .inl (5, N, .inl (fun _ => 0))) e1 hz o1)
theorem x_newl (S : CallFix p m c cc nL s args xTbl own) (hw : xW E z ω s H0 H locs) (harr : Cond.arrayClass .long ∈ xTbl) {n : Int32} {N : Nat} (hn : ¬ n < 0) (hN : n.toNatClampNeg = N) (hbytes : N * 8 ≤ 536870912) (hu : ω1 = xu ω z (.inl (1, N, .inr (.inl (fun _ => 0))))) (hcells : cells + 1 ≤ R.cells) (hslots : slots + N ≤ R.slots) (hdg : decode cc pc = .ok (.newarray .long, 2))
    (kk : ∀ H1 : Heap, xW E (z + 1) ω1 s H0 H1 locs → W p l e R s m args below meth c H1 locs (cells + 1) (slots + N) Q (F0 m (pc + 2) ls (.ref z :: rest))) : W p l e R s m args below meth c H locs cells slots Q (F0 m pc ls (.int n :: rest)) := by
  subst hu
  obtain ⟨hx, hb, hml, hown, hts⟩ := S
  refine va_newaK hx hb (atype := .long) (hts _ harr) rfl hdg rfl hn hN hbytes hcells hslots hw.2.1.1 fun H1 cA e1 hz o1 hAr hNm => ?_
  have hcA : cA = E.2.1 1 := Option.some.inj (hNm.symm.trans (hw.1.2.1 1 _ xTy_1).2)
  subst hcA
  exact kk H1 (hw.push (e := .inl (1, N, .inr (.inl (fun _ => 0)))) e1 hz o1)
theorem x_newq (S : CallFix p m c cc nL s args xTbl own) (hw : xW E z ω s H0 H locs) (hcl : Cond.classLink own index "RosterRules$Law" ∈ xTbl) {n : Int32} {N : Nat} (hn : ¬ n < 0) (hN : n.toNatClampNeg = N) (hbytes : N * 4 ≤ 536870912) (hu : ω1 = xu ω z (.inl (3, N, .inr (.inr (.inr (.inr (fun _ => none))))))) (hcells : cells + 1 ≤ R.cells) (hslots : slots + N ≤ R.slots) (hdg : decode cc pc = .ok (.anewarray index, 3))
    (kk : ∀ H1 : Heap, xW E (z + 1) ω1 s H0 H1 locs → W p l e R s m args below meth c H1 locs (cells + 1) (slots + N) Q (F0 m (pc + 3) ls (.ref z :: rest))) : W p l e R s m args below meth c H locs cells slots Q (F0 m pc ls (.int n :: rest)) := by
  subst hu
  subst hN
  obtain ⟨hx, hb, hml, hown, hts⟩ := S
  refine W.anew hx hb hown (hts _ hcl) (va_AO.use hw.1.2.2.2.1) rfl hdg rfl hn hbytes hcells hslots fun cA kA comp f1 f2 f3 f4 => ?_
  obtain ⟨_, _, -, -, -, g4⟩ := (hw.1.2.1 3 _ xTy_3).2
  have hcA : cA = E.2.1 3 := Option.some.inj (f1.symm.trans g4)
  subst hcA
  have hz := hw.2.1.1
  generalize hH1 : H.push ({ cls := E.2.1 3, slots := Array.replicate n.toNatClampNeg .null, vm := .none } : Cell) = H1
  have z1 : H1.size = z + 1 := by rw [← hH1, Array.size_push, hz]
  have e1 : H1[z]? = some (arrV (E.2.1 3) n.toNatClampNeg (fun _ => .null)) := by rw [← hH1, ← hz, Array.getElem?_push_size, ← arrV_new]
  have o1 : ∀ q : Nat, q < z → H1[q]? = H[q]? := fun q hq => by rw [← hH1, Array.getElem?_push, if_neg (by omega)]
  have hk := kk H1 (hw.push (e := .inl (3, n.toNatClampNeg, .inr (.inr (.inr (.inr (fun _ => none)))))) e1 z1 o1)
  rw [hz]
  exact hk
theorem xsr_spec {t ci : Nat} {i : Int32} {v : Nat} (h : xsr ω t ci a i v = some ω1) : ∃ n f fs, ω a = some (.inl (t, n, .inr (.inr (.inr (.inr f))))) ∧ ω v = some (.inr (ci, fs)) ∧ vp_in i n ∧ ω1 = xu ω a (.inl (t, n, .inr (.inr (.inr (.inr (va_up f i.toNatClampNeg (some v))))))) := by
  unfold xsr at h
  split at h
  · rename_i t' n f c fs q1 q2
    split at h
    · rename_i hc
      obtain ⟨rfl, rfl, hk⟩ := hc
      cases h
      exact ⟨n, f, fs, q1, q2, hk, rfl⟩
    · cases h
  · cases h
theorem x_aast (S : CallFix p m c cc nL s args xTbl own) (hw : xW E z ω s H0 H locs) {t : Nat} {C : String} {T : u_T} {N : Nat} (ht : xTy[t]? = some (.object C)) (hc : xCl[ci]? = some (C, T, N)) {i : Int32} {v : Nat} (hg : xsr ω t ci a i v = some ω1) (hdg : decode cc pc = .ok (.aastore, 1))
    (kk : ∀ (H1 : Heap) (locs1 : List Loc), xW E z ω1 s H0 H1 locs1 → W p l e R s m args below meth c H1 locs1 cells slots Q (F0 m (pc + 1) ls rest)) : W p l e R s m args below meth c H locs cells slots Q (F0 m pc ls (.ref v :: .int i :: .ref a :: rest)) := by
  obtain ⟨n, f, fs, q1, q2, q3, rfl⟩ := xsr_spec hg
  have hlt : i.toNatClampNeg < n := Nat.not_le.mp fun q => q3 (Or.inr q)
  have h0 : ¬ i < 0 := fun q => q3 (Or.inl q)
  have hcell : H[a]? = some (arrV (E.2.1 t) n (fun j => va_rf (f j))) := (hw.2.1.2.2 a _ q1).2
  obtain ⟨r', hr', cellV, g1, g2, g3, -⟩ := (hw.2.1.2.2 v _ q2).2
  have hcls := (hw.1.1 ci _ hc).2
  obtain ⟨kA, comp, k1, k2, k3, -⟩ := (hw.1.2.1 t _ ht).2
  have hcomp : comp = E.1.1 ci := Option.some.inj (k3.symm.trans hcls.1)
  subst hcomp
  obtain ⟨kC, hkC, -⟩ := hcls.2
  refine W.aast S.1 S.2.1 hcell (fun q h => by cases h) (fun h => by cases h) k1 k2 rfl hkC ⟨h0, by rw [arrV_size]; exact hlt⟩ g1 (fun q h => by rw [g3] at h; cases h) (by rw [g2]; exact hkC) (by rw [g2]; exact va_assign hcls) rfl rfl hdg fun H1 e1 hz oq => ?_
  refine kk H1 _ (hw.put (e := .inl (t, n, .inr (.inr (.inr (.inr (va_up f i.toNatClampNeg (some v))))))) q1 ?_ hz oq)
  show H1[a]? = some (vp_cell _ _)
  rw [e1, vp_cell_q, arrV_store]
  congr 2
  funext q
  by_cases hq : q = i.toNatClampNeg
  · subst hq
    simp [updV, va_up, va_rf]
  · simp [updV, va_up, hq]
/-- new int[n][k]: the outer array at z, its rows behind it -/
def xmn (ω : xS) (z N K : Nat) : xS := fun b => if b = z then some (.inl (2, N, .inr (.inr (.inr (.inr (fun i => if i < N then some (z + 1 + i) else none)))))) else if z < b ∧ b ≤ z + N then some (.inl (0, K, .inl (fun _ => 0))) else ω b
theorem x_outer (cQ : ClassId) (N h0 : Nat) : ∀ i : Nat, Jvm.Free.Multi.outerC cQ N h0 i = arrV cQ N (fun j => va_rf (if j < i then some (h0 + 1 + j) else none))
  | 0 => by
    show ({ cls := cQ, slots := Array.replicate N .null, vm := .none } : Cell) = _
    rw [arrV_new]
    refine congrArg (arrV cQ N) (funext fun j => ?_)
    simp [va_rf]
  | i + 1 => by
    show (Jvm.Free.Multi.outerC cQ N h0 i).setSlot i (.ref (h0 + 1 + i)) = _
    rw [x_outer cQ N h0 i, arrV_store]
    refine congrArg (arrV cQ N) (funext fun j => ?_)
    by_cases e : j = i
    · subst e
      simp [updV, va_rf]
    · by_cases h : j < i
      · simp [updV, e, h, Nat.lt_succ_of_lt h]
      · simp [updV, e, h, show ¬ j < i + 1 by omega]
theorem x_mna (S : CallFix p m c cc nL s args xTbl own) (hw : xW E z ω s H0 H locs) (hcl : Cond.classLink own index "[[I" ∈ xTbl) (harr : Cond.arrayClass .int ∈ xTbl) {n k : Int32} {N K : Nat} (hn : ¬ n < 0) (hk : ¬ k < 0) (hN : n.toNatClampNeg = N) (hK : k.toNatClampNeg = K) (hb1 : N * 4 ≤ 536870912) (hb2 : K * 4 ≤ 536870912) (hu : ω1 = xmn ω z N K) (hcells : cells + (1 + N) ≤ R.cells) (hslots : slots + (N + N * K) ≤ R.slots) (hdg : decode cc pc = .ok (.multianewarray index 2, 4))
    (kk : ∀ H1 : Heap, xW E (z + 1 + N) ω1 s H0 H1 locs → W p l e R s m args below meth c H1 locs (cells + 1 + N) (slots + N + N * K) Q (F0 m (pc + 4) ls (.ref z :: rest))) : W p l e R s m args below meth c H locs cells slots Q (F0 m pc ls (.int k :: .int n :: rest)) := by
  subst hu
  subst hN
  subst hK
  obtain ⟨hx, hb, hml, hown, hts⟩ := S
  intro T hT Xs
  obtain ⟨vm₁, cA, comp, -, fA, fC, hO, -, X', step⟩ := Xs.multianewarray2F hx hown (ty := .int) (hts _ hcl) hw.1.2.2.2.2.1 (hts _ harr) (g := F0 m pc ls (.int k :: .int n :: rest)) rfl (by rw [hb]; exact hdg) rfl hn hk hb1 hb2 (by omega) rfl rfl hcells hslots
  have hcA : cA = E.2.1 2 := Option.some.inj (fA.symm.trans (hw.1.2.1 2 _ xTy_2).2)
  have hcC : comp = E.2.1 0 := Option.some.inj (fC.symm.trans (hw.1.2.1 0 _ xTy_0).2)
  subst hcA
  subst hcC
  have hz := hw.2.1.1
  generalize hF : Jvm.Free.Multi.fill (T.setVm vm₁) (E.2.1 2) (E.2.1 0) n.toNatClampNeg k.toNatClampNeg (defaultValue .int) n.toNatClampNeg = F at X' step
  have hTh : (T.setVm vm₁).heap = H := hT
  obtain ⟨f1, f2, -, -⟩ := Jvm.Free.Multi.fill_facts (T.setVm vm₁) (E.2.1 2) (E.2.1 0) n.toNatClampNeg k.toNatClampNeg (defaultValue .int) n.toNatClampNeg
  rw [hF, hTh, hz] at f1 f2
  have hold : ∀ x : Nat, x < z → F.heap[x]? = H[x]? := fun x hx => by
    have := Jvm.Free.Multi.fill_old (T.setVm vm₁) (E.2.1 2) (E.2.1 0) n.toNatClampNeg k.toNatClampNeg (defaultValue .int) (a := x) (by rw [hTh, hz]; exact hx) n.toNatClampNeg
    rw [hF, hTh] at this
    exact this
  have hrow : ∀ j : Nat, j < n.toNatClampNeg → F.heap[z + 1 + j]? = some (vp_cell (E.2.1 0) (k.toNatClampNeg, .inl (fun _ => 0))) := fun j hj => by
    have := Jvm.Free.Multi.fill_inner (T.setVm vm₁) (E.2.1 2) (E.2.1 0) n.toNatClampNeg k.toNatClampNeg (defaultValue .int) n.toNatClampNeg j hj
    rw [hF, hTh, hz] at this
    rw [this, vp_cell_i]
    exact congrArg some (arrV_new _ _ _)
  rw [x_outer] at f2
  have hP2 : xP E (z + 1 + n.toNatClampNeg) (xmn ω z n.toNatClampNeg k.toNatClampNeg) F.heap := by
    refine ⟨by rw [f1], by have := hw.2.1.2.1; omega, fun b e hbe => ?_⟩
    unfold xmn at hbe
    have hB := hw.2.1.2.1
    by_cases h1 : b = z
    · rw [if_pos h1] at hbe
      cases hbe
      subst h1
      exact ⟨hB, f2⟩
    · rw [if_neg h1] at hbe
      by_cases h2 : z < b ∧ b ≤ z + n.toNatClampNeg
      · rw [if_pos h2] at hbe
        cases hbe
        have := hrow (b - (z + 1)) (by omega)
        rw [show z + 1 + (b - (z + 1)) = b by omega] at this
        exact ⟨by omega, this⟩
      · rw [if_neg h2] at hbe
        obtain ⟨g1, g2⟩ := hw.2.1.2.2 b e hbe
        have hlt := g2.lt
        rw [hz] at hlt
        exact ⟨g1, g2.kept (hold b hlt)⟩
  have hS := hw.2.2
  obtain ⟨t, a1, b1⟩ := kk F.heap ⟨hw.1, hP2, by rw [f1]; have := hS.1; omega, fun x h1 h2 => by rw [hold x (by have := hS.1; omega)]; exact hS.2.1 x h1 h2, hS.2.2⟩ F rfl X'
  refine ⟨t, step t ?_, b1⟩
  have e : T.heap.size = z := by rw [hT, hz]
  rw [e]
  exact a1
/-- a constructor of ours; its object lies on the stack -/
theorem x_callI (S : CallFix p m c cc nL s args xTbl own) (hw : xW E z ω s H0 H locs) {y : MethodName} {bytes : ByteArray} {maxL n : Nat} {ws : List Cond} {rm : Room} {b : Nat} {As st0 : List Value}
    (hM : xM l E y ws rm (.ref b :: As) z ω none z1 ω1) (cw : CallB R s args own index y bytes maxL none ws rm rm.cells rm.slots n ∧ y.name = "<init>" ∧ (Cond.instanceMethod y).before args s = true)
    (hn : As.length = n) (hsize : ls.size = nL) (hst : st0 = As.reverse ++ .ref b :: rest) (hcat : (rest.map fun v => v.category).sum ≤ 8) (hdg : decode cc pc = .ok (.invokespecial index, 3)) (hf : cells + rm.cells ≤ R.cells ∧ slots + rm.slots ≤ R.slots)
    (kk : ∀ (H1 : Heap) (locs1 : List Loc), xW E z1 ω1 s H0 H1 locs1 → W p l e R s m args below meth c H1 locs1 (cells + rm.cells) (slots + rm.slots) Q (F0 m (pc + 3) ls rest)) : W p l e R s m args below meth c H locs cells slots Q (F0 m pc ls st0) :=
  x_run (va_runI (As := As) (rest := rest) S hM cw ⟨xB_blind _ _ _ _, fun U hU hW => ⟨rfl, by rw [hU]; exact hw.1.moved hW hw.2.2, by rw [hU]; exact hw.2.1⟩⟩ rfl hn hsize hst (lv_room hcat) hdg hf) hw kk
theorem x_callIN (S : CallFix p m c cc nL s args xTbl own) (hw : xW E z ω s H0 H locs) {y : MethodName} {bytes : ByteArray} {maxL n : Nat} {ws : List Cond} {rm : Room} {host : String} {b : Nat} {As st0 : List Value}
    (hM : xM l E y ws rm (.ref b :: As) z ω none z1 ω1) (cw : va_CN R s args own index y host bytes maxL none ws rm rm.cells rm.slots n ∧ y.name = "<init>" ∧ (Cond.instanceMethod y).before args s = true)
    (hn : As.length = n) (hsize : ls.size = nL) (hst : st0 = As.reverse ++ .ref b :: rest) (hcat : (rest.map fun v => v.category).sum ≤ 8) (hdg : decode cc pc = .ok (.invokespecial index, 3)) (hf : cells + rm.cells ≤ R.cells ∧ slots + rm.slots ≤ R.slots)
    (kk : ∀ (H1 : Heap) (locs1 : List Loc), xW E z1 ω1 s H0 H1 locs1 → W p l e R s m args below meth c H1 locs1 (cells + rm.cells) (slots + rm.slots) Q (F0 m (pc + 3) ls rest)) : W p l e R s m args below meth c H locs cells slots Q (F0 m pc ls st0) :=
  x_run (va_runIN (As := As) (rest := rest) S hM cw ⟨xB_blind _ _ _ _, fun U hU hW => ⟨rfl, by rw [hU]; exact hw.1.moved hW hw.2.2, by rw [hU]; exact hw.2.1⟩⟩ rfl hn hsize hst (lv_room hcat) hdg hf) hw kk
end XR3

theorem xGI {y : MethodName} {b : ByteArray} {n : Nat} {r : Option FieldType} (h5 : Cond.code y b n r ∈ xTbl) : GoodIn xTbl (Cond.code y b n r :: xTbl) := fun w hw => by
  rcases List.mem_cons.mp hw with rfl | hw
  · exact ⟨h5, xTbl_good _ h5⟩
  · exact ⟨hw, xTbl_good _ hw⟩
theorem xGV {own C : String} {index : Nat} {y : MethodName} {b : ByteArray} {n : Nat} {r : Option FieldType} (h1 : Cond.methodLink own index y ∈ xTbl) (h2 : Cond.instanceMethod y ∈ xTbl) (h3 : Cond.selects C y y ∈ xTbl) (h4 : Cond.initialized C ∈ xTbl) (h5 : Cond.code y b n r ∈ xTbl) : GoodIn xTbl (wsV own index C y (Cond.code y b n r :: xTbl)) := fun w hw => by
  unfold wsV at hw
  rcases List.mem_append.mp hw with hw | hw
  · simp only [List.mem_cons, List.not_mem_nil, or_false] at hw
    rcases hw with rfl | rfl | rfl | rfl
    · exact ⟨h1, xTbl_good _ h1⟩
    · exact ⟨h2, xTbl_good _ h2⟩
    · exact ⟨h3, xTbl_good _ h3⟩
    · exact ⟨h4, xTbl_good _ h4⟩
  · exact xGI h5 w hw
theorem xGS {own : String} {index : Nat} {y : MethodName} {b : ByteArray} {n : Nat} {r : Option FieldType} (h1 : Cond.methodLink own index y ∈ xTbl) (h2 : Cond.static y ∈ xTbl) (h3 : Cond.initialized own ∈ xTbl) (h5 : Cond.code y b n r ∈ xTbl) : GoodIn xTbl (wsS own index y (Cond.code y b n r :: xTbl)) := fun w hw => by
  unfold wsS at hw
  rcases List.mem_append.mp hw with hw | hw
  · simp only [List.mem_cons, List.not_mem_nil, or_false] at hw
    rcases hw with rfl | rfl | rfl
    · exact ⟨h1, xTbl_good _ h1⟩
    · exact ⟨h2, xTbl_good _ h2⟩
    · exact ⟨h3, xTbl_good _ h3⟩
  · exact xGI h5 w hw
theorem xe1 {α : Type} {a c : α} (h : some a = some c) : c = a := (Option.some.inj h).symm
theorem xe2 {α β : Type} {a c : α} {b d : β} (h : some (a, b) = some (c, d)) : c = a ∧ d = b := ⟨(congrArg Prod.fst (Option.some.inj h)).symm, (congrArg Prod.snd (Option.some.inj h)).symm⟩
theorem x_small {x : Int32} (h : ¬ (x < 0 ∨ 1000 < x)) : ¬ x < 0 ∧ x.toNatClampNeg ≤ 1000 := by
  refine ⟨fun q => h (Or.inl q), ?_⟩
  have h2 : x ≤ 1000 := Int32.not_lt.mp (fun q => h (Or.inr q))
  have h3 := Int32.le_iff_toInt_le.mp h2
  have h4 : (1000 : Int32).toInt = 1000 := by decide
  rw [h4] at h3
  show x.toInt.toNat ≤ 1000
  omega
theorem x_small2 {x : Int32} (h : ¬ (x < 0 ∨ 100000 < x)) : ¬ x < 0 ∧ x.toNatClampNeg ≤ 100000 := by
  refine ⟨fun q => h (Or.inl q), ?_⟩
  have h2 : x ≤ 100000 := Int32.not_lt.mp (fun q => h (Or.inr q))
  have h3 := Int32.le_iff_toInt_le.mp h2
  have h4 : (100000 : Int32).toInt = 100000 := by decide
  rw [h4] at h3
  show x.toInt.toNat ≤ 100000
  omega
def xc3 {δ : Type} (o : Option (Nat × Nat × xS)) (k : Nat → Nat → xS → Option δ) : Option δ := match o with
  | some (a, b, d) => k a b d
  | none => none
theorem xc3b {δ : Type} {o : Option (Nat × Nat × xS)} {k : Nat → Nat → xS → Option δ} {r : δ} (h : xc3 o k = some r) : ∃ a b d, o = some (a, b, d) ∧ k a b d = some r := by
  cases o with
  | none => cases h
  | some t => exact ⟨t.1, t.2.1, t.2.2, rfl, h⟩
def xc4 {α δ : Type} (o : Option (α × Nat × Nat × xS)) (k : α → Nat → Nat → xS → Option δ) : Option δ := match o with
  | some (q, a, b, d) => k q a b d
  | none => none
theorem xc4b {α δ : Type} {o : Option (α × Nat × Nat × xS)} {k : α → Nat → Nat → xS → Option δ} {r : δ} (h : xc4 o k = some r) : ∃ q a b d, o = some (q, a, b, d) ∧ k q a b d = some r := by
  cases o with
  | none => cases h
  | some t => exact ⟨t.1, t.2.1, t.2.2.1, t.2.2.2, rfl, h⟩
theorem xe3 {α β γ : Type} {a a' : α} {b b' : β} {d d' : γ} (h : some (a, b, d) = some (a', b', d')) : a' = a ∧ b' = b ∧ d' = d := by
  cases h
  exact ⟨rfl, rfl, rfl⟩
theorem xe4 {α β γ δ : Type} {a a' : α} {b b' : β} {d d' : γ} {e e' : δ} (h : some (a, b, d, e) = some (a', b', d', e')) : a' = a ∧ b' = b ∧ d' = d ∧ e' = e := by
  cases h
  exact ⟨rfl, rfl, rfl, rfl⟩
