/-! THE WORLD AS ONE FUNCTION: a heap's own part is a map from addresses to entries; an entry is an array (kind, length, contents) or an object (class number, fields). What a method does is a function of that map. -/
abbrev xE : Type := (Nat × vp_A) ⊕ (Nat × List Value)
abbrev xS : Type := Nat → Option xE
abbrev xV : Type := va_G × (Nat → ClassId) × Nat
def x_at (E : xV) (a : Nat) (e : xE) (H : Heap) : Prop := match e with
  | .inl q => H[a]? = some (vp_cell (E.2.1 q.1) q.2)
  | .inr o => va_at E.1 xCl (a, .inr o) H
def xP (E : xV) (z : Nat) (ω : xS) (H : Heap) : Prop := H.size = z ∧ E.2.2 ≤ z ∧ ∀ (a : Nat) (e : xE), ω a = some e → E.2.2 ≤ a ∧ x_at E a e H
/-- the places and texts of the String constants of Law.nameOf -/
def xSi : List Nat := [23, 25, 27, 29, 31, 33, 35]
def xSt : List String := ["skill", "rest", "hours", "never", "whole", "fair", "cover"]
def xSn : List Nat := [5, 4, 5, 5, 5, 4, 5]
def xSb : List (List Int32) := [[115, 107, 105, 108, 108], [114, 101, 115, 116], [104, 111, 117, 114, 115], [110, 101, 118, 101, 114], [119, 104, 111, 108, 101], [102, 97, 105, 114], [99, 111, 118, 101, 114]]
def xH (E : xV) (U : State) (H : Heap) : Prop := vk_S 7 xSn xSb (fun i => E.2.1 (100 + i)) (fun i => E.2.1 (200 + i)) (fun q => E.2.2 ≤ q) U H ∧ va_Z "java/lang/String" "COMPACT_STRINGS" "Z" (.int 1) (fun q => E.2.2 ≤ q) U H ∧ va_Zq "jdk/internal/util/Preconditions" "SIOOBE_FORMATTER" "Ljava/util/function/BiFunction;" (fun q => E.2.2 ≤ q) U H
def xK (E : xV) (U : State) (Hh : Heap) : Prop := (∀ (c : Nat) (q : vw_C), xCl[c]? = some q → u_Kn U q.1 q.2.1 q.2.2 (E.1.1 c) (E.1.2 c)) ∧ (∀ (t : Nat) (ty : FieldType), xTy[t]? = some ty → ArrOfT U (E.2.1 t) ty ∧ va_RA U (E.2.1 t) ty) ∧ (∀ w ∈ xNs, va_Nw w U) ∧ va_AO "RosterRules$Law" U ∧ (Cond.arrayOver (.array .int)).before #[] U = true ∧ (∀ i, i < 7 → vk_R "RosterRules$Law" (xSi.getD i 0) (xSt.getD i "") (E.2.1 (100 + i)) U) ∧ xH E U Hh
def xW (E : xV) (z : Nat) (ω : xS) (s : State) (H0 H : Heap) (locs : List Loc) : Prop := xK E s H0 ∧ xP E z ω H ∧ va_S (fun q => E.2.2 ≤ q) H0 H locs
def xu (σ : xS) (a : Nat) (e : xE) : xS := fun b => if b = a then some e else σ b
theorem xu_self (σ : xS) (a : Nat) (e : xE) : xu σ a e a = some e := if_pos rfl
theorem xu_ne (σ : xS) {a b : Nat} (e : xE) (h : b ≠ a) : xu σ a e b = σ b := if_neg h
theorem x_at.kept {E : xV} {a : Nat} {e : xE} {H H1 : Heap} (h : x_at E a e H) (hq : H1[a]? = H[a]?) : x_at E a e H1 := by
  cases e with
  | inl q => exact hq.trans h
  | inr o => exact va_at.kept (q := (a, .inr o)) h hq
theorem x_at.lt {E : xV} {a : Nat} {e : xE} {H : Heap} (h : x_at E a e H) : a < H.size := by
  cases e with
  | inl q => exact (Array.getElem?_eq_some_iff.mp h).1
  | inr o => exact va_at.lt (q := (a, .inr o)) h
theorem xK.k0 {E : xV} {U : State} {Hh : Heap} (h : xK E U Hh) : va_K E.1 xCl [] U := ⟨h.1, fun k q hk => by simp at hk⟩
theorem xK.k1 {E : xV} {U : State} {Hh : Heap} (h : xK E U Hh) {t : Nat} {ty : FieldType} (ht : xTy[t]? = some ty) : va_K E.1 xCl [(E.2.1 t, ty)] U := ⟨h.1, fun k q hk => by
  match k, hk with
  | 0, hk => cases hk; exact h.2.1 t ty ht
  | k + 1, hk => simp at hk⟩
theorem xP.put {E : xV} {z : Nat} {ω : xS} {H H1 : Heap} {a : Nat} {e0 e : xE} (h : xP E z ω H) (ha : ω a = some e0) (he : x_at E a e H1) (hz : H1.size = H.size) (oq : ∀ q : Nat, q ≠ a → H1[q]? = H[q]?) : xP E z (xu ω a e) H1 := by
  refine ⟨by rw [hz]; exact h.1, h.2.1, fun b f hb => ?_⟩
  by_cases hab : b = a
  · subst hab
    rw [xu_self] at hb
    cases hb
    exact ⟨(h.2.2 b e0 ha).1, he⟩
  · rw [xu_ne _ _ hab] at hb
    exact ⟨(h.2.2 b f hb).1, (h.2.2 b f hb).2.kept (oq b hab)⟩
theorem xW.put {E : xV} {z : Nat} {ω : xS} {s : State} {H0 H H1 : Heap} {locs : List Loc} {a k : Nat} {e0 e : xE} (h : xW E z ω s H0 H locs) (ha : ω a = some e0) (he : x_at E a e H1) (hz : H1.size = H.size) (oq : ∀ q : Nat, q ≠ a → H1[q]? = H[q]?) : xW E z (xu ω a e) s H0 H1 (locs ++ [⟨a, k⟩]) :=
  ⟨h.1, h.2.1.put ha he hz oq, h.2.2.put hz oq (h.2.1.2.2 a e0 ha).1⟩
/-! what a method reads and writes -/
def xg (ω : xS) (a ci k : Nat) : Option Value := match ω a with
  | some (.inr (c, fs)) => if c = ci then fs[k]? else none
  | _ => none
def xgi (ω : xS) (a ci k : Nat) : Option Int32 := match xg ω a ci k with
  | some (.int x) => some x
  | _ => none
def xgl (ω : xS) (a ci k : Nat) : Option Int64 := match xg ω a ci k with
  | some (.long x) => some x
  | _ => none
def xgr (ω : xS) (a ci k : Nat) : Option Nat := match xg ω a ci k with
  | some (.ref x) => some x
  | _ => none
def xp (ω : xS) (a ci k : Nat) (v : Value) : Option xS := match ω a with
  | some (.inr (c, fs)) => if c = ci ∧ k < fs.length then some (xu ω a (.inr (c, fs.set k v))) else none
  | _ => none
def xai (ω : xS) (a : Nat) (i : Int32) : Option Int32 := match ω a with
  | some (.inl (t, n, .inl f)) => if t = 0 ∧ ¬ (i < 0 ∨ n ≤ i.toNatClampNeg) then some (f i.toNatClampNeg) else none
  | _ => none
def xab (ω : xS) (a : Nat) (i : Int32) : Option Int32 := match ω a with
  | some (.inl (t, n, .inl f)) => if t = 4 ∧ ¬ (i < 0 ∨ n ≤ i.toNatClampNeg) then some (f i.toNatClampNeg) else none
  | _ => none
def xaz (ω : xS) (a : Nat) (i : Int32) : Option Int32 := match ω a with
  | some (.inl (t, n, .inl f)) => if t = 5 ∧ ¬ (i < 0 ∨ n ≤ i.toNatClampNeg) then some (f i.toNatClampNeg) else none
  | _ => none
def xal (ω : xS) (a : Nat) (i : Int32) : Option Int64 := match ω a with
  | some (.inl (t, n, .inr (.inl f))) => if t = 1 ∧ ¬ (i < 0 ∨ n ≤ i.toNatClampNeg) then some (f i.toNatClampNeg) else none
  | _ => none
def xar (ω : xS) (t a : Nat) (i : Int32) : Option Nat := match ω a with
  | some (.inl (t', n, .inr (.inr (.inr (.inr f))))) => if t' = t ∧ ¬ (i < 0 ∨ n ≤ i.toNatClampNeg) then f i.toNatClampNeg else none
  | _ => none
def xan (ω : xS) (a : Nat) : Option Int32 := match ω a with
  | some (.inl (t, x)) => if t < xTy.length then some (Int32.ofNat x.1) else none
  | _ => none
def xsi (ω : xS) (a : Nat) (i v : Int32) : Option xS := match ω a with
  | some (.inl (t, n, .inl f)) => if t = 0 ∧ ¬ (i < 0 ∨ n ≤ i.toNatClampNeg) then some (xu ω a (.inl (t, n, .inl (upd f i.toNatClampNeg v)))) else none
  | _ => none
def xsb (ω : xS) (a : Nat) (i v : Int32) : Option xS := match ω a with
  | some (.inl (t, n, .inl f)) => if t = 4 ∧ ¬ (i < 0 ∨ n ≤ i.toNatClampNeg) then some (xu ω a (.inl (t, n, .inl (upd f i.toNatClampNeg (vp_nar .byte v))))) else none
  | _ => none
def xsz (ω : xS) (a : Nat) (i v : Int32) : Option xS := match ω a with
  | some (.inl (t, n, .inl f)) => if t = 5 ∧ ¬ (i < 0 ∨ n ≤ i.toNatClampNeg) then some (xu ω a (.inl (t, n, .inl (upd f i.toNatClampNeg (vp_nar .boolean v))))) else none
  | _ => none
def xsl (ω : xS) (a : Nat) (i : Int32) (v : Int64) : Option xS := match ω a with
  | some (.inl (t, n, .inr (.inl f))) => if t = 1 ∧ ¬ (i < 0 ∨ n ≤ i.toNatClampNeg) then some (xu ω a (.inl (t, n, .inr (.inl (vp_updL f i.toNatClampNeg v))))) else none
  | _ => none
def xsr (ω : xS) (t ci a : Nat) (i : Int32) (v : Nat) : Option xS := match ω a, ω v with
  | some (.inl (t', n, .inr (.inr (.inr (.inr f))))), some (.inr (c, _)) => if t' = t ∧ c = ci ∧ ¬ (i < 0 ∨ n ≤ i.toNatClampNeg) then some (xu ω a (.inl (t', n, .inr (.inr (.inr (.inr (va_up f i.toNatClampNeg (some v)))))))) else none
  | _, _ => none
def xc {α β γ : Type} (o : Option (α × β)) (k : α → β → Option γ) : Option γ := match o with
  | some (a, b) => k a b
  | none => none
/-! taking such a function's run apart -/
theorem xb {α β : Type} {o : Option α} {g : α → Option β} {r : β} (h : o.bind g = some r) : ∃ t, o = some t ∧ g t = some r := by
  cases o with
  | none => cases h
  | some t => exact ⟨t, rfl, h⟩
theorem xcb {α β γ : Type} {o : Option (α × β)} {g : α → β → Option γ} {r : γ} (h : xc o g = some r) : ∃ t u, o = some (t, u) ∧ g t u = some r := by
  cases o with
  | none => cases h
  | some t => exact ⟨t.1, t.2, rfl, h⟩
theorem xt {α : Type} {P : Prop} {_ : Decidable P} {a b r : α} (c : P) (h : (if P then a else b) = r) : a = r := by rw [if_pos c] at h; exact h
theorem xf {α : Type} {P : Prop} {_ : Decidable P} {a b r : α} (c : ¬ P) (h : (if P then a else b) = r) : b = r := by rw [if_neg c] at h; exact h
theorem xg_spec {ω : xS} {a ci k : Nat} {v : Value} (h : xg ω a ci k = some v) : ∃ fs, ω a = some (.inr (ci, fs)) ∧ fs[k]? = some v := by
  unfold xg at h
  split at h
  · rename_i c fs hq
    split at h
    · rename_i hc
      subst hc
      exact ⟨fs, hq, h⟩
    · cases h
  · cases h
theorem xgi_spec {ω : xS} {a ci k : Nat} {v : Int32} (h : xgi ω a ci k = some v) : xg ω a ci k = some (.int v) := by
  unfold xgi at h
  split at h
  · rename_i x hq
    cases h
    exact hq
  · cases h
theorem xgl_spec {ω : xS} {a ci k : Nat} {v : Int64} (h : xgl ω a ci k = some v) : xg ω a ci k = some (.long v) := by
  unfold xgl at h
  split at h
  · rename_i x hq
    cases h
    exact hq
  · cases h
theorem xgr_spec {ω : xS} {a ci k : Nat} {v : Nat} (h : xgr ω a ci k = some v) : xg ω a ci k = some (.ref v) := by
  unfold xgr at h
  split at h
  · rename_i x hq
    cases h
    exact hq
  · cases h
theorem xp_spec {ω ω1 : xS} {a ci k : Nat} {v : Value} (h : xp ω a ci k v = some ω1) : ∃ fs, ω a = some (.inr (ci, fs)) ∧ k < fs.length ∧ ω1 = xu ω a (.inr (ci, fs.set k v)) := by
  unfold xp at h
  split at h
  · rename_i c fs hq
    split at h
    · rename_i hc
      obtain ⟨hc, hk⟩ := hc
      subst hc
      cases h
      exact ⟨fs, hq, hk, rfl⟩
    · cases h
  · cases h
theorem xai_spec {ω : xS} {a : Nat} {i v : Int32} (h : xai ω a i = some v) : ∃ n f, ω a = some (.inl (0, n, .inl f)) ∧ vp_in i n ∧ v = f i.toNatClampNeg := by
  unfold xai at h
  split at h
  · rename_i t n f hq
    split at h
    · rename_i hc
      obtain ⟨hc, hk⟩ := hc
      subst hc
      cases h
      exact ⟨n, f, hq, hk, rfl⟩
    · cases h
  · cases h
theorem xab_spec {ω : xS} {a : Nat} {i v : Int32} (h : xab ω a i = some v) : ∃ n f, ω a = some (.inl (4, n, .inl f)) ∧ vp_in i n ∧ v = f i.toNatClampNeg := by
  unfold xab at h
  split at h
  · rename_i t n f hq
    split at h
    · rename_i hc
      obtain ⟨hc, hk⟩ := hc
      subst hc
      cases h
      exact ⟨n, f, hq, hk, rfl⟩
    · cases h
  · cases h
theorem xaz_spec {ω : xS} {a : Nat} {i v : Int32} (h : xaz ω a i = some v) : ∃ n f, ω a = some (.inl (5, n, .inl f)) ∧ vp_in i n ∧ v = f i.toNatClampNeg := by
  unfold xaz at h
  split at h
  · rename_i t n f hq
    split at h
    · rename_i hc
      obtain ⟨hc, hk⟩ := hc
      subst hc
      cases h
      exact ⟨n, f, hq, hk, rfl⟩
    · cases h
  · cases h
theorem xal_spec {ω : xS} {a : Nat} {i : Int32} {v : Int64} (h : xal ω a i = some v) : ∃ n f, ω a = some (.inl (1, n, .inr (.inl f))) ∧ vp_in i n ∧ v = f i.toNatClampNeg := by
  unfold xal at h
  split at h
  · rename_i t n f hq
    split at h
    · rename_i hc
      obtain ⟨hc, hk⟩ := hc
      subst hc
      cases h
      exact ⟨n, f, hq, hk, rfl⟩
    · cases h
  · cases h
theorem xar_spec {ω : xS} {t a : Nat} {i : Int32} {v : Nat} (h : xar ω t a i = some v) : ∃ n f, ω a = some (.inl (t, n, .inr (.inr (.inr (.inr f))))) ∧ vp_in i n ∧ f i.toNatClampNeg = some v := by
  unfold xar at h
  split at h
  · rename_i t' n f hq
    split at h
    · rename_i hc
      obtain ⟨hc, hk⟩ := hc
      subst hc
      exact ⟨n, f, hq, hk, h⟩
    · cases h
  · cases h
theorem xan_spec {ω : xS} {a : Nat} {v : Int32} (h : xan ω a = some v) : ∃ t x, ω a = some (.inl (t, x)) ∧ t < xTy.length ∧ v = Int32.ofNat x.1 := by
  unfold xan at h
  split at h
  · rename_i t x hq
    split at h
    · rename_i hc
      cases h
      exact ⟨t, x, hq, hc, rfl⟩
    · cases h
  · cases h
theorem xsi_spec {ω ω1 : xS} {a : Nat} {i v : Int32} (h : xsi ω a i v = some ω1) : ∃ n f, ω a = some (.inl (0, n, .inl f)) ∧ vp_in i n ∧ ω1 = xu ω a (.inl (0, n, .inl (upd f i.toNatClampNeg v))) := by
  unfold xsi at h
  split at h
  · rename_i t n f hq
    split at h
    · rename_i hc
      obtain ⟨hc, hk⟩ := hc
      subst hc
      cases h
      exact ⟨n, f, hq, hk, rfl⟩
    · cases h
  · cases h
theorem xsb_spec {ω ω1 : xS} {a : Nat} {i v : Int32} (h : xsb ω a i v = some ω1) : ∃ n f, ω a = some (.inl (4, n, .inl f)) ∧ vp_in i n ∧ ω1 = xu ω a (.inl (4, n, .inl (upd f i.toNatClampNeg (vp_nar .byte v)))) := by
  unfold xsb at h
  split at h
  · rename_i t n f hq
    split at h
    · rename_i hc
      obtain ⟨hc, hk⟩ := hc
      subst hc
      cases h
      exact ⟨n, f, hq, hk, rfl⟩
    · cases h
  · cases h
theorem xsz_spec {ω ω1 : xS} {a : Nat} {i v : Int32} (h : xsz ω a i v = some ω1) : ∃ n f, ω a = some (.inl (5, n, .inl f)) ∧ vp_in i n ∧ ω1 = xu ω a (.inl (5, n, .inl (upd f i.toNatClampNeg (vp_nar .boolean v)))) := by
  unfold xsz at h
  split at h
  · rename_i t n f hq
    split at h
    · rename_i hc
      obtain ⟨hc, hk⟩ := hc
      subst hc
      cases h
      exact ⟨n, f, hq, hk, rfl⟩
    · cases h
  · cases h
theorem xsl_spec {ω ω1 : xS} {a : Nat} {i : Int32} {v : Int64} (h : xsl ω a i v = some ω1) : ∃ n f, ω a = some (.inl (1, n, .inr (.inl f))) ∧ vp_in i n ∧ ω1 = xu ω a (.inl (1, n, .inr (.inl (vp_updL f i.toNatClampNeg v)))) := by
  unfold xsl at h
  split at h
  · rename_i t n f hq
    split at h
    · rename_i hc
      obtain ⟨hc, hk⟩ := hc
      subst hc
      cases h
      exact ⟨n, f, hq, hk, rfl⟩
    · cases h
  · cases h
