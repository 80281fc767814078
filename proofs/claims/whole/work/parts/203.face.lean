/-! which arguments are people, days, shifts -/
def jbel (n : Nat) (x : Int32) : Bool := decide (¬ x < 0 ∧ ¬ nI n ≤ x)
def jsh (x : Int32) : Bool := decide (¬ x < -1 ∧ ¬ 8 ≤ x)
theorem jbel_iff {x : Int32} {n : Nat} (hn : n < 2 ^ 31) : jbel n x = true ↔ ∃ p, p < n ∧ x = nI p := by
  unfold jbel
  rw [decide_eq_true_iff]
  constructor
  · rintro ⟨h0, h1⟩
    obtain ⟨k, hk, rfl⟩ := jofI (Int32.not_lt.mp h0)
    rw [nI_leI hn hk] at h1
    exact ⟨k, by omega, rfl⟩
  · rintro ⟨p, hp, rfl⟩
    rw [nI_leI hn (by omega), show (0 : Int32) = nI 0 from rfl, jneg (by omega)]
    exact ⟨fun h => h, by omega⟩
theorem jsh_iff {x : Int32} : jsh x = true ↔ ∃ l, l ≤ 8 ∧ x = nI l - nI 1 := by
  unfold jsh
  rw [decide_eq_true_iff]
  constructor
  · rintro ⟨h0, h1⟩
    by_cases h : x = -1
    · exact ⟨0, by omega, by rw [h]; decide⟩
    · have h2 : 0 ≤ x := by
        rw [Int32.lt_iff_toInt_lt, show (-1 : Int32).toInt = -1 by decide] at h0
        rw [Int32.le_iff_toInt_le, Int32.toInt_zero]
        have h3 : x.toInt ≠ -1 := fun q => h (Int32.toInt_inj.mp (by rw [q]; decide))
        omega
      obtain ⟨k, hk, rfl⟩ := jofI h2
      rw [jlit, nI_leI (by omega) hk] at h1
      exact ⟨k + 1, by omega, by rw [jsub (by omega), Nat.add_sub_cancel]⟩
  · rintro ⟨l, hl, rfl⟩
    rcases l with _ | l
    · decide
    · rw [jsub (by omega), Nat.add_sub_cancel, show (-1 : Int32) = nI 0 - nI 1 by decide, jlit, nI_leI (by omega) (by omega), Int32.lt_iff_toInt_lt, nI_toInt (by omega), show (nI 0 - nI 1).toInt = -1 by decide]
      omega
theorem jbel_n {p n : Nat} (hn : n < 2 ^ 31) (h : p < n) : jbel n (nI p) = true := (jbel_iff hn).mpr ⟨p, h, rfl⟩
theorem jsh_l {l : Nat} (h : l ≤ 8) : jsh (nI l - nI 1) = true := jsh_iff.mpr ⟨l, h, rfl⟩
theorem jite2 {P Q : Prop} {_ : Decidable P} {_ : Decidable Q} : (if P then some (0 : Int32) else if Q then some 0 else some 1) = some (if decide (¬ P ∧ ¬ Q) then 1 else 0) := by
  by_cases hp : P <;> by_cases hq : Q <;> simp_all
theorem jMo_isPerson {L : jL} (hL : jgood L) (hD : jdim L) {ω : xS} {S : jSt} {A : jR} (hA : jRg A) {sw ps wy : Nat} (hK : jLK S sw ps wy) (h : jRM L S A) {x : Int32} : f_Mo_isPerson (jad L (jm 0)) x (jW L ω S) = some (if jbel (jn L) x then 1 else 0) := by
  unfold f_Mo_isPerson
  simp (disch := first | omega | rfl | assumption | exact jokr (by decide) (by omega) | exact jokr4 (by omega) | exact jkt_r _ _ | exact jkt_l (by decide) | exact jfk_l (by decide) | exact jkt_t _ | exact jkt_r6 _ _ | exact jkt_t6 _ | (simp only [jok, jlen]; omega) | decide) only [jm_gi hL, Option.bind_some, h.n]
  exact jite2
theorem jMo_isCell {L : jL} (hL : jgood L) (hD : jdim L) {ω : xS} {S : jSt} {A : jR} (hA : jRg A) {sw ps wy : Nat} (hK : jLK S sw ps wy) (h : jRM L S A) {x y : Int32} : f_Mo_isCell (jad L (jm 0)) x y (jW L ω S) = some (if jbel (jn L) x && jbel (jd L) y then 1 else 0) := by
  unfold f_Mo_isCell
  simp (disch := first | omega | rfl | assumption | exact jokr (by decide) (by omega) | exact jokr4 (by omega) | exact jkt_r _ _ | exact jkt_l (by decide) | exact jfk_l (by decide) | exact jkt_t _ | exact jkt_r6 _ _ | exact jkt_t6 _ | (simp only [jok, jlen]; omega) | decide) only [jm_gi hL, jm_k hL, jMo_isPerson hL hD hA hK h, Option.bind_some, h.d]
  cases hp : jbel (jn L) x
  · rfl
  · exact jite2
theorem jMo_isShift {x : Int32} {ω : xS} : f_Mo_isShift x ω = some (if jsh x then 1 else 0) := jite2
theorem jRR_isPerson {L : jL} (hL : jgood L) (hD : jdim L) {ω : xS} {S : jSt} {A : jR} (hA : jRg A) {sw ps wy : Nat} (hK : jLK S sw ps wy) (h : jRC L S A) {x : Int32} : f_RR_isPerson (jad L (jo 0)) x (jW L ω S) = some (if jbel (jn L) x then 1 else 0) := by
  unfold f_RR_isPerson
  simp (disch := first | omega | rfl | assumption | exact jokr (by decide) (by omega) | exact jokr4 (by omega) | exact jkt_r _ _ | exact jkt_l (by decide) | exact jfk_l (by decide) | exact jkt_t _ | exact jkt_r6 _ _ | exact jkt_t6 _ | (simp only [jok, jlen]; omega) | decide) only [jm_gi hL, jm_gr hL, jsA_X, jsI_X, jsG_X, hK _ _, jlk, jmx, Option.bind_some, h.n]
  exact jite2
theorem jRR_isDay {L : jL} (hL : jgood L) (hD : jdim L) {ω : xS} {S : jSt} {A : jR} (hA : jRg A) {sw ps wy : Nat} (hK : jLK S sw ps wy) (h : jRC L S A) {x : Int32} : f_RR_isDay (jad L (jo 0)) x (jW L ω S) = some (if jbel (jd L) x then 1 else 0) := by
  unfold f_RR_isDay
  simp (disch := first | omega | rfl | assumption | exact jokr (by decide) (by omega) | exact jokr4 (by omega) | exact jkt_r _ _ | exact jkt_l (by decide) | exact jfk_l (by decide) | exact jkt_t _ | exact jkt_r6 _ _ | exact jkt_t6 _ | (simp only [jok, jlen]; omega) | decide) only [jm_gi hL, jm_gr hL, jsA_X, jsI_X, jsG_X, hK _ _, jlk, jmx, Option.bind_some, h.d]
  exact jite2
theorem jRR_isCell {L : jL} (hL : jgood L) (hD : jdim L) {ω : xS} {S : jSt} {A : jR} (hA : jRg A) {sw ps wy : Nat} (hK : jLK S sw ps wy) (h : jRC L S A) {x y : Int32} : f_RR_isCell (jad L (jo 0)) x y (jW L ω S) = some (if jbel (jn L) x && jbel (jd L) y then 1 else 0) := by
  unfold f_RR_isCell
  simp (disch := first | omega | rfl | assumption | exact jokr (by decide) (by omega) | exact jokr4 (by omega) | exact jkt_r _ _ | exact jkt_l (by decide) | exact jfk_l (by decide) | exact jkt_t _ | exact jkt_r6 _ _ | exact jkt_t6 _ | (simp only [jok, jlen]; omega) | decide) only [jm_k hL, jRR_isPerson hL hD hA hK h, jRR_isDay hL hD hA hK h, Option.bind_some]
  cases jbel (jn L) x <;> cases jbel (jd L) y <;> rfl
theorem jRR_isShift {L : jL} (hL : jgood L) (hD : jdim L) {ω : xS} {S : jSt} {A : jR} (hA : jRg A) {sw ps wy : Nat} (hK : jLK S sw ps wy) {x : Int32} : f_RR_isShift (jad L (jo 0)) x (jW L ω S) = some (if jbel 8 x then 1 else 0) := jite2
theorem jRR_isShiftOrOff {L : jL} (hL : jgood L) (hD : jdim L) {ω : xS} {S : jSt} {A : jR} (hA : jRg A) {sw ps wy : Nat} (hK : jLK S sw ps wy) {x : Int32} : f_RR_isShiftOrOff (jad L (jo 0)) x (jW L ω S) = some (if jsh x then 1 else 0) := by
  unfold f_RR_isShiftOrOff
  simp (disch := first | omega | rfl | assumption | exact jokr (by decide) (by omega) | exact jokr4 (by omega) | exact jkt_r _ _ | exact jkt_l (by decide) | exact jfk_l (by decide) | exact jkt_t _ | exact jkt_r6 _ _ | exact jkt_t6 _ | (simp only [jok, jlen]; omega) | decide) only [jm_k hL, jRR_isShift hL hD hA hK, Option.bind_some]
  by_cases h : x = -1
  · subst h; rfl
  · rw [if_neg h]
    have e : jbel 8 x = jsh x := by
      rw [Bool.eq_iff_iff, jbel_iff (by omega), jsh_iff]
      constructor
      · rintro ⟨p, hp, rfl⟩
        exact ⟨p + 1, by omega, by rw [jsub (by omega), Nat.add_sub_cancel]⟩
      · rintro ⟨l, hl, rfl⟩
        rcases l with _ | l
        · exact absurd (by decide) h
        · exact ⟨l, by omega, by rw [jsub (by omega), Nat.add_sub_cancel]⟩
    rw [e]
    cases jsh x <;> rfl
