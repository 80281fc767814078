/-! COUNTING WORDS: forwards and backwards -/
def jsl (f : Nat → Int64) : Nat → Int64
  | 0 => 0
  | k + 1 => jsl f k + f k
theorem jsl_ext {f g : Nat → Int64} : ∀ {k : Nat}, (∀ i, i < k → f i = g i) → jsl f k = jsl g k
  | 0, _ => rfl
  | k + 1, h => by rw [jsl, jsl, jsl_ext (fun i hi => h i (by omega)), h k (by omega)]
theorem jsl_add (f g : Nat → Int64) : ∀ k, jsl (fun i => f i + g i) k = jsl f k + jsl g k
  | 0 => rfl
  | k + 1 => by
    rw [jsl, jsl, jsl, jsl_add f g k]
    ac_rfl
theorem jsl_mul (x : Int64) (f : Nat → Int64) : ∀ k, jsl (fun i => x * f i) k = x * jsl f k
  | 0 => by rw [jsl, jsl]; exact Int64.mul_zero.symm
  | k + 1 => by rw [jsl, jsl, jsl_mul x f k, Int64.mul_add]
theorem jsl_zero : ∀ k, jsl (fun _ => 0) k = 0
  | 0 => rfl
  | k + 1 => by rw [jsl, jsl_zero k]; rfl
theorem jsl_swap (f : Nat → Nat → Int64) (n : Nat) : ∀ k, jsl (fun i => jsl (fun j => f i j) n) k = jsl (fun j => jsl (fun i => f i j) k) n
  | 0 => by simp only [jsl]; exact (jsl_zero n).symm
  | k + 1 => by
    simp only [jsl]
    rw [jsl_swap f n k, ← jsl_add]
/-- one term of a sum -/
theorem jsl_one (t : Nat) (x : Int64) (w : Nat → Int64) : ∀ n, t < n → jsl (fun s => (if s = t then x else 0) * w s) n = x * w t
  | 0, h => by omega
  | n + 1, h => by
    rw [jsl]
    by_cases e : t = n
    · subst e
      rw [jsl_ext (g := fun _ => 0) (fun i hi => by rw [if_neg (by omega), Int64.zero_mul]), jsl_zero, if_pos rfl, Int64.zero_add]
    · rw [jsl_one t x w n (by omega), if_neg (by omega), Int64.zero_mul, Int64.add_zero]
/-- the states' ways on by one letter: forwards -/
def jfwd (n : Nat) (tg : Nat → Nat) (v : Nat → Int64) (t : Nat) : Int64 := jsl (fun s => jsl (fun l => if t = tg (9 * s + l) then v s else 0) 9) n
/-- and backwards -/
def jbwd (tg : Nat → Nat) (w : Nat → Int64) (s : Nat) : Int64 := jsl (fun l => w (tg (9 * s + l))) 9
theorem jadj {n : Nat} {tg : Nat → Nat} (ht : ∀ m, m < 9 * n → tg m < n) (v w : Nat → Int64) : jsl (fun t => jfwd n tg v t * w t) n = jsl (fun s => v s * jbwd tg w s) n := by
  have e1 : ∀ t, jfwd n tg v t * w t = jsl (fun s => jsl (fun l => (if t = tg (9 * s + l) then v s else 0) * w t) 9) n := by
    intro t
    unfold jfwd
    rw [Int64.mul_comm, ← jsl_mul]
    refine jsl_ext fun s _ => ?_
    rw [← jsl_mul]
    refine jsl_ext fun l _ => ?_
    rw [Int64.mul_comm]
  rw [jsl_ext (fun t _ => e1 t), jsl_swap (fun t s => jsl (fun l => (if t = tg (9 * s + l) then v s else 0) * w t) 9) n n]
  refine jsl_ext fun s hs => ?_
  rw [jsl_swap (fun t l => (if t = tg (9 * s + l) then v s else 0) * w t) 9 n]
  unfold jbwd
  rw [← jsl_mul]
  exact jsl_ext fun l hl => jsl_one (tg (9 * s + l)) (v s) w n (ht _ (by omega))
def jfw (n : Nat) (tg : Nat → Nat) : Nat → Nat → Int64
  | 0 => fun s => if s = 0 then 1 else 0
  | k + 1 => jfwd n tg (jfw n tg k)
def jbw (tg : Nat → Nat) (e : Nat → Int64) : Nat → Nat → Int64
  | 0 => e
  | k + 1 => jbwd tg (jbw tg e k)
/-- as many words are counted forwards as backwards -/
theorem jwords {n : Nat} (hn : 0 < n) {tg : Nat → Nat} (ht : ∀ m, m < 9 * n → tg m < n) (e : Nat → Int64) (k : Nat) : jsl (fun s => jfw n tg k s * e s) n = jbw tg e k 0 := by
  have key : ∀ i j, jsl (fun s => jfw n tg i s * jbw tg e j s) n = jbw tg e (i + j) 0 := by
    intro i
    induction i with
    | zero =>
      intro j
      rw [Nat.zero_add]
      have := jsl_one 0 1 (jbw tg e j) n hn
      rw [Int64.one_mul] at this
      exact this
    | succ i ih =>
      intro j
      have h1 := jadj ht (jfw n tg i) (jbw tg e j)
      show jsl (fun s => jfwd n tg (jfw n tg i) s * jbw tg e j s) n = _
      rw [h1]
      have h2 := ih (j + 1)
      rw [show i + 1 + j = i + (j + 1) by omega]
      exact h2
  exact key k 0
