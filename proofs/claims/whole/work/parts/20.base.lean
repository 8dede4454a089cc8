/-! plain facts for the functional part -/
theorem jbI_s (x : Int) (s : jM) (f : Int → jM → Option jR) : jbI (some (some (.inl x), s)) f = f x s := rfl
theorem jbV_s (s : jM) (f : jM → Option jR) : jbV (some (none, s)) f = f s := rfl
theorem jbR_s (k i : Nat) (s : jM) (f : Nat → jM → Option jR) : jbR (some (some (.inr (k, i)), s)) k f = f i s := by
  show (bif Nat.beq k k then f i s else none) = _
  rw [Nat.beq_refl, cond_true]
theorem jwi {x : Int} (h1 : -2147483648 ≤ x) (h2 : x < 2147483648) : jw x = x := jw_id ⟨h1, h2⟩
theorem jwn {x : Int} {n : Nat} (h : x = n) (h2 : n < 2147483648) : jw x = (n : Int) := by rw [h]; exact jw_id ⟨by omega, by omega⟩
/-- numbers modulo 101 -/
def g101 (x : Int) : Prop := 0 ≤ x ∧ x < 101
theorem tm101 {x : Int} (h : 0 ≤ x) : x.tmod 101 = x % 101 := Int.tmod_eq_emod_of_nonneg h
theorem em101 (x : Int) : g101 (x % 101) := ⟨Int.emod_nonneg _ (by decide), Int.emod_lt_of_pos _ (by decide)⟩
theorem mul101 {x y : Int} (hx : g101 x) (hy : g101 y) : 0 ≤ x * y ∧ x * y ≤ 10000 := by
  refine ⟨Int.mul_nonneg hx.1 hy.1, ?_⟩
  have h1 : x * y ≤ 100 * y := Int.mul_le_mul_of_nonneg_right (by have := hx.2; omega) hy.1
  have := hy.2
  omega
/-- a stretch of a row, laid anew -/
def jfl (s : jM) (k i a n : Nat) (g : Nat → Int) : jM := fun k' i' j' => if k' = k ∧ i' = i ∧ a ≤ j' ∧ j' < a + n then g (j' - a) else s k' i' j'
theorem jfl_0 (s : jM) (k i a : Nat) (g : Nat → Int) : jfl s k i a 0 g = s := by
  funext k' i' j'
  unfold jfl
  exact if_neg (by omega)
theorem jfl_up (s : jM) (k i a n : Nat) (g : Nat → Int) (v : Int) (h : v = g n) (q : Nat) (hq : q = a + n) : jup (jfl s k i a n g) k i q v = jfl s k i a (n + 1) g := by
  subst h
  subst hq
  funext k' i' j'
  unfold jup jfl
  by_cases h1 : k' = k ∧ i' = i ∧ j' = a + n
  · rw [if_pos h1, if_pos (by omega), show j' - a = n by omega]
  · rw [if_neg h1]
    by_cases h2 : k' = k ∧ i' = i ∧ a ≤ j' ∧ j' < a + n
    · rw [if_pos h2, if_pos (by omega)]
    · rw [if_neg h2, if_neg (by omega)]
theorem jfl_in (s : jM) (k i a n : Nat) (g : Nat → Int) (j : Nat) (h : j < n) : jfl s k i a n g k i (a + j) = g j := by
  unfold jfl
  rw [if_pos (by omega), show a + j - a = j by omega]
theorem jfl_ne (s : jM) (k i a n : Nat) (g : Nat → Int) (k' i' j' : Nat) (h : ¬ (k' = k ∧ i' = i ∧ a ≤ j' ∧ j' < a + n)) : jfl s k i a n g k' i' j' = s k' i' j' := by
  unfold jfl
  exact if_neg h
theorem jup_e (s : jM) (k i j : Nat) (v : Int) : jup s k i j v k i j = v := by
  unfold jup
  exact if_pos ⟨rfl, rfl, rfl⟩
theorem jup_n (s : jM) (k i j : Nat) (v : Int) (k' i' j' : Nat) (h : ¬ (k' = k ∧ i' = i ∧ j' = j)) : jup s k i j v k' i' j' = s k' i' j' := by
  unfold jup
  exact if_neg h
/-- how many monomials -/
def mn (d : Int) : Int := (d + 1) * (d + 2) / 2
def mnN (d : Nat) : Nat := (d + 1) * (d + 2) / 2
theorem d6 {d : Int} (h0 : 0 ≤ d) (h5 : d ≤ 5) : d = 0 ∨ d = 1 ∨ d = 2 ∨ d = 3 ∨ d = 4 ∨ d = 5 := by omega
def rd (x : Int) : Nat → Int
  | 0 => 1
  | n + 1 => rd x n * x % 101
theorem rd_g (x : Int) : ∀ n, g101 (rd x n)
  | 0 => ⟨(by decide : (0 : Int) ≤ 1), (by decide : (1 : Int) < 101)⟩
  | n + 1 => em101 _
/-- what a monomial is at u, v, w -/
def mal (u v w : Int) (a b c : Nat) : Int := (rd u a * rd v b % 101) * rd w c % 101
theorem mal_g (u v w : Int) (a b c : Nat) : g101 (mal u v w a b c) := em101 _
def bI (p : Prop) [Decidable p] : Int := if p then 1 else 0
/-- powers of y and z at a place, the level of a place -/
def py (m : Nat) : Nat := (jyp m).toNat
def pz (m : Nat) : Nat := (jzp m).toNat
def plev (m : Nat) : Nat := py m + pz m
def pl (b c : Nat) : Nat := (b + c) * (b + c + 1) / 2 + c
theorem jyp_py : ∀ m : Nat, m < 21 → jyp m = (py m : Int) ∧ jzp m = (pz m : Int) ∧ py m ≤ 5 ∧ pz m ≤ 5 ∧ plev m ≤ 5 ∧ pl (py m) (pz m) = m := by decide +kernel
theorem mn_lev : ∀ d : Nat, d ≤ 5 → ∀ m : Nat, m < 21 → (m < mnN d ↔ plev m ≤ d) := by decide +kernel
theorem mnN_le : ∀ d : Nat, d ≤ 5 → 1 ≤ mnN d ∧ mnN d ≤ 21 := by decide +kernel
theorem pl_lt : ∀ b : Nat, b ≤ 5 → ∀ c : Nat, c ≤ 5 → b + c ≤ 5 → pl b c < 21 ∧ py (pl b c) = b ∧ pz (pl b c) = c := by decide +kernel
theorem loopI {P : Nat → Option jR} {n : Nat} {r : Option jR} (hs : ∀ i, i < n → P i = P (i + 1)) (he : P n = r) : P 0 = r := by
  have h : ∀ k i, i + k = n → P i = r := by
    intro k
    induction k with
    | zero => intro i hi; rw [show i = n by omega]; exact he
    | succ k ih => intro i hi; rw [hs i (by omega)]; exact ih (i + 1) (by omega)
  exact h n 0 (by omega)
/-- a count -/
def cntN (g : Nat → Int) (v : Int) : Nat → Nat
  | 0 => 0
  | n + 1 => cntN g v n + if g n = v then 1 else 0
theorem cntN_le (g : Nat → Int) (v : Int) : ∀ n, cntN g v n ≤ n
  | 0 => Nat.le_refl 0
  | n + 1 => by
    have := cntN_le g v n
    unfold cntN
    split <;> omega
/-- a fold over 0 .. n less 1 -/
def fold {α : Type} (f : Nat → α → α) (a : α) : Nat → α
  | 0 => a
  | n + 1 => f n (fold f a n)
