/-! DEEP, ROOTS, WEIGHTS: the mathematics -/
def Sol (A : Nat → Nat → Int) (h w p : Nat) (y : Nat → Int) : Prop := Rel A h w y ∧ y p = 1 ∧ (∀ j, p < j → j < w → y j = 0) ∧ (∀ j, j < p → Fr A h w j → y j = 0) ∧ ∀ j, j < w → g101 (y j)
theorem Sol_uniq {A : Nat → Nat → Int} {h w p : Nat} {y z : Nat → Int} (hy : Sol A h w p y) (hz : Sol A h w p z) : ∀ j, j < w → y j = z j := by
  obtain ⟨y1, y2, y3, y4, y5⟩ := hy
  obtain ⟨z1, z2, z3, z4, z5⟩ := hz
  intro j hj
  exact eq_of_dv (y5 j hj) (z5 j hj) (rel_uniq y1 z1 (by rw [y2]; exact ⟨0, rfl⟩) (by rw [z2]; exact ⟨0, rfl⟩) (fun j h1 h2 => by rw [y3 j h1 h2]; exact ⟨0, rfl⟩) (fun j h1 h2 => by rw [z3 j h1 h2]; exact ⟨0, rfl⟩) (fun j h1 h2 => by rw [y4 j h1 h2]; exact ⟨0, rfl⟩) (fun j h1 h2 => by rw [z4 j h1 h2]; exact ⟨0, rfl⟩) j hj)
theorem Sol_fr {A : Nat → Nat → Int} {h w p : Nat} {y : Nat → Int} (hy : Sol A h w p y) : Fr A h w p := ⟨y, hy.1, by rw [hy.2.1]; exact ⟨0, rfl⟩, fun j h1 h2 => by rw [hy.2.2.1 j h1 h2]; exact ⟨0, rfl⟩⟩
theorem rsol_Sol {A B : Nat → Nat → Int} {h w : Nat} {ld : Nat → Int} {rk : Nat} (hR : RedI A B h w w ld rk) {p : Nat} (hp : p < w) (hf : ld p = -1) : Sol A h w p (rsol B ld p) := by
  obtain ⟨a, b, c, d, e⟩ := rsol_ok hR hp hf
  exact ⟨a, b, c, fun j h1 h2 => d j (by omega) ((red_free hR (by omega)).mpr h2) (by omega), e⟩
/-- the table of a form of two letters by e -/
def dA (f : Nat → Int) (e : Nat) : Nat → Nat → Int := fun i p => f (i + (e - p))
/-- e is how deep, q the first operator -/
def DR (f : Nat → Int) (d e : Nat) (q : Nat → Int) : Prop := e ≤ d + 1 ∧ (∀ e', e' < e → ∀ p, p < e' + 1 → ¬ Fr (dA f e') (d + 1 - e') (e' + 1) p) ∧ ∃ p, p < e + 1 ∧ (∀ j, p < j → j < e + 1 → ¬ Fr (dA f e) (d + 1 - e) (e + 1) j) ∧ Sol (dA f e) (d + 1 - e) (e + 1) p (fun j => q (e - j))
theorem DR_uniq {f : Nat → Int} {d e e' : Nat} {q q' : Nat → Int} (h : DR f d e q) (h' : DR f d e' q') : e = e' ∧ ∀ i, i < e + 1 → q i = q' i := by
  obtain ⟨a1, a2, p, a3, a4, a5⟩ := h
  obtain ⟨b1, b2, p', b3, b4, b5⟩ := h'
  have he : e = e' := by
    rcases Nat.lt_trichotomy e e' with z | z | z
    · exact absurd (Sol_fr a5) (b2 e z p a3)
    · exact z
    · exact absurd (Sol_fr b5) (a2 e' z p' b3)
  subst he
  have hp : p = p' := by
    rcases Nat.lt_trichotomy p p' with z | z | z
    · exact absurd (Sol_fr b5) (a4 p' z b3)
    · exact z
    · exact absurd (Sol_fr a5) (b4 p z a3)
  subst hp
  refine ⟨rfl, fun i hi => ?_⟩
  have := Sol_uniq a5 b5 (e - i) (by omega)
  rw [show e - (e - i) = i by omega] at this
  exact this
theorem dot_head (g h : Nat → Int) : ∀ n, dot g h (n + 1) = g 0 * h 0 + dot (fun i => g (i + 1)) (fun i => h (i + 1)) n
  | 0 => by rw [dot, dot, dot]; omega
  | n + 1 => by rw [dot, dot_head g h n, dot]; omega
theorem dot_rev : ∀ (n : Nat) (g h : Nat → Int), dot (fun p => g (n - p)) (fun p => h (n - p)) (n + 1) = dot g h (n + 1)
  | 0, g, h => rfl
  | n + 1, g, h => by
    rw [dot, dot_head g h (n + 1), ← dot_rev n (fun i => g (i + 1)) (fun i => h (i + 1)), show n + 1 - (n + 1) = 0 by omega]
    have : dot (fun p => g (n + 1 - p)) (fun p => h (n + 1 - p)) (n + 1) = dot (fun p => g (n - p + 1)) (fun p => h (n - p + 1)) (n + 1) := dot_c (n + 1) (fun j hj => by rw [show n + 1 - j = n - j + 1 by omega]) (fun j hj => by rw [show n + 1 - j = n - j + 1 by omega])
    rw [this]
    omega
theorem dot_swap (q w : Nat → Int) (F : Nat → Nat → Int) (n : Nat) : ∀ m, dot q (fun i => dot w (fun k => F k i) n) m = dot w (fun k => dot q (F k) m) n
  | 0 => by rw [dot]; exact (dot_z n (fun k _ => rfl)).symm
  | m + 1 => by
    have h := dot_add2 w (fun k => dot q (F k) m) (fun k => F k m) (q m) n
    have h2 : (fun k => dot q (F k) (m + 1)) = fun k => dot q (F k) m + q m * F k m := rfl
    rw [h2, h, dot, dot_swap q w F n m]
theorem rd_s (x : Int) (n : Nat) : (101 : Int) ∣ rd x (n + 1) - rd x n * x := by
  rw [rd]
  omega
theorem rd_add (x : Int) (a : Nat) : ∀ b, (101 : Int) ∣ rd x (a + b) - rd x a * rd x b
  | 0 => by rw [Nat.add_zero, show rd x 0 = 1 from rfl, Int.mul_one]; omega
  | b + 1 => by
    have h1 := rd_add x a b
    have h2 := rd_s x (a + b)
    have h3 := rd_s x b
    have h4 : (101 : Int) ∣ (rd x (a + b) - rd x a * rd x b) * x := dvm h1
    have h5 : (101 : Int) ∣ rd x a * (rd x (b + 1) - rd x b * x) := dvm2 h3
    have e : rd x (a + (b + 1)) - rd x a * rd x (b + 1) = (rd x (a + b + 1) - rd x (a + b) * x) + (rd x (a + b) - rd x a * rd x b) * x - rd x a * (rd x (b + 1) - rd x b * x) := by
      rw [show a + (b + 1) = a + b + 1 by omega]
      grind
    rw [e]
    omega
/-- any numbers are made of powers of unlike ones -/
theorem vand : ∀ (n : Nat) (t f : Nat → Int), (∀ k, k < n → ∀ k', k' < k → ¬ (101 : Int) ∣ t k' - t k) → ∃ w : Nat → Int, ∀ i, i < n → (101 : Int) ∣ f i - dot w (fun k => rd (t k) i) n
  | 0, t, f, _ => ⟨fun _ => 0, fun i hi => absurd hi (by omega)⟩
  | n + 1, t, f, hd => by
    obtain ⟨w', hw'⟩ := vand n t (fun i => f (i + 1) - t n * f i) (fun k hk k' hk' => hd k (by omega) k' hk')
    have hinv : ∀ k, ∃ u : Int, k < n → (101 : Int) ∣ u * (t k - t n) - 1 := fun k => by
      by_cases hk : k < n
      · obtain ⟨u, hu⟩ := inv_ex _ (hd n (by omega) k hk)
        exact ⟨u, fun _ => hu⟩
      · exact ⟨0, fun z => absurd z hk⟩
    have hc : ∃ u : Nat → Int, ∀ k, k < n → (101 : Int) ∣ u k * (t k - t n) - 1 := ⟨fun k => Classical.choose (hinv k), fun k => Classical.choose_spec (hinv k)⟩
    obtain ⟨u, hu⟩ := hc
    refine ⟨fun k => if k = n then f 0 - dot (fun k => w' k * u k) (fun _ => 1) n else w' k * u k, fun i => ?_⟩
    have hW : ∀ i, dot (fun k => if k = n then f 0 - dot (fun k => w' k * u k) (fun _ => 1) n else w' k * u k) (fun k => rd (t k) i) (n + 1) = dot (fun k => w' k * u k) (fun k => rd (t k) i) n + (f 0 - dot (fun k => w' k * u k) (fun _ => 1) n) * rd (t n) i := fun i => by
      have e1 : dot (fun k => if k = n then f 0 - dot (fun k => w' k * u k) (fun _ => 1) n else w' k * u k) (fun k => rd (t k) i) n = dot (fun k => w' k * u k) (fun k => rd (t k) i) n := dot_c n (fun k hk => if_neg (by omega)) (fun _ _ => rfl)
      rw [dot, e1, if_pos rfl]
    induction i with
    | zero =>
      intro _
      rw [hW]
      have : dot (fun k => w' k * u k) (fun k => rd (t k) 0) n = dot (fun k => w' k * u k) (fun _ => 1) n := dot_c n (fun _ _ => rfl) (fun _ _ => rfl)
      rw [this, show rd (t n) 0 = 1 from rfl]
      omega
    | succ i ih =>
      intro hi
      have ih := ih (by omega)
      rw [hW] at ih ⊢
      have h1 := hw' i (by omega)
      -- the powers' next ones, less t n times these
      have h2 := dot_cg (e := w') (f := fun k => rd (t k) i) (g := fun k => u k * (rd (t k) (i + 1) - t n * rd (t k) i)) n (fun k hk => by
        have q1 := rd_s (t k) i
        have q2 : (101 : Int) ∣ (u k * (t k - t n) - 1) * rd (t k) i := dvm (hu k hk)
        have q3 : (101 : Int) ∣ u k * (rd (t k) (i + 1) - rd (t k) i * t k) := dvm2 q1
        have e : rd (t k) i - u k * (rd (t k) (i + 1) - t n * rd (t k) i) = -((u k * (t k - t n) - 1) * rd (t k) i) - u k * (rd (t k) (i + 1) - rd (t k) i * t k) := by grind
        show (101 : Int) ∣ rd (t k) i - u k * (rd (t k) (i + 1) - t n * rd (t k) i)
        rw [e]
        omega)
      have h3 : dot w' (fun k => u k * (rd (t k) (i + 1) - t n * rd (t k) i)) n = dot (fun k => w' k * u k) (fun k => rd (t k) (i + 1)) n - t n * dot (fun k => w' k * u k) (fun k => rd (t k) i) n := by
        have : ∀ m, dot w' (fun k => u k * (rd (t k) (i + 1) - t n * rd (t k) i)) m = dot (fun k => w' k * u k) (fun k => rd (t k) (i + 1)) m - t n * dot (fun k => w' k * u k) (fun k => rd (t k) i) m := fun m => by
          induction m with
          | zero => rw [dot, dot, dot]; omega
          | succ m im => rw [dot, dot, dot, im]; grind
        exact this n
      have h4 := rd_s (t n) i
      have h5 : (101 : Int) ∣ (f 0 - dot (fun k => w' k * u k) (fun _ => 1) n) * (rd (t n) (i + 1) - rd (t n) i * t n) := dvm2 h4
      have h6 : (101 : Int) ∣ t n * (f i - (dot (fun k => w' k * u k) (fun k => rd (t k) i) n + (f 0 - dot (fun k => w' k * u k) (fun _ => 1) n) * rd (t n) i)) := dvm2 ih
      rw [h3] at h2
      generalize dot (fun k => w' k * u k) (fun k => rd (t k) (i + 1)) n = X at *
      generalize dot (fun k => w' k * u k) (fun k => rd (t k) i) n = Y at *
      generalize f 0 - dot (fun k => w' k * u k) (fun _ => 1) n = Z at *
      generalize dot w' (fun k => rd (t k) i) n = Q at *
      have e : f (i + 1) - (X + Z * rd (t n) (i + 1)) = (f (i + 1) - t n * f i - Q) + (Q - (X - t n * Y)) + t n * (f i - (Y + Z * rd (t n) i)) - Z * (rd (t n) (i + 1) - rd (t n) i * t n) := by grind
      rw [e]
      omega
/-- a polynomial with more roots than its degree is 0 -/
theorem poly_zero (n : Nat) (t q : Nat → Int) (hd : ∀ k, k < n → ∀ k', k' < k → ¬ (101 : Int) ∣ t k' - t k) (hr : ∀ k, k < n → (101 : Int) ∣ dot q (rd (t k)) n) : ∀ i, i < n → (101 : Int) ∣ q i := by
  intro i hi
  obtain ⟨w, hw⟩ := vand n t (fun j => if j = i then 1 else 0) hd
  have h1 := dot_cg (e := q) (f := fun j => if j = i then (1 : Int) else 0) (g := fun j => dot w (fun k => rd (t k) j) n) n (fun j hj => hw j hj)
  have h2 := dot_swap q w (fun k => rd (t k)) n n
  have h3 := dot_0 (g := w) (x := fun k => dot q (rd (t k)) n) n (fun k hk => dvm2 (hr k hk))
  have h4 := dot_1 (g := q) (x := fun j => if j = i then (1 : Int) else 0) i n hi (fun j hj hne => by
    show (101 : Int) ∣ q j * (if j = i then 1 else 0)
    rw [if_neg hne, Int.mul_zero]; exact ⟨0, rfl⟩)
  have h5 : q i * (fun j => if j = i then (1 : Int) else 0) i = q i := by
    show q i * (if i = i then 1 else 0) = q i
    rw [if_pos rfl, Int.mul_one]
  rw [h5] at h4
  omega
/-- the value of an operator at (1, t, 0) -/
def evq (q : Nat → Int) (e : Nat) (t : Nat) : Int := dot q (rd (t : Int)) (e + 1) % 101
theorem evq_0 {q : Nat → Int} {e t : Nat} : evq q e t = 0 ↔ (101 : Int) ∣ dot q (rd (t : Int)) (e + 1) := by
  unfold evq
  omega
/-- the roots, in their order -/
def kroot (g : Nat → Int) : Nat → Nat → Int
  | 0, _ => 0
  | t + 1, k => if g t = 0 ∧ k = cntN g 0 t then (t : Int) else kroot g t k
theorem kroot_ok (g : Nat → Int) : ∀ t k, k < cntN g 0 t → ∃ m : Nat, kroot g t k = (m : Int) ∧ m < t ∧ g m = 0 ∧ cntN g 0 m = k
  | 0, k, hk => absurd hk (by show ¬ k < 0; omega)
  | t + 1, k, hk => by
    unfold kroot
    by_cases c : g t = 0 ∧ k = cntN g 0 t
    · rw [if_pos c]
      exact ⟨t, rfl, by omega, c.1, c.2.symm⟩
    · rw [if_neg c]
      have : k < cntN g 0 t := by
        by_cases c2 : g t = 0
        · rw [cntN_yes c2] at hk
          have : k ≠ cntN g 0 t := fun z => c ⟨c2, z⟩
          omega
        · rw [cntN_no c2] at hk; exact hk
      obtain ⟨m, h1, h2, h3, h4⟩ := kroot_ok g t k this
      exact ⟨m, h1, by omega, h3, h4⟩
theorem kroot_ne (g : Nat → Int) {T k k' : Nat} (hT : T ≤ 101) (hk : k < cntN g 0 T) (hk' : k' < k) : ¬ (101 : Int) ∣ kroot g T k' - kroot g T k := by
  obtain ⟨m, h1, h2, h3, h4⟩ := kroot_ok g T k hk
  obtain ⟨m', g1, g2, g3, g4⟩ := kroot_ok g T k' (by omega)
  rw [h1, g1]
  have : m ≠ m' := fun z => by rw [z] at h4; omega
  omega
/-- no more roots than the degree: with the last number gone, one less -/
theorem root_le {q : Nat → Int} {e : Nat} (hq : ∀ i, i < e + 1 → g101 (q i)) (hne : ∃ i, i < e + 1 ∧ q i ≠ 0) : cntN (evq q e) 0 101 ≤ e ∧ (q e = 0 → cntN (evq q e) 0 101 + 1 ≤ e) ∧ (q e = 0 → cntN (evq q e) 0 101 + 1 = e → q (e - 1) ≠ 0) := by
  have key : ∀ n, n ≤ e + 1 → (∀ i, n ≤ i → i < e + 1 → q i = 0) → n ≤ cntN (evq q e) 0 101 → False := fun n hn hz hle => by
    obtain ⟨i, hi, hqi⟩ := hne
    by_cases c : i < n
    · have hdot : ∀ t : Nat → Int, ∀ k, dot q (rd (t k)) (e + 1) = dot q (rd (t k)) n := fun t k => by
        have : ∀ m, n + m ≤ e + 1 → dot q (rd (t k)) (n + m) = dot q (rd (t k)) n := fun m => by
          induction m with
          | zero => intro _; rfl
          | succ m ih =>
            intro hm
            rw [← Nat.add_assoc, dot, ih (by omega), hz (n + m) (by omega) (by omega), Int.zero_mul, Int.add_zero]
        have h := this (e + 1 - n) (by omega)
        rw [show n + (e + 1 - n) = e + 1 by omega] at h
        exact h
      have := poly_zero n (kroot (evq q e) 101) q (fun k hk k' hk' => kroot_ne _ (Nat.le_refl _) (by omega) hk') (fun k hk => by
        obtain ⟨m, h1, h2, h3, h4⟩ := kroot_ok (evq q e) 101 k (by omega)
        rw [← hdot, h1]
        exact evq_0.mp h3) i c
      exact hqi (dv0 (hq i hi) this)
    · exact hqi (hz i (by omega) hi)
  refine ⟨?_, fun h0 => ?_, fun h0 h1 h2 => ?_⟩
  · by_cases c : cntN (evq q e) 0 101 ≤ e
    · exact c
    · exact absurd (key (e + 1) (Nat.le_refl _) (fun i h1 h2 => absurd h2 (by omega)) (by omega)) id
  · by_cases c : cntN (evq q e) 0 101 + 1 ≤ e
    · exact c
    · exact absurd (key e (by omega) (fun i h1 h2 => by rw [show i = e by omega]; exact h0) (by omega)) id
  · exact key (e - 1) (by omega) (fun i h3 h4 => by
      by_cases z : i = e
      · rw [z]; exact h0
      · rw [show i = e - 1 by omega]; exact h2) (by omega)
/-- what follows the same rule from the same beginnings is the same -/
theorem rec_same {q f F : Nat → Int} {m n : Nat} (hqm : ¬ (101 : Int) ∣ q m) (hf : ∀ i, i + m < n → (101 : Int) ∣ dot q (fun j => f (i + j)) (m + 1)) (hF : ∀ i, i + m < n → (101 : Int) ∣ dot q (fun j => F (i + j)) (m + 1)) (h0 : ∀ i, i < m → (101 : Int) ∣ f i - F i) : ∀ i, i < n → (101 : Int) ∣ f i - F i := by
  intro i
  induction i using Nat.strongRecOn with
  | ind i ih =>
    intro hi
    by_cases c : i < m
    · exact h0 i c
    · have h1 := hf (i - m) (by omega)
      have h2 := hF (i - m) (by omega)
      rw [dot, show i - m + m = i by omega] at h1 h2
      have h3 := dot_cg (e := q) (f := fun j => f (i - m + j)) (g := fun j => F (i - m + j)) m (fun j hj => ih (i - m + j) (by omega) (by omega))
      obtain ⟨u, hu⟩ := inv_ex (q m) hqm
      have h4 : (101 : Int) ∣ q m * (f i - F i) := by rw [Int.mul_sub]; omega
      have h5 : (101 : Int) ∣ u * (q m * (f i - F i)) := dvm2 h4
      have h6 : (101 : Int) ∣ (u * q m - 1) * (f i - F i) := dvm hu
      have e : f i - F i = u * (q m * (f i - F i)) - (u * q m - 1) * (f i - F i) := by grind
      rw [e]
      omega
/-- powers of a root follow the operator's rule -/
theorem root_rec {q : Nat → Int} {e : Nat} {t : Int} (h : (101 : Int) ∣ dot q (rd t) (e + 1)) (i : Nat) : (101 : Int) ∣ dot q (fun j => rd t (i + j)) (e + 1) := by
  have h1 := dot_cg (e := q) (f := fun j => rd t (i + j)) (g := fun j => rd t i * rd t j) (e + 1) (fun j _ => rd_add t i j)
  have h2 : dot q (fun j => rd t i * rd t j) (e + 1) = rd t i * dot q (rd t) (e + 1) := by
    have : ∀ n, dot q (fun j => rd t i * rd t j) n = rd t i * dot q (rd t) n := fun n => by
      induction n with
      | zero => rw [dot, dot]; omega
      | succ n ih => rw [dot, dot, ih]; grind
    exact this (e + 1)
  have h3 : (101 : Int) ∣ rd t i * dot q (rd t) (e + 1) := dvm2 h
  omega
