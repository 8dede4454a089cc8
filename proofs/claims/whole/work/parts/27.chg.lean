/-! ONE CHANGE ON BOTH SIDES -/
theorem FW_e {d : Int} {g h : Nat → Int} (hg : FW d g) (hh : FW d h) (he : ∀ m, m < mnN d.toNat → g m = h m) : ∀ j, j < 21 → g j = h j := by
  intro j hj
  by_cases c : j < mnN d.toNat
  · exact he j c
  · rw [hg.2.2.2 j (by omega) hj, hh.2.2.2 j (by omega) hj]
theorem FW_c {d : Int} {g h : Nat → Int} (hg : FW d g) (he : ∀ j, j < 21 → h j = g j) : FW d h := by
  obtain ⟨a, b, c, e⟩ := hg
  exact ⟨a, b, fun j hj => by rw [he j hj]; exact c j hj, fun j h1 h2 => by rw [he j h2]; exact e j h1 h2⟩
theorem cpush_o (s : jM) (κ k : Int) (i : Nat) (a b c : Nat) (h : ¬ ((a = 1 ∨ a = 16) ∧ b = 46 + (s 6 0 1).toNat ∨ a = 5 ∧ b = (s 6 0 1).toNat ∨ a = 6)) : cpush s κ k i a b c = s a b c := by
  unfold cpush
  rw [jup_n _ _ _ _ _ _ _ _ (by omega), jup_n _ _ _ _ _ _ _ _ (by omega), fset_o _ _ _ _ _ _ _ (by omega) (by omega), jup_n _ _ _ _ _ _ _ _ (by omega), jup_n _ _ _ _ _ _ _ _ (by omega)]
theorem cchg_o (s : jM) (κ k : Int) (i f : Nat) (a b c : Nat) (h : ¬ ((a = 1 ∨ a = 16) ∧ (b = i ∨ 46 ≤ b) ∨ a = 5 ∨ a = 6)) : cchg s κ k i f a b c = s a b c := by
  unfold cchg
  split
  · rfl
  · rw [fset_o _ _ _ _ _ _ _ (by omega) (by omega), cpush_o _ _ _ _ _ _ _ (by omega)]
theorem mshift_o (t : jM) (a b c : Nat) (h : a ≠ 38) (h2 : a ≠ 39) (h3 : a ≠ 40) : mshift t a b c = t a b c := by
  unfold mshift
  rw [jfl_ne _ _ _ _ _ _ _ _ _ (by omega), jfl_ne _ _ _ _ _ _ _ _ _ (by omega), jfl_ne _ _ _ _ _ _ _ _ _ (by omega)]
theorem mshift_s (t : jM) : (∀ j, j < 32 → mshift t 38 0 j = t 38 0 (j + 4)) ∧ (∀ j, j < 672 → mshift t 39 0 j = t 39 0 (j + 84)) ∧ ∀ j, j < 144 → mshift t 40 0 j = t 40 0 (j + 18) := by
  unfold mshift
  refine ⟨fun j hj => ?_, fun j hj => ?_, fun j hj => ?_⟩
  · rw [jfl_ne _ _ _ _ _ _ _ _ _ (by omega), jfl_ne _ _ _ _ _ _ _ _ _ (by omega)]
    have := jfl_in t 38 0 0 32 (fun j => t 38 0 (j + 4)) j hj
    rwa [Nat.zero_add] at this
  · rw [jfl_ne _ _ _ _ _ _ _ _ _ (by omega)]
    have := jfl_in (jfl t 38 0 0 32 (fun j => t 38 0 (j + 4))) 39 0 0 672 (fun j => t 39 0 (j + 84)) j hj
    rwa [Nat.zero_add] at this
  · have := jfl_in (jfl (jfl t 38 0 0 32 (fun j => t 38 0 (j + 4))) 39 0 0 672 (fun j => t 39 0 (j + 84))) 40 0 0 144 (fun j => t 40 0 (j + 18)) j hj
    rwa [Nat.zero_add] at this
theorem msettle_o (t : jM) (n : Nat) (a b c : Nat) (h : a ≠ 38) (h2 : a ≠ 39) (h3 : a ≠ 40) (h4 : ¬ (a = 11 ∧ c = 10)) : msettle t n a b c = t a b c := by
  unfold msettle
  split
  · rfl
  · split
    · rw [jup_n _ _ _ _ _ _ _ _ (by omega)]
    · exact mshift_o t a b c h h2 h3
/-- the change: κ 0 a register, 1 a line; k; at the class' form i; the form f is the new one -/
def hK (s : jM) (κ : Int) (k i f : Nat) : Prop := (κ = 0 ∧ k < 4 ∧ i = k) ∨ (κ = 1 ∧ k < 6 ∧ i = 4 + k ∧ s 1 f 1 = 1)
/-- what the reference has before it settles -/
def hT (s t : jM) (n : Nat) (κ : Int) (k i f : Nat) : Prop :=
  (∀ q a b, ¬ (q = 29 ∨ q = 30 ∨ q = 31 ∨ q = 38 ∨ q = 39 ∨ q = 40 ∨ Scr q a b) → t q a b = cchg s κ k i f q a b) ∧
  ((∀ j, j < 4 * n → t 38 0 j = s 38 0 j) ∧ ∀ j, j < 4 → t 38 0 (4 * n + j) = s 29 0 j) ∧
  ((∀ j, j < 84 * n → t 39 0 j = s 39 0 j) ∧ ∀ j, j < 84 → t 39 0 (84 * n + j) = s 30 0 j) ∧
  ((∀ j, j < 18 * n → t 40 0 j = s 40 0 j) ∧ ∀ j, j < 18 → t 40 0 (18 * n + j) = s 31 0 j) ∧
  (∀ r, r < 4 → t 29 0 r = if κ = 0 ∧ r = k then s 1 f 1 else s 29 0 r) ∧
  (∀ r, r < 4 → ∀ j, j < 21 → t 30 0 (21 * r + j) = if κ = 0 ∧ r = k then s 16 f j else s 30 0 (21 * r + j)) ∧
  (∀ m, m < 6 → ∀ j, j < 3 → t 31 0 (3 * m + j) = if κ = 1 ∧ m = k then s 16 f j else s 31 0 (3 * m + j))
theorem chg_same (s t : jM) (n nx : Nat) (κ : Int) (k i f : Nat) (hI : Inv s) (hS : RS s n nx) (hk : hK s κ k i f) (hf : 10 ≤ f) (hF : FW (s 1 f 1) (s 16 f)) (ht : hT s t n κ k i f) :
    (FSame s i f ↔ mSame t n) ∧ (FSame s i f → (∀ r, r < 4 → t 29 0 r = s 29 0 r) ∧ (∀ j, j < 84 → t 30 0 j = s 30 0 j) ∧ ∀ j, j < 18 → t 31 0 j = s 31 0 j) := by
  obtain ⟨t0, t38, t39, t40, t29, t30, t31⟩ := ht
  obtain ⟨hB, hBl⟩ := hI.1
  have yes : FSame s i f → (∀ r, r < 4 → t 29 0 r = s 29 0 r) ∧ (∀ j, j < 84 → t 30 0 j = s 30 0 j) ∧ ∀ j, j < 18 → t 31 0 j = s 31 0 j := by
    intro c
    rcases hk with ⟨rfl, k4, rfl⟩ | ⟨rfl, k6, rfl, f1⟩
    · obtain ⟨b1, b2, b3⟩ := hB i k4
      rw [Nat.zero_add] at b1 b2 b3
      have hb2 : FW (s 1 f 1) (s 16 i) := by rw [← c.1]; exact b2
      have e21 := FW_e hb2 hF (fun m hm => c.2 m (by rw [c.1]; exact hm))
      refine ⟨fun r hr => ?_, fun j hj => ?_, fun j hj => ?_⟩
      · rw [t29 r hr]
        by_cases e : r = i
        · rw [if_pos ⟨rfl, e⟩, e, ← b1, c.1]
        · rw [if_neg (fun z => e z.2)]
      · have := t30 (j / 21) (by omega) (j % 21) (by omega)
        rw [show 21 * (j / 21) + j % 21 = j by omega] at this
        rw [this]
        by_cases e : j / 21 = i
        · have b4 := b3 (j % 21) (by omega)
          rw [if_pos ⟨rfl, e⟩, ← e21 _ (by omega), b4, show 21 * i + j % 21 = j by omega]
        · rw [if_neg (fun z => e z.2)]
      · have := t31 (j / 3) (by omega) (j % 3) (by omega)
        rw [show 3 * (j / 3) + j % 3 = j by omega, if_neg (fun z => absurd z.1 (by decide))] at this
        exact this
    · obtain ⟨b1, b2, b3⟩ := hBl k k6
      rw [Nat.zero_add] at b1 b2 b3
      refine ⟨fun r hr => ?_, fun j hj => ?_, fun j hj => ?_⟩
      · rw [t29 r hr, if_neg (fun z => absurd z.1 (by decide))]
      · have := t30 (j / 21) (by omega) (j % 21) (by omega)
        rw [show 21 * (j / 21) + j % 21 = j by omega, if_neg (fun z => absurd z.1 (by decide))] at this
        exact this
      · have := t31 (j / 3) (by omega) (j % 3) (by omega)
        rw [show 3 * (j / 3) + j % 3 = j by omega] at this
        rw [this]
        by_cases e : j / 3 = k
        · have b4 := b3 (j % 3) (by omega)
          have c2 := c.2 (j % 3) (by rw [b1]; show j % 3 < 3; omega)
          rw [if_pos ⟨rfl, e⟩, ← c2, b4, show 3 * k + j % 3 = j by omega]
        · rw [if_neg (fun z => e z.2)]
  refine ⟨⟨fun c => ?_, fun c => ?_⟩, yes⟩
  · obtain ⟨y1, y2, y3⟩ := yes c
    refine ⟨fun r hr => ⟨?_, fun m hm => ?_⟩, fun j hj => ?_⟩
    · rw [y1 r hr, t38.2 r hr]
    · obtain ⟨b1, b2, b3⟩ := hB r hr
      have := (mnN_le (t 29 0 r).toNat (by rw [y1 r hr, ← b1]; have := b2.1; have := b2.2.1; omega)).2
      rw [y2 _ (by omega), show 84 * n + 21 * r + m = 84 * n + (21 * r + m) by omega, t39.2 _ (by omega)]
    · rw [y3 j hj, t40.2 j hj]
  · obtain ⟨c1, c2⟩ := c
    rcases hk with ⟨rfl, k4, rfl⟩ | ⟨rfl, k6, rfl, f1⟩
    · obtain ⟨b1, b2, b3⟩ := hB i k4
      rw [Nat.zero_add] at b1 b2 b3
      obtain ⟨q1, q2⟩ := c1 i k4
      have tk := t29 i k4
      rw [if_pos ⟨rfl, rfl⟩] at tk
      have e1 : s 1 i 1 = s 1 f 1 := by rw [b1, ← t38.2 i k4, ← q1, tk]
      refine ⟨e1, fun m hm => ?_⟩
      have hm21 := (mnN_le (s 1 i 1).toNat (by have := b2.1; have := b2.2.1; omega)).2
      have q3 := q2 m (by rw [tk, ← e1]; exact hm)
      have t3 := t30 i k4 m (by omega)
      rw [if_pos ⟨rfl, rfl⟩] at t3
      rw [b3 m (by omega), ← t3, q3, show 84 * n + 21 * i + m = 84 * n + (21 * i + m) by omega, t39.2 _ (by omega)]
    · obtain ⟨b1, b2, b3⟩ := hBl k k6
      rw [Nat.zero_add] at b1 b2 b3
      refine ⟨by rw [b1, f1], fun m hm => ?_⟩
      rw [b1] at hm
      have hm : m < 3 := hm
      have t3 := t31 k k6 m hm
      rw [if_pos ⟨rfl, rfl⟩] at t3
      rw [b3 m hm, ← t3, c2 _ (by omega), t40.2 _ (by omega)]
