/-! LINEAR ALGEBRA MODULO 101 -/
def dot (g x : Nat → Int) : Nat → Int
  | 0 => 0
  | n + 1 => dot g x n + g n * x n
theorem dot_comm (g x : Nat → Int) : ∀ n, dot g x n = dot x g n
  | 0 => rfl
  | n + 1 => by rw [dot, dot, dot_comm g x n, Int.mul_comm]
theorem dot_c {g g' x x' : Nat → Int} : ∀ n, (∀ j, j < n → g j = g' j) → (∀ j, j < n → x j = x' j) → dot g x n = dot g' x' n
  | 0, _, _ => rfl
  | n + 1, h, h2 => by rw [dot, dot, dot_c n (fun j hj => h j (by omega)) (fun j hj => h2 j (by omega)), h n (by omega), h2 n (by omega)]
theorem dvm {a b : Int} (h : (101 : Int) ∣ a) : (101 : Int) ∣ a * b := Int.dvd_mul_of_dvd_left h
theorem dvm2 {a b : Int} (h : (101 : Int) ∣ b) : (101 : Int) ∣ a * b := Int.dvd_mul_of_dvd_right h
theorem dot_lin {g a b x : Nat → Int} (c e : Int) : ∀ n, (∀ j, j < n → (101 : Int) ∣ g j - (c * a j + e * b j)) → (101 : Int) ∣ dot g x n - (c * dot a x n + e * dot b x n)
  | 0, _ => by simp only [dot, Int.mul_zero]; omega
  | n + 1, h => by
    have ih := dot_lin (x := x) c e n (fun j hj => h j (by omega))
    have h1 : (101 : Int) ∣ (g n - (c * a n + e * b n)) * x n := dvm (h n (by omega))
    have e1 : dot g x n + g n * x n - (c * (dot a x n + a n * x n) + e * (dot b x n + b n * x n)) = (dot g x n - (c * dot a x n + e * dot b x n)) + (g n - (c * a n + e * b n)) * x n := by grind
    rw [dot, dot, dot, e1]
    omega
theorem dot_linx {g x y z : Nat → Int} (c e : Int) (n : Nat) (h : ∀ j, j < n → (101 : Int) ∣ x j - (c * y j + e * z j)) : (101 : Int) ∣ dot g x n - (c * dot g y n + e * dot g z n) := by
  rw [dot_comm g x, dot_comm g y, dot_comm g z]
  exact dot_lin c e n h
theorem dot_0 {g x : Nat → Int} : ∀ n, (∀ j, j < n → (101 : Int) ∣ g j * x j) → (101 : Int) ∣ dot g x n
  | 0, _ => ⟨0, rfl⟩
  | n + 1, h => by
    have ih := dot_0 n (fun j hj => h j (by omega))
    have h1 := h n (by omega)
    rw [dot]
    omega
theorem dot_1 {g x : Nat → Int} (p : Nat) : ∀ n, p < n → (∀ j, j < n → j ≠ p → (101 : Int) ∣ g j * x j) → (101 : Int) ∣ dot g x n - g p * x p
  | 0, hp, _ => absurd hp (by omega)
  | n + 1, hp, h => by
    rw [dot]
    by_cases e : p = n
    · subst e
      have := dot_0 (g := g) (x := x) p (fun j hj => h j (by omega) (by omega))
      omega
    · have ih := dot_1 (g := g) (x := x) p n (by omega) (fun j hj hne => h j (by omega) hne)
      have h1 := h n (by omega) (fun z => e z.symm)
      omega
theorem inv101 : ∀ n : Nat, n < 101 → n ≠ 0 → rd (n : Int) 99 * n % 101 = 1 := by decide +kernel
/-- an inverse -/
theorem inv_ex (a : Int) (h : ¬ (101 : Int) ∣ a) : ∃ u : Int, (101 : Int) ∣ u * a - 1 := by
  have h1 := em101 a
  obtain ⟨n, hn⟩ := nat_of (a % 101) h1.1
  have h2 := (inv101 n (by have := h1.2; omega) (fun z => h (by omega)))
  refine ⟨rd (n : Int) 99, ?_⟩
  have e : rd (n : Int) 99 * a - 1 = (rd (n : Int) 99 * n - 1) + rd (n : Int) 99 * (101 * (a / 101)) := by
    have : a = n + 101 * (a / 101) := by omega
    rw [this]
    have e2 : (n + 101 * (a / 101)) / 101 = a / 101 := by omega
    rw [e2]
    grind
  have h3 : (101 : Int) ∣ rd (n : Int) 99 * (101 * (a / 101)) := dvm2 ⟨a / 101, rfl⟩
  rw [e]
  omega
/-- a relation of the columns of A -/
def Rel (A : Nat → Nat → Int) (h w : Nat) (x : Nat → Int) : Prop := ∀ i, i < h → (101 : Int) ∣ dot (A i) x w
/-- the column p depends on those ahead of it -/
def Fr (A : Nat → Nat → Int) (h w p : Nat) : Prop := ∃ x, Rel A h w x ∧ (101 : Int) ∣ x p - 1 ∧ ∀ j, p < j → j < w → (101 : Int) ∣ x j
theorem Rel_lin {A : Nat → Nat → Int} {h w : Nat} {x y z : Nat → Int} (c e : Int) (hy : Rel A h w y) (hz : Rel A h w z) (hx : ∀ j, j < w → (101 : Int) ∣ x j - (c * y j + e * z j)) : Rel A h w x := by
  intro i hi
  have h1 := dot_linx (g := A i) c e w hx
  have h2 : (101 : Int) ∣ c * dot (A i) y w := dvm2 (hy i hi)
  have h3 : (101 : Int) ∣ e * dot (A i) z w := dvm2 (hz i hi)
  omega
/-- the solutions are one -/
theorem rel_uniq {A : Nat → Nat → Int} {h w p : Nat} {x y : Nat → Int} (hx : Rel A h w x) (hy : Rel A h w y) (hx1 : (101 : Int) ∣ x p - 1) (hy1 : (101 : Int) ∣ y p - 1) (hx0 : ∀ j, p < j → j < w → (101 : Int) ∣ x j) (hy0 : ∀ j, p < j → j < w → (101 : Int) ∣ y j) (hxf : ∀ j, j < p → Fr A h w j → (101 : Int) ∣ x j) (hyf : ∀ j, j < p → Fr A h w j → (101 : Int) ∣ y j) : ∀ j, j < w → (101 : Int) ∣ x j - y j := by
  have key : ∀ c j, j + c = w → ∀ m, j ≤ m → m < w → (101 : Int) ∣ x m - y m := by
    intro c
    induction c with
    | zero => intro j hj m h1 h2; omega
    | succ c ih =>
      intro j hj m h1 h2
      have ih := ih (j + 1) (by omega)
      by_cases e : m = j
      · subst e
        by_cases e2 : p < m
        · have := hx0 m e2 h2
          have := hy0 m e2 h2
          omega
        · by_cases e3 : m = p
          · subst e3; omega
          · by_cases e4 : (101 : Int) ∣ x m - y m
            · exact e4
            · obtain ⟨u, hu⟩ := inv_ex _ e4
              have hF : Fr A h w m := by
                refine ⟨fun j => u * (x j - y j), Rel_lin u (-u) hx hy (fun j hj => ?_), hu, fun j h3 h4 => dvm2 (ih j (by omega) h4)⟩
                have : u * (x j - y j) - (u * x j + -u * y j) = 0 := by grind
                rw [this]
                exact ⟨0, rfl⟩
              have := hxf m (by omega) hF
              have := hyf m (by omega) hF
              omega
      · exact ih m (by omega) h2
  exact fun j hj => key w 0 (by omega) j (by omega) hj
theorem eq_of_dv {a b : Int} (ha : g101 a) (hb : g101 b) (h : (101 : Int) ∣ a - b) : a = b := by
  obtain ⟨h1, h2⟩ := ha
  obtain ⟨h3, h4⟩ := hb
  omega
theorem dv0 {a : Int} (ha : g101 a) (h : (101 : Int) ∣ a) : a = 0 := by
  obtain ⟨h1, h2⟩ := ha
  omega
/-! what the class' reduction gives -/
/-- the first c columns of B are done: ld are the rows that lead them -/
def RedI (A B : Nat → Nat → Int) (h w c : Nat) (ld : Nat → Int) (rk : Nat) : Prop :=
  (∀ x, Rel A h w x ↔ Rel B h w x) ∧ (∀ i, i < h → ∀ j, j < w → g101 (B i j)) ∧ (∀ j, j < c → ld j = -1 ∨ ∃ r : Nat, r < rk ∧ ld j = (r : Int) ∧ B r j = 1 ∧ (∀ i, i < h → i ≠ r → B i j = 0) ∧ ∀ m, m < j → B r m = 0) ∧ (∀ i, rk ≤ i → i < h → ∀ j, j < c → B i j = 0) ∧ (∀ i, i < rk → ∃ j, j < c ∧ ld j = (i : Int)) ∧ rk ≤ h ∧ cntN ld (-1) c + rk = c
/-- the solution that belongs to the free column p -/
def rsol (B : Nat → Nat → Int) (ld : Nat → Int) (p : Nat) : Nat → Int := fun j => if ld j = -1 then (if j = p then 1 else 0) else (101 - B (ld j).toNat p) % 101
theorem rsol_ok {A B : Nat → Nat → Int} {h w : Nat} {ld : Nat → Int} {rk : Nat} (hR : RedI A B h w w ld rk) {p : Nat} (hp : p < w) (hf : ld p = -1) : Rel A h w (rsol B ld p) ∧ rsol B ld p p = 1 ∧ (∀ j, p < j → j < w → rsol B ld p j = 0) ∧ (∀ j, j < w → ld j = -1 → j ≠ p → rsol B ld p j = 0) ∧ ∀ j, j < w → g101 (rsol B ld p j) := by
  obtain ⟨h1, h2, h3, h4, h5, h6, h7⟩ := hR
  refine ⟨(h1 _).mpr (fun i hi => ?_), ?_, fun j hj hjw => ?_, fun j hj hl hne => ?_, fun j hj => ?_⟩
  · by_cases ci : rk ≤ i
    · exact dot_0 w (fun j hj => by rw [h4 i ci hi j hj, Int.zero_mul]; exact ⟨0, rfl⟩)
    · obtain ⟨j0, hj0, hl0⟩ := h5 i (by omega)
      -- the row i: a 1 at its own column j0, its number at p, else 0 where the solution isn't
      have hb0 : B i j0 = 1 := by
        rcases h3 j0 hj0 with e | ⟨r, e1, e2, e3, -⟩
        · omega
        · rw [show i = r by omega]; exact e3
      have hs0 : rsol B ld p j0 = (101 - B i p) % 101 := by
        unfold rsol
        rw [if_neg (by omega), hl0, Int.toNat_natCast]
      have hsp : rsol B ld p p = 1 := by
        unfold rsol
        rw [if_pos hf, if_pos rfl]
      have hne : j0 ≠ p := fun z => by rw [z] at hl0; omega
      have hdot : ∀ n, n ≤ w → (101 : Int) ∣ dot (B i) (rsol B ld p) n - ((if j0 < n then (101 - B i p) % 101 else 0) + if p < n then B i p else 0) := by
        intro n
        induction n with
        | zero => intro _; rw [if_neg (by omega), if_neg (by omega)]; exact ⟨0, rfl⟩
        | succ n ih =>
          intro hn
          have ih := ih (by omega)
          rw [dot]
          by_cases c1 : n = j0
          · rw [c1, hb0, hs0, if_pos (show j0 < j0 + 1 by omega)]
            rw [c1, if_neg (show ¬ j0 < j0 by omega)] at ih
            by_cases c2 : p < j0
            · rw [if_pos (show p < j0 + 1 by omega)]
              rw [if_pos c2] at ih
              omega
            · rw [if_neg (show ¬ p < j0 + 1 by omega)]
              rw [if_neg c2] at ih
              omega
          · by_cases c2 : n = p
            · rw [c2, hsp, if_pos (show p < p + 1 by omega)]
              rw [c2, if_neg (show ¬ p < p by omega)] at ih
              by_cases c3 : j0 < p
              · rw [if_pos (show j0 < p + 1 by omega)]
                rw [if_pos c3] at ih
                omega
              · rw [if_neg (show ¬ j0 < p + 1 by omega)]
                rw [if_neg c3] at ih
                omega
            · have hz : B i n * rsol B ld p n = 0 := by
                rcases h3 n (by omega) with e | ⟨r, e1, e2, e3, e4, -⟩
                · unfold rsol
                  rw [if_pos e, if_neg c2, Int.mul_zero]
                · by_cases c3 : i = r
                  · rcases h3 j0 hj0 with e | ⟨r', f1, f2, f3, f4, f5⟩
                    · omega
                    · have hrr : r = r' := by omega
                      subst hrr
                      exfalso
                      rcases Nat.lt_or_gt_of_ne c1 with c4 | c4
                      · have := f5 n c4
                        omega
                      · rcases h3 n (by omega) with g | ⟨r'', g1, g2, g3, g4, g5⟩
                        · omega
                        · have := g5 j0 c4
                          rw [show r'' = r by omega] at this
                          omega
                  · rw [e4 i hi c3, Int.zero_mul]
              have i1 : (if j0 < n + 1 then (101 - B i p) % 101 else 0) = if j0 < n then (101 - B i p) % 101 else 0 := by
                by_cases c3 : j0 < n
                · rw [if_pos c3, if_pos (by omega)]
                · rw [if_neg c3, if_neg (by omega)]
              have i2 : (if p < n + 1 then B i p else 0) = if p < n then B i p else 0 := by
                by_cases c3 : p < n
                · rw [if_pos c3, if_pos (by omega)]
                · rw [if_neg c3, if_neg (by omega)]
              rw [hz, i1, i2, Int.add_zero]
              exact ih
      have := hdot w (by omega)
      rw [if_pos hj0, if_pos hp] at this
      omega
  · unfold rsol
    rw [if_pos hf, if_pos rfl]
  · unfold rsol
    rcases h3 j hjw with e | ⟨r, e1, e2, e3, e4, e5⟩
    · rw [if_pos e, if_neg (by omega)]
    · rw [if_neg (by omega), e2, Int.toNat_natCast, e5 p hj]
      decide
  · unfold rsol
    rw [if_pos hl, if_neg hne]
  · unfold rsol
    split
    · split
      · exact ⟨by decide, by decide⟩
      · exact ⟨by decide, by decide⟩
    · exact em101 _
theorem red_free {A B : Nat → Nat → Int} {h w : Nat} {ld : Nat → Int} {rk : Nat} (hR : RedI A B h w w ld rk) {p : Nat} (hp : p < w) : ld p = -1 ↔ Fr A h w p := by
  refine ⟨fun hf => ?_, fun hF => ?_⟩
  · obtain ⟨a, b, c, -⟩ := rsol_ok hR hp hf
    exact ⟨rsol B ld p, a, by rw [b]; exact ⟨0, rfl⟩, fun j h1 h2 => by rw [c j h1 h2]; exact ⟨0, rfl⟩⟩
  · obtain ⟨h1, h2, h3, h4, h5, h6, h7⟩ := hR
    obtain ⟨x, x1, x2, x3⟩ := hF
    rcases h3 p hp with e | ⟨r, e1, e2, e3, e4, e5⟩
    · exact e
    · have hd := (h1 x).mp x1 r (by omega)
      have hd1 := dot_1 (g := B r) (x := x) p w hp (fun j hj hne => by
        by_cases c : j < p
        · rw [e5 j c, Int.zero_mul]; exact ⟨0, rfl⟩
        · exact dvm2 (x3 j (by omega) hj))
      rw [e3, Int.one_mul] at hd1
      omega
