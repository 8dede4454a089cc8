/-! THE TEXT: terms -/
section
variable {T : Nat → Int} {n : Nat}
/-- a letter's power, as the reference reads it; as the class does -/
def pp (T : Nat → Int) (n : Nat) (c : Int) (p : Nat × Int) : (Nat × Int) × Int := if p.2 = 0 ∧ nx T n p.1 = c then (if 48 ≤ nx T n (p.1 + 1) ∧ nx T n (p.1 + 1) ≤ 57 then (if 50 ≤ nx T n (p.1 + 1) ∧ nx T n (p.1 + 1) ≤ 53 then ((p.1 + 2, 0), nx T n (p.1 + 1) - 48) else ((p.1 + 1, 1), 0)) else ((p.1 + 1, 0), 1)) else (p, 0)
def pc (T : Nat → Int) (n : Nat) (c : Int) (p : Nat × Int) : (Nat × Int) × Int := if p.2 = 0 ∧ nx T n p.1 = c then (if 50 ≤ nx T n (p.1 + 1) ∧ nx T n (p.1 + 1) ≤ 53 then ((p.1 + 2, 0), nx T n (p.1 + 1) - 48) else ((p.1 + 1, 0), 1)) else (p, 0)
/-- good, and a figure stands there -/
def stuck (T : Nat → Int) (n : Nat) (a : Nat) : Prop := 48 ≤ nx T n a ∧ nx T n a ≤ 57
theorem pp_pc (c : Int) (p : Nat × Int) : pp T n c p = pc T n c p ∨ (p.2 = 0 ∧ ∃ a, pp T n c p = ((a, 1), 0) ∧ pc T n c p = ((a, 0), 1) ∧ stuck T n a ∧ p.1 < a) := by
  unfold pp pc
  by_cases c0 : p.2 = 0 ∧ nx T n p.1 = c
  · rw [if_pos c0, if_pos c0]
    by_cases c1 : 50 ≤ nx T n (p.1 + 1) ∧ nx T n (p.1 + 1) ≤ 53
    · rw [if_pos c1, if_pos c1, if_pos (by omega)]; exact Or.inl rfl
    · rw [if_neg c1, if_neg c1]
      by_cases c2 : 48 ≤ nx T n (p.1 + 1) ∧ nx T n (p.1 + 1) ≤ 57
      · rw [if_pos c2]; exact Or.inr ⟨c0.1, p.1 + 1, rfl, rfl, c2, by omega⟩
      · rw [if_neg c2]; exact Or.inl rfl
  · rw [if_neg c0, if_neg c0]; exact Or.inl rfl
theorem pc_stuck {a : Nat} (h : stuck T n a) (c : Int) (hc : 57 < c) : pc T n c (a, 0) = ((a, 0), 0) := by
  unfold stuck at h
  unfold pc
  rw [if_neg (fun z => by have := z.2; have : nx T n a = c := this; omega)]
theorem pp_bad (c : Int) (a : Nat) : pp T n c (a, 1) = ((a, 1), 0) := by
  unfold pp
  rw [if_neg (fun z => absurd z.1 (by show ¬ (1 : Int) = 0; decide))]
theorem pp_ok (hT : okT T n) (c : Int) (hc : 0 ≤ c) (p : Nat × Int) (hp : p.2 = 0 ∨ p.2 = 1) (hl : p.1 ≤ n) : p.1 ≤ (pp T n c p).1.1 ∧ (pp T n c p).1.1 ≤ n ∧ ((pp T n c p).1.2 = 0 ∨ (pp T n c p).1.2 = 1) ∧ 0 ≤ (pp T n c p).2 ∧ (pp T n c p).2 ≤ 5 ∧ ((pp T n c p).1.2 = 0 → p.2 = 0) := by
  unfold pp
  by_cases c0 : p.2 = 0 ∧ nx T n p.1 = c
  · have h1 := (nx_ok hT p.1).2.2.2 (by omega)
    rw [if_pos c0]
    by_cases c2 : 48 ≤ nx T n (p.1 + 1) ∧ nx T n (p.1 + 1) ≤ 57
    · have h2 := (nx_ok hT (p.1 + 1)).2.2.2 (by omega)
      rw [if_pos c2]
      by_cases c1 : 50 ≤ nx T n (p.1 + 1) ∧ nx T n (p.1 + 1) ≤ 53
      · rw [if_pos c1]
        exact ⟨by show p.1 ≤ p.1 + 2; omega, by show p.1 + 2 ≤ n; omega, Or.inl rfl, by show 0 ≤ nx T n (p.1 + 1) - 48; omega, by show nx T n (p.1 + 1) - 48 ≤ 5; omega, fun _ => c0.1⟩
      · rw [if_neg c1]
        exact ⟨by show p.1 ≤ p.1 + 1; omega, by show p.1 + 1 ≤ n; omega, Or.inr rfl, by show (0 : Int) ≤ 0; omega, by show (0 : Int) ≤ 5; omega, fun _ => c0.1⟩
    · rw [if_neg c2]
      exact ⟨by show p.1 ≤ p.1 + 1; omega, by show p.1 + 1 ≤ n; omega, Or.inl rfl, by show (0 : Int) ≤ 1; omega, by show (1 : Int) ≤ 5; omega, fun _ => c0.1⟩
  · rw [if_neg c0]
    exact ⟨Nat.le_refl _, hl, hp, by show (0 : Int) ≤ 0; omega, by show (0 : Int) ≤ 5; omega, fun z => z⟩
theorem sq_110 (hT : okT T n) {s : jM} {p : Nat × Int} (h : CP T n s p) (c : Int) (hc : 0 ≤ c) : ∃ t, jq 110 [.inr (3, 0), .inl c] s = some (some (.inl (pc T n c p).2), t) ∧ CP T n t (pc T n c p).1 ∧ T3 s t := by
  have h96 := sq_96 hT h c hc
  have h3 := h.2.2.1
  have hn := hT.1
  rw [bq_110, h96, jbI_s]
  unfold pc
  by_cases c0 : p.2 = 0 ∧ nx T n p.1 = c
  · have h1 := (nx_ok hT p.1).2.2.2 (by omega)
    have hu := CP_up (by rw [← pz0 c0.1]; exact h) h1
    have h97 := sq_97 hT hu 50 53 (by decide)
    have hu3 : jup s 3 0 3 ((p.1 + 1 : Nat) : Int) 3 0 3 = ((p.1 + 1 : Nat) : Int) := jup_e _ _ _ _ _
    rw [bI_t c0, if_neg (show ¬ (1 : Int) = 0 by decide), if_pos c0, h3, jwn (x := (p.1 : Int) + 1) (n := p.1 + 1) (by omega) (by omega), h97, jbI_s]
    by_cases c1 : 50 ≤ nx T n (p.1 + 1) ∧ nx T n (p.1 + 1) ≤ 53
    · have h2 := (nx_ok hT (p.1 + 1)).2.2.2 (by omega)
      rw [bI_t ⟨rfl, c1⟩, if_neg (show ¬ (1 : Int) = 0 by decide), if_pos c1, hu3, sq_136 hT hu (p.1 + 1), jbI_s, hu3, jwn (x := ((p.1 + 1 : Nat) : Int) + 1) (n := p.1 + 1 + 1) (by omega) (by omega), jwi (x := nx T n (p.1 + 1) - 48) (by omega) (by omega)]
      exact ⟨_, rfl, CP_up hu h2, fun k i j z => by rw [jup_n _ _ _ _ _ _ _ _ (by omega), jup_n _ _ _ _ _ _ _ _ (by omega)]⟩
    · rw [bI_f (fun z => c1 z.2), if_pos rfl, if_neg c1]
      exact ⟨_, rfl, hu, fun k i j z => jup_n _ _ _ _ _ _ _ _ (by omega)⟩
  · rw [bI_f c0, if_pos rfl, if_neg c0]
    exact ⟨s, rfl, h, T3_r s⟩
/-- a term: number, powers of x, y, z -/
def pn (T : Nat → Int) (n a : Nat) : (Nat × Int) × Int := if 48 ≤ nx T n a ∧ nx T n a ≤ 57 then pfs T n (a, 0) else ((a, 0), 1)
def ptx (T : Nat → Int) (n a : Nat) : (Nat × Int) × Int := pp T n 120 (pn T n a).1
def pty (T : Nat → Int) (n a : Nat) : (Nat × Int) × Int := pp T n 121 (ptx T n a).1
def ptz (T : Nat → Int) (n a : Nat) : (Nat × Int) × Int := pp T n 122 (pty T n a).1
def ptp (T : Nat → Int) (n a : Nat) : Nat × Int := if (ptz T n a).1.2 = 0 ∧ (ptz T n a).1.1 = a then (a, 1) else (ptz T n a).1
theorem pn_ok (hT : okT T n) (a : Nat) (ha : a ≤ n) : (pn T n a).1.2 = 0 ∧ a ≤ (pn T n a).1.1 ∧ (pn T n a).1.1 ≤ n ∧ 0 ≤ (pn T n a).2 ∧ (pn T n a).2 ≤ 999 := by
  unfold pn
  by_cases c : 48 ≤ nx T n a ∧ nx T n a ≤ 57
  · have h1 := (nx_ok hT a).2.2.2 (by omega)
    obtain ⟨a1, a2, a3, a4, a5⟩ := pfl_ok hT 2 (a + 1) (nx T n a - 48) (by omega)
    have e2 : pfs T n (a, 0) = (((pfl T n 2 (a + 1) (nx T n a - 48)).1, 0), (pfl T n 2 (a + 1) (nx T n a - 48)).2) := if_pos ⟨rfl, c⟩
    rw [if_pos c, e2]
    exact ⟨rfl, by show a ≤ (pfl T n 2 (a + 1) (nx T n a - 48)).1; omega, a5 h1, a3, a4 (by omega) (Nat.le_refl 2)⟩
  · rw [if_neg c]
    exact ⟨rfl, Nat.le_refl a, ha, by show (0 : Int) ≤ 1; omega, by show (1 : Int) ≤ 999; omega⟩
theorem pt_ok (hT : okT T n) (a : Nat) (ha : a ≤ n) : a ≤ (ptp T n a).1 ∧ (ptp T n a).1 ≤ n ∧ ((ptp T n a).2 = 0 ∨ (ptp T n a).2 = 1) ∧ ((ptp T n a).2 = 0 → a < (ptp T n a).1) ∧ (0 ≤ (ptx T n a).2 ∧ (ptx T n a).2 ≤ 5) ∧ (0 ≤ (pty T n a).2 ∧ (pty T n a).2 ≤ 5) ∧ (0 ≤ (ptz T n a).2 ∧ (ptz T n a).2 ≤ 5) := by
  obtain ⟨n1, n2, n3, n4, n5⟩ := pn_ok hT a ha
  obtain ⟨x1, x2, x3, x4, x5, x6⟩ := pp_ok hT 120 (by decide) (pn T n a).1 (Or.inl n1) n3
  obtain ⟨y1, y2, y3, y4, y5, y6⟩ := pp_ok hT 121 (by decide) (pp T n 120 (pn T n a).1).1 x3 x2
  obtain ⟨z1, z2, z3, z4, z5, z6⟩ := pp_ok hT 122 (by decide) (pp T n 121 (pp T n 120 (pn T n a).1).1).1 y3 y2
  have ez : ptz T n a = pp T n 122 (pp T n 121 (pp T n 120 (pn T n a).1).1).1 := rfl
  refine ⟨?_, ?_, ?_, ?_, ⟨x4, x5⟩, ⟨y4, y5⟩, ⟨z4, z5⟩⟩
  all_goals
    unfold ptp
    rw [ez]
    generalize pp T n 122 (pp T n 121 (pp T n 120 (pn T n a).1).1).1 = Z at *
    by_cases c : Z.1.2 = 0 ∧ Z.1.1 = a
  · rw [if_pos c]; exact Nat.le_refl a
  · rw [if_neg c]; omega
  · rw [if_pos c]; exact ha
  · rw [if_neg c]; exact z2
  · rw [if_pos c]; exact Or.inr rfl
  · rw [if_neg c]; exact z3
  · rw [if_pos c]; exact fun z => absurd z (by show ¬ (1 : Int) = 0; decide)
  · rw [if_neg c]
    intro z
    have : Z.1.1 ≠ a := fun y => c ⟨z, y⟩
    omega
/-- what a sum holds: sign, number, powers -/
def tdeg (x : Int × Int × Int × Int × Int) : Int := x.2.2.1 + x.2.2.2.1 + x.2.2.2.2
def tadd (g : Nat → Int) (x : Int × Int × Int × Int × Int) : Nat → Int := fun j => if j = pl x.2.2.2.1.toNat x.2.2.2.2.toNat then (g j + x.1 * x.2.1) % 101 else g j
def tall (L : List (Int × Int × Int × Int × Int)) : Nat → Int := L.foldl tadd (fun _ => 0)
def tok (x : Int × Int × Int × Int × Int) : Prop := (x.1 = 1 ∨ x.1 = -1) ∧ (0 ≤ x.2.1 ∧ x.2.1 ≤ 999) ∧ (0 ≤ x.2.2.1 ∧ x.2.2.1 ≤ 5) ∧ (0 ≤ x.2.2.2.1 ∧ x.2.2.2.1 ≤ 5) ∧ (0 ≤ x.2.2.2.2 ∧ x.2.2.2.2 ≤ 5)
theorem tall_g : ∀ (L : List (Int × Int × Int × Int × Int)), ∀ j, g101 (tall L j) := by
  have : ∀ (L : List (Int × Int × Int × Int × Int)) (g : Nat → Int), (∀ j, g101 (g j)) → ∀ j, g101 (L.foldl tadd g j) := by
    intro L
    induction L with
    | nil => intro g hg j; exact hg j
    | cons x L ih =>
      intro g hg
      refine ih (tadd g x) (fun j => ?_)
      unfold tadd
      split
      · exact em101 _
      · exact hg j
  exact fun L => this L _ (fun _ => ⟨by decide, by decide⟩)
/-- the class' sum -/
def CS (s : jM) (L : List (Int × Int × Int × Int × Int)) : Prop := match L with
  | [] => s 3 0 6 = -1 ∧ s 3 0 7 = 0
  | hd :: tl => s 3 0 6 = tdeg hd ∧ (s 3 0 7 = 0 ∨ s 3 0 7 = 1) ∧ (s 3 0 7 = 0 ↔ ∀ x, x ∈ tl → tdeg x = tdeg hd) ∧ (s 3 0 7 = 0 → tdeg hd ≤ 5 → s 1 45 1 = tdeg hd ∧ ∀ j, j < 21 → s 16 45 j = tall (hd :: tl) j)
/-- the places that the class' sum may write -/
def TS (s t : jM) : Prop := ∀ k i j, ¬ (k = 3 ∧ (j = 3 ∨ j = 4 ∨ j = 6 ∨ j = 7) ∨ (k = 1 ∨ k = 16) ∧ i = 45) → t k i j = s k i j
theorem TS_t {s t u : jM} (h : TS s t) (h2 : TS t u) : TS s u := fun k i j z => (h2 k i j z).trans (h k i j z)
theorem T3_S {s t : jM} (h : T3 s t) : TS s t := fun k i j z => h k i j (by omega)
theorem CS_c {s t : jM} {L : List (Int × Int × Int × Int × Int)} (h : CS s L) (ht : ∀ k i j, k = 3 ∧ (j = 6 ∨ j = 7) ∨ (k = 1 ∨ k = 16) ∧ i = 45 → t k i j = s k i j) : CS t L := by
  cases L with
  | nil => exact ⟨by rw [ht _ _ _ (by omega)]; exact h.1, by rw [ht _ _ _ (by omega)]; exact h.2⟩
  | cons hd tl =>
    obtain ⟨a, b, c, d⟩ := h
    refine ⟨by rw [ht _ _ _ (by omega)]; exact a, by rw [ht _ _ _ (by omega)]; exact b, by rw [ht _ _ _ (by omega)]; exact c, fun z z2 => ?_⟩
    rw [ht _ _ _ (by omega)] at z
    obtain ⟨e, f⟩ := d z z2
    exact ⟨by rw [ht _ _ _ (by omega)]; exact e, fun j hj => by rw [ht _ _ _ (by omega)]; exact f j hj⟩
theorem sq_92 (s : jM) (h : s 3 0 7 = 0 ∨ s 3 0 7 = 1) : jq 92 [.inr (3, 0)] s = some (some (.inl (bI (¬ (s 3 0 7 = 0 ∧ 0 ≤ s 3 0 6 ∧ s 3 0 6 ≤ 5)))), s) := by
  rw [bq_92]
  by_cases c : s 3 0 7 = 0
  · rw [if_pos c, sq_42, jbI_s]
    by_cases c2 : 0 ≤ s 3 0 6 ∧ s 3 0 6 ≤ 5
    · rw [bI_t c2, if_neg (by decide), bI_f (fun z => z ⟨c, c2⟩)]
    · rw [bI_f c2, if_pos rfl, bI_t (show ¬ (s 3 0 7 = 0 ∧ 0 ≤ s 3 0 6 ∧ s 3 0 6 ≤ 5) from fun z => c2 z.2)]
  · rw [if_neg c, bI_t (show ¬ (s 3 0 7 = 0 ∧ 0 ≤ s 3 0 6 ∧ s 3 0 6 ≤ 5) from fun z => c z.1)]
/-- a term comes to the class' sum -/
theorem sq_111 (s : jM) (L : List (Int × Int × Int × Int × Int)) (x : Int × Int × Int × Int × Int) (hx : tok x) (hL : ∀ y, y ∈ L → tok y) (h : CS s L) : ∃ t, jq 111 [.inr (3, 0), .inl (x.2.1 % 101 * (if x.1 = 1 then 1 else 100) % 101), .inl (tdeg x), .inl (pl x.2.2.2.1.toNat x.2.2.2.2.toNat : Int)] s = some (none, t) ∧ CS t (L ++ [x]) ∧ ∀ k i j, ¬ (k = 3 ∧ (j = 6 ∨ j = 7) ∨ (k = 1 ∨ k = 16) ∧ i = 45) → t k i j = s k i j := by
  obtain ⟨x1, x2, x3, x4, x5⟩ := hx
  have hd0 : 0 ≤ tdeg x := by unfold tdeg; omega
  have hv := em101 (x.2.1 % 101 * (if x.1 = 1 then 1 else 100))
  generalize hV : x.2.1 % 101 * (if x.1 = 1 then 1 else 100) % 101 = V at *
  have hVx : ∀ g : Int, (g + V) % 101 = (g + x.1 * x.2.1) % 101 := fun g => by
    rcases x1 with z | z
    · rw [z] at hV ⊢
      rw [if_pos rfl] at hV
      omega
    · rw [z] at hV ⊢
      rw [if_neg (by decide)] at hV
      omega
  -- into a sum of the degree D that isn't refused
  have st24 : ∀ (u : jM) (hd : Int × Int × Int × Int × Int) (g : Nat → Int), u 3 0 6 = tdeg hd → (u 3 0 7 = 0 ∨ u 3 0 7 = 1) → 0 ≤ tdeg hd → (u 3 0 7 = 0 → tdeg hd ≤ 5 → u 1 45 1 = tdeg hd ∧ ∀ j, j < 21 → u 16 45 j = g j) → (∀ j, g101 (g j)) → ∃ t, je 111 24 [some (.inr (3, 0)), some (.inl V), some (.inl (tdeg x)), some (.inl (pl x.2.2.2.1.toNat x.2.2.2.2.toNat : Int))] [] u = some (none, t) ∧ (t 3 0 6 = tdeg hd) ∧ (t 3 0 7 = 0 ∨ t 3 0 7 = 1) ∧ (t 3 0 7 = 0 ↔ u 3 0 7 = 0 ∧ tdeg x = tdeg hd) ∧ (t 3 0 7 = 0 → tdeg hd ≤ 5 → t 1 45 1 = tdeg hd ∧ ∀ j, j < 21 → t 16 45 j = tadd g x j) ∧ ∀ k i j, ¬ (k = 3 ∧ (j = 6 ∨ j = 7) ∨ (k = 1 ∨ k = 16) ∧ i = 45) → t k i j = u k i j := fun u hd g u6 u7 hd0 ug hgg => by
    rw [be_111_24, u6]
    by_cases c1 : tdeg x = tdeg hd
    · rw [if_pos c1, sq_92 u u7, jbI_s, u6]
      by_cases c2 : u 3 0 7 = 0 ∧ 0 ≤ tdeg hd ∧ tdeg hd ≤ 5
      · have hp := (pl_lt x.2.2.2.1.toNat (by omega) x.2.2.2.2.toNat (by omega) (by have := c1; unfold tdeg at this c2; omega)).1
        obtain ⟨e1, e2⟩ := ug c2.1 c2.2.2
        rw [bI_f (fun z => z c2), if_pos rfl, sq_64 u 45 _ hp V (by rw [e2 _ hp]; exact hgg _) ⟨hv.1, by have := hv.2; omega⟩, jbV_s]
        refine ⟨_, rfl, by rw [jup_n _ _ _ _ _ _ _ _ (by omega)]; exact u6, by rw [jup_n _ _ _ _ _ _ _ _ (by omega)]; exact u7, by rw [jup_n _ _ _ _ _ _ _ _ (by omega)]; exact ⟨fun z => ⟨z, c1⟩, fun z => z.1⟩, fun _ _ => ⟨by rw [jup_n _ _ _ _ _ _ _ _ (by omega)]; exact e1, fun j hj => ?_⟩, fun k i j z => jup_n _ _ _ _ _ _ _ _ (by omega)⟩
        unfold tadd
        by_cases z : j = pl x.2.2.2.1.toNat x.2.2.2.2.toNat
        · rw [if_pos z, z, jup_e, e2 _ hp, hVx]
        · rw [if_neg z, jup_n _ _ _ _ _ _ _ _ (by omega), e2 j hj]
      · rw [bI_t c2, if_neg (by decide)]
        refine ⟨u, rfl, u6, u7, ⟨fun z => ⟨z, c1⟩, fun z => z.1⟩, fun z z2 => absurd ⟨z, hd0, z2⟩ c2, fun _ _ _ _ => rfl⟩
    · have j7 : jup u 3 0 7 1 3 0 7 = 1 := jup_e _ _ _ _ _
      rw [if_neg c1, sq_92 _ (Or.inr j7), jbI_s, bI_t (show ¬ (jup u 3 0 7 1 3 0 7 = 0 ∧ 0 ≤ jup u 3 0 7 1 3 0 6 ∧ jup u 3 0 7 1 3 0 6 ≤ 5) from fun z => by rw [j7] at z; exact absurd z.1 (by decide)), if_neg (by decide)]
      refine ⟨_, rfl, by rw [jup_n _ _ _ _ _ _ _ _ (by omega)]; exact u6, Or.inr j7, ⟨fun z => by rw [j7] at z; exact absurd z (by decide), fun z => absurd z.2 c1⟩, fun z => by rw [j7] at z; exact absurd z (by decide), fun k i j z => jup_n _ _ _ _ _ _ _ _ (by omega)⟩
  rw [bq_111]
  cases L with
  | nil =>
    obtain ⟨h6, h7⟩ := h
    have hmin : (if 5 < tdeg x then 5 else tdeg x) = if 5 < tdeg x then 5 else tdeg x := rfl
    rw [if_pos (by omega), sq_65, jbV_s]
    obtain ⟨t, t1, t2, t3, t4, t5, t6⟩ := st24 (fset (jup s 3 0 6 (tdeg x)) 45 (if 5 < tdeg x then 5 else tdeg x) (fun _ => 0)) x (fun _ => 0) (by rw [fset_o _ _ _ _ _ _ _ (by omega) (by omega), jup_e]) (by rw [fset_o _ _ _ _ _ _ _ (by omega) (by omega), jup_n _ _ _ _ _ _ _ _ (by omega)]; exact Or.inl h7) hd0 (fun _ z => ⟨by rw [fset_d, if_neg (by omega)], fun j hj => fset_n _ _ _ _ _ hj⟩) (fun _ => ⟨by decide, by decide⟩)
    refine ⟨t, t1, ⟨t2, t3, ⟨fun _ y hy => absurd hy (by simp), fun _ => t4.mpr ⟨by rw [fset_o _ _ _ _ _ _ _ (by omega) (by omega), jup_n _ _ _ _ _ _ _ _ (by omega)]; exact h7, rfl⟩⟩, t5⟩, fun k i j z => by rw [t6 k i j z, fset_o _ _ _ _ _ _ _ (by omega) (by omega), jup_n _ _ _ _ _ _ _ _ (by omega)]⟩
  | cons hd tl =>
    obtain ⟨h6, h7, h8, h9⟩ := h
    have hhd := hL hd (by simp)
    have hd1 : 0 ≤ tdeg hd := by obtain ⟨_, _, a, b, c⟩ := hhd; unfold tdeg; omega
    rw [if_neg (by omega)]
    obtain ⟨t, t1, t2, t3, t4, t5, t6⟩ := st24 s hd (tall (hd :: tl)) h6 h7 hd1 h9 (tall_g _)
    refine ⟨t, t1, ⟨t2, t3, t4.trans ⟨fun z y hy => ?_, fun z => ⟨h8.mpr (fun y hy => z y (by simp [hy])), z x (by simp)⟩⟩, fun z z2 => ?_⟩, t6⟩
    · have hy : y ∈ tl ++ [x] := hy
      rw [List.mem_append, List.mem_singleton] at hy
      rcases hy with y1 | y1
      · exact h8.mp z.1 y y1
      · rw [y1]; exact z.2
    · obtain ⟨e, f⟩ := t5 z z2
      refine ⟨e, fun j hj => ?_⟩
      rw [f j hj]
      show tadd (tall (hd :: tl)) x j = List.foldl tadd (fun _ => 0) ((hd :: tl) ++ [x]) j
      rw [List.foldl_append]
      rfl
end
