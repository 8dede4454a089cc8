/-! THE CLASS' SMALL METHODS -/
theorem sq_38 (x n : Int) (s : jM) : jq 38 [.inl x, .inl n] s = some (some (.inl (bI (0 ≤ x ∧ x < n))), s) := by
  rw [bq_38]
  unfold bI
  by_cases h : x < 0
  · rw [if_pos h, if_neg (by omega)]
  · rw [if_neg h]
    by_cases h2 : x < n
    · rw [if_pos h2, if_pos (by omega)]
    · rw [if_neg h2, if_neg (by omega)]
theorem bI01 (p : Prop) [Decidable p] : bI p = 0 ∨ bI p = 1 := by
  unfold bI
  by_cases h : p
  · rw [if_pos h]; exact Or.inr rfl
  · rw [if_neg h]; exact Or.inl rfl
theorem bI_0 {p : Prop} [Decidable p] : bI p = 0 ↔ ¬ p := by
  unfold bI
  by_cases h : p
  · rw [if_pos h]; exact ⟨fun z => absurd z (by decide), fun z => absurd h z⟩
  · rw [if_neg h]; exact ⟨fun _ => h, fun _ => rfl⟩
theorem sq_39 (x : Int) (s : jM) : jq 39 [.inl x] s = some (some (.inl (bI (0 ≤ x ∧ x < 4))), s) := by
  rw [bq_39, sq_38, jbI_s, if_pos (bI01 _)]
theorem sq_40 (x : Int) (s : jM) : jq 40 [.inl x] s = some (some (.inl (bI (0 ≤ x ∧ x < 6))), s) := by
  rw [bq_40, sq_38, jbI_s, if_pos (bI01 _)]
theorem sq_43 (x : Int) (s : jM) : jq 43 [.inl x] s = some (some (.inl (bI (0 ≤ x ∧ x < 101))), s) := by
  rw [bq_43, sq_38, jbI_s, if_pos (bI01 _)]
theorem sq_42 (x : Int) (s : jM) : jq 42 [.inl x] s = some (some (.inl (bI (0 ≤ x ∧ x ≤ 5))), s) := by
  rw [bq_42]
  unfold bI
  by_cases h : x < 0
  · rw [if_pos h, if_neg (by omega)]
  · rw [if_neg h]
    by_cases h2 : 5 < x
    · rw [if_pos h2, if_neg (by omega)]
    · rw [if_neg h2, if_pos (by omega)]
theorem sq_44 (d : Nat) (hd : d ≤ 5) (a b : Int) (s : jM) : jq 44 [.inl (d : Int), .inl a, .inl b] s = some (some (.inl (bI (0 ≤ a ∧ a ≤ d ∧ 0 ≤ b ∧ b ≤ d - a))), s) := by
  rw [bq_44]
  unfold bI
  by_cases h : a < 0
  · rw [if_pos h, if_neg (by omega)]
  · rw [if_neg h]
    by_cases h2 : (d : Int) < a
    · rw [if_pos h2, if_neg (by omega)]
    · rw [if_neg h2]
      by_cases h3 : b < 0
      · rw [if_pos h3, if_neg (by omega)]
      · rw [if_neg h3, jwi (by omega) (by omega)]
        by_cases h4 : (d : Int) - a < b
        · rw [if_pos h4, if_neg (by omega)]
        · rw [if_neg h4, if_pos (by omega)]
theorem sq_45 : ∀ (d : Nat), d ≤ 5 → ∀ (s : jM), jq 45 [.inl (d : Int)] s = some (some (.inl (mnN d : Int)), s) := by
  intro d hd s
  rw [bq_45]
  have h : ∀ d : Nat, d ≤ 5 → jw (Int.tdiv (jw ((jw ((d : Int) + 1)) * (jw ((d : Int) + 2)))) 2) = (mnN d : Int) := by decide +kernel
  rw [h d hd]
theorem sq_46 (b c : Nat) (hb : b ≤ 5) (hc : c ≤ 5) (s : jM) : jq 46 [.inl (b : Int), .inl (c : Int)] s = some (some (.inl (pl b c : Int)), s) := by
  rw [bq_46]
  have h : ∀ b : Nat, b ≤ 5 → ∀ c : Nat, c ≤ 5 → jw ((jw (Int.tdiv (jw ((jw ((b : Int) + c)) * (jw ((jw ((b : Int) + c)) + 1)))) 2)) + c) = (pl b c : Int) := by decide +kernel
  rw [h b hb c hc]
theorem sq_47 (d m : Nat) (hd : d ≤ 5) (hm : m < 21) (s : jM) : jq 47 [.inl (d : Int), .inl (m : Int)] s = some (some (.inl ((d : Int) - plev m)), s) := by
  obtain ⟨h1, h2, h3, h4, h5, -⟩ := jyp_py m hm
  rw [bq_47, if_pos (by omega), if_pos (by omega), Int.toNat_natCast, h1, h2, jwi (x := (d : Int) - py m) (by omega) (by omega), jwi (by omega) (by omega)]
  unfold plev
  rw [show (d : Int) - py m - pz m = d - ((py m + pz m : Nat) : Int) by omega]
theorem sj_48 (x : Int) (hx : g101 x) (n : Nat) (hn : n < 1000) (s : jM) : ∀ (k i : Nat), i + k = n → je 48 4 [some (.inl x), some (.inl (n : Int)), some (.inl (rd x i)), some (.inl (i : Int))] [] s = some (some (.inl (rd x n)), s)
  | 0, i, h => by
    have h : i = n := h
    subst h
    rw [be_48_4, if_neg (by omega)]
  | k + 1, i, h => by
    have hm := mul101 (rd_g x i) hx
    rw [be_48_4, if_pos (by omega), jwi (x := rd x i * x) (by omega) (by omega), tm101 hm.1, jwn (n := i + 1) (by omega) (by omega)]
    exact sj_48 x hx n hn s k (i + 1) (by omega)
theorem sq_48 (x : Int) (hx : g101 x) (n : Nat) (hn : n < 1000) (s : jM) : jq 48 [.inl x, .inl (n : Int)] s = some (some (.inl (rd x n)), s) := by
  rw [bq_48]
  exact sj_48 x hx n hn s n 0 (by omega)
theorem sq_49 (x : Int) (hx : g101 x) (s : jM) : jq 49 [.inl x] s = some (some (.inl ((101 - x) % 101)), s) := by
  obtain ⟨h1, h2⟩ := hx
  rw [bq_49, jwi (by omega) (by omega), tm101 (by omega)]
/-- a form at f: its degree d, its numbers within -/
def FG (s : jM) (f d : Nat) : Prop := s 1 f 1 = (d : Int) ∧ d ≤ 5 ∧ ∀ j, j < 21 → g101 (s 16 f j)
theorem sq_62 (f p : Nat) (hp : p < 21) (s : jM) : jq 62 [.inr (1, f), .inl (p : Int)] s = some (some (.inl (s 16 f p)), s) := by
  rw [bq_62, if_neg (by omega), if_pos (by omega), if_pos (by omega), Int.toNat_natCast]
theorem sq_61 (s : jM) (f d : Nat) (h : s 1 f 1 = (d : Int)) (hd : d ≤ 5) : jq 61 [.inr (1, f)] s = some (some (.inl (mnN d : Int)), s) := by
  rw [bq_61, h, sq_45 d hd, jbI_s]
theorem sq_50 (s : jM) (f : Nat) (h0 : g101 (s 16 f 0)) (h1 : g101 (s 16 f 1)) (h2 : g101 (s 16 f 2)) (a b c : Nat) (ha : a ≤ 5) (hb : b ≤ 5) (hc : c ≤ 5) : jq 50 [.inr (1, f), .inl (a : Int), .inl (b : Int), .inl (c : Int)] s = some (some (.inl (mal (s 16 f 0) (s 16 f 1) (s 16 f 2) a b c)), s) := by
  have e0 := sq_62 f 0 (by decide) s
  have e1 := sq_62 f 1 (by decide) s
  have e2 := sq_62 f 2 (by decide) s
  have m1 := mul101 (rd_g (s 16 f 0) a) (rd_g (s 16 f 1) b)
  have m2 := mul101 (em101 (rd (s 16 f 0) a * rd (s 16 f 1) b)) (rd_g (s 16 f 2) c)
  rw [bq_50, show (.inl 0 : jV) = .inl ((0 : Nat) : Int) from rfl, e0, jbI_s, sq_48 _ h0 a (by omega), jbI_s, show (.inl 1 : jV) = .inl ((1 : Nat) : Int) from rfl, e1, jbI_s, sq_48 _ h1 b (by omega), jbI_s, show (.inl 2 : jV) = .inl ((2 : Nat) : Int) from rfl, e2, jbI_s, sq_48 _ h2 c (by omega), jbI_s,
    jwi (x := rd (s 16 f 0) a * rd (s 16 f 1) b) (by omega) (by omega), tm101 m1.1, jwi (x := rd (s 16 f 0) a * rd (s 16 f 1) b % 101 * rd (s 16 f 2) c) (by omega) (by omega), tm101 m2.1]
  rfl
theorem sq_63 (s : jM) (f p : Nat) (hp : p < 21) (v : Int) : jq 63 [.inr (1, f), .inl (p : Int), .inl v] s = some (none, jup s 16 f p v) := by
  rw [bq_63, if_neg (by omega), if_pos (by omega), if_pos (by omega), Int.toNat_natCast]
theorem sq_64 (s : jM) (f p : Nat) (hp : p < 21) (v : Int) (h : g101 (s 16 f p)) (hv : 0 ≤ v ∧ v ≤ 10000) : jq 64 [.inr (1, f), .inl (p : Int), .inl v] s = some (none, jup s 16 f p ((s 16 f p + v) % 101)) := by
  obtain ⟨h1, h2⟩ := h
  rw [bq_64, if_neg (by omega), if_pos (by omega), if_pos (by omega), if_pos (by omega), Int.toNat_natCast, jwi (by omega) (by omega), tm101 (by omega)]
theorem sj_65 (f : Nat) (v : Int) (s : jM) : ∀ (k i : Nat), i + k = 21 → je 65 7 [some (.inr (1, f)), some (.inl v), some (.inl (i : Int))] [] (jfl s 16 f 0 i (fun _ => 0)) = some (none, jfl s 16 f 0 21 (fun _ => 0))
  | 0, i, h => by
    have h : i = 21 := h
    subst h
    rw [be_65_7, if_neg (by omega)]
  | k + 1, i, h => by
    rw [be_65_7, if_pos (by omega), if_pos (by omega), jwn (n := i + 1) (by omega) (by omega), Int.toNat_natCast, jfl_up _ _ _ _ _ _ _ rfl _ (by omega)]
    exact sj_65 f v s k (i + 1) (by omega)
/-- a form laid anew -/
def fset (s : jM) (f : Nat) (d : Int) (g : Nat → Int) : jM := jfl (jup s 1 f 1 d) 16 f 0 21 g
theorem sq_65 (f : Nat) (v : Int) (s : jM) : jq 65 [.inr (1, f), .inl v] s = some (none, fset s f v (fun _ => 0)) := by
  rw [bq_65, ← jfl_0 (jup s 1 f 1 v) 16 f 0 (fun _ => 0)]
  have := sj_65 f v (jup s 1 f 1 v) 21 0 (by omega)
  rw [jfl_0] at this ⊢
  exact this
theorem fset_d (s : jM) (f : Nat) (d : Int) (g : Nat → Int) : fset s f d g 1 f 1 = d := by
  unfold fset
  rw [jfl_ne _ _ _ _ _ _ _ _ _ (by omega), jup_e]
theorem fset_n (s : jM) (f : Nat) (d : Int) (g : Nat → Int) (j : Nat) (h : j < 21) : fset s f d g 16 f j = g j := by
  unfold fset
  have := jfl_in (jup s 1 f 1 d) 16 f 0 21 g j h
  rwa [Nat.zero_add] at this
theorem fset_o (s : jM) (f : Nat) (d : Int) (g : Nat → Int) (k i j : Nat) (h1 : ¬ (k = 1 ∧ i = f ∧ j = 1)) (h2 : ¬ (k = 16 ∧ i = f ∧ j < 21)) : fset s f d g k i j = s k i j := by
  unfold fset
  rw [jfl_ne _ _ _ _ _ _ _ _ _ (by omega), jup_n _ _ _ _ _ _ _ _ h1]
theorem fset_up (s : jM) (f : Nat) (d : Int) (g : Nat → Int) (p : Nat) (hp : p < 21) (v : Int) : jup (fset s f d g) 16 f p v = fset s f d (fun j => if j = p then v else g j) := by
  funext k i j
  by_cases h : k = 16 ∧ i = f ∧ j < 21
  · obtain ⟨rfl, rfl, hj⟩ := h
    rw [fset_n _ _ _ _ _ hj]
    by_cases e : j = p
    · subst e
      rw [jup_e, if_pos rfl]
    · rw [jup_n _ _ _ _ _ _ _ _ (by omega), fset_n _ _ _ _ _ hj, if_neg e]
  · rw [jup_n _ _ _ _ _ _ _ _ (by omega)]
    by_cases e : k = 1 ∧ i = f ∧ j = 1
    · obtain ⟨rfl, rfl, rfl⟩ := e
      rw [fset_d, fset_d]
    · rw [fset_o _ _ _ _ _ _ _ e h, fset_o _ _ _ _ _ _ _ e h]
theorem sq_66 (s : jM) (f e : Nat) : jq 66 [.inr (1, f), .inr (1, e)] s = some (none, fset s f (s 1 e 1) (fun j => s 16 e j)) := by
  rw [bq_66]
  refine congrArg (fun z => some (none, z)) ?_
  funext k i j
  unfold jcp fset jfl
  by_cases h : k = 16 ∧ i = f ∧ j < 21
  · rw [if_pos h, if_pos (by omega), jup_n _ _ _ _ _ _ _ _ (by omega), Nat.sub_zero]
  · rw [if_neg h, if_neg (by omega)]
theorem cntN_yes {g : Nat → Int} {v : Int} {i : Nat} (h : g i = v) : cntN g v (i + 1) = cntN g v i + 1 := by
  rw [cntN, if_pos h]
theorem cntN_no {g : Nat → Int} {v : Int} {i : Nat} (h : ¬ g i = v) : cntN g v (i + 1) = cntN g v i := by
  rw [cntN, if_neg h]
  rfl
theorem sq_68 (s : jM) (f d : Nat) (v : Int) (h : s 1 f 1 = (d : Int)) (hd : d ≤ 5) : jq 68 [.inr (1, f), .inl v] s = some (some (.inl (cntN (s 16 f) v (mnN d) : Int)), s) := by
  have h21 := (mnN_le d hd).2
  rw [bq_68]
  refine loopI (P := fun i => je 68 4 [some (.inr (1, f)), some (.inl v), some (.inl (cntN (s 16 f) v i : Int)), some (.inl (i : Int))] [] s) (n := mnN d) (fun i hi => ?_) ?_
  · have hc := cntN_le (s 16 f) v i
    show je 68 4 _ [] s = _
    rw [be_68_4, sq_61 s f d h hd, jbI_s, if_pos (by omega), sq_62 f i (by omega), jbI_s]
    by_cases e : s 16 f i = v
    · rw [if_pos e, jwn (x := (cntN (s 16 f) v i : Int) + 1) (n := cntN (s 16 f) v (i + 1)) (by rw [cntN_yes e]; omega) (by rw [cntN_yes e]; omega), jwn (x := (i : Int) + 1) (n := i + 1) (by omega) (by omega)]
    · rw [if_neg e, jwn (x := (i : Int) + 1) (n := i + 1) (by omega) (by omega), cntN_no e]
  · show je 68 4 _ [] s = _
    rw [be_68_4, sq_61 s f d h hd, jbI_s, if_neg (by omega)]
theorem sq_69 (s : jM) (f d : Nat) (h : s 1 f 1 = (d : Int)) (hd : d ≤ 5) : jq 69 [.inr (1, f)] s = some (some (.inl ((mnN d : Int) - cntN (s 16 f) 0 (mnN d))), s) := by
  have h21 := (mnN_le d hd).2
  have hc := cntN_le (s 16 f) 0 (mnN d)
  rw [bq_69, sq_61 s f d h hd, jbI_s, sq_68 s f d 0 h hd, jbI_s, jwi (by omega) (by omega)]
/-- in two letters -/
def two (g : Nat → Int) (n : Nat) : Prop := ∀ m, m < n → g m ≠ 0 → pz m = 0
theorem sq_70 (s : jM) (f d : Nat) (h : s 1 f 1 = (d : Int)) (hd : d ≤ 5) : ∃ x : Int, jq 70 [.inr (1, f)] s = some (some (.inl x), s) ∧ (x = 0 ∨ x = 1) ∧ (x = 1 ↔ two (s 16 f) (mnN d)) := by
  have h21 := (mnN_le d hd).2
  rw [bq_70]
  have key : ∀ k i, i + k = mnN d → (∀ m, m < i → s 16 f m ≠ 0 → pz m = 0) → ∃ x : Int, je 70 2 [some (.inr (1, f)), some (.inl (i : Int))] [] s = some (some (.inl x), s) ∧ (x = 0 ∨ x = 1) ∧ (x = 1 ↔ two (s 16 f) (mnN d)) := by
    intro k
    induction k with
    | zero =>
      intro i hi hm
      refine ⟨1, ?_, Or.inr rfl, ⟨fun _ m hm2 => hm m (by omega), fun _ => rfl⟩⟩
      rw [be_70_2, sq_61 s f d h hd, jbI_s, if_neg (by omega)]
    | succ k ih =>
      intro i hi hm
      obtain ⟨-, hz, -⟩ := jyp_py i (by omega)
      rw [be_70_2, sq_61 s f d h hd, jbI_s, if_pos (by omega), sq_62 f i (by omega), jbI_s]
      by_cases e : s 16 f i = 0
      · rw [if_pos e, jwn (n := i + 1) (by omega) (by omega)]
        refine ih (i + 1) (by omega) (fun m hm2 hne => ?_)
        by_cases e2 : m = i
        · subst e2; exact absurd e hne
        · exact hm m (by omega) hne
      · rw [if_neg e, if_pos (by omega), Int.toNat_natCast, hz]
        by_cases e3 : 0 < (pz i : Int)
        · rw [if_pos e3]
          exact ⟨0, rfl, Or.inl rfl, ⟨fun z => absurd z (by decide), fun z => absurd (z i (by omega) e) (by omega)⟩⟩
        · rw [if_neg e3, jwn (n := i + 1) (by omega) (by omega)]
          refine ih (i + 1) (by omega) (fun m hm2 hne => ?_)
          by_cases e2 : m = i
          · subst e2; omega
          · exact hm m (by omega) hne
  exact key (mnN d) 0 (by omega) (fun m hm => absurd hm (by omega))
theorem sq_71 (s : jM) (f : Nat) (u v w : Int) : jq 71 [.inr (1, f), .inl u, .inl v, .inl w] s = some (none, fset s f 1 (fun j => if j = 2 then w else if j = 1 then v else if j = 0 then u else 0)) := by
  rw [bq_71, sq_65, jbV_s, show (.inl 0 : jV) = .inl ((0 : Nat) : Int) from rfl, sq_63 _ f 0 (by decide), jbV_s, show jq 63 [.inr (1, f), .inl 1, .inl v] = jq 63 [.inr (1, f), .inl ((1 : Nat) : Int), .inl v] from rfl, sq_63 _ f 1 (by decide), jbV_s, show jq 63 [.inr (1, f), .inl 2, .inl w] = jq 63 [.inr (1, f), .inl ((2 : Nat) : Int), .inl w] from rfl, sq_63 _ f 2 (by decide), jbV_s, fset_up _ _ _ _ _ (by decide), fset_up _ _ _ _ _ (by decide), fset_up _ _ _ _ _ (by decide)]
theorem sq_72 (s : jM) (f e d : Nat) (v : Int) (g0 : Nat → Int) (hd : d ≤ 5) (hef : e ≠ f) (he : ∀ j, j < 21 → g101 (s 16 e j)) (hg : ∀ j, j < 21 → g101 (g0 j)) (hv : g101 v) : jq 72 [.inr (1, f), .inr (1, e), .inl v] (fset s f d g0) = some (none, fset s f d (fun j => if j < mnN d then (g0 j + s 16 e j * v) % 101 else g0 j)) := by
  have h21 := (mnN_le d hd).2
  rw [bq_72, show fset s f d g0 = fset s f d (fun j => if j < 0 then (g0 j + s 16 e j * v) % 101 else g0 j) from rfl]
  refine loopI (P := fun i => je 72 2 [some (.inr (1, f)), some (.inr (1, e)), some (.inl v), some (.inl (i : Int))] [] (fset s f d (fun j => if j < i then (g0 j + s 16 e j * v) % 101 else g0 j))) (n := mnN d) (fun i hi => ?_) ?_
  · show je 72 2 _ [] _ = _
    have hm := mul101 (he i (by omega)) hv
    rw [be_72_2, sq_61 _ f d (fset_d _ _ _ _) hd, jbI_s, if_pos (by omega), sq_62 e i (by omega), jbI_s, fset_o _ _ _ _ _ _ _ (by omega) (by omega), jwi (x := s 16 e i * v) (by omega) (by omega), sq_64 _ f i (by omega) _ (by rw [fset_n _ _ _ _ _ (by omega), if_neg (by omega)]; exact hg i (by omega)) hm, jbV_s, jwn (x := (i : Int) + 1) (n := i + 1) (by omega) (by omega), fset_n _ _ _ _ _ (by omega), if_neg (by omega), fset_up _ _ _ _ _ (by omega)]
    refine congrArg (fun z => je 72 2 [some (.inr (1, f)), some (.inr (1, e)), some (.inl v), some (.inl ((i + 1 : Nat) : Int))] [] (fset s f d z)) (funext fun j => ?_)
    by_cases e1 : j = i
    · subst e1; rw [if_pos rfl, if_pos (by omega)]
    · rw [if_neg e1]
      by_cases e2 : j < i
      · rw [if_pos e2, if_pos (by omega)]
      · rw [if_neg e2, if_neg (by omega)]
  · show je 72 2 _ [] _ = _
    rw [be_72_2, sq_61 _ f d (fset_d _ _ _ _) hd, jbI_s, if_neg (by omega)]
/-- a line at e -/
def LG (s : jM) (e : Nat) : Prop := g101 (s 16 e 0) ∧ g101 (s 16 e 1) ∧ g101 (s 16 e 2)
/-- the m-th monomial of degree d at the line e -/
def mat (s : jM) (e d m : Nat) : Int := mal (s 16 e 0) (s 16 e 1) (s 16 e 2) (d - plev m) (py m) (pz m)
theorem sq_47_50 (s : jM) (e d m : Nat) (hd : d ≤ 5) (hm : m < mnN d) (hL : LG s e) : jq 50 [.inr (1, e), .inl ((d : Int) - plev m), .inl (jyp m), .inl (jzp m)] s = some (some (.inl (mat s e d m)), s) := by
  have h21 := (mnN_le d hd).2
  obtain ⟨h1, h2, h3, h4, h5, -⟩ := jyp_py m (by omega)
  have hl := (mn_lev d hd m (by omega)).mp hm
  rw [h1, h2, show ((d : Int) - plev m) = ((d - plev m : Nat) : Int) by omega, sq_50 s e hL.1 hL.2.1 hL.2.2 _ _ _ (by omega) h3 h4]
  rfl
theorem sq_73 (s : jM) (f e d : Nat) (v : Int) (g0 : Nat → Int) (hd : d ≤ 5) (hef : e ≠ f) (he : LG s e) (hg : ∀ j, j < 21 → g101 (g0 j)) (hv : g101 v) : jq 73 [.inr (1, f), .inr (1, e), .inl v] (fset s f d g0) = some (none, fset s f d (fun j => if j < mnN d then (g0 j + mat s e d j * v) % 101 else g0 j)) := by
  have h21 := (mnN_le d hd).2
  rw [bq_73, show fset s f d g0 = fset s f d (fun j => if j < 0 then (g0 j + mat s e d j * v) % 101 else g0 j) from rfl]
  refine loopI (P := fun i => je 73 2 [some (.inr (1, f)), some (.inr (1, e)), some (.inl v), some (.inl (i : Int))] [] (fset s f d (fun j => if j < i then (g0 j + mat s e d j * v) % 101 else g0 j))) (n := mnN d) (fun i hi => ?_) ?_
  · show je 73 2 _ [] _ = _
    generalize hS : fset s f d (fun j => if j < i then (g0 j + mat s e d j * v) % 101 else g0 j) = S
    have hn : ∀ j, S 16 e j = s 16 e j := fun j => by rw [← hS, fset_o _ _ _ _ _ _ _ (by omega) (by omega)]
    have hL : LG S e := by unfold LG; rw [hn, hn, hn]; exact he
    have hma : mat S e d i = mat s e d i := by unfold mat; rw [hn, hn, hn]
    have hSd : S 1 f 1 = (d : Int) := by rw [← hS, fset_d]
    have hm := mul101 (mal_g (s 16 e 0) (s 16 e 1) (s 16 e 2) (d - plev i) (py i) (pz i)) hv
    have hm : 0 ≤ mat s e d i * v ∧ mat s e d i * v ≤ 10000 := hm
    have hSi : S 16 f i = g0 i := by rw [← hS, fset_n _ _ _ _ _ (by omega), if_neg (by omega)]
    rw [be_73_2, sq_61 _ f d hSd hd, jbI_s, if_pos (by omega), hSd, sq_47 d i hd (by omega), jbI_s, if_pos (by omega), if_pos (by omega), Int.toNat_natCast, sq_47_50 S e d i hd hi hL, jbI_s, hma, jwi (x := mat s e d i * v) (by omega) (by omega), sq_64 _ f i (by omega) _ (by rw [hSi]; exact hg i (by omega)) hm, jbV_s, jwn (x := (i : Int) + 1) (n := i + 1) (by omega) (by omega), hSi, ← hS, fset_up _ _ _ _ _ (by omega)]
    refine congrArg (fun z => je 73 2 [some (.inr (1, f)), some (.inr (1, e)), some (.inl v), some (.inl ((i + 1 : Nat) : Int))] [] (fset s f d z)) (funext fun j => ?_)
    by_cases e1 : j = i
    · subst e1; rw [if_pos rfl, if_pos (by omega)]
    · rw [if_neg e1]
      by_cases e2 : j < i
      · rw [if_pos e2, if_pos (by omega)]
      · rw [if_neg e2, if_neg (by omega)]
  · show je 73 2 _ [] _ = _
    rw [be_73_2, sq_61 _ f d (fset_d _ _ _ _) hd, jbI_s, if_neg (by omega)]
/-- a value: numbers times monomials, together, modulo 101 -/
def vsum (g h : Nat → Int) (n : Nat) : Int := fold (fun i a => (a + g i * h i) % 101) 0 n
theorem vsum_g (g h : Nat → Int) : ∀ n, g101 (vsum g h n)
  | 0 => ⟨(by decide : (0 : Int) ≤ 0), (by decide : (0 : Int) < 101)⟩
  | n + 1 => em101 _
theorem sq_74 (s : jM) (f e d : Nat) (h : s 1 f 1 = (d : Int)) (hd : d ≤ 5) (hf : ∀ j, j < 21 → g101 (s 16 f j)) (he : LG s e) : jq 74 [.inr (1, f), .inr (1, e)] s = some (some (.inl (vsum (s 16 f) (mat s e d) (mnN d))), s) := by
  have h21 := (mnN_le d hd).2
  rw [bq_74]
  have key : ∀ k i o, i + k = mnN d → je 74 4 [some (.inr (1, f)), some (.inr (1, e)), some (.inl (vsum (s 16 f) (mat s e d) i)), some (.inl (i : Int)), o] [] s = some (some (.inl (vsum (s 16 f) (mat s e d) (mnN d))), s) := by
    intro k
    induction k with
    | zero =>
      intro i o hi
      have hi : i = mnN d := hi
      subst hi
      rw [be_74_4, sq_61 s f d h hd, jbI_s, if_neg (by omega)]
    | succ k ih =>
      intro i o hi
      have hm := mul101 (hf i (by omega)) (show g101 (mat s e d i) from mal_g _ _ _ _ _ _)
      have hv := vsum_g (s 16 f) (mat s e d) i
      obtain ⟨hv1, hv2⟩ := hv
      rw [be_74_4, sq_61 s f d h hd, jbI_s, if_pos (by omega), h, sq_47 d i hd (by omega), jbI_s, if_pos (by omega), if_pos (by omega), Int.toNat_natCast, sq_47_50 s e d i hd (by omega) he, jbI_s, sq_62 f i (by omega), jbI_s, jwi (x := s 16 f i * mat s e d i) (by omega) (by omega), jwi (x := vsum (s 16 f) (mat s e d) i + s 16 f i * mat s e d i) (by omega) (by omega), tm101 (by omega), jwn (x := (i : Int) + 1) (n := i + 1) (by omega) (by omega)]
      exact ih (i + 1) _ (by omega)
  exact key (mnN d) 0 none (by omega)
