/-! THE IMAGE, STEPS TAKEN BACK, COUNTS -/
/-- forms 22 a .. of a bench become those of the bench b, the first n of them -/
def mcopy (s : jM) (a b n : Nat) : jM := fun k i j => if (k = 1 ∧ j = 1 ∨ k = 16 ∧ j < 21) ∧ 22 * a ≤ i ∧ i < 22 * a + n then s k (i - 22 * a + 22 * b) j else s k i j
theorem mcopy_0 (s : jM) (a b : Nat) : mcopy s a b 0 = s := by
  funext k i j
  unfold mcopy
  rw [if_neg (by omega)]
theorem mcopy_s (s : jM) (a b n : Nat) (hab : a ≠ b) (hn : n < 22) : fset (mcopy s a b n) (22 * a + n) (mcopy s a b n 1 (22 * b + n) 1) (fun j => mcopy s a b n 16 (22 * b + n) j) = mcopy s a b (n + 1) := by
  have e1 : ∀ k j, mcopy s a b n k (22 * b + n) j = s k (22 * b + n) j := fun k j => by unfold mcopy; rw [if_neg (by omega)]
  rw [e1]
  funext k i j
  by_cases h : k = 16 ∧ i = 22 * a + n ∧ j < 21
  · obtain ⟨rfl, rfl, hj⟩ := h
    rw [fset_n _ _ _ _ _ hj, e1]
    unfold mcopy
    rw [if_pos (by omega), show 22 * a + n - 22 * a + 22 * b = 22 * b + n by omega]
  · by_cases h2 : k = 1 ∧ i = 22 * a + n ∧ j = 1
    · obtain ⟨rfl, rfl, rfl⟩ := h2
      rw [fset_d]
      unfold mcopy
      rw [if_pos (by omega), show 22 * a + n - 22 * a + 22 * b = 22 * b + n by omega]
    · rw [fset_o _ _ _ _ _ _ _ h2 h]
      unfold mcopy
      by_cases h3 : (k = 1 ∧ j = 1 ∨ k = 16 ∧ j < 21) ∧ 22 * a ≤ i ∧ i < 22 * a + n
      · rw [if_pos h3, if_pos (by omega)]
      · rw [if_neg h3, if_neg (by omega)]
def bcopy (s : jM) (a b m : Nat) : jM := fun k i j => if k = 15 ∧ i = a ∧ j < m then s 15 b j else mcopy s a b (10 + m) k i j
theorem bcopy_0 (s : jM) (a b : Nat) : bcopy s a b 0 = mcopy s a b 10 := by
  funext k i j
  unfold bcopy
  rw [if_neg (by omega)]
theorem bcopy_s (s : jM) (a b m : Nat) (hab : a ≠ b) (hm : m < 12) : jup (fset (bcopy s a b m) (22 * a + 10 + m) (bcopy s a b m 1 (22 * b + 10 + m) 1) (fun j => bcopy s a b m 16 (22 * b + 10 + m) j)) 15 a m (fset (bcopy s a b m) (22 * a + 10 + m) (bcopy s a b m 1 (22 * b + 10 + m) 1) (fun j => bcopy s a b m 16 (22 * b + 10 + m) j) 15 b m) = bcopy s a b (m + 1) := by
  have e1 : ∀ k j, k ≠ 15 → bcopy s a b m k (22 * b + 10 + m) j = s k (22 * b + 10 + m) j := fun k j hk => by unfold bcopy mcopy; rw [if_neg (by omega), if_neg (by omega)]
  have e2 : bcopy s a b m 15 b m = s 15 b m := by unfold bcopy mcopy; rw [if_neg (by omega), if_neg (by omega)]
  rw [e1 _ _ (by omega), fset_o _ _ _ _ 15 _ _ (by omega) (by omega), e2]
  funext k i j
  by_cases h : k = 16 ∧ i = 22 * a + 10 + m ∧ j < 21
  · obtain ⟨rfl, rfl, hj⟩ := h
    rw [jup_n _ _ _ _ _ _ _ _ (by omega), fset_n _ _ _ _ _ hj, e1 _ _ (by omega)]
    unfold bcopy mcopy
    rw [if_neg (by omega), if_pos (by omega), show 22 * a + 10 + m - 22 * a + 22 * b = 22 * b + 10 + m by omega]
  · by_cases h2 : k = 1 ∧ i = 22 * a + 10 + m ∧ j = 1
    · obtain ⟨rfl, rfl, rfl⟩ := h2
      rw [jup_n _ _ _ _ _ _ _ _ (by omega), fset_d]
      unfold bcopy mcopy
      rw [if_neg (by omega), if_pos (by omega), show 22 * a + 10 + m - 22 * a + 22 * b = 22 * b + 10 + m by omega]
    · by_cases h4 : k = 15 ∧ i = a ∧ j = m
      · obtain ⟨rfl, rfl, rfl⟩ := h4
        rw [jup_e]
        unfold bcopy
        rw [if_pos (by omega)]
      · rw [jup_n _ _ _ _ _ _ _ _ h4, fset_o _ _ _ _ _ _ _ h2 h]
        unfold bcopy
        by_cases h5 : k = 15 ∧ i = a ∧ j < m
        · rw [if_pos h5, if_pos (by omega)]
        · rw [if_neg h5, if_neg (by omega)]
          unfold mcopy
          by_cases h3 : (k = 1 ∧ j = 1 ∨ k = 16 ∧ j < 21) ∧ 22 * a ≤ i ∧ i < 22 * a + (10 + m)
          · rw [if_pos h3, if_pos (by omega)]
          · rw [if_neg h3, if_neg (by omega)]
theorem sq_57 (s : jM) (a b : Nat) (hab : a ≠ b) : jq 57 [.inr (0, a), .inr (0, b)] s = some (none, bcopy s a b 12) := by
  have l1 : je 57 2 [some (.inr (0, a)), some (.inr (0, b)), some (.inl 0)] [] s = je 57 2 [some (.inr (0, a)), some (.inr (0, b)), some (.inl (4 : Nat))] [] (mcopy s a b 4) := by
    refine Eq.trans (congrArg (fun z => je 57 2 [some (.inr (0, a)), some (.inr (0, b)), some (.inl 0)] [] z) (mcopy_0 s a b).symm) ?_
    refine loopI (P := fun i => je 57 2 [some (.inr (0, a)), some (.inr (0, b)), some (.inl (i : Int))] [] (mcopy s a b i)) (n := 4) (fun i hi => ?_) rfl
    show je 57 2 _ [] _ = _
    rw [be_57_2, if_pos (by omega), if_pos (by omega), if_pos (by omega), Int.toNat_natCast, sq_66, jbV_s, mcopy_s s a b i hab (by omega), jwn (x := (i : Int) + 1) (n := i + 1) (by omega) (by omega)]
  have l2 : je 57 30 [some (.inr (0, a)), some (.inr (0, b)), some (.inl 0)] [] (mcopy s a b 4) = je 57 30 [some (.inr (0, a)), some (.inr (0, b)), some (.inl (6 : Nat))] [] (mcopy s a b 10) := by
    refine loopI (P := fun i => je 57 30 [some (.inr (0, a)), some (.inr (0, b)), some (.inl (i : Int))] [] (mcopy s a b (4 + i))) (n := 6) (fun i hi => ?_) rfl
    show je 57 30 _ [] _ = _
    rw [be_57_30, if_pos (by omega), if_pos (by omega), if_pos (by omega), Int.toNat_natCast, sq_66, jbV_s, Nat.add_assoc, Nat.add_assoc, mcopy_s s a b (4 + i) hab (by omega), jwn (x := (i : Int) + 1) (n := i + 1) (by omega) (by omega)]
    rfl
  have l3 : je 57 59 [some (.inr (0, a)), some (.inr (0, b)), some (.inl 0)] [] (mcopy s a b 10) = je 57 59 [some (.inr (0, a)), some (.inr (0, b)), some (.inl (12 : Nat))] [] (bcopy s a b 12) := by
    refine Eq.trans (congrArg (fun z => je 57 59 [some (.inr (0, a)), some (.inr (0, b)), some (.inl 0)] [] z) (bcopy_0 s a b).symm) ?_
    refine loopI (P := fun i => je 57 59 [some (.inr (0, a)), some (.inr (0, b)), some (.inl (i : Int))] [] (bcopy s a b i)) (n := 12) (fun i hi => ?_) rfl
    show je 57 59 _ [] _ = _
    rw [be_57_59, if_pos (by omega), if_pos (by omega), if_pos (by omega), Int.toNat_natCast, sq_66, jbV_s, if_pos (by omega), if_pos (by omega), bcopy_s s a b i hab (by omega), jwn (x := (i : Int) + 1) (n := i + 1) (by omega) (by omega)]
  rw [bq_57, l1, be_57_2, if_neg (by omega), l2, be_57_30, if_neg (by omega), l3, be_57_59, if_neg (by omega)]
theorem sq_58 (s : jM) (b : Nat) (h : ∀ r, r < 4 → 0 ≤ s 1 (22 * b + r) 1 ∧ s 1 (22 * b + r) 1 ≤ 5) : jq 58 [.inr (0, b)] s = some (some (.inl (s 1 (22 * b + 0) 1 + s 1 (22 * b + 1) 1 + s 1 (22 * b + 2) 1 + s 1 (22 * b + 3) 1)), s) := by
  have h0 := h 0 (by omega)
  have h1 := h 1 (by omega)
  have h2 := h 2 (by omega)
  have h3 := h 3 (by omega)
  rw [bq_58, be_58_4, if_pos (by omega), if_pos (by omega), show Int.toNat 0 = 0 from rfl, jwi (x := 0 + s 1 (22 * b + 0) 1) (by omega) (by omega), show jw (0 + 1) = 1 from rfl,
    be_58_4, if_pos (by omega), if_pos (by omega), show Int.toNat 1 = 1 from rfl, jwi (x := 0 + s 1 (22 * b + 0) 1 + s 1 (22 * b + 1) 1) (by omega) (by omega), show jw (1 + 1) = 2 from rfl,
    be_58_4, if_pos (by omega), if_pos (by omega), show Int.toNat 2 = 2 from rfl, jwi (x := 0 + s 1 (22 * b + 0) 1 + s 1 (22 * b + 1) 1 + s 1 (22 * b + 2) 1) (by omega) (by omega), show jw (2 + 1) = 3 from rfl,
    be_58_4, if_pos (by omega), if_pos (by omega), show Int.toNat 3 = 3 from rfl, jwi (x := 0 + s 1 (22 * b + 0) 1 + s 1 (22 * b + 1) 1 + s 1 (22 * b + 2) 1 + s 1 (22 * b + 3) 1) (by omega) (by omega), show jw (3 + 1) = 4 from rfl,
    be_58_4, if_neg (by omega), Int.zero_add]
theorem sq_283 (s : jM) (h : ∀ r, r < 4 → 0 ≤ s 29 0 r ∧ s 29 0 r ≤ 5) : jq 283 [.inr (11, 0)] s = some (some (.inl (s 29 0 0 + s 29 0 1 + s 29 0 2 + s 29 0 3)), s) := by
  have h0 := h 0 (by omega)
  have h1 := h 1 (by omega)
  have h2 := h 2 (by omega)
  have h3 := h 3 (by omega)
  rw [bq_283, show Int.toNat 0 = 0 from rfl, show Int.toNat 1 = 1 from rfl, show Int.toNat 2 = 2 from rfl, show Int.toNat 3 = 3 from rfl, jwi (x := s 29 0 0 + s 29 0 1) (by omega) (by omega), jwi (x := s 29 0 0 + s 29 0 1 + s 29 0 2) (by omega) (by omega), jwi (by omega) (by omega)]
/-- the reference's copies, from the kinds x.. to the kinds y.. -/
def icopy (s : jM) (a1 a2 a3 a4 a5 a6 b1 b2 b3 b4 b5 b6 : Nat) : jM := jfl (jfl (jfl (jfl (jfl (jfl s a1 0 0 4 (s b1 0)) a2 0 0 84 (s b2 0)) a3 0 0 18 (s b3 0)) a4 0 0 12 (s b4 0)) a5 0 0 12 (s b5 0)) a6 0 0 252 (s b6 0)
theorem jfl0_in (s : jM) (k i n : Nat) (g : Nat → Int) (j : Nat) (h : j < n) : jfl s k i 0 n g k i j = g j := by
  have := jfl_in s k i 0 n g j h
  rwa [Nat.zero_add] at this
theorem jfl_two (s : jM) (a b m : Nat) (f g : Nat → Int) (hab : a ≠ b) (U : jM) (hU : U = jfl (jfl s a 0 0 m f) b 0 0 m g) : jup (jup U a 0 m (f m)) b 0 m (g m) = jfl (jfl s a 0 0 (m + 1) f) b 0 0 (m + 1) g := by
  subst hU
  rw [← jfl_up (jfl s a 0 0 (m + 1) f) b 0 0 m g (g m) rfl m (by omega), ← jfl_up s a 0 0 m f (f m) rfl m (by omega)]
  congr 1
  funext k i j
  unfold jup jfl
  by_cases h : k = a ∧ i = 0 ∧ j = m
  · rw [if_pos h, if_neg (by omega)]
    exact (if_pos h).symm
  · rw [if_neg h]
    by_cases h2 : k = b ∧ i = 0 ∧ 0 ≤ j ∧ j < 0 + m
    · rw [if_pos h2, if_pos h2]
    · rw [if_neg h2, if_neg h2]
      exact (if_neg h).symm
theorem sq_284 (s : jM) (h : ∀ r, r < 4 → 0 ≤ s 29 0 r ∧ s 29 0 r ≤ 5) : jq 284 [.inr (11, 0)] s = some (some (.inl (s 29 0 0 + s 29 0 1 + s 29 0 2 + s 29 0 3)), icopy (jup s 11 0 14 1) 41 42 43 44 45 46 29 30 31 32 33 34) := by
  rw [bq_284]
  have e : ∀ k j, 29 ≤ k → s k 0 j = jup s 11 0 14 1 k 0 j := fun k j z => by rw [jup_n _ _ _ _ _ _ _ _ (by omega)]
  rw [e _ _ (by omega), e _ _ (by omega), e _ _ (by omega), e _ _ (by omega)]
  have h : ∀ r, r < 4 → 0 ≤ jup s 11 0 14 1 29 0 r ∧ jup s 11 0 14 1 29 0 r ≤ 5 := fun r hr => by rw [← e _ _ (by omega)]; exact h r hr
  clear e
  generalize jup s 11 0 14 1 = U at *
  unfold icopy
  have l1 : je 284 7 [some (.inr (11, 0)), some (.inl 0)] [] U = je 284 7 [some (.inr (11, 0)), some (.inl (4 : Nat))] [] (jfl U 41 0 0 4 (U 29 0)) := by
    refine Eq.trans (congrArg (fun z => je 284 7 [some (.inr (11, 0)), some (.inl 0)] [] z) (jfl_0 U 41 0 0 (U 29 0)).symm) ?_
    refine loopI (P := fun i => je 284 7 [some (.inr (11, 0)), some (.inl (i : Int))] [] (jfl U 41 0 0 i (U 29 0))) (n := 4) (fun i hi => ?_) rfl
    show je 284 7 _ [] _ = _
    rw [be_284_7, if_pos (by omega), if_pos (by omega), if_pos (by omega), Int.toNat_natCast, jwn (x := (i : Int) + 1) (n := i + 1) (by omega) (by omega), jfl_ne _ _ _ _ _ _ _ _ _ (by omega), jfl_up _ _ _ _ _ _ _ rfl _ (by omega)]
  rw [l1, be_284_7, if_neg (by omega)]
  have f2 : U 30 0 = (jfl U 41 0 0 4 (U 29 0)) 30 0 := funext fun j => by rw [jfl_ne _ _ _ _ _ _ _ _ _ (by omega)]
  have f3 : U 31 0 = (jfl U 41 0 0 4 (U 29 0)) 31 0 := funext fun j => by rw [jfl_ne _ _ _ _ _ _ _ _ _ (by omega)]
  have f4 : U 32 0 = (jfl U 41 0 0 4 (U 29 0)) 32 0 := funext fun j => by rw [jfl_ne _ _ _ _ _ _ _ _ _ (by omega)]
  have f5 : U 33 0 = (jfl U 41 0 0 4 (U 29 0)) 33 0 := funext fun j => by rw [jfl_ne _ _ _ _ _ _ _ _ _ (by omega)]
  have f6 : U 34 0 = (jfl U 41 0 0 4 (U 29 0)) 34 0 := funext fun j => by rw [jfl_ne _ _ _ _ _ _ _ _ _ (by omega)]
  have f0 : ∀ r, U 29 0 r = (jfl U 41 0 0 4 (U 29 0)) 29 0 r := fun j => by rw [jfl_ne _ _ _ _ _ _ _ _ _ (by omega)]
  rw [f2, f3, f4, f5, f6, f0 0, f0 1, f0 2, f0 3]
  have h : ∀ r, r < 4 → 0 ≤ (jfl U 41 0 0 4 (U 29 0)) 29 0 r ∧ (jfl U 41 0 0 4 (U 29 0)) 29 0 r ≤ 5 := fun r hr => by rw [← f0]; exact h r hr
  clear l1 f0 f2 f3 f4 f5 f6
  generalize jfl U 41 0 0 4 (U 29 0) = U at *
  have l1 : je 284 32 [some (.inr (11, 0)), some (.inl 0)] [] U = je 284 32 [some (.inr (11, 0)), some (.inl (84 : Nat))] [] (jfl U 42 0 0 84 (U 30 0)) := by
    refine Eq.trans (congrArg (fun z => je 284 32 [some (.inr (11, 0)), some (.inl 0)] [] z) (jfl_0 U 42 0 0 (U 30 0)).symm) ?_
    refine loopI (P := fun i => je 284 32 [some (.inr (11, 0)), some (.inl (i : Int))] [] (jfl U 42 0 0 i (U 30 0))) (n := 84) (fun i hi => ?_) rfl
    show je 284 32 _ [] _ = _
    rw [be_284_32, if_pos (by omega), if_pos (by omega), if_pos (by omega), Int.toNat_natCast, jwn (x := (i : Int) + 1) (n := i + 1) (by omega) (by omega), jfl_ne _ _ _ _ _ _ _ _ _ (by omega), jfl_up _ _ _ _ _ _ _ rfl _ (by omega)]
  rw [l1, be_284_32, if_neg (by omega)]
  have f3 : U 31 0 = (jfl U 42 0 0 84 (U 30 0)) 31 0 := funext fun j => by rw [jfl_ne _ _ _ _ _ _ _ _ _ (by omega)]
  have f4 : U 32 0 = (jfl U 42 0 0 84 (U 30 0)) 32 0 := funext fun j => by rw [jfl_ne _ _ _ _ _ _ _ _ _ (by omega)]
  have f5 : U 33 0 = (jfl U 42 0 0 84 (U 30 0)) 33 0 := funext fun j => by rw [jfl_ne _ _ _ _ _ _ _ _ _ (by omega)]
  have f6 : U 34 0 = (jfl U 42 0 0 84 (U 30 0)) 34 0 := funext fun j => by rw [jfl_ne _ _ _ _ _ _ _ _ _ (by omega)]
  have f0 : ∀ r, U 29 0 r = (jfl U 42 0 0 84 (U 30 0)) 29 0 r := fun j => by rw [jfl_ne _ _ _ _ _ _ _ _ _ (by omega)]
  rw [f3, f4, f5, f6, f0 0, f0 1, f0 2, f0 3]
  have h : ∀ r, r < 4 → 0 ≤ (jfl U 42 0 0 84 (U 30 0)) 29 0 r ∧ (jfl U 42 0 0 84 (U 30 0)) 29 0 r ≤ 5 := fun r hr => by rw [← f0]; exact h r hr
  clear l1 f0 f3 f4 f5 f6
  generalize jfl U 42 0 0 84 (U 30 0) = U at *
  have l1 : je 284 58 [some (.inr (11, 0)), some (.inl 0)] [] U = je 284 58 [some (.inr (11, 0)), some (.inl (18 : Nat))] [] (jfl U 43 0 0 18 (U 31 0)) := by
    refine Eq.trans (congrArg (fun z => je 284 58 [some (.inr (11, 0)), some (.inl 0)] [] z) (jfl_0 U 43 0 0 (U 31 0)).symm) ?_
    refine loopI (P := fun i => je 284 58 [some (.inr (11, 0)), some (.inl (i : Int))] [] (jfl U 43 0 0 i (U 31 0))) (n := 18) (fun i hi => ?_) rfl
    show je 284 58 _ [] _ = _
    rw [be_284_58, if_pos (by omega), if_pos (by omega), if_pos (by omega), Int.toNat_natCast, jwn (x := (i : Int) + 1) (n := i + 1) (by omega) (by omega), jfl_ne _ _ _ _ _ _ _ _ _ (by omega), jfl_up _ _ _ _ _ _ _ rfl _ (by omega)]
  rw [l1, be_284_58, if_neg (by omega)]
  have f4 : U 32 0 = (jfl U 43 0 0 18 (U 31 0)) 32 0 := funext fun j => by rw [jfl_ne _ _ _ _ _ _ _ _ _ (by omega)]
  have f5 : U 33 0 = (jfl U 43 0 0 18 (U 31 0)) 33 0 := funext fun j => by rw [jfl_ne _ _ _ _ _ _ _ _ _ (by omega)]
  have f6 : U 34 0 = (jfl U 43 0 0 18 (U 31 0)) 34 0 := funext fun j => by rw [jfl_ne _ _ _ _ _ _ _ _ _ (by omega)]
  have f0 : ∀ r, U 29 0 r = (jfl U 43 0 0 18 (U 31 0)) 29 0 r := fun j => by rw [jfl_ne _ _ _ _ _ _ _ _ _ (by omega)]
  rw [f4, f5, f6, f0 0, f0 1, f0 2, f0 3]
  have h : ∀ r, r < 4 → 0 ≤ (jfl U 43 0 0 18 (U 31 0)) 29 0 r ∧ (jfl U 43 0 0 18 (U 31 0)) 29 0 r ≤ 5 := fun r hr => by rw [← f0]; exact h r hr
  clear l1 f0 f4 f5 f6
  generalize jfl U 43 0 0 18 (U 31 0) = U at *
  have l1 : je 284 84 [some (.inr (11, 0)), some (.inl 0)] [] U = je 284 84 [some (.inr (11, 0)), some (.inl (12 : Nat))] [] (jfl (jfl U 44 0 0 12 (U 32 0)) 45 0 0 12 (U 33 0)) := by
    refine Eq.trans (congrArg (fun z => je 284 84 [some (.inr (11, 0)), some (.inl 0)] [] z) (show jfl (jfl U 44 0 0 0 (U 32 0)) 45 0 0 0 (U 33 0) = U by rw [jfl_0, jfl_0]).symm) ?_
    refine loopI (P := fun i => je 284 84 [some (.inr (11, 0)), some (.inl (i : Int))] [] (jfl (jfl U 44 0 0 i (U 32 0)) 45 0 0 i (U 33 0))) (n := 12) (fun i hi => ?_) rfl
    show je 284 84 _ [] _ = _
    have g1 : (jfl (jfl U 44 0 0 i (U 32 0)) 45 0 0 i (U 33 0)) 32 0 i = U 32 0 i := by rw [jfl_ne _ _ _ _ _ _ _ _ _ (by omega), jfl_ne _ _ _ _ _ _ _ _ _ (by omega)]
    have g2 : (jfl (jfl U 44 0 0 i (U 32 0)) 45 0 0 i (U 33 0)) 33 0 i = U 33 0 i := by rw [jfl_ne _ _ _ _ _ _ _ _ _ (by omega), jfl_ne _ _ _ _ _ _ _ _ _ (by omega)]
    have g3 : ∀ v, jup (jfl (jfl U 44 0 0 i (U 32 0)) 45 0 0 i (U 33 0)) 44 0 i v 33 0 i = U 33 0 i := fun v => by rw [jup_n _ _ _ _ _ _ _ _ (by omega), g2]
    rw [be_284_84, if_pos (by omega), if_pos (by omega), if_pos (by omega), if_pos (by omega), if_pos (by omega), Int.toNat_natCast, jwn (x := (i : Int) + 1) (n := i + 1) (by omega) (by omega), g1, g2, jfl_two U 44 45 i (U 32 0) (U 33 0) (by omega) _ rfl]
  rw [l1, be_284_84, if_neg (by omega)]
  have f6 : U 34 0 = (jfl (jfl U 44 0 0 12 (U 32 0)) 45 0 0 12 (U 33 0)) 34 0 := funext fun j => by rw [jfl_ne _ _ _ _ _ _ _ _ _ (by omega), jfl_ne _ _ _ _ _ _ _ _ _ (by omega)]
  have f0 : ∀ r, U 29 0 r = (jfl (jfl U 44 0 0 12 (U 32 0)) 45 0 0 12 (U 33 0)) 29 0 r := fun j => by rw [jfl_ne _ _ _ _ _ _ _ _ _ (by omega), jfl_ne _ _ _ _ _ _ _ _ _ (by omega)]
  rw [f6, f0 0, f0 1, f0 2, f0 3]
  have h : ∀ r, r < 4 → 0 ≤ (jfl (jfl U 44 0 0 12 (U 32 0)) 45 0 0 12 (U 33 0)) 29 0 r ∧ (jfl (jfl U 44 0 0 12 (U 32 0)) 45 0 0 12 (U 33 0)) 29 0 r ≤ 5 := fun r hr => by rw [← f0]; exact h r hr
  clear l1 f0 f6
  generalize jfl (jfl U 44 0 0 12 (U 32 0)) 45 0 0 12 (U 33 0) = U at *
  have l1 : je 284 122 [some (.inr (11, 0)), some (.inl 0)] [] U = je 284 122 [some (.inr (11, 0)), some (.inl (252 : Nat))] [] (jfl U 46 0 0 252 (U 34 0)) := by
    refine Eq.trans (congrArg (fun z => je 284 122 [some (.inr (11, 0)), some (.inl 0)] [] z) (jfl_0 U 46 0 0 (U 34 0)).symm) ?_
    refine loopI (P := fun i => je 284 122 [some (.inr (11, 0)), some (.inl (i : Int))] [] (jfl U 46 0 0 i (U 34 0))) (n := 252) (fun i hi => ?_) rfl
    show je 284 122 _ [] _ = _
    rw [be_284_122, if_pos (by omega), if_pos (by omega), if_pos (by omega), Int.toNat_natCast, jwn (x := (i : Int) + 1) (n := i + 1) (by omega) (by omega), jfl_ne _ _ _ _ _ _ _ _ _ (by omega), jfl_up _ _ _ _ _ _ _ rfl _ (by omega)]
  have f1 : ∀ r, (jfl U 46 0 0 252 (U 34 0)) 29 0 r = U 29 0 r := fun j => by rw [jfl_ne _ _ _ _ _ _ _ _ _ (by omega)]
  rw [l1, be_284_122, if_neg (by omega), sq_283 _ (fun r hr => by rw [f1]; exact h r hr), jbI_s, f1, f1, f1, f1]
theorem sq_285 (U : jM) (hi : U 11 0 14 = 1) (h : ∀ r, r < 4 → 0 ≤ U 41 0 r ∧ U 41 0 r ≤ 5) : jq 285 [.inr (11, 0)] U = some (some (.inl (U 41 0 0 + U 41 0 1 + U 41 0 2 + U 41 0 3)), jup (icopy U 29 30 31 32 33 34 41 42 43 44 45 46) 11 0 10 0) := by
  rw [bq_285, hi, if_neg (by decide)]
  clear hi
  unfold icopy
  have l1 : je 285 12 [some (.inr (11, 0)), some (.inl 0)] [] U = je 285 12 [some (.inr (11, 0)), some (.inl (4 : Nat))] [] (jfl U 29 0 0 4 (U 41 0)) := by
    refine Eq.trans (congrArg (fun z => je 285 12 [some (.inr (11, 0)), some (.inl 0)] [] z) (jfl_0 U 29 0 0 (U 41 0)).symm) ?_
    refine loopI (P := fun i => je 285 12 [some (.inr (11, 0)), some (.inl (i : Int))] [] (jfl U 29 0 0 i (U 41 0))) (n := 4) (fun i hi => ?_) rfl
    show je 285 12 _ [] _ = _
    rw [be_285_12, if_pos (by omega), if_pos (by omega), if_pos (by omega), Int.toNat_natCast, jwn (x := (i : Int) + 1) (n := i + 1) (by omega) (by omega), jfl_ne _ _ _ _ _ _ _ _ _ (by omega), jfl_up _ _ _ _ _ _ _ rfl _ (by omega)]
  rw [l1, be_285_12, if_neg (by omega)]
  have f2 : U 42 0 = (jfl U 29 0 0 4 (U 41 0)) 42 0 := funext fun j => by rw [jfl_ne _ _ _ _ _ _ _ _ _ (by omega)]
  have f3 : U 43 0 = (jfl U 29 0 0 4 (U 41 0)) 43 0 := funext fun j => by rw [jfl_ne _ _ _ _ _ _ _ _ _ (by omega)]
  have f4 : U 44 0 = (jfl U 29 0 0 4 (U 41 0)) 44 0 := funext fun j => by rw [jfl_ne _ _ _ _ _ _ _ _ _ (by omega)]
  have f5 : U 45 0 = (jfl U 29 0 0 4 (U 41 0)) 45 0 := funext fun j => by rw [jfl_ne _ _ _ _ _ _ _ _ _ (by omega)]
  have f6 : U 46 0 = (jfl U 29 0 0 4 (U 41 0)) 46 0 := funext fun j => by rw [jfl_ne _ _ _ _ _ _ _ _ _ (by omega)]
  have f0 : ∀ r, r < 4 → U 41 0 r = (jfl U 29 0 0 4 (U 41 0)) 29 0 r := fun r hr => (jfl0_in _ _ _ _ _ _ hr).symm
  rw [f2, f3, f4, f5, f6, f0 0 (by omega), f0 1 (by omega), f0 2 (by omega), f0 3 (by omega)]
  have h : ∀ r, r < 4 → 0 ≤ (jfl U 29 0 0 4 (U 41 0)) 29 0 r ∧ (jfl U 29 0 0 4 (U 41 0)) 29 0 r ≤ 5 := fun r hr => by rw [← f0 r hr]; exact h r hr
  clear l1 f0 f2 f3 f4 f5 f6
  generalize jfl U 29 0 0 4 (U 41 0) = U at *
  have l1 : je 285 37 [some (.inr (11, 0)), some (.inl 0)] [] U = je 285 37 [some (.inr (11, 0)), some (.inl (84 : Nat))] [] (jfl U 30 0 0 84 (U 42 0)) := by
    refine Eq.trans (congrArg (fun z => je 285 37 [some (.inr (11, 0)), some (.inl 0)] [] z) (jfl_0 U 30 0 0 (U 42 0)).symm) ?_
    refine loopI (P := fun i => je 285 37 [some (.inr (11, 0)), some (.inl (i : Int))] [] (jfl U 30 0 0 i (U 42 0))) (n := 84) (fun i hi => ?_) rfl
    show je 285 37 _ [] _ = _
    rw [be_285_37, if_pos (by omega), if_pos (by omega), if_pos (by omega), Int.toNat_natCast, jwn (x := (i : Int) + 1) (n := i + 1) (by omega) (by omega), jfl_ne _ _ _ _ _ _ _ _ _ (by omega), jfl_up _ _ _ _ _ _ _ rfl _ (by omega)]
  rw [l1, be_285_37, if_neg (by omega)]
  have f3 : U 43 0 = (jfl U 30 0 0 84 (U 42 0)) 43 0 := funext fun j => by rw [jfl_ne _ _ _ _ _ _ _ _ _ (by omega)]
  have f4 : U 44 0 = (jfl U 30 0 0 84 (U 42 0)) 44 0 := funext fun j => by rw [jfl_ne _ _ _ _ _ _ _ _ _ (by omega)]
  have f5 : U 45 0 = (jfl U 30 0 0 84 (U 42 0)) 45 0 := funext fun j => by rw [jfl_ne _ _ _ _ _ _ _ _ _ (by omega)]
  have f6 : U 46 0 = (jfl U 30 0 0 84 (U 42 0)) 46 0 := funext fun j => by rw [jfl_ne _ _ _ _ _ _ _ _ _ (by omega)]
  have f0 : ∀ r, U 29 0 r = (jfl U 30 0 0 84 (U 42 0)) 29 0 r := fun j => by rw [jfl_ne _ _ _ _ _ _ _ _ _ (by omega)]
  rw [f3, f4, f5, f6, f0 0, f0 1, f0 2, f0 3]
  have h : ∀ r, r < 4 → 0 ≤ (jfl U 30 0 0 84 (U 42 0)) 29 0 r ∧ (jfl U 30 0 0 84 (U 42 0)) 29 0 r ≤ 5 := fun r hr => by rw [← f0]; exact h r hr
  clear l1 f0 f3 f4 f5 f6
  generalize jfl U 30 0 0 84 (U 42 0) = U at *
  have l1 : je 285 63 [some (.inr (11, 0)), some (.inl 0)] [] U = je 285 63 [some (.inr (11, 0)), some (.inl (18 : Nat))] [] (jfl U 31 0 0 18 (U 43 0)) := by
    refine Eq.trans (congrArg (fun z => je 285 63 [some (.inr (11, 0)), some (.inl 0)] [] z) (jfl_0 U 31 0 0 (U 43 0)).symm) ?_
    refine loopI (P := fun i => je 285 63 [some (.inr (11, 0)), some (.inl (i : Int))] [] (jfl U 31 0 0 i (U 43 0))) (n := 18) (fun i hi => ?_) rfl
    show je 285 63 _ [] _ = _
    rw [be_285_63, if_pos (by omega), if_pos (by omega), if_pos (by omega), Int.toNat_natCast, jwn (x := (i : Int) + 1) (n := i + 1) (by omega) (by omega), jfl_ne _ _ _ _ _ _ _ _ _ (by omega), jfl_up _ _ _ _ _ _ _ rfl _ (by omega)]
  rw [l1, be_285_63, if_neg (by omega)]
  have f4 : U 44 0 = (jfl U 31 0 0 18 (U 43 0)) 44 0 := funext fun j => by rw [jfl_ne _ _ _ _ _ _ _ _ _ (by omega)]
  have f5 : U 45 0 = (jfl U 31 0 0 18 (U 43 0)) 45 0 := funext fun j => by rw [jfl_ne _ _ _ _ _ _ _ _ _ (by omega)]
  have f6 : U 46 0 = (jfl U 31 0 0 18 (U 43 0)) 46 0 := funext fun j => by rw [jfl_ne _ _ _ _ _ _ _ _ _ (by omega)]
  have f0 : ∀ r, U 29 0 r = (jfl U 31 0 0 18 (U 43 0)) 29 0 r := fun j => by rw [jfl_ne _ _ _ _ _ _ _ _ _ (by omega)]
  rw [f4, f5, f6, f0 0, f0 1, f0 2, f0 3]
  have h : ∀ r, r < 4 → 0 ≤ (jfl U 31 0 0 18 (U 43 0)) 29 0 r ∧ (jfl U 31 0 0 18 (U 43 0)) 29 0 r ≤ 5 := fun r hr => by rw [← f0]; exact h r hr
  clear l1 f0 f4 f5 f6
  generalize jfl U 31 0 0 18 (U 43 0) = U at *
  have l1 : je 285 89 [some (.inr (11, 0)), some (.inl 0)] [] U = je 285 89 [some (.inr (11, 0)), some (.inl (12 : Nat))] [] (jfl (jfl U 32 0 0 12 (U 44 0)) 33 0 0 12 (U 45 0)) := by
    refine Eq.trans (congrArg (fun z => je 285 89 [some (.inr (11, 0)), some (.inl 0)] [] z) (show jfl (jfl U 32 0 0 0 (U 44 0)) 33 0 0 0 (U 45 0) = U by rw [jfl_0, jfl_0]).symm) ?_
    refine loopI (P := fun i => je 285 89 [some (.inr (11, 0)), some (.inl (i : Int))] [] (jfl (jfl U 32 0 0 i (U 44 0)) 33 0 0 i (U 45 0))) (n := 12) (fun i hi => ?_) rfl
    show je 285 89 _ [] _ = _
    have g1 : (jfl (jfl U 32 0 0 i (U 44 0)) 33 0 0 i (U 45 0)) 44 0 i = U 44 0 i := by rw [jfl_ne _ _ _ _ _ _ _ _ _ (by omega), jfl_ne _ _ _ _ _ _ _ _ _ (by omega)]
    have g2 : (jfl (jfl U 32 0 0 i (U 44 0)) 33 0 0 i (U 45 0)) 45 0 i = U 45 0 i := by rw [jfl_ne _ _ _ _ _ _ _ _ _ (by omega), jfl_ne _ _ _ _ _ _ _ _ _ (by omega)]
    have g3 : ∀ v, jup (jfl (jfl U 32 0 0 i (U 44 0)) 33 0 0 i (U 45 0)) 32 0 i v 45 0 i = U 45 0 i := fun v => by rw [jup_n _ _ _ _ _ _ _ _ (by omega), g2]
    rw [be_285_89, if_pos (by omega), if_pos (by omega), if_pos (by omega), if_pos (by omega), if_pos (by omega), Int.toNat_natCast, jwn (x := (i : Int) + 1) (n := i + 1) (by omega) (by omega), g1, g2, jfl_two U 32 33 i (U 44 0) (U 45 0) (by omega) _ rfl]
  rw [l1, be_285_89, if_neg (by omega)]
  have f6 : U 46 0 = (jfl (jfl U 32 0 0 12 (U 44 0)) 33 0 0 12 (U 45 0)) 46 0 := funext fun j => by rw [jfl_ne _ _ _ _ _ _ _ _ _ (by omega), jfl_ne _ _ _ _ _ _ _ _ _ (by omega)]
  have f0 : ∀ r, U 29 0 r = (jfl (jfl U 32 0 0 12 (U 44 0)) 33 0 0 12 (U 45 0)) 29 0 r := fun j => by rw [jfl_ne _ _ _ _ _ _ _ _ _ (by omega), jfl_ne _ _ _ _ _ _ _ _ _ (by omega)]
  rw [f6, f0 0, f0 1, f0 2, f0 3]
  have h : ∀ r, r < 4 → 0 ≤ (jfl (jfl U 32 0 0 12 (U 44 0)) 33 0 0 12 (U 45 0)) 29 0 r ∧ (jfl (jfl U 32 0 0 12 (U 44 0)) 33 0 0 12 (U 45 0)) 29 0 r ≤ 5 := fun r hr => by rw [← f0]; exact h r hr
  clear l1 f0 f6
  generalize jfl (jfl U 32 0 0 12 (U 44 0)) 33 0 0 12 (U 45 0) = U at *
  have l1 : je 285 127 [some (.inr (11, 0)), some (.inl 0)] [] U = je 285 127 [some (.inr (11, 0)), some (.inl (252 : Nat))] [] (jfl U 34 0 0 252 (U 46 0)) := by
    refine Eq.trans (congrArg (fun z => je 285 127 [some (.inr (11, 0)), some (.inl 0)] [] z) (jfl_0 U 34 0 0 (U 46 0)).symm) ?_
    refine loopI (P := fun i => je 285 127 [some (.inr (11, 0)), some (.inl (i : Int))] [] (jfl U 34 0 0 i (U 46 0))) (n := 252) (fun i hi => ?_) rfl
    show je 285 127 _ [] _ = _
    rw [be_285_127, if_pos (by omega), if_pos (by omega), if_pos (by omega), Int.toNat_natCast, jwn (x := (i : Int) + 1) (n := i + 1) (by omega) (by omega), jfl_ne _ _ _ _ _ _ _ _ _ (by omega), jfl_up _ _ _ _ _ _ _ rfl _ (by omega)]
  have f1 : ∀ r, jup (jfl U 34 0 0 252 (U 46 0)) 11 0 10 0 29 0 r = U 29 0 r := fun j => by rw [jup_n _ _ _ _ _ _ _ _ (by omega), jfl_ne _ _ _ _ _ _ _ _ _ (by omega)]
  rw [l1, be_285_127, if_neg (by omega), sq_283 _ (fun r hr => by rw [f1]; exact h r hr), jbI_s, f1, f1, f1, f1]
/-! END OF COPIES -/
theorem icopy_o (s : jM) (a1 a2 a3 a4 a5 a6 b1 b2 b3 b4 b5 b6 k i j : Nat) (h : k ≠ a1 ∧ k ≠ a2 ∧ k ≠ a3 ∧ k ≠ a4 ∧ k ≠ a5 ∧ k ≠ a6) : icopy s a1 a2 a3 a4 a5 a6 b1 b2 b3 b4 b5 b6 k i j = s k i j := by
  unfold icopy
  rw [jfl_ne _ _ _ _ _ _ _ _ _ (by omega), jfl_ne _ _ _ _ _ _ _ _ _ (by omega), jfl_ne _ _ _ _ _ _ _ _ _ (by omega), jfl_ne _ _ _ _ _ _ _ _ _ (by omega), jfl_ne _ _ _ _ _ _ _ _ _ (by omega), jfl_ne _ _ _ _ _ _ _ _ _ (by omega)]
theorem icopy_n (s : jM) (a1 a2 a3 a4 a5 a6 b1 b2 b3 b4 b5 b6 : Nat) (h1 : a1 < a2) (h2 : a2 < a3) (h3 : a3 < a4) (h4 : a4 < a5) (h5 : a5 < a6) : (∀ j, j < 4 → icopy s a1 a2 a3 a4 a5 a6 b1 b2 b3 b4 b5 b6 a1 0 j = s b1 0 j) ∧ (∀ j, j < 84 → icopy s a1 a2 a3 a4 a5 a6 b1 b2 b3 b4 b5 b6 a2 0 j = s b2 0 j) ∧ (∀ j, j < 18 → icopy s a1 a2 a3 a4 a5 a6 b1 b2 b3 b4 b5 b6 a3 0 j = s b3 0 j) ∧ (∀ j, j < 12 → icopy s a1 a2 a3 a4 a5 a6 b1 b2 b3 b4 b5 b6 a4 0 j = s b4 0 j) ∧ (∀ j, j < 12 → icopy s a1 a2 a3 a4 a5 a6 b1 b2 b3 b4 b5 b6 a5 0 j = s b5 0 j) ∧ (∀ j, j < 252 → icopy s a1 a2 a3 a4 a5 a6 b1 b2 b3 b4 b5 b6 a6 0 j = s b6 0 j) := by
  unfold icopy
  refine ⟨fun j hj => ?_, fun j hj => ?_, fun j hj => ?_, fun j hj => ?_, fun j hj => ?_, fun j hj => jfl0_in _ _ _ _ _ _ hj⟩
  · rw [jfl_ne _ _ _ _ _ _ _ _ _ (by omega), jfl_ne _ _ _ _ _ _ _ _ _ (by omega), jfl_ne _ _ _ _ _ _ _ _ _ (by omega), jfl_ne _ _ _ _ _ _ _ _ _ (by omega), jfl_ne _ _ _ _ _ _ _ _ _ (by omega)]
    exact jfl0_in _ _ _ _ _ _ hj
  · rw [jfl_ne _ _ _ _ _ _ _ _ _ (by omega), jfl_ne _ _ _ _ _ _ _ _ _ (by omega), jfl_ne _ _ _ _ _ _ _ _ _ (by omega), jfl_ne _ _ _ _ _ _ _ _ _ (by omega)]
    exact jfl0_in _ _ _ _ _ _ hj
  · rw [jfl_ne _ _ _ _ _ _ _ _ _ (by omega), jfl_ne _ _ _ _ _ _ _ _ _ (by omega), jfl_ne _ _ _ _ _ _ _ _ _ (by omega)]
    exact jfl0_in _ _ _ _ _ _ hj
  · rw [jfl_ne _ _ _ _ _ _ _ _ _ (by omega), jfl_ne _ _ _ _ _ _ _ _ _ (by omega)]
    exact jfl0_in _ _ _ _ _ _ hj
  · rw [jfl_ne _ _ _ _ _ _ _ _ _ (by omega)]
    exact jfl0_in _ _ _ _ _ _ hj
theorem RB_mv {s t : jM} {o kD kN kL p lD lN lL : Nat} (h1 : ∀ i, i < 10 → t 1 (p + i) 1 = s 1 (o + i) 1) (h16 : ∀ i, i < 10 → ∀ j, j < 21 → t 16 (p + i) j = s 16 (o + i) j) (hD : ∀ r, r < 4 → t lD 0 r = s kD 0 r) (hN : ∀ j, j < 84 → t lN 0 j = s kN 0 j) (hL : ∀ j, j < 18 → t lL 0 j = s kL 0 j) (hs : RB s o kD kN kL) : RB t p lD lN lL := by
  obtain ⟨a, b⟩ := hs
  refine ⟨fun r hr => ?_, fun k hk => ?_⟩
  · obtain ⟨c, d, e⟩ := a r hr
    rw [h1 r (by omega), hD r hr]
    exact ⟨c, FW_c d (h16 r (by omega)), fun j hj => by rw [h16 r (by omega) j hj, hN _ (by omega)]; exact e j hj⟩
  · obtain ⟨c, d, e⟩ := b k hk
    rw [Nat.add_assoc] at c d
    rw [Nat.add_assoc, h1 _ (by omega)]
    refine ⟨c, FW_c d (h16 _ (by omega)), fun j hj => ?_⟩
    rw [h16 _ (by omega) j (by omega), hL _ (by omega), ← Nat.add_assoc]
    exact e j hj
theorem RK_mv {s t : jM} {o b kK kD kN p c lK lD lN : Nat} (h1 : ∀ i, i < 12 → t 1 (p + 10 + i) 1 = s 1 (o + 10 + i) 1) (h16 : ∀ i, i < 12 → ∀ j, j < 21 → t 16 (p + 10 + i) j = s 16 (o + 10 + i) j) (h15 : ∀ i, i < 12 → t 15 c i = s 15 b i) (hK : ∀ j, j < 12 → t lK 0 j = s kK 0 j) (hD : ∀ r, r < 12 → t lD 0 r = s kD 0 r) (hN : ∀ j, j < 252 → t lN 0 j = s kN 0 j) (hs : RK s o b kK kD kN) : RK t p c lK lD lN := by
  intro i hi
  rw [h1 i hi, h15 i hi, hK i hi, hD i hi]
  rcases hs i hi with e | ⟨e, f, g⟩
  · exact Or.inl e
  · exact Or.inr ⟨e, FW_c f (h16 i hi), fun j hj => by rw [h16 i hi j hj, hN _ (by omega)]; exact g j hj⟩
theorem bcopy_o (s : jM) (a b k i j : Nat) (h : ¬ ((k = 1 ∨ k = 16) ∧ 22 * a ≤ i ∧ i < 22 * a + 22 ∨ k = 15 ∧ i = a)) : bcopy s a b 12 k i j = s k i j := by
  unfold bcopy mcopy
  rw [if_neg (by omega), if_neg (by omega)]
theorem bcopy_f (s : jM) (a b : Nat) : (∀ i, i < 22 → bcopy s a b 12 1 (22 * a + i) 1 = s 1 (22 * b + i) 1) ∧ (∀ i, i < 22 → ∀ j, j < 21 → bcopy s a b 12 16 (22 * a + i) j = s 16 (22 * b + i) j) ∧ (∀ i, i < 12 → bcopy s a b 12 15 a i = s 15 b i) := by
  unfold bcopy
  refine ⟨fun i hi => ?_, fun i hi j hj => ?_, fun i hi => ?_⟩
  · unfold mcopy
    rw [if_neg (by omega), if_pos (by omega), show 22 * a + i - 22 * a + 22 * b = 22 * b + i by omega]
  · unfold mcopy
    rw [if_neg (by omega), if_pos (by omega), show 22 * a + i - 22 * a + 22 * b = 22 * b + i by omega]
  · rw [if_pos (by omega)]
theorem ap_35 (s : jM) (hI : Inv s) : Go s 35 284 [] := by
  obtain ⟨f1, f16, f15⟩ := bcopy_f s 1 0
  have fo := bcopy_o s 1 0
  have q57 := sq_57 s 1 0 (by decide)
  generalize bcopy s 1 0 12 = B at *
  obtain ⟨a, b, c, d, e, ⟨n, nx, f⟩, g⟩ := id hI
  have hdeg : ∀ r, r < 4 → 0 ≤ s 29 0 r ∧ s 29 0 r ≤ 5 ∧ s 1 r 1 = s 29 0 r := fun r hr => by
    obtain ⟨d, h1, h2, h3, -⟩ := inv_reg hI r hr
    omega
  have q58 := sq_58 (jup B 10 0 2 1) 0 (fun r hr => by
    have := hdeg r hr
    rw [jup_n _ _ _ _ _ _ _ _ (by omega), fo _ _ _ (by omega), Nat.mul_zero, Nat.zero_add]; omega)
  have v1 : ∀ r, r < 4 → jup B 10 0 2 1 1 (22 * 0 + r) 1 = s 29 0 r := fun r hr => by
    rw [jup_n _ _ _ _ _ _ _ _ (by omega), fo _ _ _ (by omega), Nat.mul_zero, Nat.zero_add]; exact (hdeg r hr).2.2
  rw [v1 0 (by omega), v1 1 (by omega), v1 2 (by omega), v1 3 (by omega)] at q58
  have v29 : ∀ r, jup B 10 0 2 1 29 0 r = s 29 0 r := fun r => by rw [jup_n _ _ _ _ _ _ _ _ (by omega), fo _ _ _ (by omega)]
  have q284 := sq_284 (jup B 10 0 2 1) (fun r hr => by rw [v29]; have := hdeg r hr; omega)
  rw [v29, v29, v29, v29] at q284
  have hic := icopy_n (jup (jup B 10 0 2 1) 11 0 14 1) 41 42 43 44 45 46 29 30 31 32 33 34 (by omega) (by omega) (by omega) (by omega) (by omega)
  have hio := fun k i j h => icopy_o (jup (jup B 10 0 2 1) 11 0 14 1) 41 42 43 44 45 46 29 30 31 32 33 34 k i j h
  refine ⟨s 29 0 0 + s 29 0 1 + s 29 0 2 + s 29 0 3, jup B 10 0 2 1, icopy (jup (jup B 10 0 2 1) 11 0 14 1) 41 42 43 44 45 46 29 30 31 32 33 34, ?_, q284, ?_⟩
  · rw [bq_35, q57, jbV_s, q58, jbI_s]
  generalize icopy (jup (jup B 10 0 2 1) 11 0 14 1) 41 42 43 44 45 46 29 30 31 32 33 34 = T at *
  have hu : ∀ k j, 29 ≤ k → jup (jup B 10 0 2 1) 11 0 14 1 k 0 j = s k 0 j := fun k j z => by rw [jup_n _ _ _ _ _ _ _ _ (by omega), jup_n _ _ _ _ _ _ _ _ (by omega), fo _ _ _ (by omega)]
  have hT : ∀ k i j, ¬ ((k = 1 ∨ k = 16) ∧ 22 ≤ i ∧ i < 44 ∨ k = 15 ∧ i = 1 ∨ 41 ≤ k ∧ k ≤ 46 ∨ k = 11 ∧ j = 14 ∨ k = 10) → T k i j = s k i j := fun k i j z => by rw [hio _ _ _ (by omega), jup_n _ _ _ _ _ _ _ _ (by omega), jup_n _ _ _ _ _ _ _ _ (by omega), fo _ _ _ (by omega)]
  obtain ⟨i1, i2, i3, i4, i5, i6⟩ := hic
  have t1 : ∀ i, i < 22 → T 1 (22 + i) 1 = s 1 i 1 := fun i hi => by
    have := f1 i hi
    rw [Nat.mul_one, Nat.mul_zero, Nat.zero_add] at this
    rw [hio _ _ _ (by omega), jup_n _ _ _ _ _ _ _ _ (by omega), jup_n _ _ _ _ _ _ _ _ (by omega), this]
  have t16 : ∀ i, i < 22 → ∀ j, j < 21 → T 16 (22 + i) j = s 16 i j := fun i hi j hj => by
    have := f16 i hi j hj
    rw [Nat.mul_one, Nat.mul_zero, Nat.zero_add] at this
    rw [hio _ _ _ (by omega), jup_n _ _ _ _ _ _ _ _ (by omega), jup_n _ _ _ _ _ _ _ _ (by omega), this]
  have t15 : ∀ i, i < 12 → T 15 1 i = s 15 0 i := fun i hi => by
    rw [hio _ _ _ (by omega), jup_n _ _ _ _ _ _ _ _ (by omega), jup_n _ _ _ _ _ _ _ _ (by omega), f15 i hi]
  refine ⟨RB_cg (fun k i j q => hT k i j (by omega)) a, RK_cg (fun k i j q => hT k i j (by omega)) b, RR_cg (fun k i j q => hT k i j (by omega)) c, RT_cg (fun k i j q => hT k i j (by omega)) d, ⟨?_, ?_, fun _ => ⟨RB_mv (fun i hi => ?_) (fun i hi j hj => ?_) (fun j hj => ?_) (fun j hj => ?_) (fun j hj => ?_) a, RK_mv (fun i hi => ?_) (fun i hi j hj => ?_) (fun j hj => ?_) (fun j hj => ?_) (fun j hj => ?_) (fun j hj => ?_) b⟩⟩, ⟨n, nx, RS_cg (fun k i j q => hT k i j (by omega)) f⟩, TI_cg (fun j => hT 24 0 j (by omega)) g⟩
  · rw [hio _ _ _ (by omega), hio _ _ _ (by omega), jup_e, jup_n _ _ _ _ _ _ _ _ (by omega), jup_e]
  · rw [hio _ _ _ (by omega), jup_n _ _ _ _ _ _ _ _ (by omega), jup_e]; exact Or.inr rfl
  · rw [t1 i (by omega), Nat.zero_add]
  · rw [t16 i (by omega) j hj, Nat.zero_add]
  · rw [i1 j hj, hu _ _ (by omega)]
  · rw [i2 j hj, hu _ _ (by omega)]
  · rw [i3 j hj, hu _ _ (by omega)]
  · rw [Nat.add_assoc, t1 _ (by omega), Nat.zero_add]
  · rw [Nat.add_assoc, t16 _ (by omega) j hj, Nat.zero_add]
  · exact t15 j hj
  · rw [i4 j hj, hu _ _ (by omega)]
  · rw [i5 j hj, hu _ _ (by omega)]
  · rw [i6 j hj, hu _ _ (by omega)]
theorem ap_36 (s : jM) (hI : Inv s) : Go s 36 285 [] := by
  obtain ⟨a, b, c, d, ⟨e1, e2, e3⟩, ⟨n, nx, f⟩, g⟩ := id hI
  by_cases c0 : s 10 0 2 = 0
  · refine go_no (-5) hI ?_ ?_
    · rw [bq_36, if_pos c0]
    · rw [bq_285, if_pos (by omega)]
  have c1 : s 10 0 2 = 1 := by omega
  obtain ⟨hB, hK⟩ := e3 c1
  obtain ⟨f1, f16, f15⟩ := bcopy_f s 0 1
  have fo := bcopy_o s 0 1
  have q57 := sq_57 s 0 1 (by decide)
  generalize bcopy s 0 1 12 = B at *
  simp only [Nat.mul_zero, Nat.zero_add, Nat.mul_one] at f1 f16
  have hdeg : ∀ r, r < 4 → 0 ≤ s 41 0 r ∧ s 41 0 r ≤ 5 ∧ s 1 (22 + r) 1 = s 41 0 r := fun r hr => by
    obtain ⟨h1, h2, -⟩ := hB.1 r hr
    have := h2.1
    have := h2.2.1
    omega
  have v1 : ∀ r, r < 4 → jup B 6 0 2 0 1 (22 * 0 + r) 1 = s 41 0 r := fun r hr => by
    rw [jup_n _ _ _ _ _ _ _ _ (by omega), Nat.mul_zero, Nat.zero_add, f1 r (by omega)]; exact (hdeg r hr).2.2
  have q58 := sq_58 (jup B 6 0 2 0) 0 (fun r hr => by
    have := hdeg r hr
    rw [v1 r hr]; omega)
  rw [v1 0 (by omega), v1 1 (by omega), v1 2 (by omega), v1 3 (by omega)] at q58
  have v41 : ∀ r, jup B 6 0 2 0 41 0 r = s 41 0 r := fun r => by rw [jup_n _ _ _ _ _ _ _ _ (by omega), fo _ _ _ (by omega)]
  have q285 := sq_285 (jup B 6 0 2 0) (by rw [jup_n _ _ _ _ _ _ _ _ (by omega), fo _ _ _ (by omega)]; omega) (fun r hr => by rw [v41]; have := hdeg r hr; omega)
  rw [v41, v41, v41, v41] at q285
  have hic := icopy_n (jup B 6 0 2 0) 29 30 31 32 33 34 41 42 43 44 45 46 (by omega) (by omega) (by omega) (by omega) (by omega)
  have hio := fun k i j h => icopy_o (jup B 6 0 2 0) 29 30 31 32 33 34 41 42 43 44 45 46 k i j h
  refine ⟨s 41 0 0 + s 41 0 1 + s 41 0 2 + s 41 0 3, jup B 6 0 2 0, jup (icopy (jup B 6 0 2 0) 29 30 31 32 33 34 41 42 43 44 45 46) 11 0 10 0, ?_, q285, ?_⟩
  · rw [bq_36, if_neg c0, q57, jbV_s, q58, jbI_s]
  generalize icopy (jup B 6 0 2 0) 29 30 31 32 33 34 41 42 43 44 45 46 = T at *
  have hu : ∀ k j, 29 ≤ k → jup B 6 0 2 0 k 0 j = s k 0 j := fun k j z => by rw [jup_n _ _ _ _ _ _ _ _ (by omega), fo _ _ _ (by omega)]
  have hT : ∀ k i j, ¬ ((k = 1 ∨ k = 16) ∧ i < 22 ∨ k = 15 ∧ i = 0 ∨ 29 ≤ k ∧ k ≤ 34 ∨ k = 11 ∧ j = 10 ∨ k = 6) → jup T 11 0 10 0 k i j = s k i j := fun k i j z => by rw [jup_n _ _ _ _ _ _ _ _ (by omega), hio _ _ _ (by omega), jup_n _ _ _ _ _ _ _ _ (by omega), fo _ _ _ (by omega)]
  obtain ⟨i1, i2, i3, i4, i5, i6⟩ := hic
  have t1 : ∀ i, i < 22 → jup T 11 0 10 0 1 i 1 = s 1 (22 + i) 1 := fun i hi => by
    rw [jup_n _ _ _ _ _ _ _ _ (by omega), hio _ _ _ (by omega), jup_n _ _ _ _ _ _ _ _ (by omega), f1 i hi]
  have t16 : ∀ i, i < 22 → ∀ j, j < 21 → jup T 11 0 10 0 16 i j = s 16 (22 + i) j := fun i hi j hj => by
    rw [jup_n _ _ _ _ _ _ _ _ (by omega), hio _ _ _ (by omega), jup_n _ _ _ _ _ _ _ _ (by omega), f16 i hi j hj]
  have t15 : ∀ i, i < 12 → jup T 11 0 10 0 15 0 i = s 15 1 i := fun i hi => by
    rw [jup_n _ _ _ _ _ _ _ _ (by omega), hio _ _ _ (by omega), jup_n _ _ _ _ _ _ _ _ (by omega), f15 i hi]
  refine ⟨RB_mv (fun i hi => ?_) (fun i hi j hj => ?_) (fun j hj => ?_) (fun j hj => ?_) (fun j hj => ?_) hB, RK_mv (fun i hi => ?_) (fun i hi j hj => ?_) (fun j hj => ?_) (fun j hj => ?_) (fun j hj => ?_) (fun j hj => ?_) hK, RR_cg (fun k i j q => hT k i j (by omega)) c, RT_cg (fun k i j q => hT k i j (by omega)) d, RI_cg (fun k i j q => hT k i j (by omega)) ⟨e1, e2, e3⟩, ⟨0, nx, ?_, ?_, by omega, ?_, f.2.2.2.2.1, fun t ht => absurd ht (by omega)⟩, TI_cg (fun j => hT 24 0 j (by omega)) g⟩
  · rw [Nat.zero_add, t1 i (by omega)]
  · rw [Nat.zero_add, t16 i (by omega) j hj]
  · rw [jup_n _ _ _ _ _ _ _ _ (by omega), i1 j hj, hu _ _ (by omega)]
  · rw [jup_n _ _ _ _ _ _ _ _ (by omega), i2 j hj, hu _ _ (by omega)]
  · rw [jup_n _ _ _ _ _ _ _ _ (by omega), i3 j hj, hu _ _ (by omega)]
  · rw [Nat.zero_add, t1 _ (by omega), Nat.add_assoc]
  · rw [Nat.zero_add, t16 _ (by omega) j hj, Nat.add_assoc]
  · exact t15 j hj
  · rw [jup_n _ _ _ _ _ _ _ _ (by omega), i4 j hj, hu _ _ (by omega)]
  · rw [jup_n _ _ _ _ _ _ _ _ (by omega), i5 j hj, hu _ _ (by omega)]
  · rw [jup_n _ _ _ _ _ _ _ _ (by omega), i6 j hj, hu _ _ (by omega)]
  · rw [jup_n _ _ _ _ _ _ _ _ (by omega), hio _ _ _ (by omega), jup_e]; rfl
  · rw [jup_e]; rfl
  · rw [jup_n _ _ _ _ _ _ _ _ (by omega), hio _ _ _ (by omega), jup_n _ _ _ _ _ _ _ _ (by omega), fo _ _ _ (by omega)]; exact f.2.2.2.1
