/-! THE REFERENCE'S SMALL METHODS -/
theorem sq_203 : ∀ (d : Nat), d ≤ 5 → ∀ (s : jM), jq 203 [.inl (d : Int)] s = some (some (.inl (mnN d : Int)), s) := by
  intro d hd s
  rw [bq_203]
  have h : ∀ d : Nat, d ≤ 5 → jw (Int.tdiv (jw ((jw ((d : Int) + 1)) * (jw ((d : Int) + 2)))) 2) = (mnN d : Int) := by decide +kernel
  rw [h d hd]
theorem sq_204 (d a b : Nat) (hd : d ≤ 5) (hab : a + b ≤ d) (s : jM) : jq 204 [.inl (d : Int), .inl (a : Int), .inl (b : Int)] s = some (some (.inl (pl b (d - a - b) : Int)), s) := by
  rw [bq_204]
  have h : ∀ d : Nat, d ≤ 5 → ∀ a : Nat, a ≤ 5 → ∀ b : Nat, b ≤ 5 → a + b ≤ d → jw ((jw ((jw (Int.tdiv (jw ((jw ((d : Int) - a)) * (jw ((jw ((d : Int) - a)) + 1)))) 2)) + (jw ((d : Int) - a)))) - b) = (pl b (d - a - b) : Int) := by decide +kernel
  rw [h d hd a (by omega) b (by omega) hab]
def tri (l : Nat) : Nat := l * (l + 1) / 2
theorem tri_lev : ∀ m : Nat, m < 21 → ∀ l : Nat, l ≤ plev m → tri l ≤ m ∧ (l < m - tri l ↔ l < plev m) ∧ tri (l + 1) = tri l + l + 1 := by decide +kernel
theorem sq_205 (d m : Nat) (hd : d ≤ 5) (hm : m < mnN d) (s : jM) : jq 205 [.inl (d : Int), .inl (m : Int)] s = some (some (.inl ((d : Int) - plev m)), s) := by
  have h21 := (mnN_le d hd).2
  have hlv := (mn_lev d hd m (by omega)).mp hm
  rw [bq_205]
  have key : ∀ k l, l + k = plev m → je 205 4 [some (.inl (d : Int)), some (.inl (m : Int)), some (.inl ((d : Int) - l)), some (.inl ((m : Int) - tri l))] [] s = some (some (.inl ((d : Int) - plev m)), s) := by
    intro k
    induction k with
    | zero =>
      intro l hl
      obtain ⟨t1, t2, t3⟩ := tri_lev m (by omega) l (by omega)
      have hl : l = plev m := hl
      rw [be_205_4, jwi (x := (d : Int) - (d - l)) (by omega) (by omega), if_neg (by omega), hl]
    | succ k ih =>
      intro l hl
      obtain ⟨t1, t2, t3⟩ := tri_lev m (by omega) l (by omega)
      have hlt := t2.mpr (by omega)
      rw [be_205_4, jwi (x := (d : Int) - (d - l)) (by omega) (by omega), if_pos (by omega), jwi (x := (d : Int) - l + -1) (by omega) (by omega), jwi (x := (d : Int) - (d - l) + 1) (by omega) (by omega), jwi (x := (m : Int) - tri l - _) (by omega) (by omega)]
      have := ih (l + 1) (by omega)
      rw [t3] at this
      rw [show (d : Int) - l + -1 = (d : Int) - ((l + 1 : Nat) : Int) by omega, show (m : Int) - tri l - ((d : Int) - (d - l) + 1) = (m : Int) - ((tri l + l + 1 : Nat) : Int) by omega]
      exact this
  have := key (plev m) 0 (by omega)
  rw [show tri 0 = 0 from rfl] at this
  rw [show ((d : Int) - ((0 : Nat) : Int)) = (d : Int) by omega, show ((m : Int) - ((0 : Nat) : Int)) = (m : Int) by omega] at this
  exact this
theorem sq_206 (d m : Nat) (hd : d ≤ 5) (hm : m < mnN d) (s : jM) : jq 206 [.inl (d : Int), .inl (m : Int)] s = some (some (.inl (py m : Int)), s) := by
  have h21 := (mnN_le d hd).2
  have hlv := (mn_lev d hd m (by omega)).mp hm
  have h : ∀ m : Nat, m < 21 → jw ((plev m : Int) - (jw ((m : Int) - (jw (Int.tdiv (jw ((plev m : Int) * (jw ((plev m : Int) + 1)))) 2))))) = (py m : Int) := by decide +kernel
  rw [bq_206, sq_205 d m hd hm, jbI_s, jwi (x := (d : Int) - (d - plev m)) (by omega) (by omega), show (d : Int) - (d - plev m) = (plev m : Int) by omega, h m (by omega)]
theorem sj_207 (x : Int) (hx : g101 x) (n : Nat) (hn : n < 1000) (s : jM) : ∀ (k i : Nat), i + k = n → je 207 4 [some (.inl x), some (.inl (n : Int)), some (.inl (rd x i)), some (.inl (i : Int))] [] s = some (some (.inl (rd x n)), s)
  | 0, i, h => by
    have h : i = n := h
    subst h
    rw [be_207_4, if_neg (by omega)]
  | k + 1, i, h => by
    have hm := mul101 (rd_g x i) hx
    rw [be_207_4, if_pos (by omega), jwi (x := rd x i * x) (by omega) (by omega), tm101 hm.1, jwn (n := i + 1) (by omega) (by omega)]
    exact sj_207 x hx n hn s k (i + 1) (by omega)
theorem sq_207 (x : Int) (hx : g101 x) (n : Nat) (hn : n < 1000) (s : jM) : jq 207 [.inl x, .inl (n : Int)] s = some (some (.inl (rd x n)), s) := by
  rw [bq_207]
  exact sj_207 x hx n hn s n 0 (by omega)
theorem sq_208 (x : Int) (hx : g101 x) (s : jM) : jq 208 [.inl x] s = some (some (.inl (rd x 99)), s) := by
  rw [bq_208, show (.inl 99 : jV) = .inl ((99 : Nat) : Int) from rfl, sq_207 x hx 99 (by decide), jbI_s]
theorem sq_209 (x : Int) (h1 : -1000000 ≤ x) (h2 : x ≤ 1000000) (s : jM) : jq 209 [.inl x] s = some (some (.inl (x % 101)), s) := by
  rw [bq_209]
  have e := Int.tmod_eq_emod (a := x) (b := 101)
  by_cases c : 0 ≤ x ∨ (101 : Int) ∣ x
  · rw [if_pos c] at e
    rw [if_neg (by omega)]
    have : x.tmod 101 = x % 101 := by omega
    rw [this]
  · rw [if_neg c, show ((Int.natAbs 101 : Nat) : Int) = 101 from rfl] at e
    rw [if_pos (by omega), jwi (by omega) (by omega)]
    have : x.tmod 101 + 101 = x % 101 := by omega
    rw [this]
/-- the reference's line k -/
def MG (s : jM) (k : Nat) : Prop := g101 (s 31 0 (3 * k)) ∧ g101 (s 31 0 (3 * k + 1)) ∧ g101 (s 31 0 (3 * k + 2))
def mmt (s : jM) (k d m : Nat) : Int := mal (s 31 0 (3 * k)) (s 31 0 (3 * k + 1)) (s 31 0 (3 * k + 2)) (d - plev m) (py m) (pz m)
theorem sq_210 (s : jM) (d m k : Nat) (hd : d ≤ 5) (hm : m < mnN d) (hk : k < 6) (hL : MG s k) : jq 210 [.inr (11, 0), .inl (d : Int), .inl (m : Int), .inl (k : Int)] s = some (some (.inl (mmt s k d m)), s) := by
  have h21 := (mnN_le d hd).2
  have hlv := (mn_lev d hd m (by omega)).mp hm
  obtain ⟨h1, h2, h3, h4, h5, -⟩ := jyp_py m (by omega)
  have m1 := mul101 (rd_g (s 31 0 (3 * k)) (d - plev m)) (rd_g (s 31 0 (3 * k + 1)) (py m))
  have m2 := mul101 (em101 (rd (s 31 0 (3 * k)) (d - plev m) * rd (s 31 0 (3 * k + 1)) (py m))) (rd_g (s 31 0 (3 * k + 2)) (pz m))
  have hlp : plev m = py m + pz m := rfl
  rw [bq_210, sq_205 d m hd hm, jbI_s, sq_206 d m hd hm, jbI_s, jwn (x := 3 * (k : Int)) (n := 3 * k) (by omega) (by omega), if_pos (by omega), Int.toNat_natCast, show ((d : Int) - plev m) = ((d - plev m : Nat) : Int) by omega, sq_207 _ hL.1 _ (by omega), jbI_s,
    jwn (x := ((3 * k : Nat) : Int) + 1) (n := 3 * k + 1) (by omega) (by omega), if_pos (by omega), Int.toNat_natCast, sq_207 _ hL.2.1 _ (by omega), jbI_s, jwn (x := ((3 * k : Nat) : Int) + 2) (n := 3 * k + 2) (by omega) (by omega), if_pos (by omega), Int.toNat_natCast, jwi (x := (d : Int) - ((d - plev m : Nat) : Int)) (by omega) (by omega), jwn (x := (d : Int) - ((d - plev m : Nat) : Int) - py m) (n := pz m) (by omega) (by omega), sq_207 _ hL.2.2 _ (by omega), jbI_s,
    jwi (x := rd (s 31 0 (3 * k)) (d - plev m) * rd (s 31 0 (3 * k + 1)) (py m)) (by omega) (by omega), tm101 m1.1, jwi (x := rd (s 31 0 (3 * k)) (d - plev m) * rd (s 31 0 (3 * k + 1)) (py m) % 101 * rd (s 31 0 (3 * k + 2)) (pz m)) (by omega) (by omega), tm101 m2.1]
  rfl
/-- what there is, kept behind the st steps -/
def mhold (s : jM) (st : Nat) : jM := jfl (jfl (jfl s 38 0 (4 * st) 4 (fun j => s 29 0 j)) 39 0 (84 * st) 84 (fun j => s 30 0 j)) 40 0 (18 * st) 18 (fun j => s 31 0 j)
theorem sq_211 (s : jM) (st : Nat) (hst : st ≤ 8) (h : s 11 0 10 = (st : Int)) : jq 211 [.inr (11, 0)] s = some (none, mhold s st) := by
  rw [bq_211]
  refine (congrArg (fun z => je 211 2 [some (.inr (11, 0)), some (.inl 0)] [] z) (jfl_0 s 38 0 (4 * st) (fun j => s 29 0 j)).symm).trans ?_
  refine loopI (P := fun i => je 211 2 [some (.inr (11, 0)), some (.inl (i : Int))] [] (jfl s 38 0 (4 * st) i (fun j => s 29 0 j))) (n := 4) (fun i hi => ?_) ?_
  · show je 211 2 _ [] _ = _
    have e : jfl s 38 0 (4 * st) i (fun j => s 29 0 j) 11 0 10 = (st : Int) := by rw [jfl_ne _ _ _ _ _ _ _ _ _ (by omega)]; exact h
    rw [be_211_2, if_pos (by omega), if_pos (by omega), e, jwn (x := 4 * (st : Int)) (n := 4 * st) (by omega) (by omega), jwn (x := ((4 * st : Nat) : Int) + i) (n := 4 * st + i) (by omega) (by omega), if_pos (by omega), Int.toNat_natCast, Int.toNat_natCast, jwn (x := (i : Int) + 1) (n := i + 1) (by omega) (by omega), jfl_up _ _ _ _ _ _ _ (by rw [jfl_ne _ _ _ _ _ _ _ _ _ (by omega)]) _ rfl]
  · show je 211 2 _ [] _ = _
    rw [be_211_2, if_neg (by omega)]
    generalize hS : jfl s 38 0 (4 * st) 4 (fun j => s 29 0 j) = S
    have hn : ∀ k i j, k ≠ 38 → S k i j = s k i j := fun k i j hk => by rw [← hS, jfl_ne _ _ _ _ _ _ _ _ _ (by omega)]
    unfold mhold
    rw [hS]
    refine (congrArg (fun z => je 211 34 [some (.inr (11, 0)), some (.inl 0)] [] z) (jfl_0 S 39 0 (84 * st) (fun j => s 30 0 j)).symm).trans ?_
    refine loopI (P := fun i => je 211 34 [some (.inr (11, 0)), some (.inl (i : Int))] [] (jfl S 39 0 (84 * st) i (fun j => s 30 0 j))) (n := 84) (fun i hi => ?_) ?_
    · show je 211 34 _ [] _ = _
      have e : jfl S 39 0 (84 * st) i (fun j => s 30 0 j) 11 0 10 = (st : Int) := by rw [jfl_ne _ _ _ _ _ _ _ _ _ (by omega), hn _ _ _ (by decide)]; exact h
      rw [be_211_34, if_pos (by omega), if_pos (by omega), e, jwn (x := 84 * (st : Int)) (n := 84 * st) (by omega) (by omega), jwn (x := ((84 * st : Nat) : Int) + i) (n := 84 * st + i) (by omega) (by omega), if_pos (by omega), Int.toNat_natCast, Int.toNat_natCast, jwn (x := (i : Int) + 1) (n := i + 1) (by omega) (by omega), jfl_up _ _ _ _ _ _ _ (by rw [jfl_ne _ _ _ _ _ _ _ _ _ (by omega), hn _ _ _ (by decide)]) _ rfl]
    · show je 211 34 _ [] _ = _
      rw [be_211_34, if_neg (by omega)]
      generalize hS2 : jfl S 39 0 (84 * st) 84 (fun j => s 30 0 j) = S2
      have hn2 : ∀ k i j, k ≠ 38 → k ≠ 39 → S2 k i j = s k i j := fun k i j hk hk2 => by rw [← hS2, jfl_ne _ _ _ _ _ _ _ _ _ (by omega), hn _ _ _ hk]
      refine (congrArg (fun z => je 211 68 [some (.inr (11, 0)), some (.inl 0)] [] z) (jfl_0 S2 40 0 (18 * st) (fun j => s 31 0 j)).symm).trans ?_
      refine loopI (P := fun i => je 211 68 [some (.inr (11, 0)), some (.inl (i : Int))] [] (jfl S2 40 0 (18 * st) i (fun j => s 31 0 j))) (n := 18) (fun i hi => ?_) ?_
      · show je 211 68 _ [] _ = _
        have e : jfl S2 40 0 (18 * st) i (fun j => s 31 0 j) 11 0 10 = (st : Int) := by rw [jfl_ne _ _ _ _ _ _ _ _ _ (by omega), hn2 _ _ _ (by decide) (by decide)]; exact h
        rw [be_211_68, if_pos (by omega), if_pos (by omega), e, jwn (x := 18 * (st : Int)) (n := 18 * st) (by omega) (by omega), jwn (x := ((18 * st : Nat) : Int) + i) (n := 18 * st + i) (by omega) (by omega), if_pos (by omega), Int.toNat_natCast, Int.toNat_natCast, jwn (x := (i : Int) + 1) (n := i + 1) (by omega) (by omega), jfl_up _ _ _ _ _ _ _ (by rw [jfl_ne _ _ _ _ _ _ _ _ _ (by omega), hn2 _ _ _ (by decide) (by decide)]) _ rfl]
      · show je 211 68 _ [] _ = _
        rw [be_211_68, if_neg (by omega)]
/-- as it was kept behind the st steps -/
def mSame (s : jM) (st : Nat) : Prop := (∀ r, r < 4 → s 29 0 r = s 38 0 (4 * st + r) ∧ ∀ m : Nat, m < mnN (s 29 0 r).toNat → s 30 0 (21 * r + m) = s 39 0 (84 * st + 21 * r + m)) ∧ ∀ k, k < 18 → s 31 0 k = s 40 0 (18 * st + k)
def MD (s : jM) : Prop := ∀ r, r < 4 → 0 ≤ s 29 0 r ∧ s 29 0 r ≤ 5
theorem sq_212 (s : jM) (st : Nat) (hst : st ≤ 8) (h : s 11 0 10 = (st : Int)) (hD : MD s) : ∃ x : Int, jq 212 [.inr (11, 0)] s = some (some (.inl x), s) ∧ (x = 0 ∨ x = 1) ∧ (x = 0 ↔ mSame s st) := by
  rw [bq_212]
  have lines : (∀ r, r < 4 → s 29 0 r = s 38 0 (4 * st + r) ∧ ∀ m : Nat, m < mnN (s 29 0 r).toNat → s 30 0 (21 * r + m) = s 39 0 (84 * st + 21 * r + m)) → ∀ c i o, i + c = 18 → (∀ k, k < i → s 31 0 k = s 40 0 (18 * st + k)) → ∃ x : Int, je 212 95 [some (.inr (11, 0)), some (.inl (i : Int)), o] [] s = some (some (.inl x), s) ∧ (x = 0 ∨ x = 1) ∧ (x = 0 ↔ mSame s st) := by
    intro hreg c
    induction c with
    | zero =>
      intro i o hi hk
      have hi : i = 18 := hi
      subst hi
      rw [be_212_95, if_neg (by omega)]
      exact ⟨0, rfl, Or.inl rfl, ⟨fun _ => ⟨hreg, hk⟩, fun _ => rfl⟩⟩
    | succ c ih =>
      intro i o hi hk
      rw [be_212_95, if_pos (by omega), if_pos (by omega), h, jwn (x := 18 * (st : Int)) (n := 18 * st) (by omega) (by omega), jwn (x := ((18 * st : Nat) : Int) + i) (n := 18 * st + i) (by omega) (by omega), if_pos (by omega), Int.toNat_natCast, Int.toNat_natCast, jwn (x := (i : Int) + 1) (n := i + 1) (by omega) (by omega)]
      by_cases e : s 31 0 i = s 40 0 (18 * st + i)
      · rw [if_pos e]
        refine ih (i + 1) o (by omega) (fun k hk2 => ?_)
        by_cases e2 : k = i
        · subst e2; exact e
        · exact hk k (by omega)
      · rw [if_neg e]
        exact ⟨1, rfl, Or.inr rfl, ⟨fun z => absurd z (by decide), fun z => absurd (z.2 i (by omega)) e⟩⟩
  have regs : ∀ c r o, r + c = 4 → (∀ r', r' < r → s 29 0 r' = s 38 0 (4 * st + r') ∧ ∀ m : Nat, m < mnN (s 29 0 r').toNat → s 30 0 (21 * r' + m) = s 39 0 (84 * st + 21 * r' + m)) → ∃ x : Int, je 212 2 [some (.inr (11, 0)), some (.inl (r : Int)), o] [] s = some (some (.inl x), s) ∧ (x = 0 ∨ x = 1) ∧ (x = 0 ↔ mSame s st) := by
    intro c
    induction c with
    | zero =>
      intro r o hr hk
      have hr : r = 4 := hr
      subst hr
      rw [be_212_2, if_neg (by omega)]
      exact lines hk 18 0 o (by omega) (fun k hk => absurd hk (by omega))
    | succ c ih =>
      intro r o hr hk
      obtain ⟨d0, d5⟩ := hD r (by omega)
      obtain ⟨d, hd⟩ : ∃ d : Nat, s 29 0 r = (d : Int) := ⟨(s 29 0 r).toNat, by omega⟩
      have h21 := (mnN_le d (by omega)).2
      rw [be_212_2, if_pos (by omega), if_pos (by omega), h, jwn (x := 4 * (st : Int)) (n := 4 * st) (by omega) (by omega), jwn (x := ((4 * st : Nat) : Int) + r) (n := 4 * st + r) (by omega) (by omega), if_pos (by omega), Int.toNat_natCast, Int.toNat_natCast]
      by_cases e : s 29 0 r = s 38 0 (4 * st + r)
      · rw [if_pos e]
        have inner : ∀ c2 m, m + c2 = mnN d → (∀ m', m' < m → s 30 0 (21 * r + m') = s 39 0 (84 * st + 21 * r + m')) → ∃ x : Int, je 212 33 [some (.inr (11, 0)), some (.inl (r : Int)), some (.inl (m : Int))] [] s = some (some (.inl x), s) ∧ (x = 0 ∨ x = 1) ∧ (x = 0 ↔ mSame s st) := by
          intro c2
          induction c2 with
          | zero =>
            intro m hm hk2
            have hm : m = mnN d := hm
            subst hm
            rw [be_212_33, if_pos (by omega), Int.toNat_natCast, hd, sq_203 d (by omega), jbI_s, if_neg (by omega), jwn (x := (r : Int) + 1) (n := r + 1) (by omega) (by omega)]
            refine ih (r + 1) _ (by omega) (fun r' hr' => ?_)
            by_cases e2 : r' = r
            · subst e2
              refine ⟨e, fun m hm => hk2 m ?_⟩
              rw [hd, Int.toNat_natCast] at hm
              omega
            · exact hk r' (by omega)
          | succ c2 ih2 =>
            intro m hm hk2
            rw [be_212_33, if_pos (by omega), Int.toNat_natCast, hd, sq_203 d (by omega), jbI_s, if_pos (by omega), h, jwn (x := 21 * (r : Int)) (n := 21 * r) (by omega) (by omega), jwn (x := ((21 * r : Nat) : Int) + m) (n := 21 * r + m) (by omega) (by omega), if_pos (by omega), jwn (x := 84 * (st : Int)) (n := 84 * st) (by omega) (by omega), jwn (x := ((84 * st : Nat) : Int) + ((21 * r : Nat) : Int)) (n := 84 * st + 21 * r) (by omega) (by omega), jwn (x := ((84 * st + 21 * r : Nat) : Int) + m) (n := 84 * st + 21 * r + m) (by omega) (by omega), if_pos (by omega), Int.toNat_natCast, Int.toNat_natCast, jwn (x := (m : Int) + 1) (n := m + 1) (by omega) (by omega)]
            by_cases e3 : s 30 0 (21 * r + m) = s 39 0 (84 * st + 21 * r + m)
            · rw [if_pos e3]
              refine ih2 (m + 1) (by omega) (fun m' hm' => ?_)
              by_cases e4 : m' = m
              · subst e4; exact e3
              · exact hk2 m' (by omega)
            · rw [if_neg e3]
              refine ⟨1, rfl, Or.inr rfl, ⟨fun z => absurd z (by decide), fun z => absurd ((z.1 r (by omega)).2 m ?_) e3⟩⟩
              rw [hd, Int.toNat_natCast]
              omega
        exact inner (mnN d) 0 (by omega) (fun m hm => absurd hm (by omega))
      · rw [if_neg e]
        exact ⟨1, rfl, Or.inr rfl, ⟨fun z => absurd z (by decide), fun z => absurd (z.1 r (by omega)).1 e⟩⟩
  exact regs 4 0 none (by omega) (fun r hr => absurd hr (by omega))
