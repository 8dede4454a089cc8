/-! the reference: what is made, laid and settled -/
/-- what is made, laid anew -/
def mset (s : jM) (d : Int) (g : Nat → Int) : jM := jfl (jup s 11 0 21 d) 47 0 0 21 g
theorem mset_d (s : jM) (d : Int) (g : Nat → Int) : mset s d g 11 0 21 = d := by
  unfold mset
  rw [jfl_ne _ _ _ _ _ _ _ _ _ (by omega), jup_e]
theorem mset_n (s : jM) (d : Int) (g : Nat → Int) (j : Nat) (h : j < 21) : mset s d g 47 0 j = g j := by
  unfold mset
  have := jfl_in (jup s 11 0 21 d) 47 0 0 21 g j h
  rwa [Nat.zero_add] at this
theorem mset_o (s : jM) (d : Int) (g : Nat → Int) (k i j : Nat) (h1 : ¬ (k = 11 ∧ i = 0 ∧ j = 21)) (h2 : ¬ (k = 47 ∧ i = 0 ∧ j < 21)) : mset s d g k i j = s k i j := by
  unfold mset
  rw [jfl_ne _ _ _ _ _ _ _ _ _ (by omega), jup_n _ _ _ _ _ _ _ _ h1]
theorem mset_up (s : jM) (d : Int) (g : Nat → Int) (p : Nat) (hp : p < 21) (v : Int) : jup (mset s d g) 47 0 p v = mset s d (fun j => if j = p then v else g j) := by
  funext k i j
  by_cases h : k = 47 ∧ i = 0 ∧ j < 21
  · obtain ⟨rfl, rfl, hj⟩ := h
    rw [mset_n _ _ _ _ hj]
    by_cases e : j = p
    · subst e
      rw [jup_e, if_pos rfl]
    · rw [jup_n _ _ _ _ _ _ _ _ (by omega), mset_n _ _ _ _ hj, if_neg e]
  · rw [jup_n _ _ _ _ _ _ _ _ (by omega)]
    by_cases e : k = 11 ∧ i = 0 ∧ j = 21
    · obtain ⟨rfl, rfl, rfl⟩ := e
      rw [mset_d, mset_d]
    · rw [mset_o _ _ _ _ _ _ e h, mset_o _ _ _ _ _ _ e h]
theorem sj_214 (v : Int) (s : jM) : ∀ (k i : Nat), i + k = 21 → je 214 7 [some (.inr (11, 0)), some (.inl v), some (.inl (i : Int))] [] (jfl s 47 0 0 i (fun _ => 0)) = some (none, jfl s 47 0 0 21 (fun _ => 0))
  | 0, i, h => by
    have h : i = 21 := h
    subst h
    rw [be_214_7, if_neg (by omega)]
  | k + 1, i, h => by
    rw [be_214_7, if_pos (by omega), if_pos (by omega), jwn (n := i + 1) (by omega) (by omega), Int.toNat_natCast, jfl_up _ _ _ _ _ _ _ rfl _ (by omega)]
    exact sj_214 v s k (i + 1) (by omega)
theorem sq_214 (v : Int) (s : jM) : jq 214 [.inr (11, 0), .inl v] s = some (none, mset s v (fun _ => 0)) := by
  have := sj_214 v (jup s 11 0 21 v) 21 0 (by omega)
  rw [jfl_0] at this
  rw [bq_214]
  exact this
def mlay (s : jM) (r : Nat) (d : Nat) : jM := jfl (jup s 29 0 r (d : Int)) 30 0 (21 * r) 21 (fun m => if m < mnN d then s 47 0 m else 0)
theorem sq_215 (s : jM) (r d : Nat) (hr : r < 4) (hd : d ≤ 5) (h : s 11 0 21 = (d : Int)) : jq 215 [.inr (11, 0), .inl (r : Int)] s = some (none, mlay s r d) := by
  have h21 := (mnN_le d hd).2
  rw [bq_215, if_pos (by omega), Int.toNat_natCast, h]
  unfold mlay
  generalize hS : jup s 29 0 r (d : Int) = S
  have hn : ∀ k i j, k ≠ 29 → S k i j = s k i j := fun k i j hk => by rw [← hS, jup_n _ _ _ _ _ _ _ _ (by omega)]
  refine (congrArg (fun z => je 215 12 [some (.inr (11, 0)), some (.inl (r : Int)), some (.inl 0)] [] z) (jfl_0 S 30 0 (21 * r) (fun m => if m < mnN d then s 47 0 m else 0)).symm).trans ?_
  refine loopI (P := fun i => je 215 12 [some (.inr (11, 0)), some (.inl (r : Int)), some (.inl (i : Int))] [] (jfl S 30 0 (21 * r) i (fun m => if m < mnN d then s 47 0 m else 0))) (n := 21) (fun i hi => ?_) ?_
  · show je 215 12 _ [] _ = _
    have e : jfl S 30 0 (21 * r) i (fun m => if m < mnN d then s 47 0 m else 0) 11 0 21 = (d : Int) := by rw [jfl_ne _ _ _ _ _ _ _ _ _ (by omega), hn _ _ _ (by decide)]; exact h
    rw [be_215_12, if_pos (by omega), e, sq_203 d hd, jbI_s, jwn (x := 21 * (r : Int)) (n := 21 * r) (by omega) (by omega), jwn (x := ((21 * r : Nat) : Int) + i) (n := 21 * r + i) (by omega) (by omega), jwn (x := (i : Int) + 1) (n := i + 1) (by omega) (by omega), Int.toNat_natCast, Int.toNat_natCast]
    by_cases c : (i : Int) < (mnN d : Int)
    · rw [if_pos c, if_pos (by omega), if_pos (by omega), jfl_up _ _ _ _ _ _ _ (by rw [jfl_ne _ _ _ _ _ _ _ _ _ (by omega), hn _ _ _ (by decide), if_pos (by omega)]) _ rfl]
    · rw [if_neg c, if_pos (by omega), jfl_up _ _ _ _ _ _ _ (by rw [if_neg (by omega)]) _ rfl]
  · show je 215 12 _ [] _ = _
    rw [be_215_12, if_neg (by omega)]
/-- the eldest kept goes -/
def mshift (s : jM) : jM := jfl (jfl (jfl s 38 0 0 32 (fun j => s 38 0 (j + 4))) 39 0 0 672 (fun j => s 39 0 (j + 84))) 40 0 0 144 (fun j => s 40 0 (j + 18))
theorem sj_213 (s : jM) : je 213 30 [some (.inr (11, 0)), some (.inl 0)] [] s = some (none, mshift s) := by
  refine (congrArg (fun z => je 213 30 [some (.inr (11, 0)), some (.inl 0)] [] z) (jfl_0 s 38 0 0 (fun j => s 38 0 (j + 4))).symm).trans ?_
  refine loopI (P := fun i => je 213 30 [some (.inr (11, 0)), some (.inl (i : Int))] [] (jfl s 38 0 0 i (fun j => s 38 0 (j + 4)))) (n := 32) (fun i hi => ?_) ?_
  · show je 213 30 _ [] _ = _
    rw [be_213_30, if_pos (by omega), jwn (x := (i : Int) + 4) (n := i + 4) (by omega) (by omega), if_pos (by omega), if_pos (by omega), Int.toNat_natCast, Int.toNat_natCast, jwn (x := (i : Int) + 1) (n := i + 1) (by omega) (by omega), jfl_up _ _ _ _ _ _ _ (by rw [jfl_ne _ _ _ _ _ _ _ _ _ (by omega)]) _ (by omega)]
  · show je 213 30 _ [] _ = _
    rw [be_213_30, if_neg (by omega)]
    unfold mshift
    generalize hS : jfl s 38 0 0 32 (fun j => s 38 0 (j + 4)) = S
    have hn : ∀ k i j, k ≠ 38 → S k i j = s k i j := fun k i j hk => by rw [← hS, jfl_ne _ _ _ _ _ _ _ _ _ (by omega)]
    refine (congrArg (fun z => je 213 58 [some (.inr (11, 0)), some (.inl 0)] [] z) (jfl_0 S 39 0 0 (fun j => s 39 0 (j + 84))).symm).trans ?_
    refine loopI (P := fun i => je 213 58 [some (.inr (11, 0)), some (.inl (i : Int))] [] (jfl S 39 0 0 i (fun j => s 39 0 (j + 84)))) (n := 672) (fun i hi => ?_) ?_
    · show je 213 58 _ [] _ = _
      rw [be_213_58, if_pos (by omega), jwn (x := (i : Int) + 84) (n := i + 84) (by omega) (by omega), if_pos (by omega), if_pos (by omega), Int.toNat_natCast, Int.toNat_natCast, jwn (x := (i : Int) + 1) (n := i + 1) (by omega) (by omega), jfl_up _ _ _ _ _ _ _ (by rw [jfl_ne _ _ _ _ _ _ _ _ _ (by omega), hn _ _ _ (by decide)]) _ (by omega)]
    · show je 213 58 _ [] _ = _
      rw [be_213_58, if_neg (by omega)]
      generalize hS2 : jfl S 39 0 0 672 (fun j => s 39 0 (j + 84)) = S2
      have hn2 : ∀ k i j, k ≠ 38 → k ≠ 39 → S2 k i j = s k i j := fun k i j hk hk2 => by rw [← hS2, jfl_ne _ _ _ _ _ _ _ _ _ (by omega), hn _ _ _ hk]
      refine (congrArg (fun z => je 213 88 [some (.inr (11, 0)), some (.inl 0)] [] z) (jfl_0 S2 40 0 0 (fun j => s 40 0 (j + 18))).symm).trans ?_
      refine loopI (P := fun i => je 213 88 [some (.inr (11, 0)), some (.inl (i : Int))] [] (jfl S2 40 0 0 i (fun j => s 40 0 (j + 18)))) (n := 144) (fun i hi => ?_) ?_
      · show je 213 88 _ [] _ = _
        rw [be_213_88, if_pos (by omega), jwn (x := (i : Int) + 18) (n := i + 18) (by omega) (by omega), if_pos (by omega), if_pos (by omega), Int.toNat_natCast, Int.toNat_natCast, jwn (x := (i : Int) + 1) (n := i + 1) (by omega) (by omega), jfl_up _ _ _ _ _ _ _ (by rw [jfl_ne _ _ _ _ _ _ _ _ _ (by omega), hn2 _ _ _ (by decide) (by decide)]) _ (by omega)]
      · show je 213 88 _ [] _ = _
        rw [be_213_88, if_neg (by omega)]
noncomputable def msettle (s : jM) (st : Nat) : jM := @ite _ (mSame s st) (Classical.propDecidable _) s (if st < 8 then jup s 11 0 10 ((st : Int) + 1) else mshift s)
theorem sq_213 (s : jM) (st : Nat) (hst : st ≤ 8) (h : s 11 0 10 = (st : Int)) (hD : MD s) : jq 213 [.inr (11, 0)] s = some (none, msettle s st) := by
  obtain ⟨x, e, h01, hx⟩ := sq_212 s st hst h hD
  rw [bq_213, e, jbI_s]
  unfold msettle
  by_cases c : x = 0
  · rw [if_pos c, if_pos (hx.mp c)]
  · rw [if_neg c, if_neg (fun z => c (hx.mpr z)), h]
    by_cases c2 : (st : Int) < 8
    · rw [if_pos c2, if_pos (by omega), jwi (by omega) (by omega)]
    · rw [if_neg c2, if_neg (by omega)]
      exact sj_213 s
theorem sq_220 (s : jM) (r d : Nat) (hr : r < 4) (hd : d ≤ 5) (h : s 29 0 r = (d : Int)) : ∃ x : Int, jq 220 [.inr (11, 0), .inl (r : Int)] s = some (some (.inl x), s) ∧ (x = 0 ∨ x = 1) ∧ (x = 1 ↔ two (fun m => s 30 0 (21 * r + m)) (mnN d)) := by
  have h21 := (mnN_le d hd).2
  rw [bq_220, if_pos (by omega), Int.toNat_natCast, h]
  have key : ∀ k i, i + k = mnN d → (∀ m, m < i → s 30 0 (21 * r + m) ≠ 0 → pz m = 0) → ∃ x : Int, je 220 9 [some (.inr (11, 0)), some (.inl (r : Int)), some (.inl (d : Int)), some (.inl (i : Int))] [] s = some (some (.inl x), s) ∧ (x = 0 ∨ x = 1) ∧ (x = 1 ↔ two (fun m => s 30 0 (21 * r + m)) (mnN d)) := by
    intro k
    induction k with
    | zero =>
      intro i hi hm
      refine ⟨1, ?_, Or.inr rfl, ⟨fun _ m hm2 => hm m (by omega), fun _ => rfl⟩⟩
      rw [be_220_9, sq_203 d hd, jbI_s, if_neg (by omega)]
    | succ k ih =>
      intro i hi hm
      have hlv := (mn_lev d hd i (by omega)).mp (by omega)
      have hlp : plev i = py i + pz i := rfl
      rw [be_220_9, sq_203 d hd, jbI_s, if_pos (by omega), jwn (x := 21 * (r : Int)) (n := 21 * r) (by omega) (by omega), jwn (x := ((21 * r : Nat) : Int) + i) (n := 21 * r + i) (by omega) (by omega), if_pos (by omega), Int.toNat_natCast, jwn (x := (i : Int) + 1) (n := i + 1) (by omega) (by omega)]
      by_cases e : s 30 0 (21 * r + i) = 0
      · rw [if_pos e]
        refine ih (i + 1) (by omega) (fun m hm2 hne => ?_)
        by_cases e2 : m = i
        · subst e2; exact absurd e hne
        · exact hm m (by omega) hne
      · rw [if_neg e, sq_205 d i hd (by omega), jbI_s, sq_206 d i hd (by omega), jbI_s, jwi (x := (d : Int) - plev i + py i) (by omega) (by omega)]
        by_cases e3 : (d : Int) - plev i + py i < d
        · rw [if_pos e3]
          exact ⟨0, rfl, Or.inl rfl, ⟨fun z => absurd z (by decide), fun z => absurd (z i (by omega) e) (by omega)⟩⟩
        · rw [if_neg e3]
          refine ih (i + 1) (by omega) (fun m hm2 hne => ?_)
          by_cases e2 : m = i
          · subst e2; omega
          · exact hm m (by omega) hne
  exact key (mnN d) 0 (by omega) (fun m hm => absurd hm (by omega))
theorem sq_221 (s : jM) (r d : Nat) (hr : r < 4) (hd : d ≤ 5) (h : s 29 0 r = (d : Int)) : jq 221 [.inr (11, 0), .inl (r : Int)] s = some (some (.inl ((mnN d : Int) - cntN (fun m => s 30 0 (21 * r + m)) 0 (mnN d))), s) := by
  have h21 := (mnN_le d hd).2
  rw [bq_221]
  refine loopI (P := fun i => je 221 4 [some (.inr (11, 0)), some (.inl (r : Int)), some (.inl ((i : Int) - cntN (fun m => s 30 0 (21 * r + m)) 0 i)), some (.inl (i : Int))] [] s) (n := mnN d) (fun i hi => ?_) ?_
  · have hc := cntN_le (fun m => s 30 0 (21 * r + m)) 0 i
    show je 221 4 _ [] s = _
    rw [be_221_4, if_pos (by omega), Int.toNat_natCast, h, sq_203 d hd, jbI_s, if_pos (by omega), jwn (x := 21 * (r : Int)) (n := 21 * r) (by omega) (by omega), jwn (x := ((21 * r : Nat) : Int) + i) (n := 21 * r + i) (by omega) (by omega), if_pos (by omega), Int.toNat_natCast, jwn (x := (i : Int) + 1) (n := i + 1) (by omega) (by omega)]
    by_cases e : s 30 0 (21 * r + i) = 0
    · have hy : cntN (fun m => s 30 0 (21 * r + m)) 0 (i + 1) = cntN (fun m => s 30 0 (21 * r + m)) 0 i + 1 := cntN_yes e
      rw [if_pos e, hy, jwi (by omega) (by omega), show ((i + 1 : Nat) : Int) - ((cntN (fun m => s 30 0 (21 * r + m)) 0 i + 1 : Nat) : Int) = (i : Int) - (cntN (fun m => s 30 0 (21 * r + m)) 0 i : Nat) + 0 by omega]
    · have hy : cntN (fun m => s 30 0 (21 * r + m)) 0 (i + 1) = cntN (fun m => s 30 0 (21 * r + m)) 0 i := cntN_no e
      rw [if_neg e, hy, jwi (by omega) (by omega), show ((i + 1 : Nat) : Int) - ((cntN (fun m => s 30 0 (21 * r + m)) 0 i : Nat) : Int) = (i : Int) - (cntN (fun m => s 30 0 (21 * r + m)) 0 i : Nat) + 1 by omega]
  · show je 221 4 _ [] s = _
    rw [be_221_4, if_pos (by omega), Int.toNat_natCast, h, sq_203 d hd, jbI_s, if_neg (by omega)]
theorem sq_232 (s : jM) (r d k : Nat) (hr : r < 4) (hd : d ≤ 5) (hk : k < 6) (h : s 29 0 r = (d : Int)) (hf : ∀ j, j < 21 → g101 (s 30 0 (21 * r + j))) (hL : MG s k) : jq 232 [.inr (11, 0), .inl (r : Int), .inl (k : Int)] s = some (some (.inl (vsum (fun m => s 30 0 (21 * r + m)) (mmt s k d) (mnN d))), s) := by
  have h21 := (mnN_le d hd).2
  rw [bq_232]
  refine loopI (P := fun i => je 232 5 [some (.inr (11, 0)), some (.inl (r : Int)), some (.inl (k : Int)), some (.inl (vsum (fun m => s 30 0 (21 * r + m)) (mmt s k d) i)), some (.inl (i : Int))] [] s) (n := mnN d) (fun i hi => ?_) ?_
  · show je 232 5 _ [] s = _
    have hm := mul101 (hf i (by omega)) (show g101 (mmt s k d i) from mal_g _ _ _ _ _ _)
    obtain ⟨hv1, hv2⟩ := vsum_g (fun m => s 30 0 (21 * r + m)) (mmt s k d) i
    rw [be_232_5, if_pos (by omega), Int.toNat_natCast, h, sq_203 d hd, jbI_s, if_pos (by omega), jwn (x := 21 * (r : Int)) (n := 21 * r) (by omega) (by omega), jwn (x := ((21 * r : Nat) : Int) + i) (n := 21 * r + i) (by omega) (by omega), if_pos (by omega), if_pos (by omega), h, sq_210 s d i k hd hi hk hL, jbI_s, Int.toNat_natCast, jwi (x := s 30 0 (21 * r + i) * mmt s k d i) (by omega) (by omega), jwi (x := vsum (fun m => s 30 0 (21 * r + m)) (mmt s k d) i + s 30 0 (21 * r + i) * mmt s k d i) (by omega) (by omega), tm101 (by omega), jwn (x := (i : Int) + 1) (n := i + 1) (by omega) (by omega)]
    rfl
  · show je 232 5 _ [] s = _
    rw [be_232_5, if_pos (by omega), Int.toNat_natCast, h, sq_203 d hd, jbI_s, if_neg (by omega)]
theorem sq_224 (s : jM) (o t d e : Nat) (ho4 : o < 4) (ht4 : t < 4) (hd : d ≤ 5) (he : e ≤ d) (ho : s 29 0 o = (e : Int)) (ht : s 29 0 t = (d : Int)) (hgo : g21 (fun j => s 30 0 (21 * o + j))) (hgt : g21 (fun j => s 30 0 (21 * t + j))) : jq 224 [.inr (11, 0), .inl (o : Int), .inl (t : Int)] s = some (none, mset s ((d : Int) - e) (con (fun j => s 30 0 (21 * o + j)) (fun j => s 30 0 (21 * t + j)) d e (mnN e))) := by
  have h21 := (mnN_le d hd).2
  have h21e := (mnN_le e (by omega)).2
  rw [bq_224, if_pos (by omega), if_pos (by omega), Int.toNat_natCast, Int.toNat_natCast, ho, ht, jwi (x := (d : Int) - e) (by omega) (by omega), sq_214, jbV_s]
  generalize hGo : (fun j => s 30 0 (21 * o + j)) = go at hgo ⊢
  generalize hGt : (fun j => s 30 0 (21 * t + j)) = gf at hgt ⊢
  have eo : ∀ j, s 30 0 (21 * o + j) = go j := fun j => by rw [← hGo]
  have et : ∀ j, s 30 0 (21 * t + j) = gf j := fun j => by rw [← hGt]
  have outer : ∀ k p o6 o7 o8 o9, p + k = mnN e → je 224 26 [some (.inr (11, 0)), some (.inl (o : Int)), some (.inl (t : Int)), some (.inl (e : Int)), some (.inl (d : Int)), some (.inl (p : Int)), o6, o7, o8, o9] [] (mset s ((d : Int) - e) (con go gf d e p)) = some (none, mset s ((d : Int) - e) (con go gf d e (mnN e))) := by
    intro k
    induction k with
    | zero =>
      intro p o6 o7 o8 o9 hp
      have hp : p = mnN e := hp
      subst hp
      rw [be_224_26, sq_203 e (by omega), jbI_s, if_neg (by omega)]
    | succ k ih =>
      intro p o6 o7 o8 o9 hp
      rw [be_224_26, sq_203 e (by omega), jbI_s, if_pos (by omega)]
      have inner : ∀ k2 q o7 o8 o9, q + k2 = mnN d → je 224 38 [some (.inr (11, 0)), some (.inl (o : Int)), some (.inl (t : Int)), some (.inl (e : Int)), some (.inl (d : Int)), some (.inl (p : Int)), some (.inl (q : Int)), o7, o8, o9] [] (mset s ((d : Int) - e) (fold (fun q h => cst go gf d e p q h) (con go gf d e p) q)) = some (none, mset s ((d : Int) - e) (con go gf d e (mnN e))) := by
        intro k2
        induction k2 with
        | zero =>
          intro q o7 o8 o9 hq
          have hq : q = mnN d := hq
          subst hq
          rw [be_224_38, sq_203 d hd, jbI_s, if_neg (by omega), jwn (x := (p : Int) + 1) (n := p + 1) (by omega) (by omega)]
          exact ih (p + 1) _ _ _ _ (by omega)
        | succ k2 ih2 =>
          intro q o7 o8 o9 hq
          have hh : g21 (fold (fun q h => cst go gf d e p q h) (con go gf d e p) q) := fold_g (con_g _ _ _ _ _) (fun q c hc => cst_g hc) q
          have hnext := fun a b c => ih2 (q + 1) a b c (by omega)
          rw [fold_s] at hnext
          generalize hF : fold (fun q h => cst go gf d e p q h) (con go gf d e p) q = F at hh hnext ⊢
          have hlq := (mn_lev d hd q (by omega)).mp (by omega)
          have hlp := (mn_lev e (by omega) p (by omega)).mp (by omega)
          have hq3 : plev q = py q + pz q := rfl
          have hp3 : plev p = py p + pz p := rfl
          generalize hS : mset s ((d : Int) - e) F = S
          rw [be_224_38, sq_203 d hd, jbI_s, if_pos (by omega), sq_205 d q hd (by omega), jbI_s, sq_205 e p (by omega) (by omega), jbI_s, sq_206 d q hd (by omega), jbI_s, sq_206 e p (by omega) (by omega), jbI_s,
            jwi (x := (d : Int) - plev q - ((e : Int) - plev p)) (by omega) (by omega), jwi (x := (py q : Int) - py p) (by omega) (by omega), jwi (x := (d : Int) - e) (by omega) (by omega), jwi (x := (d : Int) - plev q - ((e : Int) - plev p) + ((py q : Int) - py p)) (by omega) (by omega), jwn (x := (q : Int) + 1) (n := q + 1) (by omega) (by omega)]
          by_cases c1 : (d : Int) - plev q - ((e : Int) - plev p) < 0
          · rw [if_pos c1]
            have : cst go gf d e p q F = F := by unfold cst; exact if_neg (fun z => by omega)
            rw [this] at hnext
            rw [← hS]
            exact hnext _ _ _
          · rw [if_neg c1]
            by_cases c2 : (py q : Int) - py p < 0
            · rw [if_pos c2]
              have : cst go gf d e p q F = F := by unfold cst; exact if_neg (fun z => by omega)
              rw [this] at hnext
              rw [← hS]
              exact hnext _ _ _
            · rw [if_neg c2]
              by_cases c3 : (d : Int) - e < (d : Int) - plev q - ((e : Int) - plev p) + ((py q : Int) - py p)
              · rw [if_pos c3]
                have : cst go gf d e p q F = F := by unfold cst; exact if_neg (fun z => by omega)
                rw [this] at hnext
                rw [← hS]
                exact hnext _ _ _
              · rw [if_neg c3]
                obtain ⟨hpl, -, -⟩ := pl_lt (py q - py p) (by omega) (pz q - pz p) (by omega) (by omega)
                have hm := mul101 (hgo p (by omega)) (hgt q (by omega))
                rw [show (.inl ((d : Int) - e) : jV) = .inl ((d - e : Nat) : Int) by congr 1; omega, show (.inl ((d : Int) - plev q - ((e : Int) - plev p)) : jV) = .inl (((d - plev q) - (e - plev p) : Nat) : Int) by congr 1; omega, show (.inl ((py q : Int) - py p) : jV) = .inl ((py q - py p : Nat) : Int) by congr 1; omega, sq_204 _ _ _ (by omega) (by omega), jbI_s,
                  show d - e - (d - plev q - (e - plev p)) - (py q - py p) = pz q - pz p by omega, if_pos (by omega), jwn (x := 21 * (o : Int)) (n := 21 * o) (by omega) (by omega), jwn (x := ((21 * o : Nat) : Int) + p) (n := 21 * o + p) (by omega) (by omega), if_pos (by omega), jwn (x := 21 * (t : Int)) (n := 21 * t) (by omega) (by omega), jwn (x := ((21 * t : Nat) : Int) + q) (n := 21 * t + q) (by omega) (by omega), if_pos (by omega), if_pos (by omega), Int.toNat_natCast, Int.toNat_natCast, Int.toNat_natCast]
                have e1 : S 30 0 (21 * o + p) = go p := by rw [← hS, mset_o _ _ _ _ _ _ (by omega) (by omega)]; exact eo p
                have e2 : S 30 0 (21 * t + q) = gf q := by rw [← hS, mset_o _ _ _ _ _ _ (by omega) (by omega)]; exact et q
                have e3 : S 47 0 (pl (py q - py p) (pz q - pz p)) = F (pl (py q - py p) (pz q - pz p)) := by rw [← hS, mset_n _ _ _ _ hpl]
                obtain ⟨f1, f2⟩ := hh _ hpl
                rw [e1, e2, e3, jwi (x := go p * gf q) (by omega) (by omega), jwi (x := F (pl (py q - py p) (pz q - pz p)) + go p * gf q) (by omega) (by omega), tm101 (by omega), ← hS, mset_up _ _ _ _ hpl]
                have : cst go gf d e p q F = (fun j => if j = pl (py q - py p) (pz q - pz p) then (F (pl (py q - py p) (pz q - pz p)) + go p * gf q) % 101 else F j) := by unfold cst; exact if_pos (by omega)
                rw [this] at hnext
                rw [show (some (.inl (((d - plev q) - (e - plev p) : Nat) : Int)) : Option jV) = some (.inl (((d - plev q) - (e - plev p) : Nat) : Int)) from rfl]
                exact hnext _ _ _
      exact inner (mnN d) 0 o7 o8 o9 (by omega)
  exact outer (mnN e) 0 none none none none (by omega)
