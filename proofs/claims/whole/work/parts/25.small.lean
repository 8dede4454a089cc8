/-! SMALL METHODS OF BOTH SIDES: steps, benches, what stands in a range -/
theorem ca1 (i : Nat) : (i : Int) + 1 = ((i + 1 : Nat) : Int) := by omega
theorem ca2 (i : Nat) : (i : Int) + 2 = ((i + 2 : Nat) : Int) := by omega
theorem cm3 (i : Nat) : 3 * (i : Int) = ((3 * i : Nat) : Int) := by omega
theorem cm4 (i : Nat) : 4 * (i : Int) = ((4 * i : Nat) : Int) := by omega
theorem cm18 (i : Nat) : 18 * (i : Int) = ((18 * i : Nat) : Int) := by omega
theorem cm21 (i : Nat) : 21 * (i : Int) = ((21 * i : Nat) : Int) := by omega
theorem cm40 (i : Nat) : 40 * (i : Int) = ((40 * i : Nat) : Int) := by omega
theorem cm84 (i : Nat) : 84 * (i : Int) = ((84 * i : Nat) : Int) := by omega
theorem ca (i j : Nat) : (i : Int) + (j : Int) = ((i + j : Nat) : Int) := by omega
theorem bI_t {p : Prop} [Decidable p] (h : p) : bI p = 1 := if_pos h
theorem bI_f {p : Prop} [Decidable p] (h : ¬ p) : bI p = 0 := if_neg h
theorem iteT {α : Sort _} [h : Decidable True] (a b : α) : @ite α True h a b = a := if_pos trivial
theorem ibI {α : Sort _} {p : Prop} [Decidable p] (a b : α) : (if bI p = 0 then a else b) = if p then b else a := by
  unfold bI
  by_cases h : p
  · rw [if_pos h, if_pos h, if_neg (by decide)]
  · rw [if_neg h, if_neg h, if_pos rfl]
theorem sq_200 (x a b : Int) (s : jM) : jq 200 [.inl x, .inl a, .inl b] s = some (some (.inl (bI (a ≤ x ∧ x ≤ b))), s) := by
  rw [bq_200]
  by_cases h : a ≤ x ∧ x ≤ b
  · simp (disch := omega) only [iteT, or_true, true_or, jbI_s, jbV_s, jbR_s, bI_t, bI_f, if_pos, if_neg, jwi, tm101, Int.toNat_natCast, ca1, ca2, cm3, cm4, cm18, cm21, cm40, cm84, ca, Nat.mul_zero, Nat.zero_add]
  · rw [bI_f h]
    by_cases h2 : x < a
    · simp (disch := omega) only [iteT, or_true, true_or, jbI_s, jbV_s, jbR_s, bI_t, bI_f, if_pos, if_neg, jwi, tm101, Int.toNat_natCast, ca1, ca2, cm3, cm4, cm18, cm21, cm40, cm84, ca, Nat.mul_zero, Nat.zero_add]
    · simp (disch := omega) only [iteT, or_true, true_or, jbI_s, jbV_s, jbR_s, bI_t, bI_f, if_pos, if_neg, jwi, tm101, Int.toNat_natCast, ca1, ca2, cm3, cm4, cm18, cm21, cm40, cm84, ca, Nat.mul_zero, Nat.zero_add]
theorem sq_201 (x : Int) (s : jM) : jq 201 [.inl x] s = some (some (.inl (bI (0 ≤ x ∧ x < 4))), s) := by
  rw [bq_201, sq_200]
  by_cases h : 0 ≤ x ∧ x < 4
  · simp (disch := omega) only [iteT, or_true, true_or, jbI_s, jbV_s, jbR_s, bI_t, bI_f, if_pos, if_neg, jwi, tm101, Int.toNat_natCast, ca1, ca2, cm3, cm4, cm18, cm21, cm40, cm84, ca, Nat.mul_zero, Nat.zero_add]
  · simp (disch := omega) only [iteT, or_true, true_or, jbI_s, jbV_s, jbR_s, bI_t, bI_f, if_pos, if_neg, jwi, tm101, Int.toNat_natCast, ca1, ca2, cm3, cm4, cm18, cm21, cm40, cm84, ca, Nat.mul_zero, Nat.zero_add]
theorem sq_202 (x : Int) (s : jM) : jq 202 [.inl x] s = some (some (.inl (bI (0 ≤ x ∧ x < 6))), s) := by
  rw [bq_202, sq_200]
  by_cases h : 0 ≤ x ∧ x < 6
  · simp (disch := omega) only [iteT, or_true, true_or, jbI_s, jbV_s, jbR_s, bI_t, bI_f, if_pos, if_neg, jwi, tm101, Int.toNat_natCast, ca1, ca2, cm3, cm4, cm18, cm21, cm40, cm84, ca, Nat.mul_zero, Nat.zero_add]
  · simp (disch := omega) only [iteT, or_true, true_or, jbI_s, jbV_s, jbR_s, bI_t, bI_f, if_pos, if_neg, jwi, tm101, Int.toNat_natCast, ca1, ca2, cm3, cm4, cm18, cm21, cm40, cm84, ca, Nat.mul_zero, Nat.zero_add]
theorem sq_41 (κ k : Int) (s : jM) : jq 41 [.inl κ, .inl k] s = some (some (.inl (bI (if κ = 0 then 0 ≤ k ∧ k < 4 else 0 ≤ k ∧ k < 6))), s) := by
  rw [bq_41]
  by_cases h : κ = 0
  · simp only [if_pos h, sq_39, jbI_s, if_pos (bI01 _)]
  · simp only [if_neg h, sq_40, jbI_s, if_pos (bI01 _)]
/-- two forms are the same -/
def FSame (s : jM) (i f : Nat) : Prop := s 1 i 1 = s 1 f 1 ∧ ∀ m, m < mnN (s 1 i 1).toNat → s 16 i m = s 16 f m
theorem sq_67 (s : jM) (i f d : Nat) (hd : d ≤ 5) (h : s 1 i 1 = (d : Int)) : ∃ x : Int, jq 67 [.inr (1, i), .inr (1, f)] s = some (some (.inl x), s) ∧ (x = 0 ∨ x = 1) ∧ (x = 1 ↔ FSame s i f) := by
  have h21 := (mnN_le d hd).2
  rw [bq_67]
  by_cases e : s 1 i 1 = s 1 f 1
  · rw [if_pos e]
    have key : ∀ c m, m + c = mnN d → (∀ q, q < m → s 16 i q = s 16 f q) → ∃ x : Int, je 67 15 [some (.inr (1, i)), some (.inr (1, f)), some (.inl (m : Int))] [] s = some (some (.inl x), s) ∧ (x = 0 ∨ x = 1) ∧ (x = 1 ↔ FSame s i f) := by
      intro c
      induction c with
      | zero =>
        intro m hm hq
        refine ⟨1, ?_, Or.inr rfl, ⟨fun _ => ⟨e, fun q hq2 => hq q ?_⟩, fun _ => rfl⟩⟩
        · rw [be_67_15]
          simp (disch := omega) only [sq_61 s i d h hd, iteT, or_true, true_or, jbI_s, jbV_s, jbR_s, bI_t, bI_f, if_pos, if_neg, jwi, tm101, Int.toNat_natCast, ca1, ca2, cm3, cm4, cm18, cm21, cm40, cm84, ca, Nat.mul_zero, Nat.zero_add]
        · rw [h, Int.toNat_natCast] at hq2
          omega
      | succ c ih =>
        intro m hm hq
        rw [be_67_15]
        simp (disch := omega) only [sq_61 s i d h hd, sq_62, iteT, or_true, true_or, jbI_s, jbV_s, jbR_s, bI_t, bI_f, if_pos, if_neg, jwi, tm101, Int.toNat_natCast, ca1, ca2, cm3, cm4, cm18, cm21, cm40, cm84, ca, Nat.mul_zero, Nat.zero_add]
        by_cases e2 : s 16 i m = s 16 f m
        · rw [if_pos e2]
          refine ih (m + 1) (by omega) (fun q hq2 => ?_)
          by_cases e3 : q = m
          · subst e3; exact e2
          · exact hq q (by omega)
        · rw [if_neg e2]
          refine ⟨0, rfl, Or.inl rfl, ⟨fun z => absurd z (by decide), fun z => absurd (z.2 m ?_) e2⟩⟩
          rw [h, Int.toNat_natCast]
          omega
    exact key (mnN d) 0 (by omega) (fun q hq => absurd hq (by omega))
  · rw [if_neg e]
    exact ⟨0, rfl, Or.inl rfl, ⟨fun z => absurd z (by decide), fun z => absurd z.1 e⟩⟩
theorem sq_55 (b : Nat) (κ : Int) (k : Nat) (s : jM) (h : if κ = 0 then k < 4 else k < 6) : jq 55 [.inr (0, b), .inl κ, .inl (k : Int)] s = some (some (.inr (1, if κ = 0 then 22 * b + k else 22 * b + 4 + k)), s) := by
  rw [bq_55]
  by_cases e : κ = 0
  · rw [if_pos e] at h
    rw [if_pos e, if_pos e]
    simp (disch := omega) only [iteT, or_true, true_or, jbI_s, jbV_s, jbR_s, bI_t, bI_f, if_pos, if_neg, jwi, tm101, Int.toNat_natCast, ca1, ca2, cm3, cm4, cm18, cm21, cm40, cm84, ca, Nat.mul_zero, Nat.zero_add]
  · rw [if_neg e] at h
    rw [if_neg e, if_neg e]
    simp (disch := omega) only [iteT, or_true, true_or, jbI_s, jbV_s, jbR_s, bI_t, bI_f, if_pos, if_neg, jwi, tm101, Int.toNat_natCast, ca1, ca2, cm3, cm4, cm18, cm21, cm40, cm84, ca, Nat.mul_zero, Nat.zero_add]
/-- a step is laid on the ring -/
def cpush (s : jM) (κ k : Int) (i : Nat) : jM := jup (jup (fset (jup (jup s 5 (s 6 0 1).toNat 1 κ) 5 (s 6 0 1).toNat 2 k) (46 + (s 6 0 1).toNat) (s 1 i 1) (s 16 i)) 6 0 1 ((s 6 0 1 + 1) % 8)) 6 0 2 (if s 6 0 2 < 8 then s 6 0 2 + 1 else 8)
theorem sq_120 (s : jM) (κ k : Int) (i : Nat) (hi : i < 46) (h1 : 0 ≤ s 6 0 1 ∧ s 6 0 1 < 8) (h2 : 0 ≤ s 6 0 2 ∧ s 6 0 2 ≤ 8) : jq 120 [.inr (6, 0), .inl κ, .inl k, .inr (1, i)] s = some (none, cpush s κ k i) := by
  rw [bq_120, if_pos h1, sq_66, jbV_s]
  unfold cpush
  have e : ∀ g d j, fset (jup (jup s 5 (s 6 0 1).toNat 1 κ) 5 (s 6 0 1).toNat 2 k) (46 + (s 6 0 1).toNat) d g 6 0 j = s 6 0 j := fun g d j => by
    rw [fset_o _ _ _ _ _ _ _ (by omega) (by omega), jup_n _ _ _ _ _ _ _ _ (by omega), jup_n _ _ _ _ _ _ _ _ (by omega)]
  have e1 : jup (jup s 5 (s 6 0 1).toNat 1 κ) 5 (s 6 0 1).toNat 2 k 1 i 1 = s 1 i 1 := by rw [jup_n _ _ _ _ _ _ _ _ (by omega), jup_n _ _ _ _ _ _ _ _ (by omega)]
  have e2 : ∀ j, jup (jup s 5 (s 6 0 1).toNat 1 κ) 5 (s 6 0 1).toNat 2 k 16 i j = s 16 i j := fun j => by rw [jup_n _ _ _ _ _ _ _ _ (by omega), jup_n _ _ _ _ _ _ _ _ (by omega)]
  rw [e, e, e1, funext e2, jwi (by omega) (by omega), jwi (by omega) (by omega), Int.tmod_eq_emod_of_nonneg (by omega)]
  by_cases c : s 6 0 2 < 8
  · rw [if_neg (by omega), if_pos c]
  · rw [if_pos (by omega), if_neg c]
theorem sq_121 (s : jM) (nx : Nat) (h : s 6 0 1 = (nx : Int)) (hn : nx < 8) : jq 121 [.inr (6, 0)] s = some (some (.inr (5, (nx + 7) % 8)), s) := by
  have e : Int.tmod (jw (jw (s 6 0 1 + 8) - 1)) 8 = (((nx + 7) % 8 : Nat) : Int) := by
    rw [h, jwi (x := (nx : Int) + 8) (by omega) (by omega), jwi (by omega) (by omega), Int.tmod_eq_emod_of_nonneg (by omega)]
    omega
  rw [bq_121, e, if_pos (by omega), Int.toNat_natCast]
theorem sq_122 (s : jM) (nx n : Nat) (h : s 6 0 1 = (nx : Int)) (hn : nx < 8) (h2 : s 6 0 2 = (n : Int)) (hn1 : 1 ≤ n) (hn8 : n ≤ 8) : jq 122 [.inr (6, 0)] s = some (none, jup (jup s 6 0 1 (((nx + 7) % 8 : Nat) : Int)) 6 0 2 (((n - 1 : Nat) : Int))) := by
  have e : Int.tmod (jw (jw (s 6 0 1 + 8) - 1)) 8 = (((nx + 7) % 8 : Nat) : Int) := by
    rw [h, jwi (x := (nx : Int) + 8) (by omega) (by omega), jwi (by omega) (by omega), Int.tmod_eq_emod_of_nonneg (by omega)]
    omega
  rw [bq_122, e, h2, jwi (by omega) (by omega), if_neg (by omega), show (n : Int) - 1 = ((n - 1 : Nat) : Int) by omega]
noncomputable def cchg (s : jM) (κ k : Int) (i f : Nat) : jM := @ite _ (FSame s i f) (Classical.propDecidable _) s (fset (cpush s κ k i) i (s 1 f 1) (s 16 f))
theorem sq_51 (s : jM) (κ : Int) (k f d : Nat) (hk : if κ = 0 then k < 4 else k < 6) (hf : f < 46) (hd : d ≤ 5) (h : s 1 (if κ = 0 then k else 4 + k) 1 = (d : Int)) (h1 : 0 ≤ s 6 0 1 ∧ s 6 0 1 < 8) (h2 : 0 ≤ s 6 0 2 ∧ s 6 0 2 ≤ 8) : jq 51 [.inr (10, 0), .inl κ, .inl (k : Int), .inr (1, f)] s = some (none, cchg s κ (k : Int) (if κ = 0 then k else 4 + k) f) := by
  have hi : (if κ = 0 then 22 * 0 + k else 22 * 0 + 4 + k) = (if κ = 0 then k else 4 + k) := by rw [Nat.mul_zero, Nat.zero_add, Nat.zero_add]
  have hi46 : (if κ = 0 then k else 4 + k) < 46 := by
    by_cases e : κ = 0
    · rw [if_pos e] at hk ⊢; omega
    · rw [if_neg e] at hk ⊢; omega
  rw [bq_51, sq_55 0 κ k s hk, jbR_s, hi]
  generalize (if κ = 0 then k else 4 + k) = i at *
  obtain ⟨x, e, h01, hx⟩ := sq_67 s i f d hd h
  rw [e, jbI_s]
  unfold cchg
  by_cases c : x = 0
  · rw [if_pos c, if_neg (fun z => absurd (hx.mpr z) (by omega)), sq_120 s κ k i hi46 h1 h2, jbV_s, sq_66, jbV_s]
    have e1 : cpush s κ k i 1 f 1 = s 1 f 1 := by
      unfold cpush
      rw [jup_n _ _ _ _ _ _ _ _ (by omega), jup_n _ _ _ _ _ _ _ _ (by omega), fset_o _ _ _ _ _ _ _ (by omega) (by omega), jup_n _ _ _ _ _ _ _ _ (by omega), jup_n _ _ _ _ _ _ _ _ (by omega)]
    have e2 : ∀ j, cpush s κ k i 16 f j = s 16 f j := fun j => by
      unfold cpush
      rw [jup_n _ _ _ _ _ _ _ _ (by omega), jup_n _ _ _ _ _ _ _ _ (by omega), fset_o _ _ _ _ _ _ _ (by omega) (by omega), jup_n _ _ _ _ _ _ _ _ (by omega), jup_n _ _ _ _ _ _ _ _ (by omega)]
    rw [e1, funext e2]
  · rw [if_neg c, if_pos (hx.mp (by omega))]
