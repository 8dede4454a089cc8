/-! THE LAW'S LOOP -/
theorem law_200 (s : jM) (i : Nat) (hI : Inv s) (hi : (i : Int) + 5 ≤ s 72 1 0) (h2 : i < 3000) : ∃ t, je 400 200 [some (.inr (72, 0)), some (.inr (10, 0)), some (.inr (11, 0)), some (.inl (i : Int))] [] s = je 400 1524 [some (.inr (72, 0)), some (.inr (10, 0)), some (.inr (11, 0)), some (.inl (i : Int))] [] t ∧ Inv t ∧ t 72 = s 72 := by
  obtain ⟨x, s1, s2, g1, g2, g3⟩ := ap_0 s hI (s 72 0 (Int.toNat ((i : Int) + 1))) (s 72 0 (Int.toNat ((i : Int) + 2)))
  have e1 : s1 72 = s 72 := jq_keep g1 72 rfl
  have e2 : s2 72 = s1 72 := jq_keep g2 72 rfl
  exact ⟨s2, by rw [be_400_200, jwi (x := (i : Int) + 1) (by omega) (by omega), jwi (x := (i : Int) + 2) (by omega) (by omega), if_pos (by omega), if_pos (by omega), g1, jbI_s, e1, if_pos (by omega), if_pos (by omega), g2, jbI_s, if_pos rfl], g3, e2.trans e1⟩
theorem law_233 (s : jM) (i : Nat) (hI : Inv s) (hi : (i : Int) + 5 ≤ s 72 1 0) (h2 : i < 3000) : ∃ t, je 400 233 [some (.inr (72, 0)), some (.inr (10, 0)), some (.inr (11, 0)), some (.inl (i : Int))] [] s = je 400 1524 [some (.inr (72, 0)), some (.inr (10, 0)), some (.inr (11, 0)), some (.inl (i : Int))] [] t ∧ Inv t ∧ t 72 = s 72 := by
  obtain ⟨x, s1, s2, g1, g2, g3⟩ := ap_1 s hI (s 72 0 (Int.toNat ((i : Int) + 1))) (s 72 0 (Int.toNat ((i : Int) + 2))) (s 72 0 (Int.toNat ((i : Int) + 3))) (s 72 0 (Int.toNat ((i : Int) + 4)))
  have e1 : s1 72 = s 72 := jq_keep g1 72 rfl
  have e2 : s2 72 = s1 72 := jq_keep g2 72 rfl
  exact ⟨s2, by rw [be_400_233, jwi (x := (i : Int) + 1) (by omega) (by omega), jwi (x := (i : Int) + 2) (by omega) (by omega), jwi (x := (i : Int) + 3) (by omega) (by omega), jwi (x := (i : Int) + 4) (by omega) (by omega), if_pos (by omega), if_pos (by omega), if_pos (by omega), if_pos (by omega), g1, jbI_s, e1, if_pos (by omega), if_pos (by omega), if_pos (by omega), if_pos (by omega), g2, jbI_s, if_pos rfl], g3, e2.trans e1⟩
theorem law_286 (s : jM) (i : Nat) (hI : Inv s) (hi : (i : Int) + 5 ≤ s 72 1 0) (h2 : i < 3000) : ∃ t, je 400 286 [some (.inr (72, 0)), some (.inr (10, 0)), some (.inr (11, 0)), some (.inl (i : Int))] [] s = je 400 1524 [some (.inr (72, 0)), some (.inr (10, 0)), some (.inr (11, 0)), some (.inl (i : Int))] [] t ∧ Inv t ∧ t 72 = s 72 := by
  obtain ⟨x, s1, s2, g1, g2, g3⟩ := ap_2 s hI (s 72 0 (Int.toNat ((i : Int) + 1))) (s 72 0 (Int.toNat ((i : Int) + 2))) (s 72 0 (Int.toNat ((i : Int) + 3)))
  have e1 : s1 72 = s 72 := jq_keep g1 72 rfl
  have e2 : s2 72 = s1 72 := jq_keep g2 72 rfl
  exact ⟨s2, by rw [be_400_286, jwi (x := (i : Int) + 1) (by omega) (by omega), jwi (x := (i : Int) + 2) (by omega) (by omega), jwi (x := (i : Int) + 3) (by omega) (by omega), if_pos (by omega), if_pos (by omega), if_pos (by omega), g1, jbI_s, e1, if_pos (by omega), if_pos (by omega), if_pos (by omega), g2, jbI_s, if_pos rfl], g3, e2.trans e1⟩
theorem law_329 (s : jM) (i : Nat) (hI : Inv s) (hi : (i : Int) + 5 ≤ s 72 1 0) (h2 : i < 3000) : ∃ t, je 400 329 [some (.inr (72, 0)), some (.inr (10, 0)), some (.inr (11, 0)), some (.inl (i : Int))] [] s = je 400 1524 [some (.inr (72, 0)), some (.inr (10, 0)), some (.inr (11, 0)), some (.inl (i : Int))] [] t ∧ Inv t ∧ t 72 = s 72 := by
  obtain ⟨x, s1, s2, g1, g2, g3⟩ := ap_3 s hI (s 72 0 (Int.toNat ((i : Int) + 1))) (s 72 0 (Int.toNat ((i : Int) + 2)))
  have e1 : s1 72 = s 72 := jq_keep g1 72 rfl
  have e2 : s2 72 = s1 72 := jq_keep g2 72 rfl
  exact ⟨s2, by rw [be_400_329, jwi (x := (i : Int) + 1) (by omega) (by omega), jwi (x := (i : Int) + 2) (by omega) (by omega), if_pos (by omega), if_pos (by omega), g1, jbI_s, e1, if_pos (by omega), if_pos (by omega), g2, jbI_s, if_pos rfl], g3, e2.trans e1⟩
theorem law_362 (s : jM) (i : Nat) (hI : Inv s) (hi : (i : Int) + 5 ≤ s 72 1 0) (h2 : i < 3000) : ∃ t, je 400 362 [some (.inr (72, 0)), some (.inr (10, 0)), some (.inr (11, 0)), some (.inl (i : Int))] [] s = je 400 1524 [some (.inr (72, 0)), some (.inr (10, 0)), some (.inr (11, 0)), some (.inl (i : Int))] [] t ∧ Inv t ∧ t 72 = s 72 := by
  obtain ⟨x, s1, s2, g1, g2, g3⟩ := ap_4 s hI (s 72 0 (Int.toNat ((i : Int) + 1))) (s 72 0 (Int.toNat ((i : Int) + 2))) (s 72 0 (Int.toNat ((i : Int) + 3))) (s 72 0 (Int.toNat ((i : Int) + 4)))
  have e1 : s1 72 = s 72 := jq_keep g1 72 rfl
  have e2 : s2 72 = s1 72 := jq_keep g2 72 rfl
  exact ⟨s2, by rw [be_400_362, jwi (x := (i : Int) + 1) (by omega) (by omega), jwi (x := (i : Int) + 2) (by omega) (by omega), jwi (x := (i : Int) + 3) (by omega) (by omega), jwi (x := (i : Int) + 4) (by omega) (by omega), if_pos (by omega), if_pos (by omega), if_pos (by omega), if_pos (by omega), g1, jbI_s, e1, if_pos (by omega), if_pos (by omega), if_pos (by omega), if_pos (by omega), g2, jbI_s, if_pos rfl], g3, e2.trans e1⟩
theorem law_415 (s : jM) (i : Nat) (hI : Inv s) (hi : (i : Int) + 5 ≤ s 72 1 0) (h2 : i < 3000) : ∃ t, je 400 415 [some (.inr (72, 0)), some (.inr (10, 0)), some (.inr (11, 0)), some (.inl (i : Int))] [] s = je 400 1524 [some (.inr (72, 0)), some (.inr (10, 0)), some (.inr (11, 0)), some (.inl (i : Int))] [] t ∧ Inv t ∧ t 72 = s 72 := by
  obtain ⟨x, s1, s2, g1, g2, g3⟩ := ap_5 s hI (s 72 0 (Int.toNat ((i : Int) + 1))) (s 72 0 (Int.toNat ((i : Int) + 2))) (s 72 0 (Int.toNat ((i : Int) + 3)))
  have e1 : s1 72 = s 72 := jq_keep g1 72 rfl
  have e2 : s2 72 = s1 72 := jq_keep g2 72 rfl
  exact ⟨s2, by rw [be_400_415, jwi (x := (i : Int) + 1) (by omega) (by omega), jwi (x := (i : Int) + 2) (by omega) (by omega), jwi (x := (i : Int) + 3) (by omega) (by omega), if_pos (by omega), if_pos (by omega), if_pos (by omega), g1, jbI_s, e1, if_pos (by omega), if_pos (by omega), if_pos (by omega), g2, jbI_s, if_pos rfl], g3, e2.trans e1⟩
theorem law_458 (s : jM) (i : Nat) (hI : Inv s) (hi : (i : Int) + 5 ≤ s 72 1 0) (h2 : i < 3000) : ∃ t, je 400 458 [some (.inr (72, 0)), some (.inr (10, 0)), some (.inr (11, 0)), some (.inl (i : Int))] [] s = je 400 1524 [some (.inr (72, 0)), some (.inr (10, 0)), some (.inr (11, 0)), some (.inl (i : Int))] [] t ∧ Inv t ∧ t 72 = s 72 := by
  obtain ⟨x, s1, s2, g1, g2, g3⟩ := ap_6 s hI (s 72 0 (Int.toNat ((i : Int) + 1))) (s 72 0 (Int.toNat ((i : Int) + 2))) (s 72 0 (Int.toNat ((i : Int) + 3)))
  have e1 : s1 72 = s 72 := jq_keep g1 72 rfl
  have e2 : s2 72 = s1 72 := jq_keep g2 72 rfl
  exact ⟨s2, by rw [be_400_458, jwi (x := (i : Int) + 1) (by omega) (by omega), jwi (x := (i : Int) + 2) (by omega) (by omega), jwi (x := (i : Int) + 3) (by omega) (by omega), if_pos (by omega), if_pos (by omega), if_pos (by omega), g1, jbI_s, e1, if_pos (by omega), if_pos (by omega), if_pos (by omega), g2, jbI_s, if_pos rfl], g3, e2.trans e1⟩
theorem law_501 (s : jM) (i : Nat) (hI : Inv s) (hi : (i : Int) + 5 ≤ s 72 1 0) (h2 : i < 3000) : ∃ t, je 400 501 [some (.inr (72, 0)), some (.inr (10, 0)), some (.inr (11, 0)), some (.inl (i : Int))] [] s = je 400 1524 [some (.inr (72, 0)), some (.inr (10, 0)), some (.inr (11, 0)), some (.inl (i : Int))] [] t ∧ Inv t ∧ t 72 = s 72 := by
  obtain ⟨x, s1, s2, g1, g2, g3⟩ := ap_7 s hI (s 72 0 (Int.toNat ((i : Int) + 1))) (s 72 0 (Int.toNat ((i : Int) + 2))) (s 72 0 (Int.toNat ((i : Int) + 3))) (s 72 0 (Int.toNat ((i : Int) + 4)))
  have e1 : s1 72 = s 72 := jq_keep g1 72 rfl
  have e2 : s2 72 = s1 72 := jq_keep g2 72 rfl
  exact ⟨s2, by rw [be_400_501, jwi (x := (i : Int) + 1) (by omega) (by omega), jwi (x := (i : Int) + 2) (by omega) (by omega), jwi (x := (i : Int) + 3) (by omega) (by omega), jwi (x := (i : Int) + 4) (by omega) (by omega), if_pos (by omega), if_pos (by omega), if_pos (by omega), if_pos (by omega), g1, jbI_s, e1, if_pos (by omega), if_pos (by omega), if_pos (by omega), if_pos (by omega), g2, jbI_s, if_pos rfl], g3, e2.trans e1⟩
theorem law_554 (s : jM) (i : Nat) (hI : Inv s) (hi : (i : Int) + 5 ≤ s 72 1 0) (h2 : i < 3000) : ∃ t, je 400 554 [some (.inr (72, 0)), some (.inr (10, 0)), some (.inr (11, 0)), some (.inl (i : Int))] [] s = je 400 1524 [some (.inr (72, 0)), some (.inr (10, 0)), some (.inr (11, 0)), some (.inl (i : Int))] [] t ∧ Inv t ∧ t 72 = s 72 := by
  obtain ⟨x, s1, s2, g1, g2, g3⟩ := ap_8 s hI (s 72 0 (Int.toNat ((i : Int) + 1))) (s 72 0 (Int.toNat ((i : Int) + 2)))
  have e1 : s1 72 = s 72 := jq_keep g1 72 rfl
  have e2 : s2 72 = s1 72 := jq_keep g2 72 rfl
  exact ⟨s2, by rw [be_400_554, jwi (x := (i : Int) + 1) (by omega) (by omega), jwi (x := (i : Int) + 2) (by omega) (by omega), if_pos (by omega), if_pos (by omega), g1, jbI_s, e1, if_pos (by omega), if_pos (by omega), g2, jbI_s, if_pos rfl], g3, e2.trans e1⟩
theorem law_587 (s : jM) (i : Nat) (hI : Inv s) (hi : (i : Int) + 5 ≤ s 72 1 0) (h2 : i < 3000) : ∃ t, je 400 587 [some (.inr (72, 0)), some (.inr (10, 0)), some (.inr (11, 0)), some (.inl (i : Int))] [] s = je 400 1524 [some (.inr (72, 0)), some (.inr (10, 0)), some (.inr (11, 0)), some (.inl (i : Int))] [] t ∧ Inv t ∧ t 72 = s 72 := by
  obtain ⟨x, s1, s2, g1, g2, g3⟩ := ap_9 s hI (s 72 0 (Int.toNat ((i : Int) + 1))) (s 72 0 (Int.toNat ((i : Int) + 2))) (s 72 0 (Int.toNat ((i : Int) + 3)))
  have e1 : s1 72 = s 72 := jq_keep g1 72 rfl
  have e2 : s2 72 = s1 72 := jq_keep g2 72 rfl
  exact ⟨s2, by rw [be_400_587, jwi (x := (i : Int) + 1) (by omega) (by omega), jwi (x := (i : Int) + 2) (by omega) (by omega), jwi (x := (i : Int) + 3) (by omega) (by omega), if_pos (by omega), if_pos (by omega), if_pos (by omega), g1, jbI_s, e1, if_pos (by omega), if_pos (by omega), if_pos (by omega), g2, jbI_s, if_pos rfl], g3, e2.trans e1⟩
theorem law_630 (s : jM) (i : Nat) (hI : Inv s) (hi : (i : Int) + 5 ≤ s 72 1 0) (h2 : i < 3000) : ∃ t, je 400 630 [some (.inr (72, 0)), some (.inr (10, 0)), some (.inr (11, 0)), some (.inl (i : Int))] [] s = je 400 1524 [some (.inr (72, 0)), some (.inr (10, 0)), some (.inr (11, 0)), some (.inl (i : Int))] [] t ∧ Inv t ∧ t 72 = s 72 := by
  obtain ⟨x, s1, s2, g1, g2, g3⟩ := ap_10 s hI (s 72 0 (Int.toNat ((i : Int) + 1))) (s 72 0 (Int.toNat ((i : Int) + 2))) (s 72 0 (Int.toNat ((i : Int) + 3)))
  have e1 : s1 72 = s 72 := jq_keep g1 72 rfl
  have e2 : s2 72 = s1 72 := jq_keep g2 72 rfl
  exact ⟨s2, by rw [be_400_630, jwi (x := (i : Int) + 1) (by omega) (by omega), jwi (x := (i : Int) + 2) (by omega) (by omega), jwi (x := (i : Int) + 3) (by omega) (by omega), if_pos (by omega), if_pos (by omega), if_pos (by omega), g1, jbI_s, e1, if_pos (by omega), if_pos (by omega), if_pos (by omega), g2, jbI_s, if_pos rfl], g3, e2.trans e1⟩
theorem law_673 (s : jM) (i : Nat) (hI : Inv s) (hi : (i : Int) + 5 ≤ s 72 1 0) (h2 : i < 3000) : ∃ t, je 400 673 [some (.inr (72, 0)), some (.inr (10, 0)), some (.inr (11, 0)), some (.inl (i : Int))] [] s = je 400 1524 [some (.inr (72, 0)), some (.inr (10, 0)), some (.inr (11, 0)), some (.inl (i : Int))] [] t ∧ Inv t ∧ t 72 = s 72 := by
  obtain ⟨x, s1, s2, g1, g2, g3⟩ := ap_11 s hI (s 72 0 (Int.toNat ((i : Int) + 1))) (s 72 0 (Int.toNat ((i : Int) + 2)))
  have e1 : s1 72 = s 72 := jq_keep g1 72 rfl
  have e2 : s2 72 = s1 72 := jq_keep g2 72 rfl
  exact ⟨s2, by rw [be_400_673, jwi (x := (i : Int) + 1) (by omega) (by omega), jwi (x := (i : Int) + 2) (by omega) (by omega), if_pos (by omega), if_pos (by omega), g1, jbI_s, e1, if_pos (by omega), if_pos (by omega), g2, jbI_s, if_pos rfl], g3, e2.trans e1⟩
theorem law_706 (s : jM) (i : Nat) (hI : Inv s) (hi : (i : Int) + 5 ≤ s 72 1 0) (h2 : i < 3000) : ∃ t, je 400 706 [some (.inr (72, 0)), some (.inr (10, 0)), some (.inr (11, 0)), some (.inl (i : Int))] [] s = je 400 1524 [some (.inr (72, 0)), some (.inr (10, 0)), some (.inr (11, 0)), some (.inl (i : Int))] [] t ∧ Inv t ∧ t 72 = s 72 := by
  obtain ⟨x, s1, s2, g1, g2, g3⟩ := ap_12 s hI (s 72 0 (Int.toNat ((i : Int) + 1))) (s 72 0 (Int.toNat ((i : Int) + 2)))
  have e1 : s1 72 = s 72 := jq_keep g1 72 rfl
  have e2 : s2 72 = s1 72 := jq_keep g2 72 rfl
  exact ⟨s2, by rw [be_400_706, jwi (x := (i : Int) + 1) (by omega) (by omega), jwi (x := (i : Int) + 2) (by omega) (by omega), if_pos (by omega), if_pos (by omega), g1, jbI_s, e1, if_pos (by omega), if_pos (by omega), g2, jbI_s, if_pos rfl], g3, e2.trans e1⟩
theorem law_739 (s : jM) (i : Nat) (hI : Inv s) (hi : (i : Int) + 5 ≤ s 72 1 0) (h2 : i < 3000) : ∃ t, je 400 739 [some (.inr (72, 0)), some (.inr (10, 0)), some (.inr (11, 0)), some (.inl (i : Int))] [] s = je 400 1524 [some (.inr (72, 0)), some (.inr (10, 0)), some (.inr (11, 0)), some (.inl (i : Int))] [] t ∧ Inv t ∧ t 72 = s 72 := by
  obtain ⟨x, s1, s2, g1, g2, g3⟩ := ap_13 s hI (s 72 0 (Int.toNat ((i : Int) + 1))) (s 72 0 (Int.toNat ((i : Int) + 2)))
  have e1 : s1 72 = s 72 := jq_keep g1 72 rfl
  have e2 : s2 72 = s1 72 := jq_keep g2 72 rfl
  exact ⟨s2, by rw [be_400_739, jwi (x := (i : Int) + 1) (by omega) (by omega), jwi (x := (i : Int) + 2) (by omega) (by omega), if_pos (by omega), if_pos (by omega), g1, jbI_s, e1, if_pos (by omega), if_pos (by omega), g2, jbI_s, if_pos rfl], g3, e2.trans e1⟩
theorem law_772 (s : jM) (i : Nat) (hI : Inv s) (hi : (i : Int) + 5 ≤ s 72 1 0) (h2 : i < 3000) : ∃ t, je 400 772 [some (.inr (72, 0)), some (.inr (10, 0)), some (.inr (11, 0)), some (.inl (i : Int))] [] s = je 400 1524 [some (.inr (72, 0)), some (.inr (10, 0)), some (.inr (11, 0)), some (.inl (i : Int))] [] t ∧ Inv t ∧ t 72 = s 72 := by
  obtain ⟨x, s1, s2, g1, g2, g3⟩ := ap_14 s hI (s 72 0 (Int.toNat ((i : Int) + 1))) (s 72 0 (Int.toNat ((i : Int) + 2))) (s 72 0 (Int.toNat ((i : Int) + 3))) (s 72 0 (Int.toNat ((i : Int) + 4)))
  have e1 : s1 72 = s 72 := jq_keep g1 72 rfl
  have e2 : s2 72 = s1 72 := jq_keep g2 72 rfl
  exact ⟨s2, by rw [be_400_772, jwi (x := (i : Int) + 1) (by omega) (by omega), jwi (x := (i : Int) + 2) (by omega) (by omega), jwi (x := (i : Int) + 3) (by omega) (by omega), jwi (x := (i : Int) + 4) (by omega) (by omega), if_pos (by omega), if_pos (by omega), if_pos (by omega), if_pos (by omega), g1, jbI_s, e1, if_pos (by omega), if_pos (by omega), if_pos (by omega), if_pos (by omega), g2, jbI_s, if_pos rfl], g3, e2.trans e1⟩
theorem law_825 (s : jM) (i : Nat) (hI : Inv s) (hi : (i : Int) + 5 ≤ s 72 1 0) (h2 : i < 3000) : ∃ t, je 400 825 [some (.inr (72, 0)), some (.inr (10, 0)), some (.inr (11, 0)), some (.inl (i : Int))] [] s = je 400 1524 [some (.inr (72, 0)), some (.inr (10, 0)), some (.inr (11, 0)), some (.inl (i : Int))] [] t ∧ Inv t ∧ t 72 = s 72 := by
  obtain ⟨x, s1, s2, g1, g2, g3⟩ := ap_15 s hI (s 72 0 (Int.toNat ((i : Int) + 1)))
  have e1 : s1 72 = s 72 := jq_keep g1 72 rfl
  have e2 : s2 72 = s1 72 := jq_keep g2 72 rfl
  exact ⟨s2, by rw [be_400_825, jwi (x := (i : Int) + 1) (by omega) (by omega), if_pos (by omega), g1, jbI_s, e1, if_pos (by omega), g2, jbI_s, if_pos rfl], g3, e2.trans e1⟩
theorem law_848 (s : jM) (i : Nat) (hI : Inv s) (hi : (i : Int) + 5 ≤ s 72 1 0) (h2 : i < 3000) : ∃ t, je 400 848 [some (.inr (72, 0)), some (.inr (10, 0)), some (.inr (11, 0)), some (.inl (i : Int))] [] s = je 400 1524 [some (.inr (72, 0)), some (.inr (10, 0)), some (.inr (11, 0)), some (.inl (i : Int))] [] t ∧ Inv t ∧ t 72 = s 72 := by
  obtain ⟨x, s1, s2, g1, g2, g3⟩ := ap_16 s hI (s 72 0 (Int.toNat ((i : Int) + 1))) (s 72 0 (Int.toNat ((i : Int) + 2)))
  have e1 : s1 72 = s 72 := jq_keep g1 72 rfl
  have e2 : s2 72 = s1 72 := jq_keep g2 72 rfl
  exact ⟨s2, by rw [be_400_848, jwi (x := (i : Int) + 1) (by omega) (by omega), jwi (x := (i : Int) + 2) (by omega) (by omega), if_pos (by omega), if_pos (by omega), g1, jbI_s, e1, if_pos (by omega), if_pos (by omega), g2, jbI_s, if_pos rfl], g3, e2.trans e1⟩
theorem law_881 (s : jM) (i : Nat) (hI : Inv s) (hi : (i : Int) + 5 ≤ s 72 1 0) (h2 : i < 3000) : ∃ t, je 400 881 [some (.inr (72, 0)), some (.inr (10, 0)), some (.inr (11, 0)), some (.inl (i : Int))] [] s = je 400 1524 [some (.inr (72, 0)), some (.inr (10, 0)), some (.inr (11, 0)), some (.inl (i : Int))] [] t ∧ Inv t ∧ t 72 = s 72 := by
  obtain ⟨x, s1, s2, g1, g2, g3⟩ := ap_17 s hI (s 72 0 (Int.toNat ((i : Int) + 1))) (s 72 0 (Int.toNat ((i : Int) + 2)))
  have e1 : s1 72 = s 72 := jq_keep g1 72 rfl
  have e2 : s2 72 = s1 72 := jq_keep g2 72 rfl
  exact ⟨s2, by rw [be_400_881, jwi (x := (i : Int) + 1) (by omega) (by omega), jwi (x := (i : Int) + 2) (by omega) (by omega), if_pos (by omega), if_pos (by omega), g1, jbI_s, e1, if_pos (by omega), if_pos (by omega), g2, jbI_s, if_pos rfl], g3, e2.trans e1⟩
theorem law_914 (s : jM) (i : Nat) (hI : Inv s) (hi : (i : Int) + 5 ≤ s 72 1 0) (h2 : i < 3000) : ∃ t, je 400 914 [some (.inr (72, 0)), some (.inr (10, 0)), some (.inr (11, 0)), some (.inl (i : Int))] [] s = je 400 1524 [some (.inr (72, 0)), some (.inr (10, 0)), some (.inr (11, 0)), some (.inl (i : Int))] [] t ∧ Inv t ∧ t 72 = s 72 := by
  obtain ⟨x, s1, s2, g1, g2, g3⟩ := ap_18 s hI (s 72 0 (Int.toNat ((i : Int) + 1))) (s 72 0 (Int.toNat ((i : Int) + 2)))
  have e1 : s1 72 = s 72 := jq_keep g1 72 rfl
  have e2 : s2 72 = s1 72 := jq_keep g2 72 rfl
  exact ⟨s2, by rw [be_400_914, jwi (x := (i : Int) + 1) (by omega) (by omega), jwi (x := (i : Int) + 2) (by omega) (by omega), if_pos (by omega), if_pos (by omega), g1, jbI_s, e1, if_pos (by omega), if_pos (by omega), g2, jbI_s, if_pos rfl], g3, e2.trans e1⟩
theorem law_947 (s : jM) (i : Nat) (hI : Inv s) (hi : (i : Int) + 5 ≤ s 72 1 0) (h2 : i < 3000) : ∃ t, je 400 947 [some (.inr (72, 0)), some (.inr (10, 0)), some (.inr (11, 0)), some (.inl (i : Int))] [] s = je 400 1524 [some (.inr (72, 0)), some (.inr (10, 0)), some (.inr (11, 0)), some (.inl (i : Int))] [] t ∧ Inv t ∧ t 72 = s 72 := by
  obtain ⟨x, s1, s2, g1, g2, g3⟩ := ap_19 s hI (s 72 0 (Int.toNat ((i : Int) + 1))) (s 72 0 (Int.toNat ((i : Int) + 2))) (s 72 0 (Int.toNat ((i : Int) + 3)))
  have e1 : s1 72 = s 72 := jq_keep g1 72 rfl
  have e2 : s2 72 = s1 72 := jq_keep g2 72 rfl
  exact ⟨s2, by rw [be_400_947, jwi (x := (i : Int) + 1) (by omega) (by omega), jwi (x := (i : Int) + 2) (by omega) (by omega), jwi (x := (i : Int) + 3) (by omega) (by omega), if_pos (by omega), if_pos (by omega), if_pos (by omega), g1, jbI_s, e1, if_pos (by omega), if_pos (by omega), if_pos (by omega), g2, jbI_s, if_pos rfl], g3, e2.trans e1⟩
theorem law_990 (s : jM) (i : Nat) (hI : Inv s) (hi : (i : Int) + 5 ≤ s 72 1 0) (h2 : i < 3000) : ∃ t, je 400 990 [some (.inr (72, 0)), some (.inr (10, 0)), some (.inr (11, 0)), some (.inl (i : Int))] [] s = je 400 1524 [some (.inr (72, 0)), some (.inr (10, 0)), some (.inr (11, 0)), some (.inl (i : Int))] [] t ∧ Inv t ∧ t 72 = s 72 := by
  obtain ⟨x, s1, s2, g1, g2, g3⟩ := ap_20 s hI (s 72 0 (Int.toNat ((i : Int) + 1))) (s 72 0 (Int.toNat ((i : Int) + 2))) (s 72 0 (Int.toNat ((i : Int) + 3)))
  have e1 : s1 72 = s 72 := jq_keep g1 72 rfl
  have e2 : s2 72 = s1 72 := jq_keep g2 72 rfl
  exact ⟨s2, by rw [be_400_990, jwi (x := (i : Int) + 1) (by omega) (by omega), jwi (x := (i : Int) + 2) (by omega) (by omega), jwi (x := (i : Int) + 3) (by omega) (by omega), if_pos (by omega), if_pos (by omega), if_pos (by omega), g1, jbI_s, e1, if_pos (by omega), if_pos (by omega), if_pos (by omega), g2, jbI_s, if_pos rfl], g3, e2.trans e1⟩
theorem law_1033 (s : jM) (i : Nat) (hI : Inv s) (hi : (i : Int) + 5 ≤ s 72 1 0) (h2 : i < 3000) : ∃ t, je 400 1033 [some (.inr (72, 0)), some (.inr (10, 0)), some (.inr (11, 0)), some (.inl (i : Int))] [] s = je 400 1524 [some (.inr (72, 0)), some (.inr (10, 0)), some (.inr (11, 0)), some (.inl (i : Int))] [] t ∧ Inv t ∧ t 72 = s 72 := by
  obtain ⟨x, s1, s2, g1, g2, g3⟩ := ap_21 s hI (s 72 0 (Int.toNat ((i : Int) + 1))) (s 72 0 (Int.toNat ((i : Int) + 2))) (s 72 0 (Int.toNat ((i : Int) + 3)))
  have e1 : s1 72 = s 72 := jq_keep g1 72 rfl
  have e2 : s2 72 = s1 72 := jq_keep g2 72 rfl
  exact ⟨s2, by rw [be_400_1033, jwi (x := (i : Int) + 1) (by omega) (by omega), jwi (x := (i : Int) + 2) (by omega) (by omega), jwi (x := (i : Int) + 3) (by omega) (by omega), if_pos (by omega), if_pos (by omega), if_pos (by omega), g1, jbI_s, e1, if_pos (by omega), if_pos (by omega), if_pos (by omega), g2, jbI_s, if_pos rfl], g3, e2.trans e1⟩
theorem law_1076 (s : jM) (i : Nat) (hI : Inv s) (hi : (i : Int) + 5 ≤ s 72 1 0) (h2 : i < 3000) : ∃ t, je 400 1076 [some (.inr (72, 0)), some (.inr (10, 0)), some (.inr (11, 0)), some (.inl (i : Int))] [] s = je 400 1524 [some (.inr (72, 0)), some (.inr (10, 0)), some (.inr (11, 0)), some (.inl (i : Int))] [] t ∧ Inv t ∧ t 72 = s 72 := by
  obtain ⟨x, s1, s2, g1, g2, g3⟩ := ap_22 s hI (s 72 0 (Int.toNat ((i : Int) + 1))) (s 72 0 (Int.toNat ((i : Int) + 2))) (s 72 0 (Int.toNat ((i : Int) + 3))) (s 72 0 (Int.toNat ((i : Int) + 4)))
  have e1 : s1 72 = s 72 := jq_keep g1 72 rfl
  have e2 : s2 72 = s1 72 := jq_keep g2 72 rfl
  exact ⟨s2, by rw [be_400_1076, jwi (x := (i : Int) + 1) (by omega) (by omega), jwi (x := (i : Int) + 2) (by omega) (by omega), jwi (x := (i : Int) + 3) (by omega) (by omega), jwi (x := (i : Int) + 4) (by omega) (by omega), if_pos (by omega), if_pos (by omega), if_pos (by omega), if_pos (by omega), g1, jbI_s, e1, if_pos (by omega), if_pos (by omega), if_pos (by omega), if_pos (by omega), g2, jbI_s, if_pos rfl], g3, e2.trans e1⟩
theorem law_1129 (s : jM) (i : Nat) (hI : Inv s) (hi : (i : Int) + 5 ≤ s 72 1 0) (h2 : i < 3000) : ∃ t, je 400 1129 [some (.inr (72, 0)), some (.inr (10, 0)), some (.inr (11, 0)), some (.inl (i : Int))] [] s = je 400 1524 [some (.inr (72, 0)), some (.inr (10, 0)), some (.inr (11, 0)), some (.inl (i : Int))] [] t ∧ Inv t ∧ t 72 = s 72 := by
  obtain ⟨x, s1, s2, g1, g2, g3⟩ := ap_23 s hI (s 72 0 (Int.toNat ((i : Int) + 1))) (s 72 0 (Int.toNat ((i : Int) + 2)))
  have e1 : s1 72 = s 72 := jq_keep g1 72 rfl
  have e2 : s2 72 = s1 72 := jq_keep g2 72 rfl
  exact ⟨s2, by rw [be_400_1129, jwi (x := (i : Int) + 1) (by omega) (by omega), jwi (x := (i : Int) + 2) (by omega) (by omega), if_pos (by omega), if_pos (by omega), g1, jbI_s, e1, if_pos (by omega), if_pos (by omega), g2, jbI_s, if_pos rfl], g3, e2.trans e1⟩
theorem law_1162 (s : jM) (i : Nat) (hI : Inv s) (hi : (i : Int) + 5 ≤ s 72 1 0) (h2 : i < 3000) : ∃ t, je 400 1162 [some (.inr (72, 0)), some (.inr (10, 0)), some (.inr (11, 0)), some (.inl (i : Int))] [] s = je 400 1524 [some (.inr (72, 0)), some (.inr (10, 0)), some (.inr (11, 0)), some (.inl (i : Int))] [] t ∧ Inv t ∧ t 72 = s 72 := by
  obtain ⟨x, s1, s2, g1, g2, g3⟩ := ap_24 s hI (s 72 0 (Int.toNat ((i : Int) + 1))) (s 72 0 (Int.toNat ((i : Int) + 2))) (s 72 0 (Int.toNat ((i : Int) + 3)))
  have e1 : s1 72 = s 72 := jq_keep g1 72 rfl
  have e2 : s2 72 = s1 72 := jq_keep g2 72 rfl
  exact ⟨s2, by rw [be_400_1162, jwi (x := (i : Int) + 1) (by omega) (by omega), jwi (x := (i : Int) + 2) (by omega) (by omega), jwi (x := (i : Int) + 3) (by omega) (by omega), if_pos (by omega), if_pos (by omega), if_pos (by omega), g1, jbI_s, e1, if_pos (by omega), if_pos (by omega), if_pos (by omega), g2, jbI_s, if_pos rfl], g3, e2.trans e1⟩
theorem law_1205 (s : jM) (i : Nat) (hI : Inv s) (hi : (i : Int) + 5 ≤ s 72 1 0) (h2 : i < 3000) : ∃ t, je 400 1205 [some (.inr (72, 0)), some (.inr (10, 0)), some (.inr (11, 0)), some (.inl (i : Int))] [] s = je 400 1524 [some (.inr (72, 0)), some (.inr (10, 0)), some (.inr (11, 0)), some (.inl (i : Int))] [] t ∧ Inv t ∧ t 72 = s 72 := by
  obtain ⟨x, s1, s2, g1, g2, g3⟩ := ap_25 s hI (s 72 0 (Int.toNat ((i : Int) + 1))) (s 72 0 (Int.toNat ((i : Int) + 2)))
  have e1 : s1 72 = s 72 := jq_keep g1 72 rfl
  have e2 : s2 72 = s1 72 := jq_keep g2 72 rfl
  exact ⟨s2, by rw [be_400_1205, jwi (x := (i : Int) + 1) (by omega) (by omega), jwi (x := (i : Int) + 2) (by omega) (by omega), if_pos (by omega), if_pos (by omega), g1, jbI_s, e1, if_pos (by omega), if_pos (by omega), g2, jbI_s, if_pos rfl], g3, e2.trans e1⟩
theorem law_1238 (s : jM) (i : Nat) (hI : Inv s) (hi : (i : Int) + 5 ≤ s 72 1 0) (h2 : i < 3000) : ∃ t, je 400 1238 [some (.inr (72, 0)), some (.inr (10, 0)), some (.inr (11, 0)), some (.inl (i : Int))] [] s = je 400 1524 [some (.inr (72, 0)), some (.inr (10, 0)), some (.inr (11, 0)), some (.inl (i : Int))] [] t ∧ Inv t ∧ t 72 = s 72 := by
  obtain ⟨x, s1, s2, g1, g2, g3⟩ := ap_26 s hI (s 72 0 (Int.toNat ((i : Int) + 1))) (s 72 0 (Int.toNat ((i : Int) + 2))) (s 72 0 (Int.toNat ((i : Int) + 3)))
  have e1 : s1 72 = s 72 := jq_keep g1 72 rfl
  have e2 : s2 72 = s1 72 := jq_keep g2 72 rfl
  exact ⟨s2, by rw [be_400_1238, jwi (x := (i : Int) + 1) (by omega) (by omega), jwi (x := (i : Int) + 2) (by omega) (by omega), jwi (x := (i : Int) + 3) (by omega) (by omega), if_pos (by omega), if_pos (by omega), if_pos (by omega), g1, jbI_s, e1, if_pos (by omega), if_pos (by omega), if_pos (by omega), g2, jbI_s, if_pos rfl], g3, e2.trans e1⟩
theorem law_1281 (s : jM) (i : Nat) (hI : Inv s) (hi : (i : Int) + 5 ≤ s 72 1 0) (h2 : i < 3000) : ∃ t, je 400 1281 [some (.inr (72, 0)), some (.inr (10, 0)), some (.inr (11, 0)), some (.inl (i : Int))] [] s = je 400 1524 [some (.inr (72, 0)), some (.inr (10, 0)), some (.inr (11, 0)), some (.inl (i : Int))] [] t ∧ Inv t ∧ t 72 = s 72 := by
  obtain ⟨x, s1, s2, g1, g2, g3⟩ := ap_27 s hI (s 72 0 (Int.toNat ((i : Int) + 1))) (s 72 0 (Int.toNat ((i : Int) + 2)))
  have e1 : s1 72 = s 72 := jq_keep g1 72 rfl
  have e2 : s2 72 = s1 72 := jq_keep g2 72 rfl
  exact ⟨s2, by rw [be_400_1281, jwi (x := (i : Int) + 1) (by omega) (by omega), jwi (x := (i : Int) + 2) (by omega) (by omega), if_pos (by omega), if_pos (by omega), g1, jbI_s, e1, if_pos (by omega), if_pos (by omega), g2, jbI_s, if_pos rfl], g3, e2.trans e1⟩
theorem law_1314 (s : jM) (i : Nat) (hI : Inv s) (hi : (i : Int) + 5 ≤ s 72 1 0) (h2 : i < 3000) : ∃ t, je 400 1314 [some (.inr (72, 0)), some (.inr (10, 0)), some (.inr (11, 0)), some (.inl (i : Int))] [] s = je 400 1524 [some (.inr (72, 0)), some (.inr (10, 0)), some (.inr (11, 0)), some (.inl (i : Int))] [] t ∧ Inv t ∧ t 72 = s 72 := by
  obtain ⟨x, s1, s2, g1, g2, g3⟩ := ap_28 s hI (s 72 0 (Int.toNat ((i : Int) + 1))) (s 72 0 (Int.toNat ((i : Int) + 2)))
  have e1 : s1 72 = s 72 := jq_keep g1 72 rfl
  have e2 : s2 72 = s1 72 := jq_keep g2 72 rfl
  exact ⟨s2, by rw [be_400_1314, jwi (x := (i : Int) + 1) (by omega) (by omega), jwi (x := (i : Int) + 2) (by omega) (by omega), if_pos (by omega), if_pos (by omega), g1, jbI_s, e1, if_pos (by omega), if_pos (by omega), g2, jbI_s, if_pos rfl], g3, e2.trans e1⟩
theorem law_1347 (s : jM) (i : Nat) (hI : Inv s) (hi : (i : Int) + 5 ≤ s 72 1 0) (h2 : i < 3000) : ∃ t, je 400 1347 [some (.inr (72, 0)), some (.inr (10, 0)), some (.inr (11, 0)), some (.inl (i : Int))] [] s = je 400 1524 [some (.inr (72, 0)), some (.inr (10, 0)), some (.inr (11, 0)), some (.inl (i : Int))] [] t ∧ Inv t ∧ t 72 = s 72 := by
  obtain ⟨x, s1, s2, g1, g2, g3⟩ := ap_29 s hI (s 72 0 (Int.toNat ((i : Int) + 1))) (s 72 0 (Int.toNat ((i : Int) + 2)))
  have e1 : s1 72 = s 72 := jq_keep g1 72 rfl
  have e2 : s2 72 = s1 72 := jq_keep g2 72 rfl
  exact ⟨s2, by rw [be_400_1347, jwi (x := (i : Int) + 1) (by omega) (by omega), jwi (x := (i : Int) + 2) (by omega) (by omega), if_pos (by omega), if_pos (by omega), g1, jbI_s, e1, if_pos (by omega), if_pos (by omega), g2, jbI_s, if_pos rfl], g3, e2.trans e1⟩
theorem law_1380 (s : jM) (i : Nat) (hI : Inv s) (hi : (i : Int) + 5 ≤ s 72 1 0) (h2 : i < 3000) : ∃ t, je 400 1380 [some (.inr (72, 0)), some (.inr (10, 0)), some (.inr (11, 0)), some (.inl (i : Int))] [] s = je 400 1524 [some (.inr (72, 0)), some (.inr (10, 0)), some (.inr (11, 0)), some (.inl (i : Int))] [] t ∧ Inv t ∧ t 72 = s 72 := by
  obtain ⟨x, s1, s2, g1, g2, g3⟩ := ap_30 s hI (s 72 0 (Int.toNat ((i : Int) + 1))) (s 72 0 (Int.toNat ((i : Int) + 2)))
  have e1 : s1 72 = s 72 := jq_keep g1 72 rfl
  have e2 : s2 72 = s1 72 := jq_keep g2 72 rfl
  exact ⟨s2, by rw [be_400_1380, jwi (x := (i : Int) + 1) (by omega) (by omega), jwi (x := (i : Int) + 2) (by omega) (by omega), if_pos (by omega), if_pos (by omega), g1, jbI_s, e1, if_pos (by omega), if_pos (by omega), g2, jbI_s, if_pos rfl], g3, e2.trans e1⟩
theorem law_1413 (s : jM) (i : Nat) (hI : Inv s) (hi : (i : Int) + 5 ≤ s 72 1 0) (h2 : i < 3000) : ∃ t, je 400 1413 [some (.inr (72, 0)), some (.inr (10, 0)), some (.inr (11, 0)), some (.inl (i : Int))] [] s = je 400 1524 [some (.inr (72, 0)), some (.inr (10, 0)), some (.inr (11, 0)), some (.inl (i : Int))] [] t ∧ Inv t ∧ t 72 = s 72 := by
  obtain ⟨x, s1, s2, g1, g2, g3⟩ := ap_31 s hI 
  have e1 : s1 72 = s 72 := jq_keep g1 72 rfl
  have e2 : s2 72 = s1 72 := jq_keep g2 72 rfl
  exact ⟨s2, by rw [be_400_1413, g1, jbI_s, g2, jbI_s, if_pos rfl], g3, e2.trans e1⟩
theorem law_1426 (s : jM) (i : Nat) (hI : Inv s) (hi : (i : Int) + 5 ≤ s 72 1 0) (h2 : i < 3000) : ∃ t, je 400 1426 [some (.inr (72, 0)), some (.inr (10, 0)), some (.inr (11, 0)), some (.inl (i : Int))] [] s = je 400 1524 [some (.inr (72, 0)), some (.inr (10, 0)), some (.inr (11, 0)), some (.inl (i : Int))] [] t ∧ Inv t ∧ t 72 = s 72 := by
  obtain ⟨x, s1, s2, g1, g2, g3⟩ := ap_32 s hI (s 72 0 (Int.toNat ((i : Int) + 1)))
  have e1 : s1 72 = s 72 := jq_keep g1 72 rfl
  have e2 : s2 72 = s1 72 := jq_keep g2 72 rfl
  exact ⟨s2, by rw [be_400_1426, jwi (x := (i : Int) + 1) (by omega) (by omega), if_pos (by omega), g1, jbI_s, e1, if_pos (by omega), g2, jbI_s, if_pos rfl], g3, e2.trans e1⟩
theorem law_1449 (s : jM) (i : Nat) (hI : Inv s) (hi : (i : Int) + 5 ≤ s 72 1 0) (h2 : i < 3000) : ∃ t, je 400 1449 [some (.inr (72, 0)), some (.inr (10, 0)), some (.inr (11, 0)), some (.inl (i : Int))] [] s = je 400 1524 [some (.inr (72, 0)), some (.inr (10, 0)), some (.inr (11, 0)), some (.inl (i : Int))] [] t ∧ Inv t ∧ t 72 = s 72 := by
  obtain ⟨x, s1, s2, g1, g2, g3⟩ := ap_33 s hI 
  have e1 : s1 72 = s 72 := jq_keep g1 72 rfl
  have e2 : s2 72 = s1 72 := jq_keep g2 72 rfl
  exact ⟨s2, by rw [be_400_1449, g1, jbI_s, g2, jbI_s, if_pos rfl], g3, e2.trans e1⟩
theorem law_1462 (s : jM) (i : Nat) (hI : Inv s) (hi : (i : Int) + 5 ≤ s 72 1 0) (h2 : i < 3000) : ∃ t, je 400 1462 [some (.inr (72, 0)), some (.inr (10, 0)), some (.inr (11, 0)), some (.inl (i : Int))] [] s = je 400 1524 [some (.inr (72, 0)), some (.inr (10, 0)), some (.inr (11, 0)), some (.inl (i : Int))] [] t ∧ Inv t ∧ t 72 = s 72 := by
  obtain ⟨x, s1, s2, g1, g2, g3⟩ := ap_34 s hI 
  have e1 : s1 72 = s 72 := jq_keep g1 72 rfl
  have e2 : s2 72 = s1 72 := jq_keep g2 72 rfl
  exact ⟨s2, by rw [be_400_1462, g1, jbI_s, g2, jbI_s, if_pos rfl], g3, e2.trans e1⟩
theorem law_1475 (s : jM) (i : Nat) (hI : Inv s) (hi : (i : Int) + 5 ≤ s 72 1 0) (h2 : i < 3000) : ∃ t, je 400 1475 [some (.inr (72, 0)), some (.inr (10, 0)), some (.inr (11, 0)), some (.inl (i : Int))] [] s = je 400 1524 [some (.inr (72, 0)), some (.inr (10, 0)), some (.inr (11, 0)), some (.inl (i : Int))] [] t ∧ Inv t ∧ t 72 = s 72 := by
  obtain ⟨x, s1, s2, g1, g2, g3⟩ := ap_35 s hI 
  have e1 : s1 72 = s 72 := jq_keep g1 72 rfl
  have e2 : s2 72 = s1 72 := jq_keep g2 72 rfl
  exact ⟨s2, by rw [be_400_1475, g1, jbI_s, g2, jbI_s, if_pos rfl], g3, e2.trans e1⟩
theorem law_1488 (s : jM) (i : Nat) (hI : Inv s) (hi : (i : Int) + 5 ≤ s 72 1 0) (h2 : i < 3000) : ∃ t, je 400 1488 [some (.inr (72, 0)), some (.inr (10, 0)), some (.inr (11, 0)), some (.inl (i : Int))] [] s = je 400 1524 [some (.inr (72, 0)), some (.inr (10, 0)), some (.inr (11, 0)), some (.inl (i : Int))] [] t ∧ Inv t ∧ t 72 = s 72 := by
  obtain ⟨x, s1, s2, g1, g2, g3⟩ := ap_36 s hI 
  have e1 : s1 72 = s 72 := jq_keep g1 72 rfl
  have e2 : s2 72 = s1 72 := jq_keep g2 72 rfl
  exact ⟨s2, by rw [be_400_1488, g1, jbI_s, g2, jbI_s, if_pos rfl], g3, e2.trans e1⟩
theorem law_1501 (s : jM) (i : Nat) (hI : Inv s) (hi : (i : Int) + 5 ≤ s 72 1 0) (h2 : i < 3000) : ∃ t, je 400 1501 [some (.inr (72, 0)), some (.inr (10, 0)), some (.inr (11, 0)), some (.inl (i : Int))] [] s = je 400 1524 [some (.inr (72, 0)), some (.inr (10, 0)), some (.inr (11, 0)), some (.inl (i : Int))] [] t ∧ Inv t ∧ t 72 = s 72 := by
  obtain ⟨x, s1, s2, g1, g2, g3⟩ := ap_37 s hI (s 72 0 (Int.toNat ((i : Int) + 1)))
  have e1 : s1 72 = s 72 := jq_keep g1 72 rfl
  have e2 : s2 72 = s1 72 := jq_keep g2 72 rfl
  exact ⟨s2, by rw [be_400_1501, jwi (x := (i : Int) + 1) (by omega) (by omega), if_pos (by omega), g1, jbI_s, e1, if_pos (by omega), g2, jbI_s, if_pos rfl], g3, e2.trans e1⟩
theorem law_loop : ∀ (f i : Nat) (s : jM), Inv s → s 72 1 0 < 5 * (f : Int) + i → s 72 1 0 ≤ 2560 → i < 3000 → 0 ≤ s 72 1 0 → ∃ t, je 400 18 [some (.inr (72, 0)), some (.inr (10, 0)), some (.inr (11, 0)), some (.inl (i : Int))] [] s = some (some (.inl 1), t)
  | f, i, s, hI, hf, hL, h2, h0 => by
    rw [be_400_18, jwi (x := s 72 1 0 - 5) (by omega) (by omega)]
    by_cases c : s 72 1 0 - 5 < (i : Int)
    · rw [if_pos c]; exact ⟨s, rfl⟩
    · obtain ⟨g, rfl⟩ : ∃ g, f = g + 1 := ⟨f - 1, by omega⟩
      have nxt : ∀ t : jM, Inv t → t 72 = s 72 → ∃ u, je 400 1524 [some (.inr (72, 0)), some (.inr (10, 0)), some (.inr (11, 0)), some (.inl (i : Int))] [] t = some (some (.inl 1), u) := fun t ht e => by
        rw [be_400_1524, jwn (x := (i : Int) + 5) (n := i + 5) (by omega) (by omega)]
        exact law_loop g (i + 5) t ht (by rw [e]; omega) (by rw [e]; exact hL) (by omega) (by rw [e]; exact h0)
      have go : ∀ o : Option jR, (∃ t, o = je 400 1524 [some (.inr (72, 0)), some (.inr (10, 0)), some (.inr (11, 0)), some (.inl (i : Int))] [] t ∧ Inv t ∧ t 72 = s 72) → ∃ u, o = some (some (.inl 1), u) := fun o ⟨t, h1, h2, h3⟩ => by rw [h1]; exact nxt t h2 h3
      have hi : (i : Int) + 5 ≤ s 72 1 0 := by omega
      rw [if_neg c, if_pos (by omega)]
      generalize jand (s 72 0 (Int.toNat (i : Int))) 63 = w
      by_cases c0 : w = 0
      · rw [if_pos c0]; exact go _ (law_200 s i hI hi h2)
      rw [if_neg c0]
      by_cases c1 : w = 1
      · rw [if_pos c1]; exact go _ (law_233 s i hI hi h2)
      rw [if_neg c1]
      by_cases c2 : w = 2
      · rw [if_pos c2]; exact go _ (law_286 s i hI hi h2)
      rw [if_neg c2]
      by_cases c3 : w = 3
      · rw [if_pos c3]; exact go _ (law_329 s i hI hi h2)
      rw [if_neg c3]
      by_cases c4 : w = 4
      · rw [if_pos c4]; exact go _ (law_362 s i hI hi h2)
      rw [if_neg c4]
      by_cases c5 : w = 5
      · rw [if_pos c5]; exact go _ (law_415 s i hI hi h2)
      rw [if_neg c5]
      by_cases c6 : w = 6
      · rw [if_pos c6]; exact go _ (law_458 s i hI hi h2)
      rw [if_neg c6]
      by_cases c7 : w = 7
      · rw [if_pos c7]; exact go _ (law_501 s i hI hi h2)
      rw [if_neg c7]
      by_cases c8 : w = 8
      · rw [if_pos c8]; exact go _ (law_554 s i hI hi h2)
      rw [if_neg c8]
      by_cases c9 : w = 9
      · rw [if_pos c9]; exact go _ (law_587 s i hI hi h2)
      rw [if_neg c9]
      by_cases c10 : w = 10
      · rw [if_pos c10]; exact go _ (law_630 s i hI hi h2)
      rw [if_neg c10]
      by_cases c11 : w = 11
      · rw [if_pos c11]; exact go _ (law_673 s i hI hi h2)
      rw [if_neg c11]
      by_cases c12 : w = 12
      · rw [if_pos c12]; exact go _ (law_706 s i hI hi h2)
      rw [if_neg c12]
      by_cases c13 : w = 13
      · rw [if_pos c13]; exact go _ (law_739 s i hI hi h2)
      rw [if_neg c13]
      by_cases c14 : w = 14
      · rw [if_pos c14]; exact go _ (law_772 s i hI hi h2)
      rw [if_neg c14]
      by_cases c15 : w = 15
      · rw [if_pos c15]; exact go _ (law_825 s i hI hi h2)
      rw [if_neg c15]
      by_cases c16 : w = 16
      · rw [if_pos c16]; exact go _ (law_848 s i hI hi h2)
      rw [if_neg c16]
      by_cases c17 : w = 17
      · rw [if_pos c17]; exact go _ (law_881 s i hI hi h2)
      rw [if_neg c17]
      by_cases c18 : w = 18
      · rw [if_pos c18]; exact go _ (law_914 s i hI hi h2)
      rw [if_neg c18]
      by_cases c19 : w = 19
      · rw [if_pos c19]; exact go _ (law_947 s i hI hi h2)
      rw [if_neg c19]
      by_cases c20 : w = 20
      · rw [if_pos c20]; exact go _ (law_990 s i hI hi h2)
      rw [if_neg c20]
      by_cases c21 : w = 21
      · rw [if_pos c21]; exact go _ (law_1033 s i hI hi h2)
      rw [if_neg c21]
      by_cases c22 : w = 22
      · rw [if_pos c22]; exact go _ (law_1076 s i hI hi h2)
      rw [if_neg c22]
      by_cases c23 : w = 23
      · rw [if_pos c23]; exact go _ (law_1129 s i hI hi h2)
      rw [if_neg c23]
      by_cases c24 : w = 24
      · rw [if_pos c24]; exact go _ (law_1162 s i hI hi h2)
      rw [if_neg c24]
      by_cases c25 : w = 25
      · rw [if_pos c25]; exact go _ (law_1205 s i hI hi h2)
      rw [if_neg c25]
      by_cases c26 : w = 26
      · rw [if_pos c26]; exact go _ (law_1238 s i hI hi h2)
      rw [if_neg c26]
      by_cases c27 : w = 27
      · rw [if_pos c27]; exact go _ (law_1281 s i hI hi h2)
      rw [if_neg c27]
      by_cases c28 : w = 28
      · rw [if_pos c28]; exact go _ (law_1314 s i hI hi h2)
      rw [if_neg c28]
      by_cases c29 : w = 29
      · rw [if_pos c29]; exact go _ (law_1347 s i hI hi h2)
      rw [if_neg c29]
      by_cases c30 : w = 30
      · rw [if_pos c30]; exact go _ (law_1380 s i hI hi h2)
      rw [if_neg c30]
      by_cases c31 : w = 31
      · rw [if_pos c31]; exact go _ (law_1413 s i hI hi h2)
      rw [if_neg c31]
      by_cases c32 : w = 32
      · rw [if_pos c32]; exact go _ (law_1426 s i hI hi h2)
      rw [if_neg c32]
      by_cases c33 : w = 33
      · rw [if_pos c33]; exact go _ (law_1449 s i hI hi h2)
      rw [if_neg c33]
      by_cases c34 : w = 34
      · rw [if_pos c34]; exact go _ (law_1462 s i hI hi h2)
      rw [if_neg c34]
      by_cases c35 : w = 35
      · rw [if_pos c35]; exact go _ (law_1475 s i hI hi h2)
      rw [if_neg c35]
      by_cases c36 : w = 36
      · rw [if_pos c36]; exact go _ (law_1488 s i hI hi h2)
      rw [if_neg c36]
      by_cases c37 : w = 37
      · rw [if_pos c37]; exact go _ (law_1501 s i hI hi h2)
      rw [if_neg c37]
      exact nxt s hI rfl
