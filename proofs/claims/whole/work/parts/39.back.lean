/-! STEPS TAKEN BACK, COUNTS -/
theorem sj_265 (W : jM) (m : Nat) (hm : m < 8) (h : W 11 0 10 = (m : Int)) : je 265 22 [some (.inr (11, 0)), some (.inl 0)] [] W = some (some (.inl (m : Int)), jfl (jfl (jfl W 29 0 0 4 (fun j => W 38 0 (4 * m + j))) 30 0 0 84 (fun j => W 39 0 (84 * m + j))) 31 0 0 18 (fun j => W 40 0 (18 * m + j))) := by
  have l1 : je 265 22 [some (.inr (11, 0)), some (.inl 0)] [] W = je 265 22 [some (.inr (11, 0)), some (.inl (4 : Nat))] [] (jfl W 29 0 0 4 (fun j => W 38 0 (4 * m + j))) := by
    refine Eq.trans (congrArg (fun z => je 265 22 [some (.inr (11, 0)), some (.inl 0)] [] z) (jfl_0 W 29 0 0 (fun j => W 38 0 (4 * m + j))).symm) ?_
    refine loopI (P := fun i => je 265 22 [some (.inr (11, 0)), some (.inl (i : Int))] [] (jfl W 29 0 0 i (fun j => W 38 0 (4 * m + j)))) (n := 4) (fun i hi => ?_) rfl
    show je 265 22 _ [] _ = _
    have e : jfl W 29 0 0 i (fun j => W 38 0 (4 * m + j)) 11 0 10 = (m : Int) := by rw [jfl_ne _ _ _ _ _ _ _ _ _ (by omega), h]
    rw [be_265_22, if_pos (by omega), e, jwi (x := 4 * (m : Int)) (by omega) (by omega), jwi (x := 4 * (m : Int) + i) (by omega) (by omega), if_pos (by omega), if_pos (by omega), Int.toNat_natCast, show (4 * (m : Int) + i).toNat = 4 * m + i by omega, jwn (x := (i : Int) + 1) (n := i + 1) (by omega) (by omega), jfl_ne _ _ _ _ _ _ 38 _ _ (by omega), jfl_up _ _ _ _ _ _ _ rfl _ (by omega)]
  rw [l1, be_265_22, if_neg (by omega)]
  have e39 : ∀ j, W 39 0 j = jfl W 29 0 0 4 (fun j => W 38 0 (4 * m + j)) 39 0 j := fun j => by rw [jfl_ne _ _ _ _ _ _ _ _ _ (by omega)]
  have e40 : ∀ j, W 40 0 j = jfl W 29 0 0 4 (fun j => W 38 0 (4 * m + j)) 40 0 j := fun j => by rw [jfl_ne _ _ _ _ _ _ _ _ _ (by omega)]
  have h : jfl W 29 0 0 4 (fun j => W 38 0 (4 * m + j)) 11 0 10 = (m : Int) := by rw [jfl_ne _ _ _ _ _ _ _ _ _ (by omega), h]
  simp only [e39, e40]
  clear l1 e39 e40
  generalize jfl W 29 0 0 4 (fun j => W 38 0 (4 * m + j)) = W at *
  have l1 : je 265 54 [some (.inr (11, 0)), some (.inl 0)] [] W = je 265 54 [some (.inr (11, 0)), some (.inl (84 : Nat))] [] (jfl W 30 0 0 84 (fun j => W 39 0 (84 * m + j))) := by
    refine Eq.trans (congrArg (fun z => je 265 54 [some (.inr (11, 0)), some (.inl 0)] [] z) (jfl_0 W 30 0 0 (fun j => W 39 0 (84 * m + j))).symm) ?_
    refine loopI (P := fun i => je 265 54 [some (.inr (11, 0)), some (.inl (i : Int))] [] (jfl W 30 0 0 i (fun j => W 39 0 (84 * m + j)))) (n := 84) (fun i hi => ?_) rfl
    show je 265 54 _ [] _ = _
    have e : jfl W 30 0 0 i (fun j => W 39 0 (84 * m + j)) 11 0 10 = (m : Int) := by rw [jfl_ne _ _ _ _ _ _ _ _ _ (by omega), h]
    rw [be_265_54, if_pos (by omega), e, jwi (x := 84 * (m : Int)) (by omega) (by omega), jwi (x := 84 * (m : Int) + i) (by omega) (by omega), if_pos (by omega), if_pos (by omega), Int.toNat_natCast, show (84 * (m : Int) + i).toNat = 84 * m + i by omega, jwn (x := (i : Int) + 1) (n := i + 1) (by omega) (by omega), jfl_ne _ _ _ _ _ _ 39 _ _ (by omega), jfl_up _ _ _ _ _ _ _ rfl _ (by omega)]
  rw [l1, be_265_54, if_neg (by omega)]
  have e40 : ∀ j, W 40 0 j = jfl W 30 0 0 84 (fun j => W 39 0 (84 * m + j)) 40 0 j := fun j => by rw [jfl_ne _ _ _ _ _ _ _ _ _ (by omega)]
  have h : jfl W 30 0 0 84 (fun j => W 39 0 (84 * m + j)) 11 0 10 = (m : Int) := by rw [jfl_ne _ _ _ _ _ _ _ _ _ (by omega), h]
  simp only [e40]
  clear l1 e40
  generalize jfl W 30 0 0 84 (fun j => W 39 0 (84 * m + j)) = W at *
  have l1 : je 265 88 [some (.inr (11, 0)), some (.inl 0)] [] W = je 265 88 [some (.inr (11, 0)), some (.inl (18 : Nat))] [] (jfl W 31 0 0 18 (fun j => W 40 0 (18 * m + j))) := by
    refine Eq.trans (congrArg (fun z => je 265 88 [some (.inr (11, 0)), some (.inl 0)] [] z) (jfl_0 W 31 0 0 (fun j => W 40 0 (18 * m + j))).symm) ?_
    refine loopI (P := fun i => je 265 88 [some (.inr (11, 0)), some (.inl (i : Int))] [] (jfl W 31 0 0 i (fun j => W 40 0 (18 * m + j)))) (n := 18) (fun i hi => ?_) rfl
    show je 265 88 _ [] _ = _
    have e : jfl W 31 0 0 i (fun j => W 40 0 (18 * m + j)) 11 0 10 = (m : Int) := by rw [jfl_ne _ _ _ _ _ _ _ _ _ (by omega), h]
    rw [be_265_88, if_pos (by omega), e, jwi (x := 18 * (m : Int)) (by omega) (by omega), jwi (x := 18 * (m : Int) + i) (by omega) (by omega), if_pos (by omega), if_pos (by omega), Int.toNat_natCast, show (18 * (m : Int) + i).toNat = 18 * m + i by omega, jwn (x := (i : Int) + 1) (n := i + 1) (by omega) (by omega), jfl_ne _ _ _ _ _ _ 40 _ _ (by omega), jfl_up _ _ _ _ _ _ _ rfl _ (by omega)]
  rw [l1, be_265_88, if_neg (by omega), jfl_ne _ _ _ _ _ _ _ _ _ (by omega), h]
theorem ap_31 (s : jM) (hI : Inv s) : Go s 31 265 [] := by
  obtain ⟨hB, hK, hR, hT, hIm, ⟨n, nx, s1, s2, s3, s4, s5, s6⟩, hTI⟩ := id hI
  by_cases c0 : n = 0
  · refine go_no (-5) hI ?_ ?_
    · rw [bq_31, if_pos (by omega)]
    · rw [bq_265, if_pos (by omega)]
  obtain ⟨m, rfl⟩ : ∃ m, n = m + 1 := ⟨n - 1, by omega⟩
  obtain ⟨k1, e1⟩ := s6 m (by omega)
  generalize hq : (nx + 8 - (m + 1) + m) % 8 = q at *
  have hq2 : (nx + 7) % 8 = q := by omega
  have q121 := sq_121 s nx s4 s5
  rw [hq2] at q121
  obtain ⟨k, hk⟩ : ∃ k : Nat, s 5 q 2 = (k : Int) := ⟨(s 5 q 2).toNat, by rcases k1.1 with z | z <;> omega⟩
  -- the class' form that changes
  obtain ⟨i, hi, h55⟩ : ∃ i, (s 5 q 1 = 0 ∧ k < 4 ∧ i = k ∨ s 5 q 1 = 1 ∧ k < 6 ∧ i = 4 + k ∧ s 1 (46 + q) 1 = 1) ∧ jq 55 [.inr (0, 0), .inl (s 5 q 1), .inl (k : Int)] s = some (some (.inr (1, i)), s) := by
    rcases k1.1 with ⟨z1, z2, z3⟩ | ⟨z1, z2, z3, z4⟩
    · refine ⟨k, Or.inl ⟨z1, by omega, rfl⟩, ?_⟩
      rw [sq_55 0 _ k s (by rw [if_pos z1]; omega), if_pos z1, Nat.mul_zero, Nat.zero_add]
    · refine ⟨4 + k, Or.inr ⟨z1, by omega, rfl, z4⟩, ?_⟩
      rw [sq_55 0 _ k s (by rw [if_neg (by omega)]; omega), if_neg (by omega), Nat.mul_zero, Nat.zero_add]
  have hi10 : i < 10 := by omega
  have q66 := sq_66 s i (46 + q)
  have fd := fset_d s i (s 1 (46 + q) 1) (fun j => s 16 (46 + q) j)
  have fn := fset_n s i (s 1 (46 + q) 1) (fun j => s 16 (46 + q) j)
  have fo : ∀ a b c, ¬ ((a = 1 ∨ a = 16) ∧ b = i) → fset s i (s 1 (46 + q) 1) (fun j => s 16 (46 + q) j) a b c = s a b c := fun a b c z => fset_o _ _ _ _ _ _ _ (by omega) (by omega)
  generalize fset s i (s 1 (46 + q) 1) (fun j => s 16 (46 + q) j) = U at *
  have q122 := sq_122 U nx (m + 1) (by rw [fo _ _ _ (by omega)]; exact s4) s5 (by rw [fo _ _ _ (by omega)]; exact s1) (by omega) s3
  rw [hq2, Nat.add_sub_cancel] at q122
  have vo : ∀ a b c, ¬ ((a = 1 ∨ a = 16) ∧ b = i ∨ a = 6) → jup (jup U 6 0 1 (q : Int)) 6 0 2 (m : Int) a b c = s a b c := fun a b c z => by rw [jup_n _ _ _ _ _ _ _ _ (by omega), jup_n _ _ _ _ _ _ _ _ (by omega), fo _ _ _ (by omega)]
  have vd : jup (jup U 6 0 1 (q : Int)) 6 0 2 (m : Int) 1 i 1 = s 1 (46 + q) 1 := by rw [jup_n _ _ _ _ _ _ _ _ (by omega), jup_n _ _ _ _ _ _ _ _ (by omega), fd]
  have vn : ∀ j, j < 21 → jup (jup U 6 0 1 (q : Int)) 6 0 2 (m : Int) 16 i j = s 16 (46 + q) j := fun j hj => by rw [jup_n _ _ _ _ _ _ _ _ (by omega), jup_n _ _ _ _ _ _ _ _ (by omega), fn j hj]
  have v61 : jup (jup U 6 0 1 (q : Int)) 6 0 2 (m : Int) 6 0 1 = (q : Int) := by rw [jup_n _ _ _ _ _ _ _ _ (by omega), jup_e]
  have v62 : jup (jup U 6 0 1 (q : Int)) 6 0 2 (m : Int) 6 0 2 = (m : Int) := jup_e _ _ _ _ _
  generalize jup (jup U 6 0 1 (q : Int)) 6 0 2 (m : Int) = V at *
  have w10 : jup V 11 0 10 (m : Int) 11 0 10 = (m : Int) := jup_e _ _ _ _ _
  have q265 := sj_265 (jup V 11 0 10 (m : Int)) m (by omega) w10
  have hw : ∀ a b c, ¬ (a = 11) → jup V 11 0 10 (m : Int) a b c = V a b c := fun a b c z => jup_n _ _ _ _ _ _ _ _ (by omega)
  have v38 : ∀ j, jup V 11 0 10 (m : Int) 38 0 j = s 38 0 j := fun j => by rw [hw _ _ _ (by omega), vo _ _ _ (by omega)]
  have v39 : ∀ j, jup V 11 0 10 (m : Int) 39 0 j = s 39 0 j := fun j => by rw [hw _ _ _ (by omega), vo _ _ _ (by omega)]
  have v40 : ∀ j, jup V 11 0 10 (m : Int) 40 0 j = s 40 0 j := fun j => by rw [hw _ _ _ (by omega), vo _ _ _ (by omega)]
  simp only [v38, v39, v40] at q265
  have v10 : V 11 0 10 = ((m + 1 : Nat) : Int) := by rw [vo _ _ _ (by omega)]; exact s2
  have b265 := bq_265 V
  rw [v10, if_neg (by omega), jwi (x := ((m + 1 : Nat) : Int) - 1) (by omega) (by omega), show ((m + 1 : Nat) : Int) - 1 = (m : Int) by omega, q265] at b265
  refine ⟨(m : Int), V, _, ?_, b265, ?_⟩
  · rw [bq_31, if_neg (by omega), q121, jbR_s, hk, h55, jbR_s, q66, jbV_s, q122, jbV_s, v62]
  clear b265 q265 q122 q66 h55 q121
  have t29 : ∀ r, r < 4 → jfl (jfl (jfl (jup V 11 0 10 (m : Int)) 29 0 0 4 (fun j => s 38 0 (4 * m + j))) 30 0 0 84 (fun j => s 39 0 (84 * m + j))) 31 0 0 18 (fun j => s 40 0 (18 * m + j)) 29 0 r = s 38 0 (4 * m + r) := fun r hr => by
    rw [jfl_ne _ _ _ _ _ _ _ _ _ (by omega), jfl_ne _ _ _ _ _ _ _ _ _ (by omega)]
    exact jfl0_in _ _ _ _ _ _ hr
  have t30 : ∀ r, r < 84 → jfl (jfl (jfl (jup V 11 0 10 (m : Int)) 29 0 0 4 (fun j => s 38 0 (4 * m + j))) 30 0 0 84 (fun j => s 39 0 (84 * m + j))) 31 0 0 18 (fun j => s 40 0 (18 * m + j)) 30 0 r = s 39 0 (84 * m + r) := fun r hr => by
    rw [jfl_ne _ _ _ _ _ _ _ _ _ (by omega)]
    exact jfl0_in _ _ _ _ _ _ hr
  have t31 : ∀ r, r < 18 → jfl (jfl (jfl (jup V 11 0 10 (m : Int)) 29 0 0 4 (fun j => s 38 0 (4 * m + j))) 30 0 0 84 (fun j => s 39 0 (84 * m + j))) 31 0 0 18 (fun j => s 40 0 (18 * m + j)) 31 0 r = s 40 0 (18 * m + r) := fun r hr => by
    exact jfl0_in _ _ _ _ _ _ hr
  have tV : ∀ a b c, ¬ (29 ≤ a ∧ a ≤ 31 ∨ a = 11 ∧ c = 10) → jfl (jfl (jfl (jup V 11 0 10 (m : Int)) 29 0 0 4 (fun j => s 38 0 (4 * m + j))) 30 0 0 84 (fun j => s 39 0 (84 * m + j))) 31 0 0 18 (fun j => s 40 0 (18 * m + j)) a b c = V a b c := fun a b c z => by
    rw [jfl_ne _ _ _ _ _ _ _ _ _ (by omega), jfl_ne _ _ _ _ _ _ _ _ _ (by omega), jfl_ne _ _ _ _ _ _ _ _ _ (by omega), jup_n _ _ _ _ _ _ _ _ (by omega)]
  have t10 : jfl (jfl (jfl (jup V 11 0 10 (m : Int)) 29 0 0 4 (fun j => s 38 0 (4 * m + j))) 30 0 0 84 (fun j => s 39 0 (84 * m + j))) 31 0 0 18 (fun j => s 40 0 (18 * m + j)) 11 0 10 = (m : Int) := by
    rw [jfl_ne _ _ _ _ _ _ _ _ _ (by omega), jfl_ne _ _ _ _ _ _ _ _ _ (by omega), jfl_ne _ _ _ _ _ _ _ _ _ (by omega), w10]
  generalize jfl (jfl (jfl (jup V 11 0 10 (m : Int)) 29 0 0 4 (fun j => s 38 0 (4 * m + j))) 30 0 0 84 (fun j => s 39 0 (84 * m + j))) 31 0 0 18 (fun j => s 40 0 (18 * m + j)) = T at *
  have tS : ∀ a b c, ¬ (29 ≤ a ∧ a ≤ 31 ∨ a = 11 ∧ c = 10 ∨ (a = 1 ∨ a = 16) ∧ b = i ∨ a = 6) → T a b c = s a b c := fun a b c z => by rw [tV _ _ _ (by omega), vo _ _ _ (by omega)]
  obtain ⟨g1, g2, g3⟩ := e1
  have hD : ∀ r, r < 4 → s 38 0 (4 * m + r) = if s 5 q 1 = 0 ∧ s 5 q 2 = (r : Int) then s 1 (46 + q) 1 else s 29 0 r := fun r hr => by
    have := g1 r hr
    unfold sD at this
    rw [if_pos (show m < m + 1 by omega), if_neg (show ¬ m + 1 < m + 1 by omega)] at this
    exact this
  have hN : ∀ r, r < 4 → ∀ j, j < 21 → s 39 0 (84 * m + (21 * r + j)) = if s 5 q 1 = 0 ∧ s 5 q 2 = (r : Int) then s 16 (46 + q) j else s 30 0 (21 * r + j) := fun r hr j hj => by
    have := g2 r hr j hj
    unfold sN at this
    rw [if_pos (show m < m + 1 by omega), if_neg (show ¬ m + 1 < m + 1 by omega)] at this
    exact this
  have hL : ∀ r, r < 6 → ∀ j, j < 3 → s 40 0 (18 * m + (3 * r + j)) = if s 5 q 1 = 1 ∧ s 5 q 2 = (r : Int) then s 16 (46 + q) j else s 31 0 (3 * r + j) := fun r hr j hj => by
    have := g3 r hr j hj
    unfold sL at this
    rw [if_pos (show m < m + 1 by omega), if_neg (show ¬ m + 1 < m + 1 by omega)] at this
    exact this
  refine ⟨⟨fun r hr => ?_, fun r hr => ?_⟩, RK_cg (fun a b c z => tS _ _ _ (by omega)) hK, RR_cg (fun a b c z => tS _ _ _ (by omega)) hR, RT_cg (fun a b c z => tS _ _ _ (by omega)) hT, RI_cg (fun a b c z => tS _ _ _ (by omega)) hIm, ⟨m, q, ?_, t10, by omega, ?_, by omega, fun u hu => ?_⟩, TI_cg (fun j => tS _ _ _ (by omega)) hTI⟩
  · obtain ⟨b1, b2, b3⟩ := hB.1 r hr
    rw [Nat.zero_add] at *
    rw [t29 r hr, hD r hr]
    by_cases e : r = i
    · have e0 : s 5 q 1 = 0 ∧ s 5 q 2 = (r : Int) := by omega
      rw [if_pos e0, e, tV _ _ _ (by omega), vd]
      refine ⟨rfl, FW_c k1.2 (fun j hj => by rw [tV _ _ _ (by omega), vn j hj]), fun j hj => ?_⟩
      rw [tV _ _ _ (by omega), vn j hj, t30 _ (by omega), ← e, hN r hr j hj, if_pos e0]
    · have e0 : ¬ (s 5 q 1 = 0 ∧ s 5 q 2 = (r : Int)) := by omega
      rw [if_neg e0, tS _ _ _ (by omega)]
      refine ⟨b1, FW_c b2 (fun j hj => tS _ _ _ (by omega)), fun j hj => ?_⟩
      rw [tS _ _ _ (by omega), t30 _ (by omega), hN r hr j hj, if_neg e0]
      exact b3 j hj
  · obtain ⟨b1, b2, b3⟩ := hB.2 r hr
    rw [Nat.zero_add] at *
    by_cases e : 4 + r = i
    · have e0 : s 5 q 1 = 1 ∧ s 5 q 2 = (r : Int) ∧ s 1 (46 + q) 1 = 1 := by omega
      have hF := k1.2
      rw [e0.2.2] at hF
      rw [e, tV _ _ _ (by omega), vd]
      refine ⟨e0.2.2, FW_c hF (fun j hj => by rw [tV _ _ _ (by omega), vn j hj]), fun j hj => ?_⟩
      rw [tV _ _ _ (by omega), vn j (by omega), t31 _ (by omega), hL r hr j hj, if_pos ⟨e0.1, e0.2.1⟩]
    · have e0 : ¬ (s 5 q 1 = 1 ∧ s 5 q 2 = (r : Int)) := by omega
      rw [tS _ _ _ (by omega)]
      refine ⟨b1, FW_c b2 (fun j hj => tS _ _ _ (by omega)), fun j hj => ?_⟩
      rw [tS _ _ _ (by omega), t31 _ (by omega), hL r hr j hj, if_neg e0]
      exact b3 j hj
  · rw [tV _ _ _ (by omega), v62]
  · rw [tV _ _ _ (by omega), v61]
  · obtain ⟨a1, a2⟩ := s6 u (by omega)
    rw [show (nx + 8 - (m + 1) + u) % 8 = (q + 8 - m + u) % 8 by omega] at a1 a2
    generalize (q + 8 - m + u) % 8 = p at *
    have hDD : ∀ v, v ≤ m → ∀ r, r < 4 → sD T m v r = sD s (m + 1) v r := fun v hv r hr => by
      unfold sD
      rw [if_pos (show v < m + 1 by omega)]
      by_cases e : v < m
      · rw [if_pos e, tS _ _ _ (by omega)]
      · rw [if_neg e, t29 r hr, show v = m by omega]
    have hNN : ∀ v, v ≤ m → ∀ r, r < 84 → sN T m v r = sN s (m + 1) v r := fun v hv r hr => by
      unfold sN
      rw [if_pos (show v < m + 1 by omega)]
      by_cases e : v < m
      · rw [if_pos e, tS _ _ _ (by omega)]
      · rw [if_neg e, t30 r hr, show v = m by omega]
    have hLL : ∀ v, v ≤ m → ∀ r, r < 18 → sL T m v r = sL s (m + 1) v r := fun v hv r hr => by
      unfold sL
      rw [if_pos (show v < m + 1 by omega)]
      by_cases e : v < m
      · rw [if_pos e, tS _ _ _ (by omega)]
      · rw [if_neg e, t31 r hr, show v = m by omega]
    have f5 : ∀ j, T 5 p j = s 5 p j := fun j => tS _ _ _ (by omega)
    have f1 : T 1 (46 + p) 1 = s 1 (46 + p) 1 := tS _ _ _ (by omega)
    have f16 : ∀ j, T 16 (46 + p) j = s 16 (46 + p) j := fun j => tS _ _ _ (by omega)
    exact ⟨SK_cg f5 f1 f16 a1, SE_cg f5 f1 f16 (hDD u (by omega)) (hDD (u + 1) (by omega)) (hNN u (by omega)) (hNN (u + 1) (by omega)) (hLL u (by omega)) (hLL (u + 1) (by omega)) a2⟩
/-- counts -/
theorem cnt_step (g : Nat → Int) (v : Int) (i : Nat) (o : Nat → Option jR) (x y : Option jR) (hx : g i = v → x = o (cntN g v i + 1)) (hy : g i ≠ v → y = o (cntN g v i)) : (if g i = v then x else y) = o (cntN g v (i + 1)) := by
  by_cases c : g i = v
  · rw [if_pos c, cntN_yes c]; exact hx c
  · rw [if_neg c, cntN_no c]; exact hy c
def heldN (s : jM) : Nat := cntN (fun p => if s 15 0 p = -2 then 0 else 1) 1 12
def lineN (s : jM) : Nat := cntN (fun k => if s 16 (4 + k) 0 = 0 ∧ s 16 (4 + k) 1 = 0 ∧ s 16 (4 + k) 2 = 0 then 0 else 1) 1 6
def rowN (s : jM) : Nat := cntN (fun w => if s 22 0 w < 0 then 0 else 1) 1 3
theorem sq_59 (s : jM) : jq 59 [.inr (0, 0)] s = some (some (.inl (heldN s : Int)), s) := by
  rw [bq_59]
  unfold heldN
  refine loopI (P := fun i => je 59 4 [some (.inr (0, 0)), some (.inl (cntN (fun p => if s 15 0 p = -2 then 0 else 1) 1 i : Int)), some (.inl (i : Int))] [] s) (n := 12) (fun i hi => ?_) ?_
  · show je 59 4 _ [] _ = je 59 4 _ [] _
    have hl := cntN_le (fun p => if s 15 0 p = -2 then 0 else 1) 1 i
    rw [be_59_4, if_pos (by omega), if_pos (by omega), Int.toNat_natCast, jwn (x := (i : Int) + 1) (n := i + 1) (by omega) (by omega), jwn (x := (cntN (fun p => if s 15 0 p = -2 then 0 else 1) 1 i : Int) + 1) (n := cntN (fun p => if s 15 0 p = -2 then 0 else 1) 1 i + 1) (by omega) (by omega)]
    by_cases c : s 15 0 i = -2
    · rw [if_pos c, cntN_no (by show ¬ (if s 15 0 i = -2 then (0 : Int) else 1) = 1; rw [if_pos c]; decide)]
    · rw [if_neg c, cntN_yes (by show (if s 15 0 i = -2 then (0 : Int) else 1) = 1; rw [if_neg c])]
  · show je 59 4 _ [] _ = _
    rw [be_59_4, if_neg (by omega)]
theorem sq_119 (s : jM) : jq 119 [.inr (4, 0)] s = some (some (.inl (rowN s : Int)), s) := by
  rw [bq_119]
  unfold rowN
  refine loopI (P := fun i => je 119 4 [some (.inr (4, 0)), some (.inl (cntN (fun w => if s 22 0 w < 0 then 0 else 1) 1 i : Int)), some (.inl (i : Int))] [] s) (n := 3) (fun i hi => ?_) ?_
  · show je 119 4 _ [] _ = je 119 4 _ [] _
    have hl := cntN_le (fun w => if s 22 0 w < 0 then 0 else 1) 1 i
    rw [be_119_4, if_pos (by omega), sq_112 s i hi, jbI_s, ibI, jwn (x := (i : Int) + 1) (n := i + 1) (by omega) (by omega), jwn (x := (cntN (fun w => if s 22 0 w < 0 then 0 else 1) 1 i : Int) + 1) (n := cntN (fun w => if s 22 0 w < 0 then 0 else 1) 1 i + 1) (by omega) (by omega)]
    by_cases c : s 22 0 i < 0
    · rw [if_pos c, cntN_no (by show ¬ (if s 22 0 i < 0 then (0 : Int) else 1) = 1; rw [if_pos c]; decide)]
    · rw [if_neg c, cntN_yes (by show (if s 22 0 i < 0 then (0 : Int) else 1) = 1; rw [if_neg c])]
  · show je 119 4 _ [] _ = _
    rw [be_119_4, if_neg (by omega)]
theorem cnt3 (g : Nat → Int) : cntN g 0 3 = 3 ↔ g 0 = 0 ∧ g 1 = 0 ∧ g 2 = 0 := by
  rw [cnt_all]
  exact ⟨fun h => ⟨h 0 (by omega), h 1 (by omega), h 2 (by omega)⟩, fun h j hj => by
    have : j = 0 ∨ j = 1 ∨ j = 2 := by omega
    rcases this with e | e | e
    · rw [e]; exact h.1
    · rw [e]; exact h.2.1
    · rw [e]; exact h.2.2⟩
theorem sq_60 (s : jM) (h : ∀ k, k < 6 → s 1 (4 + k) 1 = 1) : jq 60 [.inr (0, 0)] s = some (some (.inl (lineN s : Int)), s) := by
  rw [bq_60]
  unfold lineN
  refine loopI (P := fun i => je 60 4 [some (.inr (0, 0)), some (.inl (cntN (fun k => if s 16 (4 + k) 0 = 0 ∧ s 16 (4 + k) 1 = 0 ∧ s 16 (4 + k) 2 = 0 then 0 else 1) 1 i : Int)), some (.inl (i : Int))] [] s) (n := 6) (fun i hi => ?_) ?_
  · show je 60 4 _ [] _ = je 60 4 _ [] _
    have hl := cntN_le (fun k => if s 16 (4 + k) 0 = 0 ∧ s 16 (4 + k) 1 = 0 ∧ s 16 (4 + k) 2 = 0 then 0 else 1) 1 i
    have q69 := sq_69 s (4 + i) 1 (h i hi) (by omega)
    have hc := cntN_le (s 16 (4 + i)) 0 3
    have h3 := cnt3 (s 16 (4 + i))
    have q69 : jq 69 [.inr (1, 4 + i)] s = some (some (.inl (3 - cntN (s 16 (4 + i)) 0 3)), s) := q69
    rw [be_60_4, if_pos (by omega), if_pos (by omega), Int.toNat_natCast, Nat.mul_zero, Nat.zero_add, q69, jbI_s, jwn (x := (i : Int) + 1) (n := i + 1) (by omega) (by omega), jwn (x := (cntN (fun k => if s 16 (4 + k) 0 = 0 ∧ s 16 (4 + k) 1 = 0 ∧ s 16 (4 + k) 2 = 0 then 0 else 1) 1 i : Int) + 1) (n := cntN (fun k => if s 16 (4 + k) 0 = 0 ∧ s 16 (4 + k) 1 = 0 ∧ s 16 (4 + k) 2 = 0 then 0 else 1) 1 i + 1) (by omega) (by omega)]
    by_cases c : s 16 (4 + i) 0 = 0 ∧ s 16 (4 + i) 1 = 0 ∧ s 16 (4 + i) 2 = 0
    · have := h3.mpr c
      rw [if_neg (by omega), cntN_no (by show ¬ (if s 16 (4 + i) 0 = 0 ∧ s 16 (4 + i) 1 = 0 ∧ s 16 (4 + i) 2 = 0 then (0 : Int) else 1) = 1; rw [if_pos c]; decide)]
    · have : cntN (s 16 (4 + i)) 0 3 ≠ 3 := fun z => c (h3.mp z)
      rw [if_pos (by omega), cntN_yes (by show (if s 16 (4 + i) 0 = 0 ∧ s 16 (4 + i) 1 = 0 ∧ s 16 (4 + i) 2 = 0 then (0 : Int) else 1) = 1; rw [if_neg c])]
  · show je 60 4 _ [] _ = _
    rw [be_60_4, if_neg (by omega)]
theorem sj_286 (s : jM) (hI : Inv s) (v : Int) : jq 286 [.inr (11, 0), .inl v] s = some (some (.inl (if v = 0 then s 6 0 2 else if v = 1 then s 8 0 1 else if v = 2 then (heldN s : Int) else if v = 3 then (lineN s : Int) else if v = 4 then (rowN s : Int) else -1)), s) := by
  obtain ⟨n, nx, t1, t2, -⟩ := hI.2.2.2.2.2.1
  have t3 := hI.2.2.2.1.1
  have e1 : je 286 4 [some (.inr (11, 0)), some (.inl v), some (.inl 0), some (.inl 0), none, none] [] s = je 286 4 [some (.inr (11, 0)), some (.inl v), some (.inl (heldN s : Int)), some (.inl (12 : Nat)), none, none] [] s := by
    unfold heldN
    refine loopI (P := fun i => je 286 4 [some (.inr (11, 0)), some (.inl v), some (.inl (cntN (fun p => if s 15 0 p = -2 then 0 else 1) 1 i : Int)), some (.inl (i : Int)), none, none] [] s) (n := 12) (fun i hi => ?_) rfl
    show je 286 4 _ [] _ = je 286 4 _ [] _
    have hl := cntN_le (fun p => if s 15 0 p = -2 then 0 else 1) 1 i
    rw [be_286_4, if_pos (by omega), if_pos (by omega), Int.toNat_natCast, jwn (x := (i : Int) + 1) (n := i + 1) (by omega) (by omega), jwn (x := (cntN (fun p => if s 15 0 p = -2 then 0 else 1) 1 i : Int) + 1) (n := cntN (fun p => if s 15 0 p = -2 then 0 else 1) 1 i + 1) (by omega) (by omega), jwn (x := (cntN (fun p => if s 15 0 p = -2 then 0 else 1) 1 i : Int) + 0) (n := cntN (fun p => if s 15 0 p = -2 then 0 else 1) 1 i) (by omega) (by omega)]
    have hr := inv_rack hI i hi
    by_cases c : s 15 0 i = -2
    · rw [if_pos (by omega), cntN_no (by show ¬ (if s 15 0 i = -2 then (0 : Int) else 1) = 1; rw [if_pos c]; decide)]
    · rw [if_neg (by omega), cntN_yes (by show (if s 15 0 i = -2 then (0 : Int) else 1) = 1; rw [if_neg c])]
  have e2 : ∀ o5, je 286 38 [some (.inr (11, 0)), some (.inl v), some (.inl (heldN s : Int)), some (.inl 0), some (.inl 0), o5] [] s = je 286 38 [some (.inr (11, 0)), some (.inl v), some (.inl (heldN s : Int)), some (.inl (lineN s : Int)), some (.inl (6 : Nat)), o5] [] s := fun o5 => by
    unfold lineN
    refine loopI (P := fun i => je 286 38 [some (.inr (11, 0)), some (.inl v), some (.inl (heldN s : Int)), some (.inl (cntN (fun k => if s 16 (4 + k) 0 = 0 ∧ s 16 (4 + k) 1 = 0 ∧ s 16 (4 + k) 2 = 0 then 0 else 1) 1 i : Int)), some (.inl (i : Int)), o5] [] s) (n := 6) (fun i hi => ?_) rfl
    show je 286 38 _ [] _ = je 286 38 _ [] _
    have hl := cntN_le (fun k => if s 16 (4 + k) 0 = 0 ∧ s 16 (4 + k) 1 = 0 ∧ s 16 (4 + k) 2 = 0 then 0 else 1) 1 i
    obtain ⟨-, -, k3, -⟩ := inv_line hI i hi
    have g0 := k3 0 (by omega)
    have g1 := k3 1 (by omega)
    have g2 := k3 2 (by omega)
    rw [Nat.add_zero] at g0
    rw [be_286_38, if_pos (by omega), jwi (x := 3 * (i : Int)) (by omega) (by omega), if_pos (by omega), show (3 * (i : Int)).toNat = 3 * i by omega, ← g0, jwi (x := 3 * (i : Int) + 1) (by omega) (by omega), show (3 * (i : Int) + 1).toNat = 3 * i + 1 by omega, ← g1, jwi (x := 3 * (i : Int) + 2) (by omega) (by omega), show (3 * (i : Int) + 2).toNat = 3 * i + 2 by omega, ← g2, jwn (x := (i : Int) + 1) (n := i + 1) (by omega) (by omega), jwn (x := (cntN (fun k => if s 16 (4 + k) 0 = 0 ∧ s 16 (4 + k) 1 = 0 ∧ s 16 (4 + k) 2 = 0 then 0 else 1) 1 i : Int) + 1) (n := cntN (fun k => if s 16 (4 + k) 0 = 0 ∧ s 16 (4 + k) 1 = 0 ∧ s 16 (4 + k) 2 = 0 then 0 else 1) 1 i + 1) (by omega) (by omega), jwn (x := (cntN (fun k => if s 16 (4 + k) 0 = 0 ∧ s 16 (4 + k) 1 = 0 ∧ s 16 (4 + k) 2 = 0 then 0 else 1) 1 i : Int) + 0) (n := cntN (fun k => if s 16 (4 + k) 0 = 0 ∧ s 16 (4 + k) 1 = 0 ∧ s 16 (4 + k) 2 = 0 then 0 else 1) 1 i) (by omega) (by omega)]
    by_cases c : s 16 (4 + i) 0 = 0 ∧ s 16 (4 + i) 1 = 0 ∧ s 16 (4 + i) 2 = 0
    · rw [if_pos c.1, if_pos (by omega), if_pos c.2.1, if_pos (by omega), if_pos c.2.2, cntN_no (by show ¬ (if s 16 (4 + i) 0 = 0 ∧ s 16 (4 + i) 1 = 0 ∧ s 16 (4 + i) 2 = 0 then (0 : Int) else 1) = 1; rw [if_pos c]; decide)]
    · rw [cntN_yes (by show (if s 16 (4 + i) 0 = 0 ∧ s 16 (4 + i) 1 = 0 ∧ s 16 (4 + i) 2 = 0 then (0 : Int) else 1) = 1; rw [if_neg c])]
      by_cases c0 : s 16 (4 + i) 0 = 0
      · rw [if_pos c0, if_pos (by omega)]
        by_cases c1 : s 16 (4 + i) 1 = 0
        · rw [if_pos c1, if_pos (by omega), if_neg (fun z => c ⟨c0, c1, z⟩)]
        · rw [if_neg c1]
      · rw [if_neg c0]
  have e3 : je 286 105 [some (.inr (11, 0)), some (.inl v), some (.inl (heldN s : Int)), some (.inl (lineN s : Int)), some (.inl 0), some (.inl 0)] [] s = je 286 105 [some (.inr (11, 0)), some (.inl v), some (.inl (heldN s : Int)), some (.inl (lineN s : Int)), some (.inl (rowN s : Int)), some (.inl (3 : Nat))] [] s := by
    unfold rowN
    refine loopI (P := fun i => je 286 105 [some (.inr (11, 0)), some (.inl v), some (.inl (heldN s : Int)), some (.inl (lineN s : Int)), some (.inl (cntN (fun w => if s 22 0 w < 0 then 0 else 1) 1 i : Int)), some (.inl (i : Int))] [] s) (n := 3) (fun i hi => ?_) rfl
    show je 286 105 _ [] _ = je 286 105 _ [] _
    have hl := cntN_le (fun w => if s 22 0 w < 0 then 0 else 1) 1 i
    obtain ⟨a, -⟩ := inv_row hI i hi
    rw [be_286_105, if_pos (by omega), if_pos (by omega), Int.toNat_natCast, a, jwn (x := (i : Int) + 1) (n := i + 1) (by omega) (by omega), jwn (x := (cntN (fun w => if s 22 0 w < 0 then 0 else 1) 1 i : Int) + 1) (n := cntN (fun w => if s 22 0 w < 0 then 0 else 1) 1 i + 1) (by omega) (by omega), jwn (x := (cntN (fun w => if s 22 0 w < 0 then 0 else 1) 1 i : Int) + 0) (n := cntN (fun w => if s 22 0 w < 0 then 0 else 1) 1 i) (by omega) (by omega)]
    by_cases c : s 22 0 i < 0
    · rw [if_pos c, cntN_no (by show ¬ (if s 22 0 i < 0 then (0 : Int) else 1) = 1; rw [if_pos c]; decide)]
    · rw [if_neg c, cntN_yes (by show (if s 22 0 i < 0 then (0 : Int) else 1) = 1; rw [if_neg c])]
  rw [bq_286, e1, be_286_4, if_neg (by omega), e2, be_286_38, if_neg (by omega), e3, be_286_105, if_neg (by omega), t2, ← t1, ← t3]
  by_cases c0 : v = 0
  · rw [if_pos c0, if_pos c0]
  rw [if_neg c0, if_neg c0]
  by_cases c1 : v = 1
  · rw [if_pos c1, if_pos c1]
  rw [if_neg c1, if_neg c1]
  by_cases c2 : v = 2
  · rw [if_pos c2, if_pos c2]
  rw [if_neg c2, if_neg c2]
  by_cases c3 : v = 3
  · rw [if_pos c3, if_pos c3]
  rw [if_neg c3, if_neg c3]
  by_cases c4 : v = 4
  · rw [if_pos c4, if_pos c4]
  rw [if_neg c4, if_neg c4]
theorem ap_37 (s : jM) (hI : Inv s) (v1 : Int) : Go s 37 286 [.inl v1] := by
  refine go_no _ hI ?_ (sj_286 s hI v1)
  rw [bq_37]
  by_cases c0 : v1 = 0
  · rw [if_pos c0, if_pos c0]
  rw [if_neg c0, if_neg c0]
  by_cases c1 : v1 = 1
  · rw [if_pos c1, if_pos c1]
  rw [if_neg c1, if_neg c1]
  by_cases c2 : v1 = 2
  · rw [if_pos c2, if_pos c2, sq_59, jbI_s]
  rw [if_neg c2, if_neg c2]
  by_cases c3 : v1 = 3
  · rw [if_pos c3, if_pos c3, sq_60 s (fun k hk => (inv_line hI k hk).1), jbI_s]
  rw [if_neg c3, if_neg c3]
  by_cases c4 : v1 = 4
  · rw [if_pos c4, if_pos c4, sq_119, jbI_s]
  rw [if_neg c4, if_neg c4]
