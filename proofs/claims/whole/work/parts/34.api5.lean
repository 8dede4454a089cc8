/-! CALLS THAT ONLY TELL -/
theorem cntN_c {g h : Nat → Int} (v : Int) : ∀ n, (∀ j, j < n → g j = h j) → cntN g v n = cntN h v n
  | 0, _ => rfl
  | n + 1, e => by unfold cntN; rw [cntN_c v n (fun j hj => e j (by omega)), e n (by omega)]
theorem two_c {g h : Nat → Int} {n : Nat} (e : ∀ j, j < n → g j = h j) : two g n ↔ two h n := by
  unfold two
  exact ⟨fun z m hm hne => z m hm (by rw [e m hm]; exact hne), fun z m hm hne => z m hm (by rw [← e m hm]; exact hne)⟩
theorem vsum_c {g g' h h' : Nat → Int} {n : Nat} (e : ∀ j, j < n → g j = g' j) (e2 : ∀ j, j < n → h j = h' j) : vsum g h n = vsum g' h' n := by
  unfold vsum
  exact fold_c _ n (fun i hi => by rw [e i hi, e2 i hi])
/-- of -/
theorem ap_2 (s : jM) (hI : Inv s) (v1 v2 v3 : Int) : Go s 2 219 [.inl v1, .inl v2, .inl v3] := by
  by_cases h1 : 0 ≤ v1 ∧ v1 < 4
  rotate_left
  · exact go_no (-1) hI (by rw [bq_2]; repeat (first | rw [jbI_s] | rw [jbV_s] | rw [bI_t (by omega)] | rw [bI_f (by omega)] | rw [if_pos (by omega)] | rw [if_neg (by omega)] | rw [sq_39])) (by rw [bq_219, sq_217 s v1 v2 v3 0 (by omega) (fun z => absurd z h1)]; repeat (first | rw [jbI_s] | rw [jbV_s] | rw [bI_t (by omega)] | rw [bI_f (by omega)] | rw [if_pos (by omega)] | rw [if_neg (by omega)]))
  obtain ⟨r, rfl⟩ := nat_of v1 h1.1
  obtain ⟨d, hd, r1, r2, r3, r4, r5, r6, r7⟩ := inv_reg hI r (by omega)
  have h217 := sq_217 s r v2 v3 d hd (fun _ => by rw [Int.toNat_natCast]; exact r2)
  by_cases h2 : 0 ≤ v2 ∧ v2 ≤ d ∧ 0 ≤ v3 ∧ v3 ≤ d - v2
  rotate_left
  · exact go_no (-1) hI (by rw [bq_2]; simp (disch := omega) only [sq_39, r1, sq_44, iteT, or_true, true_or, jbI_s, jbV_s, jbR_s, bI_t, bI_f, if_pos, if_neg, jwi, tm101, Int.toNat_natCast, ca1, ca2, cm3, cm4, cm18, cm21, cm40, cm84, ca, Nat.mul_zero, Nat.zero_add]) (by rw [bq_219, h217]; repeat (first | rw [jbI_s] | rw [jbV_s] | rw [bI_t (by omega)] | rw [bI_f (by omega)] | rw [if_pos (by omega)] | rw [if_neg (by omega)]))
  obtain ⟨a, rfl⟩ := nat_of v2 h2.1
  obtain ⟨b, rfl⟩ := nat_of v3 h2.2.2.1
  obtain ⟨p1, p2, p3⟩ := pl_lt b (by omega) (d - a - b) (by omega) (by omega)
  have c46 := sq_46 b (d - a - b) (by omega) (by omega)
  have m204 := fun s => sq_204 d a b hd (by omega) s
  generalize hp : pl b (d - a - b) = p at *
  have q62 := sq_62 r p p1 s
  have ec : (.inl ((d : Int) - a - b) : jV) = .inl ((d - a - b : Nat) : Int) := by congr 1; omega
  refine go_no (s 16 r p) hI ?_ ?_
  · rw [bq_2]
    repeat (first | rw [jbI_s] | rw [jbV_s] | rw [bI_t (by omega)] | rw [bI_f (by omega)] | rw [if_pos (by omega)] | rw [if_neg (by omega)] | rw [sq_39] | rw [Nat.mul_zero] | rw [Nat.zero_add] | rw [Int.toNat_natCast] | rw [r1] | rw [sq_44 d hd] | rw [jwi (x := (d : Int) - a) (by omega) (by omega)] | rw [jwi (x := (d : Int) - a - b) (by omega) (by omega)] | rw [ec] | rw [c46] | rw [q62])
  · rw [bq_219, h217]
    repeat (first | rw [jbI_s] | rw [jbV_s] | rw [bI_t (by omega)] | rw [bI_f (by omega)] | rw [if_pos (by omega)] | rw [if_neg (by omega)] | rw [Int.toNat_natCast] | rw [r2] | rw [m204])
    simp (disch := omega) only [r4, iteT, or_true, true_or, jbI_s, jbV_s, jbR_s, bI_t, bI_f, if_pos, if_neg, jwi, tm101, Int.toNat_natCast, ca1, ca2, cm3, cm4, cm18, cm21, cm40, cm84, ca, Nat.mul_zero, Nat.zero_add]
/-- told -/
theorem ap_3 (s : jM) (hI : Inv s) (v1 v2 : Int) : Go s 3 222 [.inl v1, .inl v2] := by
  by_cases h1 : 0 ≤ v1 ∧ v1 < 4
  rotate_left
  · exact go_no (-1) hI (by rw [bq_3]; repeat (first | rw [jbI_s] | rw [jbV_s] | rw [bI_t (by omega)] | rw [bI_f (by omega)] | rw [if_pos (by omega)] | rw [if_neg (by omega)] | rw [sq_39])) (by rw [bq_222]; repeat (first | rw [jbI_s] | rw [jbV_s] | rw [bI_t (by omega)] | rw [bI_f (by omega)] | rw [if_pos (by omega)] | rw [if_neg (by omega)] | rw [sq_201]))
  by_cases h2 : 0 ≤ v2 ∧ v2 < 4
  rotate_left
  · exact go_no (-1) hI (by rw [bq_3]; repeat (first | rw [jbI_s] | rw [jbV_s] | rw [bI_t (by omega)] | rw [bI_f (by omega)] | rw [if_pos (by omega)] | rw [if_neg (by omega)] | rw [sq_39] | rw [sq_38])) (by rw [bq_222]; repeat (first | rw [jbI_s] | rw [jbV_s] | rw [bI_t (by omega)] | rw [bI_f (by omega)] | rw [if_pos (by omega)] | rw [if_neg (by omega)] | rw [sq_201] | rw [sq_200]))
  obtain ⟨r, rfl⟩ := nat_of v1 h1.1
  obtain ⟨d, hd, r1, r2, r3, r4, r5, r6, r7⟩ := inv_reg hI r (by omega)
  have em := mnN_le d hd
  have b3 := bq_3 r v2 s
  have b222 := bq_222 r v2 s
  by_cases c0 : v2 = 0
  · refine go_no (d : Int) hI ?_ ?_
    · rw [b3]; repeat (first | rw [jbI_s] | rw [jbV_s] | rw [bI_t (by omega)] | rw [bI_f (by omega)] | rw [if_pos (by omega)] | rw [if_neg (by omega)] | rw [sq_39] | rw [sq_38] | rw [Nat.mul_zero] | rw [Nat.zero_add] | rw [Int.toNat_natCast] | rw [r1])
    · rw [b222]; repeat (first | rw [jbI_s] | rw [jbV_s] | rw [bI_t (by omega)] | rw [bI_f (by omega)] | rw [if_pos (by omega)] | rw [if_neg (by omega)] | rw [sq_201] | rw [sq_200] | rw [Int.toNat_natCast] | rw [r2])
  by_cases c1 : v2 = 1
  · refine go_no (mnN d : Int) hI ?_ ?_
    · rw [b3]; repeat (first | rw [jbI_s] | rw [jbV_s] | rw [bI_t (by omega)] | rw [bI_f (by omega)] | rw [if_pos (by omega)] | rw [if_neg (by omega)] | rw [sq_39] | rw [sq_38] | rw [Nat.mul_zero] | rw [Nat.zero_add] | rw [Int.toNat_natCast] | rw [sq_61 s r d r1 hd])
    · rw [b222]; repeat (first | rw [jbI_s] | rw [jbV_s] | rw [bI_t (by omega)] | rw [bI_f (by omega)] | rw [if_pos (by omega)] | rw [if_neg (by omega)] | rw [sq_201] | rw [sq_200] | rw [Int.toNat_natCast] | rw [r2] | rw [sq_203 d hd])
  by_cases c2 : v2 = 2
  · have e := cntN_c 0 (mnN d) (fun j hj => r4 j (by omega))
    refine go_no ((mnN d : Int) - cntN (s 16 r) 0 (mnN d)) hI ?_ ?_
    · rw [b3]; repeat (first | rw [jbI_s] | rw [jbV_s] | rw [bI_t (by omega)] | rw [bI_f (by omega)] | rw [if_pos (by omega)] | rw [if_neg (by omega)] | rw [sq_39] | rw [sq_38] | rw [Nat.mul_zero] | rw [Nat.zero_add] | rw [Int.toNat_natCast] | rw [sq_69 s r d r1 hd])
    · rw [b222]; repeat (first | rw [jbI_s] | rw [jbV_s] | rw [bI_t (by omega)] | rw [bI_f (by omega)] | rw [if_pos (by omega)] | rw [if_neg (by omega)] | rw [sq_201] | rw [sq_200] | rw [sq_221 s r d (by omega) hd r2] | rw [e])
  · obtain ⟨x, q1, q2, q3⟩ := sq_70 s r d r1 hd
    obtain ⟨y, w1, w2, w3⟩ := sq_220 s r d (by omega) hd r2
    have e := two_c (g := s 16 r) (h := fun m => s 30 0 (21 * r + m)) (n := mnN d) (fun j hj => r4 j (by omega))
    have exy : x = y := by
      by_cases cx : x = 1
      · rw [cx, w3.mpr (e.mp (q3.mp cx))]
      · by_cases cy : y = 1
        · exact absurd (q3.mpr (e.mpr (w3.mp cy))) cx
        · omega
    subst exy
    by_cases cx : x = 0
    · refine go_no 0 hI ?_ ?_
      · rw [b3]; repeat (first | rw [jbI_s] | rw [jbV_s] | rw [bI_t (by omega)] | rw [bI_f (by omega)] | rw [if_pos (by omega)] | rw [if_neg (by omega)] | rw [sq_39] | rw [sq_38] | rw [Nat.mul_zero] | rw [Nat.zero_add] | rw [Int.toNat_natCast] | rw [q1])
      · rw [b222]; repeat (first | rw [jbI_s] | rw [jbV_s] | rw [bI_t (by omega)] | rw [bI_f (by omega)] | rw [if_pos (by omega)] | rw [if_neg (by omega)] | rw [sq_201] | rw [sq_200] | rw [w1])
    · refine go_no 1 hI ?_ ?_
      · rw [b3]; repeat (first | rw [jbI_s] | rw [jbV_s] | rw [bI_t (by omega)] | rw [bI_f (by omega)] | rw [if_pos (by omega)] | rw [if_neg (by omega)] | rw [sq_39] | rw [sq_38] | rw [Nat.mul_zero] | rw [Nat.zero_add] | rw [Int.toNat_natCast] | rw [q1])
      · rw [b222]; repeat (first | rw [jbI_s] | rw [jbV_s] | rw [bI_t (by omega)] | rw [bI_f (by omega)] | rw [if_pos (by omega)] | rw [if_neg (by omega)] | rw [sq_201] | rw [sq_200] | rw [w1])
/-- lineOf -/
theorem ap_8 (s : jM) (hI : Inv s) (v1 v2 : Int) : Go s 8 228 [.inl v1, .inl v2] := by
  by_cases h1 : 0 ≤ v1 ∧ v1 < 6
  rotate_left
  · exact go_no (-1) hI (by rw [bq_8]; repeat (first | rw [jbI_s] | rw [jbV_s] | rw [bI_t (by omega)] | rw [bI_f (by omega)] | rw [if_pos (by omega)] | rw [if_neg (by omega)] | rw [sq_40])) (by rw [bq_228]; repeat (first | rw [jbI_s] | rw [jbV_s] | rw [bI_t (by omega)] | rw [bI_f (by omega)] | rw [if_pos (by omega)] | rw [if_neg (by omega)] | rw [sq_202]))
  by_cases h2 : 0 ≤ v2 ∧ v2 < 3
  rotate_left
  · exact go_no (-1) hI (by rw [bq_8]; repeat (first | rw [jbI_s] | rw [jbV_s] | rw [bI_t (by omega)] | rw [bI_f (by omega)] | rw [if_pos (by omega)] | rw [if_neg (by omega)] | rw [sq_40] | rw [sq_38])) (by rw [bq_228]; repeat (first | rw [jbI_s] | rw [jbV_s] | rw [bI_t (by omega)] | rw [bI_f (by omega)] | rw [if_pos (by omega)] | rw [if_neg (by omega)] | rw [sq_202] | rw [sq_200]))
  obtain ⟨k, rfl⟩ := nat_of v1 h1.1
  obtain ⟨j, rfl⟩ := nat_of v2 h2.1
  obtain ⟨k1, k2, k3, k4, k5, k6⟩ := inv_line hI k (by omega)
  have e := k3 j (by omega)
  refine go_no (s 16 (4 + k) j) hI ?_ ?_
  · rw [bq_8]; repeat (first | rw [jbI_s] | rw [jbV_s] | rw [bI_t (by omega)] | rw [bI_f (by omega)] | rw [if_pos (by omega)] | rw [if_neg (by omega)] | rw [sq_40] | rw [sq_38] | rw [Nat.mul_zero] | rw [Nat.zero_add] | rw [Int.toNat_natCast] | rw [sq_62 (4 + k) j (by omega)])
  · rw [bq_228]
    repeat (first | rw [jbI_s] | rw [jbV_s] | rw [bI_t (by omega)] | rw [bI_f (by omega)] | rw [if_pos (by omega)] | rw [if_neg (by omega)] | rw [sq_202] | rw [sq_200] | rw [jwi (x := 3 * (k : Int)) (by omega) (by omega)] | rw [jwi (x := 3 * (k : Int) + j) (by omega) (by omega)])
    rw [e, show (3 * (k : Int) + j).toNat = 3 * k + j by omega]
/-- value -/
theorem ap_11 (s : jM) (hI : Inv s) (v1 v2 : Int) : Go s 11 233 [.inl v1, .inl v2] := by
  by_cases h1 : 0 ≤ v1 ∧ v1 < 4
  rotate_left
  · exact go_no (-1) hI (by rw [bq_11]; repeat (first | rw [jbI_s] | rw [jbV_s] | rw [bI_t (by omega)] | rw [bI_f (by omega)] | rw [if_pos (by omega)] | rw [if_neg (by omega)] | rw [sq_39])) (by rw [bq_233]; repeat (first | rw [jbI_s] | rw [jbV_s] | rw [bI_t (by omega)] | rw [bI_f (by omega)] | rw [if_pos (by omega)] | rw [if_neg (by omega)] | rw [sq_201]))
  by_cases h2 : 0 ≤ v2 ∧ v2 < 6
  rotate_left
  · exact go_no (-1) hI (by rw [bq_11]; repeat (first | rw [jbI_s] | rw [jbV_s] | rw [bI_t (by omega)] | rw [bI_f (by omega)] | rw [if_pos (by omega)] | rw [if_neg (by omega)] | rw [sq_39] | rw [sq_40])) (by rw [bq_233]; repeat (first | rw [jbI_s] | rw [jbV_s] | rw [bI_t (by omega)] | rw [bI_f (by omega)] | rw [if_pos (by omega)] | rw [if_neg (by omega)] | rw [sq_201] | rw [sq_202]))
  obtain ⟨r, rfl⟩ := nat_of v1 h1.1
  obtain ⟨k, rfl⟩ := nat_of v2 h2.1
  obtain ⟨d, hd, r1, r2, r3, r4, r5, r6, r7⟩ := inv_reg hI r (by omega)
  obtain ⟨k1, k2, k3, k4, k5, k6⟩ := inv_line hI k (by omega)
  have em := mnN_le d hd
  have q74 := sq_74 s r (4 + k) d r1 hd r5 k4
  have q232 := sq_232 s r d k (by omega) hd (by omega) r2 r6 k5
  have e := vsum_c (g := s 16 r) (g' := fun m => s 30 0 (21 * r + m)) (h := mat s (4 + k) d) (h' := mmt s k d) (n := mnN d) (fun j hj => r4 j (by omega)) (fun j _ => k6 d j)
  refine go_no (vsum (s 16 r) (mat s (4 + k) d) (mnN d)) hI ?_ ?_
  · rw [bq_11]; repeat (first | rw [jbI_s] | rw [jbV_s] | rw [bI_t (by omega)] | rw [bI_f (by omega)] | rw [if_pos (by omega)] | rw [if_neg (by omega)] | rw [sq_39] | rw [sq_40] | rw [Nat.mul_zero] | rw [Nat.zero_add] | rw [Int.toNat_natCast] | rw [q74])
  · rw [bq_233]; repeat (first | rw [jbI_s] | rw [jbV_s] | rw [bI_t (by omega)] | rw [bI_f (by omega)] | rw [if_pos (by omega)] | rw [if_neg (by omega)] | rw [sq_201] | rw [sq_202] | rw [q232] | rw [e])
/-- kills -/
theorem cnt_all {g : Nat → Int} {v : Int} : ∀ n, cntN g v n = n ↔ ∀ j, j < n → g j = v
  | 0 => ⟨fun _ j hj => absurd hj (by omega), fun _ => rfl⟩
  | n + 1 => by
    have ih := cnt_all (g := g) (v := v) n
    have hl := cntN_le g v n
    unfold cntN
    by_cases c : g n = v
    · rw [if_pos c]
      refine ⟨fun e j hj => ?_, fun e => by rw [ih.mpr (fun j hj => e j (by omega))]⟩
      by_cases c2 : j = n
      · rw [c2]; exact c
      · exact ih.mp (by omega) j (by omega)
    · rw [if_neg c]
      exact ⟨fun e => by omega, fun e => absurd (e n (by omega)) c⟩
theorem sj_234 (U : jM) (r t d : Nat) (g : Nat → Int) (hd : d ≤ 5) (h1 : U 11 0 21 = (d : Int)) (h2 : ∀ j, j < 21 → U 47 0 j = g j) : je 234 42 [some (.inr (11, 0)), some (.inl (r : Int)), some (.inl (t : Int)), some (.inl 0)] [] U = some (some (.inl (if cntN g 0 (mnN d) = mnN d then 1 else 0)), U) := by
  have em := mnN_le d hd
  have key : ∀ c m, m + c = mnN d → (∀ j, j < m → g j = 0) → je 234 42 [some (.inr (11, 0)), some (.inl (r : Int)), some (.inl (t : Int)), some (.inl (m : Int))] [] U = some (some (.inl (if cntN g 0 (mnN d) = mnN d then 1 else 0)), U) := by
    intro c
    induction c with
    | zero =>
      intro m hm hj
      rw [be_234_42, h1, if_pos ((cnt_all _).mpr (fun j hj2 => hj j (by omega)))]
      simp (disch := omega) only [sq_203, iteT, or_true, true_or, jbI_s, jbV_s, jbR_s, bI_t, bI_f, if_pos, if_neg, jwi, tm101, Int.toNat_natCast, ca1, ca2, cm3, cm4, cm18, cm21, cm40, cm84, ca, Nat.mul_zero, Nat.zero_add]
    | succ c ih =>
      intro m hm hj
      have e := h2 m (by omega)
      rw [be_234_42, h1]
      simp (disch := omega) only [sq_203, e, iteT, or_true, true_or, jbI_s, jbV_s, jbR_s, bI_t, bI_f, if_pos, if_neg, jwi, tm101, Int.toNat_natCast, ca1, ca2, cm3, cm4, cm18, cm21, cm40, cm84, ca, Nat.mul_zero, Nat.zero_add]
      by_cases c0 : g m = 0
      · rw [if_pos c0]
        refine ih (m + 1) (by omega) (fun j hj2 => ?_)
        by_cases c2 : j = m
        · rw [c2]; exact c0
        · exact hj j (by omega)
      · rw [if_neg c0, if_neg (fun z => c0 ((cnt_all _).mp z m (by omega)))]
  exact key (mnN d) 0 (by omega) (fun j hj => absurd hj (by omega))
theorem kp_mset (s : jM) (d : Int) (g : Nat → Int) : Kp s (mset s d g) := by
  intro k i j h
  unfold Scr at h
  exact mset_o _ _ _ _ _ _ (by omega) (by omega)
theorem ap_12 (s : jM) (hI : Inv s) (v1 v2 : Int) : Go s 12 234 [.inl v1, .inl v2] := by
  by_cases h1 : 0 ≤ v1 ∧ v1 < 4
  rotate_left
  · exact go_no (-1) hI (by rw [bq_12]; repeat (first | rw [jbI_s] | rw [jbV_s] | rw [bI_t (by omega)] | rw [bI_f (by omega)] | rw [if_pos (by omega)] | rw [if_neg (by omega)] | rw [sq_39])) (by rw [bq_234]; repeat (first | rw [jbI_s] | rw [jbV_s] | rw [bI_t (by omega)] | rw [bI_f (by omega)] | rw [if_pos (by omega)] | rw [if_neg (by omega)] | rw [sq_201]))
  by_cases h2 : 0 ≤ v2 ∧ v2 < 4
  rotate_left
  · exact go_no (-1) hI (by rw [bq_12]; repeat (first | rw [jbI_s] | rw [jbV_s] | rw [bI_t (by omega)] | rw [bI_f (by omega)] | rw [if_pos (by omega)] | rw [if_neg (by omega)] | rw [sq_39])) (by rw [bq_234]; repeat (first | rw [jbI_s] | rw [jbV_s] | rw [bI_t (by omega)] | rw [bI_f (by omega)] | rw [if_pos (by omega)] | rw [if_neg (by omega)] | rw [sq_201]))
  obtain ⟨o, rfl⟩ := nat_of v1 h1.1
  obtain ⟨t, rfl⟩ := nat_of v2 h2.1
  obtain ⟨e, he, o1, o2, o3, o4, o5, o6, o7⟩ := inv_reg hI o (by omega)
  obtain ⟨d, hd, t1, t2, t3, t4, t5, t6, t7⟩ := inv_reg hI t (by omega)
  have b12 := bq_12 o t s
  have b234 := bq_234 o t
  by_cases hde : e ≤ d
  rotate_left
  · refine go_no (-5) hI ?_ ?_
    · rw [b12]; repeat (first | rw [jbI_s] | rw [jbV_s] | rw [bI_t (by omega)] | rw [bI_f (by omega)] | rw [if_pos (by omega)] | rw [if_neg (by omega)] | rw [sq_39] | rw [Nat.mul_zero] | rw [Nat.zero_add] | rw [Int.toNat_natCast] | rw [o1] | rw [t1])
    · rw [b234]; repeat (first | rw [jbI_s] | rw [jbV_s] | rw [bI_t (by omega)] | rw [bI_f (by omega)] | rw [if_pos (by omega)] | rw [if_neg (by omega)] | rw [sq_201] | rw [Int.toNat_natCast] | rw [o2] | rw [t2])
  have em := mnN_le (d - e) (by omega)
  have em2 := mnN_le e (by omega)
  have q75 := sq_75 s 44 o t d e hd hde (by omega) (by omega) o1 t1 o5 t5
  have hcon : con (s 16 o) (s 16 t) d e (mnN e) = con (fun j => s 30 0 (21 * o + j)) (fun j => s 30 0 (21 * t + j)) d e (mnN e) := con_c hd em2.2 o4 t4
  have q224 := fun u a b c f => sq_224 u o t d e (by omega) (by omega) hd hde a b c f
  rw [hcon] at q75
  rw [show ((d : Int) - e) = ((d - e : Nat) : Int) by omega] at q75 q224
  have hI' := Inv_fs hI 44 (Or.inl rfl) ((d - e : Nat) : Int) (con (fun j => s 30 0 (21 * o + j)) (fun j => s 30 0 (21 * t + j)) d e (mnN e))
  have hfd := fset_d s 44 ((d - e : Nat) : Int) (con (fun j => s 30 0 (21 * o + j)) (fun j => s 30 0 (21 * t + j)) d e (mnN e))
  have hfn := fset_n s 44 ((d - e : Nat) : Int) (con (fun j => s 30 0 (21 * o + j)) (fun j => s 30 0 (21 * t + j)) d e (mnN e))
  have hfo : ∀ q b c, 29 ≤ q → fset s 44 ((d - e : Nat) : Int) (con (fun j => s 30 0 (21 * o + j)) (fun j => s 30 0 (21 * t + j)) d e (mnN e)) q b c = s q b c := fun q b c z => fset_o _ _ _ _ _ _ _ (by omega) (by omega)
  generalize fset s 44 ((d - e : Nat) : Int) (con (fun j => s 30 0 (21 * o + j)) (fun j => s 30 0 (21 * t + j)) d e (mnN e)) = s' at *
  have e1o : s' 29 0 o = (e : Int) := by rw [hfo _ _ _ (by omega)]; exact o2
  have e1t : s' 29 0 t = (d : Int) := by rw [hfo _ _ _ (by omega)]; exact t2
  have eo : (fun j => s' 30 0 (21 * o + j)) = fun j => s 30 0 (21 * o + j) := funext fun j => hfo _ _ _ (by omega)
  have et : (fun j => s' 30 0 (21 * t + j)) = fun j => s 30 0 (21 * t + j) := funext fun j => hfo _ _ _ (by omega)
  have q2 := q224 s' e1o e1t (by rw [eo]; exact o6) (by rw [et]; exact t6)
  rw [eo, et] at q2
  generalize con (fun j => s 30 0 (21 * o + j)) (fun j => s 30 0 (21 * t + j)) d e (mnN e) = g at *
  have q69 := sq_69 s' 44 (d - e) hfd (by omega)
  have ec := cntN_c 0 (mnN (d - e)) (fun j hj => hfn j (by omega))
  rw [ec] at q69
  have hcl := cntN_le g 0 (mnN (d - e))
  refine ⟨if cntN g 0 (mnN (d - e)) = mnN (d - e) then 1 else 0, s', mset s' ((d - e : Nat) : Int) g, ?_, ?_, Inv_kp (kp_mset _ _ _) hI'⟩
  · rw [b12]
    repeat (first | rw [jbI_s] | rw [jbV_s] | rw [bI_t (by omega)] | rw [bI_f (by omega)] | rw [if_pos (by omega)] | rw [if_neg (by omega)] | rw [sq_39] | rw [Nat.mul_zero] | rw [Nat.zero_add] | rw [Int.toNat_natCast] | rw [o1] | rw [t1] | rw [q75] | rw [q69])
    by_cases c : cntN g 0 (mnN (d - e)) = mnN (d - e)
    · rw [if_pos c, if_pos (by omega)]
    · rw [if_neg c, if_neg (by omega)]
  · rw [b234]
    repeat (first | rw [jbI_s] | rw [jbV_s] | rw [bI_t (by omega)] | rw [bI_f (by omega)] | rw [if_pos (by omega)] | rw [if_neg (by omega)] | rw [sq_201] | rw [Int.toNat_natCast] | rw [e1o] | rw [e1t] | rw [q2])
    exact sj_234 _ o t (d - e) g (by omega) (mset_d _ _ _) (fun j hj => mset_n _ _ _ _ hj)
