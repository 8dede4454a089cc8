/-! DEEP, DEEPEST, ROOT: the calls -/
theorem f2_of {s U : jM} (hI : Inv s) (r d : Nat) (hr : r < 4) (hd : d ≤ 5) (hU : ∀ j, j < 21 → U 30 0 (21 * r + j) = s 30 0 (21 * r + j)) : ∀ j, j < d + 1 → U 30 0 (21 * r + pl j 0) = f2 s r j := fun j hj => by
  obtain ⟨d', _, _, _, _, r4, _⟩ := inv_reg hI r hr
  have hp := pl0 j d (by omega) hd
  rw [hU _ hp]
  exact (r4 _ hp).symm
theorem f2_g {s : jM} (hI : Inv s) (r d : Nat) (hr : r < 4) (hd : d ≤ 5) : ∀ j, j < d + 1 → g101 (f2 s r j) := fun j hj => by
  obtain ⟨d', _, _, _, _, _, r5, _⟩ := inv_reg hI r hr
  exact r5 _ (pl0 j d (by omega) hd)
theorem ap_15 (s : jM) (hI : Inv s) (v1 : Int) : Go s 15 243 [.inl v1] := by
  by_cases h1 : 0 ≤ v1 ∧ v1 < 4
  rotate_left
  · exact go_no (-1) hI (by rw [bq_15]; (repeat (first | rw [jbI_s] | rw [jbV_s] | rw [bI_t (by omega)] | rw [bI_f (by omega)] | rw [if_pos (by omega)] | rw [if_neg (by omega)] | rw [sq_39]))) (by rw [bq_243]; (repeat (first | rw [jbI_s] | rw [jbV_s] | rw [bI_t (by omega)] | rw [bI_f (by omega)] | rw [if_pos (by omega)] | rw [if_neg (by omega)] | rw [sq_201])))
  obtain ⟨r, rfl⟩ := nat_of v1 h1.1
  have hr : r < 4 := by omega
  obtain ⟨d, hd, r1, r2, r3, r4, r5, r6, r7⟩ := inv_reg hI r hr
  have b15 := bq_15 r s
  rcases sq_79 s r d hd hI.2.2.2.2.2.2 r1 r5 with ⟨hn, h79⟩ | ⟨hp, t, E, h79, t1, t2, t3, t4⟩
  · refine go_no (-5) hI ?_ ?_
    · rw [b15]; (repeat (first | rw [jbI_s] | rw [jbV_s] | rw [bI_t (by omega)] | rw [bI_f (by omega)] | rw [if_pos (by omega)] | rw [if_neg (by omega)] | rw [sq_39] | rw [Nat.mul_zero] | rw [Nat.zero_add] | rw [Int.toNat_natCast] | rw [h79]))
    · rcases sq_241 s r d hr hd r2 (s 16 r) (fun j hj => (r4 j hj).symm) (isDp s r d) Iff.rfl with ⟨_, h⟩ | ⟨y, _⟩
      · rw [bq_243]; (repeat (first | rw [jbI_s] | rw [jbV_s] | rw [bI_t (by omega)] | rw [bI_f (by omega)] | rw [if_pos (by omega)] | rw [if_neg (by omega)] | rw [sq_201] | rw [h]))
      · exact absurd y hn
  · have hI2 := Inv_kt t2 t1 hI
    have q29 : t 29 0 r = (d : Int) := by rw [t2 _ _ _ (by omega) (by unfold Scr; omega)]; exact r2
    have q30 : ∀ j, j < 21 → t 30 0 (21 * r + j) = s 30 0 (21 * r + j) := fun j hj => t2 _ _ _ (by omega) (by unfold Scr; omega)
    rcases sq_241 t r d hr hd q29 (s 16 r) (fun j hj => by rw [q30 j hj, r4 j hj]) (isDp s r d) Iff.rfl with ⟨y, _⟩ | ⟨_, h⟩
    · exact absurd hp y
    obtain ⟨u, E', u1, u2, u3, u4, -⟩ := sq_242 r d (f2 s r) hr hd (f2_g hI r d hr hd) t q29 (f2_of hI r d hr hd q30)
    obtain ⟨eE, -⟩ := DR_uniq t4 u4
    subst eE
    refine ⟨(E : Int), t, u, ?_, ?_, Inv_kp u2 hI2⟩
    · rw [b15]; (repeat (first | rw [jbI_s] | rw [jbV_s] | rw [bI_t (by omega)] | rw [bI_f (by omega)] | rw [if_pos (by omega)] | rw [if_neg (by omega)] | rw [sq_39] | rw [Nat.mul_zero] | rw [Nat.zero_add] | rw [Int.toNat_natCast] | rw [h79] | rw [t3]))
    · rw [bq_243]; (repeat (first | rw [jbI_s] | rw [jbV_s] | rw [bI_t (by omega)] | rw [bI_f (by omega)] | rw [if_pos (by omega)] | rw [if_neg (by omega)] | rw [sq_201] | rw [h] | rw [u1] | rw [u3]))
theorem ap_16 (s : jM) (hI : Inv s) (v1 v2 : Int) : Go s 16 244 [.inl v1, .inl v2] := by
  by_cases h1 : 0 ≤ v1 ∧ v1 < 4
  rotate_left
  · exact go_no (-1) hI (by rw [bq_16]; (repeat (first | rw [jbI_s] | rw [jbV_s] | rw [bI_t (by omega)] | rw [bI_f (by omega)] | rw [if_pos (by omega)] | rw [if_neg (by omega)] | rw [sq_39]))) (by rw [bq_244]; (repeat (first | rw [jbI_s] | rw [jbV_s] | rw [bI_t (by omega)] | rw [bI_f (by omega)] | rw [if_pos (by omega)] | rw [if_neg (by omega)] | rw [sq_201])))
  by_cases h2 : 0 ≤ v2
  rotate_left
  · exact go_no (-1) hI (by rw [bq_16]; (repeat (first | rw [jbI_s] | rw [jbV_s] | rw [bI_t (by omega)] | rw [bI_f (by omega)] | rw [if_pos (by omega)] | rw [if_neg (by omega)] | rw [sq_39]))) (by rw [bq_244]; (repeat (first | rw [jbI_s] | rw [jbV_s] | rw [bI_t (by omega)] | rw [bI_f (by omega)] | rw [if_pos (by omega)] | rw [if_neg (by omega)] | rw [sq_201])))
  obtain ⟨r, rfl⟩ := nat_of v1 h1.1
  obtain ⟨i, rfl⟩ := nat_of v2 h2
  have hr : r < 4 := by omega
  obtain ⟨d, hd, r1, r2, r3, r4, r5, r6, r7⟩ := inv_reg hI r hr
  have b16 := bq_16 r i s
  rcases sq_79 s r d hd hI.2.2.2.2.2.2 r1 r5 with ⟨hn, h79⟩ | ⟨hp, t, E, h79, t1, t2, t3, t4⟩
  · refine go_no (-5) hI ?_ ?_
    · rw [b16]; (repeat (first | rw [jbI_s] | rw [jbV_s] | rw [bI_t (by omega)] | rw [bI_f (by omega)] | rw [if_pos (by omega)] | rw [if_neg (by omega)] | rw [sq_39] | rw [Nat.mul_zero] | rw [Nat.zero_add] | rw [Int.toNat_natCast] | rw [h79]))
    · rcases sq_241 s r d hr hd r2 (s 16 r) (fun j hj => (r4 j hj).symm) (isDp s r d) Iff.rfl with ⟨_, h⟩ | ⟨y, _⟩
      · rw [bq_244]; (repeat (first | rw [jbI_s] | rw [jbV_s] | rw [bI_t (by omega)] | rw [bI_f (by omega)] | rw [if_pos (by omega)] | rw [if_neg (by omega)] | rw [sq_201] | rw [h]))
      · exact absurd y hn
  · have hI2 := Inv_kt t2 t1 hI
    have q29 : t 29 0 r = (d : Int) := by rw [t2 _ _ _ (by omega) (by unfold Scr; omega)]; exact r2
    have q30 : ∀ j, j < 21 → t 30 0 (21 * r + j) = s 30 0 (21 * r + j) := fun j hj => t2 _ _ _ (by omega) (by unfold Scr; omega)
    rcases sq_241 t r d hr hd q29 (s 16 r) (fun j hj => by rw [q30 j hj, r4 j hj]) (isDp s r d) Iff.rfl with ⟨y, _⟩ | ⟨_, h⟩
    · exact absurd hp y
    obtain ⟨u, E', u1, u2, u3, u4, -⟩ := sq_242 r d (f2 s r) hr hd (f2_g hI r d hr hd) t q29 (f2_of hI r d hr hd q30)
    obtain ⟨eE, eq⟩ := DR_uniq t4 u4
    subst eE
    have hE := t4.1
    by_cases c : (E : Int) < i
    · refine ⟨-1, t, u, ?_, ?_, Inv_kp u2 hI2⟩
      · rw [b16]; (repeat (first | rw [jbI_s] | rw [jbV_s] | rw [bI_t (by omega)] | rw [bI_f (by omega)] | rw [if_pos (by omega)] | rw [if_neg (by omega)] | rw [sq_39] | rw [Nat.mul_zero] | rw [Nat.zero_add] | rw [Int.toNat_natCast] | rw [h79] | rw [t3]))
      · rw [bq_244]; (repeat (first | rw [jbI_s] | rw [jbV_s] | rw [bI_t (by omega)] | rw [bI_f (by omega)] | rw [if_pos (by omega)] | rw [if_neg (by omega)] | rw [sq_201] | rw [h] | rw [u1] | rw [u3]))
    · have e1 := eq i (by omega)
      refine ⟨t 17 0 i, t, u, ?_, ?_, Inv_kp u2 hI2⟩
      · rw [b16]
        (repeat (first | rw [jbI_s] | rw [jbV_s] | rw [bI_t (by omega)] | rw [bI_f (by omega)] | rw [if_pos (by omega)] | rw [if_neg (by omega)] | rw [sq_39] | rw [Nat.mul_zero] | rw [Nat.zero_add] | rw [Int.toNat_natCast] | rw [h79] | rw [t3]))
        rw [bq_82, t3, jwi (x := (E : Int) + 1) (by omega) (by omega)]
        (repeat (first | rw [jbI_s] | rw [jbV_s] | rw [bI_t (by omega)] | rw [bI_f (by omega)] | rw [if_pos (by omega)] | rw [if_neg (by omega)] | rw [sq_38] | rw [Int.toNat_natCast]))
      · rw [bq_244]
        (repeat (first | rw [jbI_s] | rw [jbV_s] | rw [bI_t (by omega)] | rw [bI_f (by omega)] | rw [if_pos (by omega)] | rw [if_neg (by omega)] | rw [sq_201] | rw [h] | rw [u1] | rw [u3] | rw [Int.toNat_natCast]))
        rw [e1]
theorem ap_17 (s : jM) (hI : Inv s) (v1 v2 : Int) : Go s 17 245 [.inl v1, .inl v2] := by
  by_cases h1 : 0 ≤ v1 ∧ v1 < 4
  rotate_left
  · exact go_no (-1) hI (by rw [bq_17]; (repeat (first | rw [jbI_s] | rw [jbV_s] | rw [bI_t (by omega)] | rw [bI_f (by omega)] | rw [if_pos (by omega)] | rw [if_neg (by omega)] | rw [sq_39]))) (by rw [bq_245]; (repeat (first | rw [jbI_s] | rw [jbV_s] | rw [bI_t (by omega)] | rw [bI_f (by omega)] | rw [if_pos (by omega)] | rw [if_neg (by omega)] | rw [sq_201])))
  by_cases h2 : -1 ≤ v2
  rotate_left
  · exact go_no (-1) hI (by rw [bq_17]; (repeat (first | rw [jbI_s] | rw [jbV_s] | rw [bI_t (by omega)] | rw [bI_f (by omega)] | rw [if_pos (by omega)] | rw [if_neg (by omega)] | rw [sq_39]))) (by rw [bq_245]; (repeat (first | rw [jbI_s] | rw [jbV_s] | rw [bI_t (by omega)] | rw [bI_f (by omega)] | rw [if_pos (by omega)] | rw [if_neg (by omega)] | rw [sq_201])))
  obtain ⟨r, rfl⟩ := nat_of v1 h1.1
  have hr : r < 4 := by omega
  obtain ⟨d, hd, r1, r2, r3, r4, r5, r6, r7⟩ := inv_reg hI r hr
  have b17 := bq_17 r v2 s
  rcases sq_79 s r d hd hI.2.2.2.2.2.2 r1 r5 with ⟨hn, h79⟩ | ⟨hp, t, E, h79, t1, t2, t3, t4⟩
  · refine go_no (-5) hI ?_ ?_
    · rw [b17]; (repeat (first | rw [jbI_s] | rw [jbV_s] | rw [bI_t (by omega)] | rw [bI_f (by omega)] | rw [if_pos (by omega)] | rw [if_neg (by omega)] | rw [sq_39] | rw [Nat.mul_zero] | rw [Nat.zero_add] | rw [Int.toNat_natCast] | rw [h79]))
    · rcases sq_241 s r d hr hd r2 (s 16 r) (fun j hj => (r4 j hj).symm) (isDp s r d) Iff.rfl with ⟨_, h⟩ | ⟨y, _⟩
      · rw [bq_245]; (repeat (first | rw [jbI_s] | rw [jbV_s] | rw [bI_t (by omega)] | rw [bI_f (by omega)] | rw [if_pos (by omega)] | rw [if_neg (by omega)] | rw [sq_201] | rw [h]))
      · exact absurd y hn
  · obtain ⟨w, w1, w2, w3, w4⟩ := sq_83 E t hd t3 t4
    have hw : Kt s w := fun k i j z z2 => by
      have z3 := z2
      unfold Scr at z3
      rw [w2 _ _ _ (by omega)]
      exact t2 k i j z z2
    have hI2 := Inv_kt hw (TI_cg (fun j => w2 _ _ _ (by omega)) t1) hI
    have q29 : w 29 0 r = (d : Int) := by rw [hw _ _ _ (by omega) (by unfold Scr; omega)]; exact r2
    have q30 : ∀ j, j < 21 → w 30 0 (21 * r + j) = s 30 0 (21 * r + j) := fun j hj => hw _ _ _ (by omega) (by unfold Scr; omega)
    rcases sq_241 w r d hr hd q29 (s 16 r) (fun j hj => by rw [q30 j hj, r4 j hj]) (isDp s r d) Iff.rfl with ⟨y, _⟩ | ⟨_, h⟩
    · exact absurd hp y
    obtain ⟨u, E', u1, u2, u3, u4, u5, u6⟩ := sq_242 r d (f2 s r) hr hd (f2_g hI r d hr hd) w q29 (f2_of hI r d hr hd q30)
    obtain ⟨eE, eq⟩ := DR_uniq t4 u4
    subst eE
    have hE := t4.1
    obtain ⟨n1, n2⟩ := nrt_c eq
    have hle := nrt_le t4
    rw [← n1] at u5
    rw [← n1, ← n2] at u6
    generalize nrt (t 17 0) E = N at *
    by_cases c : v2 = -1
    · refine ⟨(N : Int), w, u, ?_, ?_, Inv_kp u2 hI2⟩
      · rw [b17]; (repeat (first | rw [jbI_s] | rw [jbV_s] | rw [bI_t (by omega)] | rw [bI_f (by omega)] | rw [if_pos (by omega)] | rw [if_neg (by omega)] | rw [sq_39] | rw [Nat.mul_zero] | rw [Nat.zero_add] | rw [Int.toNat_natCast] | rw [h79] | rw [w1]))
      · rw [bq_245]; (repeat (first | rw [jbI_s] | rw [jbV_s] | rw [bI_t (by omega)] | rw [bI_f (by omega)] | rw [if_pos (by omega)] | rw [if_neg (by omega)] | rw [sq_201] | rw [h] | rw [u1] | rw [u5]))
    obtain ⟨k, rfl⟩ := nat_of v2 (by omega)
    by_cases c2 : k < N
    · have e1 := w4 k c2
      have e2 := u6 k c2
      refine ⟨rtk (t 17 0) E k, w, u, ?_, ?_, Inv_kp u2 hI2⟩
      · rw [b17]
        (repeat (first | rw [jbI_s] | rw [jbV_s] | rw [bI_t (by omega)] | rw [bI_f (by omega)] | rw [if_pos (by omega)] | rw [if_neg (by omega)] | rw [sq_39] | rw [Nat.mul_zero] | rw [Nat.zero_add] | rw [Int.toNat_natCast] | rw [h79] | rw [w1]))
        rw [bq_86, w3]
        (repeat (first | rw [jbI_s] | rw [jbV_s] | rw [bI_t (by omega)] | rw [bI_f (by omega)] | rw [if_pos (by omega)] | rw [if_neg (by omega)] | rw [sq_38] | rw [Int.toNat_natCast]))
        rw [e1]
      · rw [bq_245]
        (repeat (first | rw [jbI_s] | rw [jbV_s] | rw [bI_t (by omega)] | rw [bI_f (by omega)] | rw [if_pos (by omega)] | rw [if_neg (by omega)] | rw [sq_201] | rw [h] | rw [u1] | rw [u5] | rw [Int.toNat_natCast]))
        rw [e2]
    · refine ⟨-2, w, u, ?_, ?_, Inv_kp u2 hI2⟩
      · rw [b17]; (repeat (first | rw [jbI_s] | rw [jbV_s] | rw [bI_t (by omega)] | rw [bI_f (by omega)] | rw [if_pos (by omega)] | rw [if_neg (by omega)] | rw [sq_39] | rw [Nat.mul_zero] | rw [Nat.zero_add] | rw [Int.toNat_natCast] | rw [h79] | rw [w1]))
      · rw [bq_245]; (repeat (first | rw [jbI_s] | rw [jbV_s] | rw [bI_t (by omega)] | rw [bI_f (by omega)] | rw [if_pos (by omega)] | rw [if_neg (by omega)] | rw [sq_201] | rw [h] | rw [u1] | rw [u5] | rw [Int.toNat_natCast]))
