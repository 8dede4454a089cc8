theorem loopJ {P : Nat → Option jR} {n : Nat} {r : Option jR} (hs : ∀ i, i < n → P i = P (i + 1)) (he : P n = r) : P 0 = r := loopI hs he
/-- sum -/
theorem ap_4 (s : jM) (hI : Inv s) (v1 v2 v3 v4 : Int) : Go s 4 223 [.inl v1, .inl v2, .inl v3, .inl v4] := by
  by_cases h1 : 0 ≤ v1 ∧ v1 < 4
  rotate_left
  · exact go_no (-1) hI (by rw [bq_4]; repeat (first | rw [jbI_s] | rw [jbV_s] | rw [bI_t (by omega)] | rw [bI_f (by omega)] | rw [if_pos (by omega)] | rw [if_neg (by omega)] | rw [sq_39])) (by rw [bq_223]; repeat (first | rw [jbI_s] | rw [jbV_s] | rw [bI_t (by omega)] | rw [bI_f (by omega)] | rw [if_pos (by omega)] | rw [if_neg (by omega)] | rw [sq_201]))
  by_cases h2 : 0 ≤ v2 ∧ v2 < 4
  rotate_left
  · exact go_no (-1) hI (by rw [bq_4]; repeat (first | rw [jbI_s] | rw [jbV_s] | rw [bI_t (by omega)] | rw [bI_f (by omega)] | rw [if_pos (by omega)] | rw [if_neg (by omega)] | rw [sq_39])) (by rw [bq_223]; repeat (first | rw [jbI_s] | rw [jbV_s] | rw [bI_t (by omega)] | rw [bI_f (by omega)] | rw [if_pos (by omega)] | rw [if_neg (by omega)] | rw [sq_201]))
  by_cases h3 : 0 ≤ v3 ∧ v3 < 4
  rotate_left
  · exact go_no (-1) hI (by rw [bq_4]; repeat (first | rw [jbI_s] | rw [jbV_s] | rw [bI_t (by omega)] | rw [bI_f (by omega)] | rw [if_pos (by omega)] | rw [if_neg (by omega)] | rw [sq_39])) (by rw [bq_223]; repeat (first | rw [jbI_s] | rw [jbV_s] | rw [bI_t (by omega)] | rw [bI_f (by omega)] | rw [if_pos (by omega)] | rw [if_neg (by omega)] | rw [sq_201]))
  by_cases h4 : 0 ≤ v4 ∧ v4 < 101
  rotate_left
  · exact go_no (-1) hI (by rw [bq_4]; repeat (first | rw [jbI_s] | rw [jbV_s] | rw [bI_t (by omega)] | rw [bI_f (by omega)] | rw [if_pos (by omega)] | rw [if_neg (by omega)] | rw [sq_39] | rw [sq_43])) (by rw [bq_223]; repeat (first | rw [jbI_s] | rw [jbV_s] | rw [bI_t (by omega)] | rw [bI_f (by omega)] | rw [if_pos (by omega)] | rw [if_neg (by omega)] | rw [sq_201] | rw [sq_200]))
  obtain ⟨r, rfl⟩ := nat_of v1 h1.1
  obtain ⟨o, rfl⟩ := nat_of v2 h2.1
  obtain ⟨t, rfl⟩ := nat_of v3 h3.1
  obtain ⟨d, hd, o1, o2, o3, o4, o5, o6, o7⟩ := inv_reg hI o (by omega)
  obtain ⟨e, he, t1, t2, t3, t4, t5, t6, t7⟩ := inv_reg hI t (by omega)
  have b4 := bq_4 r o t v4 s
  have b223 := bq_223 r o t v4
  by_cases hde : d = e
  rotate_left
  · refine go_no (-5) hI ?_ ?_
    · rw [b4]
      simp (disch := omega) only [sq_39, sq_43, o1, t1, iteT, or_true, true_or, jbI_s, jbV_s, jbR_s, bI_t, bI_f, if_pos, if_neg, jwi, tm101, Int.toNat_natCast, ca1, ca2, cm3, cm4, cm18, cm21, cm40, cm84, ca, Nat.mul_zero, Nat.zero_add]
    · rw [b223]
      simp (disch := omega) only [sq_201, sq_200, o2, t2, iteT, or_true, true_or, jbI_s, jbV_s, jbR_s, bI_t, bI_f, if_pos, if_neg, jwi, tm101, Int.toNat_natCast, ca1, ca2, cm3, cm4, cm18, cm21, cm40, cm84, ca, Nat.mul_zero, Nat.zero_add]
  subst hde
  have em := mnN_le d hd
  obtain ⟨n, nx, hS⟩ := hI.2.2.2.2.2.1
  have q72 := sq_72 s 44 t d v4 (fun j => s 16 o j) hd (by omega) t5 o5 h4
  have hI' := Inv_fs hI 44 (Or.inl rfl) (d : Int) (fun j => if j < mnN d then (s 16 o j + s 16 t j * v4) % 101 else s 16 o j)
  have hS' : RS (fset s 44 (d : Int) (fun j => if j < mnN d then (s 16 o j + s 16 t j * v4) % 101 else s 16 o j)) n nx := RS_cg (fun k i j q => fset_o _ _ _ _ _ _ _ (by omega) (by omega)) hS
  have hfd := fset_d s 44 (d : Int) (fun j => if j < mnN d then (s 16 o j + s 16 t j * v4) % 101 else s 16 o j)
  have hfn := fset_n s 44 (d : Int) (fun j => if j < mnN d then (s 16 o j + s 16 t j * v4) % 101 else s 16 o j)
  have hfo : ∀ q b c, 29 ≤ q → fset s 44 (d : Int) (fun j => if j < mnN d then (s 16 o j + s 16 t j * v4) % 101 else s 16 o j) q b c = s q b c := fun q b c z => fset_o _ _ _ _ _ _ _ (by omega) (by omega)
  generalize fset s 44 (d : Int) (fun j => if j < mnN d then (s 16 o j + s 16 t j * v4) % 101 else s 16 o j) = s' at *
  have q51 := sq_51r hI' r 44 (by omega) (by omega)
  have qh := ref_hold 0 r r 44 (by omega) hS'
  have hu : ∀ a b c, (29 ≤ a ∧ a < 38) → mhold (cchg s' 0 r r 44) n a b c = s a b c := fun a b c z => by rw [mc_o _ _ _ _ _ _ (by omega) _ _ _ (by omega) (by omega) (by omega) (by omega), hfo _ _ _ (by omega)]
  have e1o : cchg s' 0 r r 44 29 0 o = (d : Int) := by rw [cc_o _ _ _ _ _ (by omega) _ _ _ (by omega), hfo _ _ _ (by omega)]; exact o2
  have e1t : cchg s' 0 r r 44 29 0 t = (d : Int) := by rw [cc_o _ _ _ _ _ (by omega) _ _ _ (by omega), hfo _ _ _ (by omega)]; exact t2
  have e2o : mhold (cchg s' 0 r r 44) n 29 0 o = (d : Int) := by rw [hu _ _ _ (by omega)]; exact o2
  refine go_lay (s' := s') (r := r) (d := d) (n := n) (nx := nx) (g := fun j => if j < mnN d then (s 30 0 (21 * o + j) + v4 * s 30 0 (21 * t + j)) % 101 else 0) (d : Int) hI' hS' (by omega) hd hfd (fun j hj _ => ?_) (fun j hj => ?_) ?_ (fun qs ql qd => ?_)
  · rw [if_pos hj]
    exact em101 _
  · rw [hfn j hj]
    by_cases c : j < mnN d
    · rw [if_pos c, if_pos c, if_pos c, o4 j hj, t4 j hj, Int.mul_comm]
    · rw [if_neg c, if_neg c, o7 j (by omega) hj]
  · rw [b4]
    have e44 : cchg s' 0 r r 44 1 44 1 = (d : Int) := by rw [cchg_o _ _ _ _ _ _ _ _ (by omega), hfd]
    simp (disch := omega) only [sq_39, sq_43, o1, t1, sq_66, iteT, or_true, true_or, jbI_s, jbV_s, jbR_s, bI_t, bI_f, if_pos, if_neg, jwi, tm101, Int.toNat_natCast, ca1, ca2, cm3, cm4, cm18, cm21, cm40, cm84, ca, Nat.mul_zero, Nat.zero_add]
    simp (disch := omega) only [q72, q51, e44, iteT, or_true, true_or, jbI_s, jbV_s, jbR_s, bI_t, bI_f, if_pos, if_neg, jwi, tm101, Int.toNat_natCast, ca1, ca2, cm3, cm4, cm18, cm21, cm40, cm84, ca, Nat.mul_zero, Nat.zero_add]
  · rw [b223]
    simp (disch := omega) only [sq_201, sq_200, e1o, e1t, qh, e2o, sq_214, iteT, or_true, true_or, jbI_s, jbV_s, jbR_s, bI_t, bI_f, if_pos, if_neg, jwi, tm101, Int.toNat_natCast, ca1, ca2, cm3, cm4, cm18, cm21, cm40, cm84, ca, Nat.mul_zero, Nat.zero_add]
    generalize hU : mhold (cchg s' 0 r r 44) n = U at *
    refine loopI (P := fun i => je 223 69 [some (.inr (11, 0)), some (.inl (r : Int)), some (.inl (o : Int)), some (.inl (t : Int)), some (.inl v4), some (.inl (i : Int))] [] (mset U d (fun j => if j < i then (s 30 0 (21 * o + j) + v4 * s 30 0 (21 * t + j)) % 101 else 0))) (n := mnN d) (fun i hi => ?_) ?_
    · show je 223 69 _ [] _ = je 223 69 _ [] _
      have m := mul101 h4 (t6 i (by omega))
      obtain ⟨x1, x2⟩ := o6 i (by omega)
      have f1 : ∀ g j, mset U d g 30 0 j = s 30 0 j := fun g j => by rw [mset_o _ _ _ _ _ _ (by omega) (by omega), hu _ _ _ (by omega)]
      have f2 : ∀ g, mset U d g 11 0 21 = (d : Int) := fun g => mset_d _ _ _
      rw [be_223_69]
      simp (disch := omega) only [f1, f2, sq_203, mset_up, iteT, or_true, true_or, jbI_s, jbV_s, jbR_s, bI_t, bI_f, if_pos, if_neg, jwi, tm101, Int.toNat_natCast, ca1, ca2, cm3, cm4, cm18, cm21, cm40, cm84, ca, Nat.mul_zero, Nat.zero_add]
      refine congrArg (fun z => je 223 69 [some (.inr (11, 0)), some (.inl (r : Int)), some (.inl (o : Int)), some (.inl (t : Int)), some (.inl v4), some (.inl ((i + 1 : Nat) : Int))] [] (mset U d z)) (funext fun j => ?_)
      by_cases c : j = i
      · rw [if_pos c, c, if_pos (by omega)]
      · rw [if_neg c]
        by_cases c2 : j < i
        · rw [if_pos c2, if_pos (by omega)]
        · rw [if_neg c2, if_neg (by omega)]
    · show je 223 69 _ [] _ = _
      have f2 : ∀ g, mset U d g 11 0 21 = (d : Int) := fun g => mset_d _ _ _
      rw [be_223_69]
      simp (disch := omega) only [f2, sq_203, ql, qs, qd, iteT, or_true, true_or, jbI_s, jbV_s, jbR_s, bI_t, bI_f, if_pos, if_neg, jwi, tm101, Int.toNat_natCast, ca1, ca2, cm3, cm4, cm18, cm21, cm40, cm84, ca, Nat.mul_zero, Nat.zero_add]
/-- contract -/
theorem ap_5 (s : jM) (hI : Inv s) (v1 v2 v3 : Int) : Go s 5 225 [.inl v1, .inl v2, .inl v3] := by
  by_cases h1 : 0 ≤ v1 ∧ v1 < 4
  rotate_left
  · exact go_no (-1) hI (by rw [bq_5]; simp (disch := omega) only [sq_39, iteT, or_true, true_or, jbI_s, jbV_s, jbR_s, bI_t, bI_f, if_pos, if_neg, jwi, tm101, Int.toNat_natCast, ca1, ca2, cm3, cm4, cm18, cm21, cm40, cm84, ca, Nat.mul_zero, Nat.zero_add]) (by rw [bq_225]; simp (disch := omega) only [sq_201, iteT, or_true, true_or, jbI_s, jbV_s, jbR_s, bI_t, bI_f, if_pos, if_neg, jwi, tm101, Int.toNat_natCast, ca1, ca2, cm3, cm4, cm18, cm21, cm40, cm84, ca, Nat.mul_zero, Nat.zero_add])
  by_cases h2 : 0 ≤ v2 ∧ v2 < 4
  rotate_left
  · exact go_no (-1) hI (by rw [bq_5]; simp (disch := omega) only [sq_39, iteT, or_true, true_or, jbI_s, jbV_s, jbR_s, bI_t, bI_f, if_pos, if_neg, jwi, tm101, Int.toNat_natCast, ca1, ca2, cm3, cm4, cm18, cm21, cm40, cm84, ca, Nat.mul_zero, Nat.zero_add]) (by rw [bq_225]; simp (disch := omega) only [sq_201, iteT, or_true, true_or, jbI_s, jbV_s, jbR_s, bI_t, bI_f, if_pos, if_neg, jwi, tm101, Int.toNat_natCast, ca1, ca2, cm3, cm4, cm18, cm21, cm40, cm84, ca, Nat.mul_zero, Nat.zero_add])
  by_cases h3 : 0 ≤ v3 ∧ v3 < 4
  rotate_left
  · exact go_no (-1) hI (by rw [bq_5]; simp (disch := omega) only [sq_39, iteT, or_true, true_or, jbI_s, jbV_s, jbR_s, bI_t, bI_f, if_pos, if_neg, jwi, tm101, Int.toNat_natCast, ca1, ca2, cm3, cm4, cm18, cm21, cm40, cm84, ca, Nat.mul_zero, Nat.zero_add]) (by rw [bq_225]; simp (disch := omega) only [sq_201, iteT, or_true, true_or, jbI_s, jbV_s, jbR_s, bI_t, bI_f, if_pos, if_neg, jwi, tm101, Int.toNat_natCast, ca1, ca2, cm3, cm4, cm18, cm21, cm40, cm84, ca, Nat.mul_zero, Nat.zero_add])
  obtain ⟨r, rfl⟩ := nat_of v1 h1.1
  obtain ⟨o, rfl⟩ := nat_of v2 h2.1
  obtain ⟨t, rfl⟩ := nat_of v3 h3.1
  obtain ⟨e, he, o1, o2, o3, o4, o5, o6, o7⟩ := inv_reg hI o (by omega)
  obtain ⟨d, hd, t1, t2, t3, t4, t5, t6, t7⟩ := inv_reg hI t (by omega)
  have b5 := bq_5 r o t s
  have b225 := bq_225 r o t
  by_cases hde : e ≤ d
  rotate_left
  · refine go_no (-5) hI ?_ ?_
    · rw [b5]
      simp (disch := omega) only [sq_39, o1, t1, iteT, or_true, true_or, jbI_s, jbV_s, jbR_s, bI_t, bI_f, if_pos, if_neg, jwi, tm101, Int.toNat_natCast, ca1, ca2, cm3, cm4, cm18, cm21, cm40, cm84, ca, Nat.mul_zero, Nat.zero_add]
    · rw [b225]
      simp (disch := omega) only [sq_201, o2, t2, iteT, or_true, true_or, jbI_s, jbV_s, jbR_s, bI_t, bI_f, if_pos, if_neg, jwi, tm101, Int.toNat_natCast, ca1, ca2, cm3, cm4, cm18, cm21, cm40, cm84, ca, Nat.mul_zero, Nat.zero_add]
  have em := mnN_le (d - e) (by omega)
  have em2 := mnN_le e (by omega)
  obtain ⟨n, nx, hS⟩ := hI.2.2.2.2.2.1
  have q75 := sq_75 s 44 o t d e hd hde (by omega) (by omega) o1 t1 o5 t5
  have hcon : con (s 16 o) (s 16 t) d e (mnN e) = con (fun j => s 30 0 (21 * o + j)) (fun j => s 30 0 (21 * t + j)) d e (mnN e) := con_c hd em2.2 o4 t4
  have hz := con_z (fun j => s 30 0 (21 * o + j)) (fun j => s 30 0 (21 * t + j)) hd hde
  have hg := con_g (fun j => s 30 0 (21 * o + j)) (fun j => s 30 0 (21 * t + j)) d e (mnN e)
  have q224 := fun u a b c f => sq_224 u o t d e (by omega) (by omega) hd hde a b c f
  rw [hcon] at q75
  rw [show ((d : Int) - e) = ((d - e : Nat) : Int) by omega] at q75 q224
  have hI' := Inv_fs hI 44 (Or.inl rfl) ((d - e : Nat) : Int) (con (fun j => s 30 0 (21 * o + j)) (fun j => s 30 0 (21 * t + j)) d e (mnN e))
  have hS' : RS (fset s 44 ((d - e : Nat) : Int) (con (fun j => s 30 0 (21 * o + j)) (fun j => s 30 0 (21 * t + j)) d e (mnN e))) n nx := RS_cg (fun k i j q => fset_o _ _ _ _ _ _ _ (by omega) (by omega)) hS
  have hfd := fset_d s 44 ((d - e : Nat) : Int) (con (fun j => s 30 0 (21 * o + j)) (fun j => s 30 0 (21 * t + j)) d e (mnN e))
  have hfn := fset_n s 44 ((d - e : Nat) : Int) (con (fun j => s 30 0 (21 * o + j)) (fun j => s 30 0 (21 * t + j)) d e (mnN e))
  have hfo : ∀ q b c, 29 ≤ q → fset s 44 ((d - e : Nat) : Int) (con (fun j => s 30 0 (21 * o + j)) (fun j => s 30 0 (21 * t + j)) d e (mnN e)) q b c = s q b c := fun q b c z => fset_o _ _ _ _ _ _ _ (by omega) (by omega)
  generalize fset s 44 ((d - e : Nat) : Int) (con (fun j => s 30 0 (21 * o + j)) (fun j => s 30 0 (21 * t + j)) d e (mnN e)) = s' at *
  have q51 := sq_51r hI' r 44 (by omega) (by omega)
  have qh := ref_hold 0 r r 44 (by omega) hS'
  have hu : ∀ a b c, (29 ≤ a ∧ a < 38) → mhold (cchg s' 0 r r 44) n a b c = s a b c := fun a b c z => by rw [mc_o _ _ _ _ _ _ (by omega) _ _ _ (by omega) (by omega) (by omega) (by omega), hfo _ _ _ (by omega)]
  have e1o : cchg s' 0 r r 44 29 0 o = (e : Int) := by rw [cc_o _ _ _ _ _ (by omega) _ _ _ (by omega), hfo _ _ _ (by omega)]; exact o2
  have e1t : cchg s' 0 r r 44 29 0 t = (d : Int) := by rw [cc_o _ _ _ _ _ (by omega) _ _ _ (by omega), hfo _ _ _ (by omega)]; exact t2
  have eo : (fun j => mhold (cchg s' 0 r r 44) n 30 0 (21 * o + j)) = fun j => s 30 0 (21 * o + j) := funext fun j => hu _ _ _ (by omega)
  have et : (fun j => mhold (cchg s' 0 r r 44) n 30 0 (21 * t + j)) = fun j => s 30 0 (21 * t + j) := funext fun j => hu _ _ _ (by omega)
  have q2 := q224 (mhold (cchg s' 0 r r 44) n) (by rw [hu _ _ _ (by omega)]; exact o2) (by rw [hu _ _ _ (by omega)]; exact t2) (by rw [eo]; exact o6) (by rw [et]; exact t6)
  rw [eo, et] at q2
  generalize con (fun j => s 30 0 (21 * o + j)) (fun j => s 30 0 (21 * t + j)) d e (mnN e) = g at *
  refine go_lay (s' := s') (r := r) (d := d - e) (n := n) (nx := nx) (g := g) ((d - e : Nat) : Int) hI' hS' (by omega) (by omega) hfd (fun j _ hj => hg j hj) (fun j hj => ?_) ?_ (fun qs ql qd => ?_)
  · rw [hfn j hj]
    by_cases c : j < mnN (d - e)
    · rw [if_pos c]
    · rw [if_neg c, hz j (by omega)]
  · have e44 : cchg s' 0 r r 44 1 44 1 = ((d - e : Nat) : Int) := by rw [cchg_o _ _ _ _ _ _ _ _ (by omega), hfd]
    rw [b5]
    simp (disch := omega) only [sq_39, o1, t1, q75, q51, e44, iteT, or_true, true_or, jbI_s, jbV_s, jbR_s, bI_t, bI_f, if_pos, if_neg, jwi, tm101, Int.toNat_natCast, ca1, ca2, cm3, cm4, cm18, cm21, cm40, cm84, ca, Nat.mul_zero, Nat.zero_add]
  · rw [b225]
    simp (disch := omega) only [sq_201, e1o, e1t, qh, q2, ql, qs, qd, iteT, or_true, true_or, jbI_s, jbV_s, jbR_s, bI_t, bI_f, if_pos, if_neg, jwi, tm101, Int.toNat_natCast, ca1, ca2, cm3, cm4, cm18, cm21, cm40, cm84, ca, Nat.mul_zero, Nat.zero_add]
