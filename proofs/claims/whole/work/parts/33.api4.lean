theorem g1_101 : g101 1 := ⟨by decide, by decide⟩
/-- power -/
theorem ap_9 (s : jM) (hI : Inv s) (v1 v2 v3 : Int) : Go s 9 229 [.inl v1, .inl v2, .inl v3] := by
  by_cases h1 : 0 ≤ v1 ∧ v1 < 4
  rotate_left
  · exact go_no (-1) hI (by rw [bq_9]; repeat (first | rw [jbI_s] | rw [jbV_s] | rw [bI_t (by omega)] | rw [bI_f (by omega)] | rw [if_pos (by omega)] | rw [if_neg (by omega)] | rw [sq_39])) (by rw [bq_229]; repeat (first | rw [jbI_s] | rw [jbV_s] | rw [bI_t (by omega)] | rw [bI_f (by omega)] | rw [if_pos (by omega)] | rw [if_neg (by omega)] | rw [sq_201]))
  by_cases h2 : 0 ≤ v2 ∧ v2 < 6
  rotate_left
  · exact go_no (-1) hI (by rw [bq_9]; repeat (first | rw [jbI_s] | rw [jbV_s] | rw [bI_t (by omega)] | rw [bI_f (by omega)] | rw [if_pos (by omega)] | rw [if_neg (by omega)] | rw [sq_39] | rw [sq_40])) (by rw [bq_229]; repeat (first | rw [jbI_s] | rw [jbV_s] | rw [bI_t (by omega)] | rw [bI_f (by omega)] | rw [if_pos (by omega)] | rw [if_neg (by omega)] | rw [sq_201] | rw [sq_202]))
  by_cases h3 : 0 ≤ v3 ∧ v3 ≤ 5
  rotate_left
  · exact go_no (-1) hI (by rw [bq_9]; repeat (first | rw [jbI_s] | rw [jbV_s] | rw [bI_t (by omega)] | rw [bI_f (by omega)] | rw [if_pos (by omega)] | rw [if_neg (by omega)] | rw [sq_39] | rw [sq_40] | rw [sq_42])) (by rw [bq_229]; repeat (first | rw [jbI_s] | rw [jbV_s] | rw [bI_t (by omega)] | rw [bI_f (by omega)] | rw [if_pos (by omega)] | rw [if_neg (by omega)] | rw [sq_201] | rw [sq_202] | rw [sq_200]))
  obtain ⟨r, rfl⟩ := nat_of v1 h1.1
  obtain ⟨k, rfl⟩ := nat_of v2 h2.1
  obtain ⟨d, rfl⟩ := nat_of v3 h3.1
  obtain ⟨k1, k2, k3, k4, k5, k6⟩ := inv_line hI k (by omega)
  obtain ⟨n, nx, hS⟩ := hI.2.2.2.2.2.1
  have em := mnN_le d (by omega)
  have q73 := sq_73 s 44 (4 + k) d 1 (fun _ => 0) (by omega) (by omega) k4 g21_0 g1_101
  have hI' := Inv_fs hI 44 (Or.inl rfl) (d : Int) (fun j => if j < mnN d then (0 + mat s (4 + k) d j * 1) % 101 else 0)
  have hS' : RS (fset s 44 (d : Int) (fun j => if j < mnN d then (0 + mat s (4 + k) d j * 1) % 101 else 0)) n nx := RS_cg (fun k i j q => fset_o _ _ _ _ _ _ _ (by omega) (by omega)) hS
  have hfd := fset_d s 44 (d : Int) (fun j => if j < mnN d then (0 + mat s (4 + k) d j * 1) % 101 else 0)
  have hfn := fset_n s 44 (d : Int) (fun j => if j < mnN d then (0 + mat s (4 + k) d j * 1) % 101 else 0)
  have hfo : ∀ q b c, 29 ≤ q → fset s 44 (d : Int) (fun j => if j < mnN d then (0 + mat s (4 + k) d j * 1) % 101 else 0) q b c = s q b c := fun q b c z => fset_o _ _ _ _ _ _ _ (by omega) (by omega)
  generalize fset s 44 (d : Int) (fun j => if j < mnN d then (0 + mat s (4 + k) d j * 1) % 101 else 0) = s' at *
  have q51 := sq_51r hI' r 44 (by omega) (by omega)
  have qh := ref_hold 0 r r 44 (by omega) hS'
  have hu : ∀ a b c, (29 ≤ a ∧ a < 38) → mhold (cchg s' 0 r r 44) n a b c = s a b c := fun a b c z => by rw [mc_o _ _ _ _ _ _ (by omega) _ _ _ (by omega) (by omega) (by omega) (by omega), hfo _ _ _ (by omega)]
  refine go_lay (s' := s') (r := r) (d := d) (n := n) (nx := nx) (g := fun j => if j < mnN d then mmt s k d j else 0) (d : Int) hI' hS' (by omega) (by omega) hfd (fun j hj _ => ?_) (fun j hj => ?_) ?_ (fun qs ql qd => ?_)
  · rw [if_pos hj]
    exact mal_g _ _ _ _ _ _
  · rw [hfn j hj]
    by_cases c : j < mnN d
    · have m := mal_g (s 31 0 (3 * k)) (s 31 0 (3 * k + 1)) (s 31 0 (3 * k + 2)) (d - plev j) (py j) (pz j)
      rw [if_pos c, if_pos c, if_pos c, k6, Int.zero_add, Int.mul_one]
      exact Int.emod_eq_of_lt m.1 m.2
    · rw [if_neg c, if_neg c]
  · rw [bq_9]
    repeat (first | rw [jbI_s] | rw [jbV_s] | rw [bI_t (by omega)] | rw [bI_f (by omega)] | rw [if_pos (by omega)] | rw [if_neg (by omega)] | rw [sq_39] | rw [sq_40] | rw [sq_42] | rw [sq_65])
    simp (disch := omega) only [q73, q51, iteT, or_true, true_or, jbI_s, jbV_s, jbR_s, bI_t, bI_f, if_pos, if_neg, jwi, tm101, Int.toNat_natCast, ca1, ca2, cm3, cm4, cm18, cm21, cm40, cm84, ca, Nat.mul_zero, Nat.zero_add]
  · rw [bq_229]
    repeat (first | rw [jbI_s] | rw [jbV_s] | rw [bI_t (by omega)] | rw [bI_f (by omega)] | rw [if_pos (by omega)] | rw [if_neg (by omega)] | rw [sq_201] | rw [sq_202] | rw [sq_200] | rw [qh] | rw [sq_214])
    generalize hU : mhold (cchg s' 0 r r 44) n = U at *
    refine loopI (P := fun i => je 229 37 [some (.inr (11, 0)), some (.inl (r : Int)), some (.inl (k : Int)), some (.inl (d : Int)), some (.inl (i : Int))] [] (mset U d (fun j => if j < i then mmt s k d j else 0))) (n := mnN d) (fun i hi => ?_) ?_
    · show je 229 37 _ [] _ = je 229 37 _ [] _
      have f1 : ∀ g j, mset U d g 31 0 j = s 31 0 j := fun g j => by rw [mset_o _ _ _ _ _ _ (by omega) (by omega), hu _ _ _ (by omega)]
      have hL : ∀ g, MG (mset U d g) k := fun g => by unfold MG; rw [f1, f1, f1]; exact k5
      have hM : ∀ g, mmt (mset U d g) k d i = mmt s k d i := fun g => by unfold mmt; rw [f1, f1, f1]
      have q210 := fun g => sq_210 (mset U d g) d i k (by omega) hi (by omega) (hL g)
      rw [be_229_37]
      simp (disch := omega) only [sq_203, q210, hM, mset_up, iteT, or_true, true_or, jbI_s, jbV_s, jbR_s, bI_t, bI_f, if_pos, if_neg, jwi, tm101, Int.toNat_natCast, ca1, ca2, cm3, cm4, cm18, cm21, cm40, cm84, ca, Nat.mul_zero, Nat.zero_add]
      refine congrArg (fun z => je 229 37 [some (.inr (11, 0)), some (.inl (r : Int)), some (.inl (k : Int)), some (.inl (d : Int)), some (.inl ((i + 1 : Nat) : Int))] [] (mset U d z)) (funext fun j => ?_)
      by_cases c : j = i
      · rw [if_pos c, c, if_pos (by omega)]
      · rw [if_neg c]
        by_cases c2 : j < i
        · rw [if_pos c2, if_pos (by omega)]
        · rw [if_neg c2, if_neg (by omega)]
    · show je 229 37 _ [] _ = _
      rw [be_229_37]
      simp (disch := omega) only [sq_203, ql, qs, qd, iteT, or_true, true_or, jbI_s, jbV_s, jbR_s, bI_t, bI_f, if_pos, if_neg, jwi, tm101, Int.toNat_natCast, ca1, ca2, cm3, cm4, cm18, cm21, cm40, cm84, ca, Nat.mul_zero, Nat.zero_add]
/-- a power comes to a register of the reference -/
def madd (s : jM) (r k d : Nat) (v : Int) (n : Nat) : jM := jfl s 30 0 (21 * r) n (fun m => (s 30 0 (21 * r + m) + v * mmt s k d m) % 101)
theorem madd_o (s : jM) (r k d : Nat) (v : Int) (n : Nat) (a b c : Nat) (h : a ≠ 30) : madd s r k d v n a b c = s a b c := by
  unfold madd
  rw [jfl_ne _ _ _ _ _ _ _ _ _ (by omega)]
theorem sq_230 (s : jM) (r k d : Nat) (v : Int) (hr : r < 4) (hk : k < 6) (hd : d ≤ 5) (hv : g101 v) (h29 : s 29 0 r = (d : Int)) (hg : ∀ j, j < 21 → g101 (s 30 0 (21 * r + j))) (hL : MG s k) : jq 230 [.inr (11, 0), .inl (r : Int), .inl (k : Int), .inl v] s = some (none, madd s r k d v (mnN d)) := by
  have em := mnN_le d hd
  rw [bq_230]
  refine (congrArg (fun z => je 230 3 [some (.inr (11, 0)), some (.inl (r : Int)), some (.inl (k : Int)), some (.inl v), some (.inl 0)] [] z) (jfl_0 s 30 0 (21 * r) (fun m => (s 30 0 (21 * r + m) + v * mmt s k d m) % 101)).symm).trans ?_
  refine loopI (P := fun i => je 230 3 [some (.inr (11, 0)), some (.inl (r : Int)), some (.inl (k : Int)), some (.inl v), some (.inl (i : Int))] [] (madd s r k d v i)) (n := mnN d) (fun i hi => ?_) ?_
  · show je 230 3 _ [] _ = je 230 3 _ [] _
    have f1 : ∀ j, madd s r k d v i 31 0 j = s 31 0 j := fun j => madd_o _ _ _ _ _ _ _ _ _ (by omega)
    have f2 : madd s r k d v i 29 0 r = (d : Int) := by rw [madd_o _ _ _ _ _ _ _ _ _ (by omega)]; exact h29
    have f3 : madd s r k d v i 30 0 (21 * r + i) = s 30 0 (21 * r + i) := by unfold madd; rw [jfl_ne _ _ _ _ _ _ _ _ _ (by omega)]
    have hL2 : MG (madd s r k d v i) k := by unfold MG; rw [f1, f1, f1]; exact hL
    have hM : mmt (madd s r k d v i) k d i = mmt s k d i := by unfold mmt; rw [f1, f1, f1]
    have q210 := sq_210 (madd s r k d v i) d i k (by omega) hi (by omega) hL2
    rw [hM] at q210
    have hm := mul101 hv (show g101 (mmt s k d i) from mal_g _ _ _ _ _ _)
    obtain ⟨x1, x2⟩ := hg i (by omega)
    have fe : jup (madd s r k d v i) 30 0 (21 * r + i) ((s 30 0 (21 * r + i) + v * mmt s k d i) % 101) = madd s r k d v (i + 1) := jfl_up _ _ _ _ _ _ _ rfl _ rfl
    rw [be_230_3]
    simp (disch := omega) only [f2, f3, sq_203, q210, fe, iteT, or_true, true_or, jbI_s, jbV_s, jbR_s, bI_t, bI_f, if_pos, if_neg, jwi, tm101, Int.toNat_natCast, ca1, ca2, cm3, cm4, cm18, cm21, cm40, cm84, ca, Nat.mul_zero, Nat.zero_add]
  · show je 230 3 _ [] _ = _
    have f2 : madd s r k d v (mnN d) 29 0 r = (d : Int) := by rw [madd_o _ _ _ _ _ _ _ _ _ (by omega)]; exact h29
    rw [be_230_3]
    simp (disch := omega) only [f2, sq_203, iteT, or_true, true_or, jbI_s, jbV_s, jbR_s, bI_t, bI_f, if_pos, if_neg, jwi, tm101, Int.toNat_natCast, ca1, ca2, cm3, cm4, cm18, cm21, cm40, cm84, ca, Nat.mul_zero, Nat.zero_add]
/-- adds -/
theorem hT_add {s s0 : jM} {n r k d f : Nat} {v : Int} (hr : r < 4) (hd : d ≤ 5) (h29 : s 29 0 r = (d : Int)) (h1 : s 1 f 1 = (d : Int)) (hs0 : ∀ a b c, (29 ≤ a ∧ a < 38) → s a b c = s0 a b c) (hg : ∀ j, j < 21 → s 16 f j = if j < mnN d then (s0 30 0 (21 * r + j) + v * mmt s0 k d j) % 101 else s0 30 0 (21 * r + j)) : hT s (madd (mhold (cchg s 0 r r f) n) r k d v (mnN d)) n 0 r r f := by
  have em := mnN_le d hd
  have hu : ∀ a b c, (29 ≤ a ∧ a < 38) → mhold (cchg s 0 r r f) n a b c = s a b c := fun a b c z => by rw [mc_o _ _ _ _ _ _ (by omega) _ _ _ (by omega) (by omega) (by omega) (by omega)]
  have hM : ∀ m, mmt (mhold (cchg s 0 r r f) n) k d m = mmt s0 k d m := fun m => by unfold mmt; rw [hu _ _ _ (by omega), hu _ _ _ (by omega), hu _ _ _ (by omega), hs0 _ _ _ (by omega), hs0 _ _ _ (by omega), hs0 _ _ _ (by omega)]
  refine hT_mk (by omega) (fun q a b z => madd_o _ _ _ _ _ _ _ _ _ (by omega)) (fun r' hr' => ?_) (fun r' hr' j hj => ?_) (fun m hm j hj => ?_)
  · rw [madd_o _ _ _ _ _ _ _ _ _ (by omega), hu _ _ _ (by omega), h1]
    by_cases e : r' = r
    · rw [if_pos ⟨rfl, e⟩, e, h29]
    · rw [if_neg (fun y => e y.2)]
  · unfold madd
    by_cases e : r' = r
    · rw [if_pos (show (0 : Int) = 0 ∧ r' = r from ⟨rfl, e⟩), hg j hj, e]
      by_cases c : j < mnN d
      · rw [if_pos c, jfl_in _ _ _ _ _ _ _ c, hM, hu _ _ _ (by omega), hs0 _ _ _ (by omega)]
      · rw [if_neg c, jfl_ne _ _ _ _ _ _ _ _ _ (by omega), hu _ _ _ (by omega), hs0 _ _ _ (by omega)]
    · rw [if_neg (fun y => e y.2), jfl_ne _ _ _ _ _ _ _ _ _ (by omega), hu _ _ _ (by omega)]
  · rw [madd_o _ _ _ _ _ _ _ _ _ (by omega), hu _ _ _ (by omega), if_neg (fun y => absurd y.1 (by decide))]
theorem ap_10 (s : jM) (hI : Inv s) (v1 v2 v3 : Int) : Go s 10 231 [.inl v1, .inl v2, .inl v3] := by
  by_cases h1 : 0 ≤ v1 ∧ v1 < 4
  rotate_left
  · exact go_no (-1) hI (by rw [bq_10]; repeat (first | rw [jbI_s] | rw [jbV_s] | rw [bI_t (by omega)] | rw [bI_f (by omega)] | rw [if_pos (by omega)] | rw [if_neg (by omega)] | rw [sq_39])) (by rw [bq_231]; repeat (first | rw [jbI_s] | rw [jbV_s] | rw [bI_t (by omega)] | rw [bI_f (by omega)] | rw [if_pos (by omega)] | rw [if_neg (by omega)] | rw [sq_201]))
  by_cases h2 : 0 ≤ v2 ∧ v2 < 6
  rotate_left
  · exact go_no (-1) hI (by rw [bq_10]; repeat (first | rw [jbI_s] | rw [jbV_s] | rw [bI_t (by omega)] | rw [bI_f (by omega)] | rw [if_pos (by omega)] | rw [if_neg (by omega)] | rw [sq_39] | rw [sq_40])) (by rw [bq_231]; repeat (first | rw [jbI_s] | rw [jbV_s] | rw [bI_t (by omega)] | rw [bI_f (by omega)] | rw [if_pos (by omega)] | rw [if_neg (by omega)] | rw [sq_201] | rw [sq_202]))
  by_cases h3 : 0 ≤ v3 ∧ v3 < 101
  rotate_left
  · exact go_no (-1) hI (by rw [bq_10]; repeat (first | rw [jbI_s] | rw [jbV_s] | rw [bI_t (by omega)] | rw [bI_f (by omega)] | rw [if_pos (by omega)] | rw [if_neg (by omega)] | rw [sq_39] | rw [sq_40] | rw [sq_43])) (by rw [bq_231]; repeat (first | rw [jbI_s] | rw [jbV_s] | rw [bI_t (by omega)] | rw [bI_f (by omega)] | rw [if_pos (by omega)] | rw [if_neg (by omega)] | rw [sq_201] | rw [sq_202] | rw [sq_200]))
  obtain ⟨r, rfl⟩ := nat_of v1 h1.1
  obtain ⟨k, rfl⟩ := nat_of v2 h2.1
  obtain ⟨d, hd, r1, r2, r3, r4, r5, r6, r7⟩ := inv_reg hI r (by omega)
  obtain ⟨k1, k2, k3, k4, k5, k6⟩ := inv_line hI k (by omega)
  obtain ⟨n, nx, hS⟩ := hI.2.2.2.2.2.1
  have em := mnN_le d (by omega)
  have q73 := sq_73 s 44 (4 + k) d v3 (s 16 r) (by omega) (by omega) k4 r5 h3
  have hI' := Inv_fs hI 44 (Or.inl rfl) (d : Int) (fun j => if j < mnN d then (s 16 r j + mat s (4 + k) d j * v3) % 101 else s 16 r j)
  have hS' : RS (fset s 44 (d : Int) (fun j => if j < mnN d then (s 16 r j + mat s (4 + k) d j * v3) % 101 else s 16 r j)) n nx := RS_cg (fun k i j q => fset_o _ _ _ _ _ _ _ (by omega) (by omega)) hS
  have hfd := fset_d s 44 (d : Int) (fun j => if j < mnN d then (s 16 r j + mat s (4 + k) d j * v3) % 101 else s 16 r j)
  have hfn := fset_n s 44 (d : Int) (fun j => if j < mnN d then (s 16 r j + mat s (4 + k) d j * v3) % 101 else s 16 r j)
  have hfo : ∀ q b c, 29 ≤ q → fset s 44 (d : Int) (fun j => if j < mnN d then (s 16 r j + mat s (4 + k) d j * v3) % 101 else s 16 r j) q b c = s q b c := fun q b c z => fset_o _ _ _ _ _ _ _ (by omega) (by omega)
  generalize fset s 44 (d : Int) (fun j => if j < mnN d then (s 16 r j + mat s (4 + k) d j * v3) % 101 else s 16 r j) = s' at *
  have q51 := sq_51r hI' r 44 (by omega) (by omega)
  have qh := ref_hold 0 r r 44 (by omega) hS'
  have hu : ∀ a b c, (29 ≤ a ∧ a < 38) → mhold (cchg s' 0 r r 44) n a b c = s a b c := fun a b c z => by rw [mc_o _ _ _ _ _ _ (by omega) _ _ _ (by omega) (by omega) (by omega) (by omega), hfo _ _ _ (by omega)]
  have hfn2 : ∀ j, j < 21 → s' 16 44 j = if j < mnN d then (s 30 0 (21 * r + j) + v3 * mmt s k d j) % 101 else s 30 0 (21 * r + j) := fun j hj => by
    rw [hfn j hj]
    by_cases c : j < mnN d
    · rw [if_pos c, if_pos c, k6, r4 j hj, Int.mul_comm]
    · rw [if_neg c, if_neg c, r4 j hj]
  have hF : FW (s' 1 44 1) (s' 16 44) := by
    rw [hfd]
    refine ⟨by omega, by omega, fun j hj => ?_, fun j h4 hj => ?_⟩
    · rw [hfn j hj]
      split
      · exact em101 _
      · exact r5 j hj
    · rw [Int.toNat_natCast] at h4
      rw [hfn j hj, if_neg (by omega)]
      exact r7 j h4 hj
  have hk : hK s' 0 r r 44 := Or.inl ⟨rfl, by omega, rfl⟩
  have ht : hT s' (madd (mhold (cchg s' 0 r r 44) n) r k d v3 (mnN d)) n 0 r r 44 := hT_add (s0 := s) (by omega) hd (by rw [hfo _ _ _ (by omega)]; exact r2) hfd (fun a b c z => hfo _ _ _ (by omega)) hfn2
  have qs := ref_settle hI' hS' hk hF ht
  have q230 := sq_230 (mhold (cchg s' 0 r r 44) n) r k d v3 (by omega) (by omega) hd h3 (by rw [hu _ _ _ (by omega)]; exact r2) (fun j hj => by rw [hu _ _ _ (by omega)]; exact r6 j hj) (by unfold MG; rw [hu _ _ _ (by omega), hu _ _ _ (by omega), hu _ _ _ (by omega)]; exact k5)
  refine ⟨(d : Int), cchg s' 0 r r 44, _, ?_, ?_, chg _ _ n nx 0 r r 44 hI' hS' hk (by omega) hF ht⟩
  · have e44 : cchg s' 0 r r 44 1 44 1 = (d : Int) := by rw [cchg_o _ _ _ _ _ _ _ _ (by omega), hfd]
    rw [bq_10]
    repeat (first | rw [jbI_s] | rw [jbV_s] | rw [bI_t (by omega)] | rw [bI_f (by omega)] | rw [if_pos (by omega)] | rw [if_neg (by omega)] | rw [sq_39] | rw [sq_40] | rw [sq_43] | rw [Nat.mul_zero] | rw [Nat.zero_add] | rw [Int.toNat_natCast] | rw [sq_66] | rw [r1])
    simp (disch := omega) only [q73, q51, e44, iteT, or_true, true_or, jbI_s, jbV_s, jbR_s, bI_t, bI_f, if_pos, if_neg, jwi, tm101, Int.toNat_natCast, ca1, ca2, cm3, cm4, cm18, cm21, cm40, cm84, ca, Nat.mul_zero, Nat.zero_add]
  · have e29 : msettle (madd (mhold (cchg s' 0 r r 44) n) r k d v3 (mnN d)) n 29 0 r = (d : Int) := by
      rw [msettle_o _ _ _ _ _ (by omega) (by omega) (by omega) (by omega), madd_o _ _ _ _ _ _ _ _ _ (by omega), hu _ _ _ (by omega)]; exact r2
    rw [bq_231]
    repeat (first | rw [jbI_s] | rw [jbV_s] | rw [bI_t (by omega)] | rw [bI_f (by omega)] | rw [if_pos (by omega)] | rw [if_neg (by omega)] | rw [sq_201] | rw [sq_202] | rw [sq_200] | rw [qh] | rw [q230] | rw [qs])
    simp (disch := omega) only [e29, iteT, or_true, true_or, jbI_s, jbV_s, jbR_s, bI_t, bI_f, if_pos, if_neg, jwi, tm101, Int.toNat_natCast, ca1, ca2, cm3, cm4, cm18, cm21, cm40, cm84, ca, Nat.mul_zero, Nat.zero_add]
