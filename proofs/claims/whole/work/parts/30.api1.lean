/-! CALLS THAT CHANGE A REGISTER OR A LINE -/
theorem mc_o (s : jM) (n : Nat) (κ k : Int) (i f : Nat) (hi : i < 10) (a b c : Nat) (h0 : 29 ≤ a ∨ a = 11) (h1 : a ≠ 38) (h2 : a ≠ 39) (h3 : a ≠ 40) : mhold (cchg s κ k i f) n a b c = s a b c := by
  rw [mhold_o _ _ _ _ _ h1 h2 h3, cchg_o _ _ _ _ _ _ _ _ (by omega)]
theorem cc_o (s : jM) (κ k : Int) (i f : Nat) (hi : i < 10) (a b c : Nat) (h0 : 29 ≤ a ∨ a = 11) : cchg s κ k i f a b c = s a b c := by
  rw [cchg_o _ _ _ _ _ _ _ _ (by omega)]
theorem nat_of (x : Int) (h : 0 ≤ x) : ∃ n : Nat, x = (n : Int) := ⟨x.toNat, by omega⟩
theorem Inv_fs {s : jM} (hI : Inv s) (f : Nat) (hf : f = 44 ∨ f = 45) (d : Int) (g : Nat → Int) : Inv (fset s f d g) := Inv_kp (kp_fset s f hf d g) hI
theorem ap_0 (s : jM) (hI : Inv s) (v1 v2 : Int) : Go s 0 216 [.inl v1, .inl v2] := by
  by_cases h1 : 0 ≤ v1 ∧ v1 < 4
  rotate_left
  · exact go_no (-1) hI (by rw [bq_0]; simp (disch := omega) only [sq_39, iteT, or_true, true_or, jbI_s, jbV_s, jbR_s, bI_t, bI_f, if_pos, if_neg, jwi, tm101, Int.toNat_natCast, ca1, ca2, cm3, cm4, cm18, cm21, cm40, cm84, ca, Nat.mul_zero, Nat.zero_add]) (by rw [bq_216]; simp (disch := omega) only [sq_201, iteT, or_true, true_or, jbI_s, jbV_s, jbR_s, bI_t, bI_f, if_pos, if_neg, jwi, tm101, Int.toNat_natCast, ca1, ca2, cm3, cm4, cm18, cm21, cm40, cm84, ca, Nat.mul_zero, Nat.zero_add])
  by_cases h2 : 0 ≤ v2 ∧ v2 ≤ 5
  rotate_left
  · exact go_no (-1) hI (by rw [bq_0]; simp (disch := omega) only [sq_39, sq_42, iteT, or_true, true_or, jbI_s, jbV_s, jbR_s, bI_t, bI_f, if_pos, if_neg, jwi, tm101, Int.toNat_natCast, ca1, ca2, cm3, cm4, cm18, cm21, cm40, cm84, ca, Nat.mul_zero, Nat.zero_add]) (by rw [bq_216]; simp (disch := omega) only [sq_201, sq_200, iteT, or_true, true_or, jbI_s, jbV_s, jbR_s, bI_t, bI_f, if_pos, if_neg, jwi, tm101, Int.toNat_natCast, ca1, ca2, cm3, cm4, cm18, cm21, cm40, cm84, ca, Nat.mul_zero, Nat.zero_add])
  obtain ⟨r, rfl⟩ := nat_of v1 h1.1
  obtain ⟨d, rfl⟩ := nat_of v2 h2.1
  obtain ⟨e, he, r1, r2, r3⟩ := inv_reg hI r (by omega)
  obtain ⟨n, nx, hS⟩ := hI.2.2.2.2.2.1
  have hI' := Inv_fs hI 44 (Or.inl rfl) (d : Int) (fun _ => 0)
  have hS' : RS (fset s 44 (d : Int) fun _ => 0) n nx := RS_cg (fun k i j q => fset_o _ _ _ _ _ _ _ (by omega) (by omega)) hS
  have q51 := sq_51r hI' r 44 (by omega) (by omega)
  have qh := ref_hold 0 r r 44 (by omega) hS'
  have e29 : cchg (fset s 44 (d : Int) fun _ => 0) 0 (r : Int) r 44 29 0 r = (e : Int) := by rw [cc_o _ _ _ _ _ (by omega) _ _ _ (by omega), fset_o _ _ _ _ _ _ _ (by omega) (by omega)]; exact r2
  refine go_lay (s' := fset s 44 (d : Int) fun _ => 0) (r := r) (d := d) (g := fun _ => 0) (e : Int) hI' hS' (by omega) (by omega) (fset_d _ _ _ _) (fun j _ hj => g21_0 j hj) (fun j hj => ?_) ?_ (fun qs ql qd => ?_)
  · rw [fset_n _ _ _ _ _ hj]
    split <;> rfl
  · rw [bq_0]
    simp (disch := omega) only [sq_39, sq_42, sq_65, q51, r1, iteT, or_true, true_or, jbI_s, jbV_s, jbR_s, bI_t, bI_f, if_pos, if_neg, jwi, tm101, Int.toNat_natCast, ca1, ca2, cm3, cm4, cm18, cm21, cm40, cm84, ca, Nat.mul_zero, Nat.zero_add]
  · rw [bq_216]
    simp (disch := omega) only [sq_201, sq_200, sq_214, qh, ql, qs, e29, iteT, or_true, true_or, jbI_s, jbV_s, jbR_s, bI_t, bI_f, if_pos, if_neg, jwi, tm101, Int.toNat_natCast, ca1, ca2, cm3, cm4, cm18, cm21, cm40, cm84, ca, Nat.mul_zero, Nat.zero_add]
theorem sq_217 (s : jM) (v1 v2 v3 : Int) (d : Nat) (hd : d ≤ 5) (h : 0 ≤ v1 ∧ v1 < 4 → s 29 0 v1.toNat = (d : Int)) : jq 217 [.inr (11, 0), .inl v1, .inl v2, .inl v3] s = some (some (.inl (bI ((0 ≤ v1 ∧ v1 < 4) ∧ 0 ≤ v2 ∧ v2 ≤ d ∧ 0 ≤ v3 ∧ v3 ≤ d - v2))), s) := by
  rw [bq_217]
  by_cases h1 : 0 ≤ v1 ∧ v1 < 4
  · have h := h h1
    by_cases c1 : v2 < 0
    · simp (disch := omega) only [sq_201, iteT, or_true, true_or, jbI_s, jbV_s, jbR_s, bI_t, bI_f, if_pos, if_neg, jwi, tm101, Int.toNat_natCast, ca1, ca2, cm3, cm4, cm18, cm21, cm40, cm84, ca, Nat.mul_zero, Nat.zero_add]
    by_cases c2 : v3 < 0
    · simp (disch := omega) only [sq_201, iteT, or_true, true_or, jbI_s, jbV_s, jbR_s, bI_t, bI_f, if_pos, if_neg, jwi, tm101, Int.toNat_natCast, ca1, ca2, cm3, cm4, cm18, cm21, cm40, cm84, ca, Nat.mul_zero, Nat.zero_add]
    by_cases c3 : (d : Int) < v2
    · simp (disch := omega) only [sq_201, h, iteT, or_true, true_or, jbI_s, jbV_s, jbR_s, bI_t, bI_f, if_pos, if_neg, jwi, tm101, Int.toNat_natCast, ca1, ca2, cm3, cm4, cm18, cm21, cm40, cm84, ca, Nat.mul_zero, Nat.zero_add]
    by_cases c4 : (d : Int) - v2 < v3
    · simp (disch := omega) only [sq_201, h, iteT, or_true, true_or, jbI_s, jbV_s, jbR_s, bI_t, bI_f, if_pos, if_neg, jwi, tm101, Int.toNat_natCast, ca1, ca2, cm3, cm4, cm18, cm21, cm40, cm84, ca, Nat.mul_zero, Nat.zero_add]
    · simp (disch := omega) only [sq_201, h, iteT, or_true, true_or, jbI_s, jbV_s, jbR_s, bI_t, bI_f, if_pos, if_neg, jwi, tm101, Int.toNat_natCast, ca1, ca2, cm3, cm4, cm18, cm21, cm40, cm84, ca, Nat.mul_zero, Nat.zero_add]
  · simp (disch := omega) only [sq_201, iteT, or_true, true_or, jbI_s, jbV_s, jbR_s, bI_t, bI_f, if_pos, if_neg, jwi, tm101, Int.toNat_natCast, ca1, ca2, cm3, cm4, cm18, cm21, cm40, cm84, ca, Nat.mul_zero, Nat.zero_add]
theorem ref_put (u w z : jM) (r a b d p : Nat) (v4 : Int) (hr : r < 4) (hp : p < 21) (h3 : 0 ≤ v4 ∧ v4 < 101) (h : jq 217 [.inr (11, 0), .inl (r : Int), .inl (a : Int), .inl (b : Int)] u = some (some (.inl 1), u)) (e29 : u 29 0 r = (d : Int)) (m204 : ∀ s, jq 204 [.inl (d : Int), .inl (a : Int), .inl (b : Int)] s = some (some (.inl (p : Int)), s)) (qh : jq 211 [.inr (11, 0)] u = some (none, w)) (qs : jq 213 [.inr (11, 0)] (jup w 30 0 (21 * r + p) v4) = some (none, z)) : jq 218 [.inr (11, 0), .inl (r : Int), .inl (a : Int), .inl (b : Int), .inl v4] u = some (some (.inl (u 30 0 (21 * r + p))), z) := by
  rw [bq_218, h, jbI_s, if_neg (by decide), sq_200, jbI_s, bI_t (by omega), if_neg (by decide), if_pos (by omega), Int.toNat_natCast, e29, m204, jbI_s]
  simp (disch := omega) only [qh, qs, iteT, or_true, true_or, jbI_s, jbV_s, jbR_s, bI_t, bI_f, if_pos, if_neg, jwi, tm101, Int.toNat_natCast, ca1, ca2, cm3, cm4, cm18, cm21, cm40, cm84, ca, Nat.mul_zero, Nat.zero_add]
theorem ap_1 (s : jM) (hI : Inv s) (v1 v2 v3 v4 : Int) : Go s 1 218 [.inl v1, .inl v2, .inl v3, .inl v4] := by
  by_cases h1 : 0 ≤ v1 ∧ v1 < 4
  rotate_left
  · exact go_no (-1) hI (by rw [bq_1]; simp (disch := omega) only [sq_39, iteT, or_true, true_or, jbI_s, jbV_s, jbR_s, bI_t, bI_f, if_pos, if_neg, jwi, tm101, Int.toNat_natCast, ca1, ca2, cm3, cm4, cm18, cm21, cm40, cm84, ca, Nat.mul_zero, Nat.zero_add]) (by rw [bq_218, sq_217 s v1 v2 v3 0 (by omega) (fun z => absurd z h1)]; simp (disch := omega) only [iteT, or_true, true_or, jbI_s, jbV_s, jbR_s, bI_t, bI_f, if_pos, if_neg, jwi, tm101, Int.toNat_natCast, ca1, ca2, cm3, cm4, cm18, cm21, cm40, cm84, ca, Nat.mul_zero, Nat.zero_add])
  obtain ⟨r, rfl⟩ := nat_of v1 h1.1
  obtain ⟨d, hd, r1, r2, r3, r4, r5, r6, r7⟩ := inv_reg hI r (by omega)
  have h217 := sq_217 s r v2 v3 d hd (fun _ => by rw [Int.toNat_natCast]; exact r2)
  by_cases h2 : 0 ≤ v2 ∧ v2 ≤ d ∧ 0 ≤ v3 ∧ v3 ≤ d - v2
  rotate_left
  · exact go_no (-1) hI (by rw [bq_1]; simp (disch := omega) only [sq_39, r1, sq_44, iteT, or_true, true_or, jbI_s, jbV_s, jbR_s, bI_t, bI_f, if_pos, if_neg, jwi, tm101, Int.toNat_natCast, ca1, ca2, cm3, cm4, cm18, cm21, cm40, cm84, ca, Nat.mul_zero, Nat.zero_add]) (by rw [bq_218, h217]; simp (disch := omega) only [iteT, or_true, true_or, jbI_s, jbV_s, jbR_s, bI_t, bI_f, if_pos, if_neg, jwi, tm101, Int.toNat_natCast, ca1, ca2, cm3, cm4, cm18, cm21, cm40, cm84, ca, Nat.mul_zero, Nat.zero_add])
  by_cases h3 : 0 ≤ v4 ∧ v4 < 101
  rotate_left
  · exact go_no (-1) hI (by rw [bq_1]; simp (disch := omega) only [sq_39, r1, sq_44, sq_43, iteT, or_true, true_or, jbI_s, jbV_s, jbR_s, bI_t, bI_f, if_pos, if_neg, jwi, tm101, Int.toNat_natCast, ca1, ca2, cm3, cm4, cm18, cm21, cm40, cm84, ca, Nat.mul_zero, Nat.zero_add]) (by rw [bq_218, h217]; simp (disch := omega) only [sq_200, iteT, or_true, true_or, jbI_s, jbV_s, jbR_s, bI_t, bI_f, if_pos, if_neg, jwi, tm101, Int.toNat_natCast, ca1, ca2, cm3, cm4, cm18, cm21, cm40, cm84, ca, Nat.mul_zero, Nat.zero_add])
  obtain ⟨a, rfl⟩ := nat_of v2 h2.1
  obtain ⟨b, rfl⟩ := nat_of v3 h2.2.2.1
  obtain ⟨p1, p2, p3⟩ := pl_lt b (by omega) (d - a - b) (by omega) (by omega)
  have p4 := pl_mn b (d - a - b) d (by omega) (by omega) (by omega) hd
  have c46 := sq_46 b (d - a - b) (by omega) (by omega)
  have m204 := fun s => sq_204 d a b hd (by omega) s
  have em := mnN_le d hd
  generalize hp : pl b (d - a - b) = p at *
  obtain ⟨n, nx, hS⟩ := hI.2.2.2.2.2.1
  have hs' : jup (fset s 44 (s 1 r 1) fun j => s 16 r j) 16 44 p v4 = fset s 44 (s 1 r 1) (fun j => if j = p then v4 else s 16 r j) := fset_up _ _ _ _ _ p1 _
  have hI' := Inv_fs hI 44 (Or.inl rfl) (s 1 r 1) (fun j => if j = p then v4 else s 16 r j)
  have hS' : RS (fset s 44 (s 1 r 1) (fun j => if j = p then v4 else s 16 r j)) n nx := RS_cg (fun k i j q => fset_o _ _ _ _ _ _ _ (by omega) (by omega)) hS
  have q51 := sq_51r hI' r 44 (by omega) (by omega)
  have hf1 : fset s 44 (s 1 r 1) (fun j => if j = p then v4 else s 16 r j) 1 44 1 = (d : Int) := by rw [fset_d, r1]
  have hf2 : ∀ j, j < 21 → fset s 44 (s 1 r 1) (fun j => if j = p then v4 else s 16 r j) 16 44 j = if j = p then v4 else s 16 r j := fun j hj => fset_n _ _ _ _ _ hj
  have hfo : ∀ q b c, 29 ≤ q → fset s 44 (s 1 r 1) (fun j => if j = p then v4 else s 16 r j) q b c = s q b c := fun q b c z => fset_o _ _ _ _ _ _ _ (by omega) (by omega)
  have qh := ref_hold 0 r r 44 (by omega) hS'
  have q63 := sq_63 (fset s 44 (s 1 r 1) fun j => s 16 r j) 44 p p1 v4
  rw [hs'] at q63
  have q62 := sq_62 r p p1 s
  have hF : FW (fset s 44 (s 1 r 1) (fun j => if j = p then v4 else s 16 r j) 1 44 1) (fset s 44 (s 1 r 1) (fun j => if j = p then v4 else s 16 r j) 16 44) := by
    rw [hf1]
    refine ⟨by omega, by omega, fun j hj => ?_, fun j h4 hj => ?_⟩
    · rw [hf2 j hj]
      split
      · exact ⟨h3.1, h3.2⟩
      · exact r5 j hj
    · rw [Int.toNat_natCast] at h4
      rw [hf2 j hj, if_neg (by omega)]
      exact r7 j h4 hj
  generalize hs2 : fset s 44 (s 1 r 1) (fun j => if j = p then v4 else s 16 r j) = s' at *
  have hk : hK s' 0 r r 44 := Or.inl ⟨rfl, by omega, rfl⟩
  have ht : hT s' (jup (mhold (cchg s' 0 r r 44) n) 30 0 (21 * r + p) v4) n 0 r r 44 := by
    refine hT_mk (by omega) (fun q a b z => jup_n _ _ _ _ _ _ _ _ (by omega)) (fun r' hr' => ?_) (fun r' hr' j hj => ?_) (fun m hm j hj => ?_)
    · rw [jup_n _ _ _ _ _ _ _ _ (by omega), mc_o _ _ _ _ _ _ (by omega) _ _ _ (by omega) (by omega) (by omega) (by omega), hf1]
      by_cases e : r' = r
      · rw [if_pos ⟨rfl, e⟩, e, hfo _ _ _ (by omega), r2]
      · rw [if_neg (fun y => e y.2)]
    · by_cases e : r' = r
      · rw [if_pos (show (0 : Int) = 0 ∧ r' = r from ⟨rfl, e⟩), hf2 j hj, e]
        by_cases e2 : j = p
        · rw [e2, jup_e, if_pos rfl]
        · rw [if_neg e2, jup_n _ _ _ _ _ _ _ _ (by omega), mc_o _ _ _ _ _ _ (by omega) _ _ _ (by omega) (by omega) (by omega) (by omega), hfo _ _ _ (by omega), r4 j hj]
      · rw [if_neg (fun y => e y.2), jup_n _ _ _ _ _ _ _ _ (by omega), mc_o _ _ _ _ _ _ (by omega) _ _ _ (by omega) (by omega) (by omega) (by omega)]
    · rw [if_neg (fun y => absurd y.1 (by decide)), jup_n _ _ _ _ _ _ _ _ (by omega), mc_o _ _ _ _ _ _ (by omega) _ _ _ (by omega) (by omega) (by omega) (by omega)]
  have qs := ref_settle hI' hS' hk hF ht
  have h217' := sq_217 (cchg s' 0 r r 44) r a b d hd (fun _ => by rw [Int.toNat_natCast, cc_o _ _ _ _ _ (by omega) _ _ _ (by omega), hfo _ _ _ (by omega)]; exact r2)
  have e29 : cchg s' 0 r r 44 29 0 r = (d : Int) := by rw [cc_o _ _ _ _ _ (by omega) _ _ _ (by omega), hfo _ _ _ (by omega)]; exact r2
  have e30 : cchg s' 0 r r 44 30 0 (21 * r + p) = s 16 r p := by rw [cc_o _ _ _ _ _ (by omega) _ _ _ (by omega), hfo _ _ _ (by omega), r4 p p1]
  refine ⟨s 16 r p, cchg s' 0 r r 44, _, ?_, ?_, chg _ _ n nx 0 r r 44 hI' hS' hk (by omega) hF ht⟩
  · have ec : (.inl ((d : Int) - a - b) : jV) = .inl ((d - a - b : Nat) : Int) := by congr 1; omega
    rw [bq_1]
    simp (disch := omega) only [sq_39, r1, sq_44, sq_43, ec, c46, q62, sq_66, iteT, or_true, true_or, jbI_s, jbV_s, jbR_s, bI_t, bI_f, if_pos, if_neg, jwi, tm101, Int.toNat_natCast, ca1, ca2, cm3, cm4, cm18, cm21, cm40, cm84, ca, Nat.mul_zero, Nat.zero_add]
    rw [← r1]
    simp (disch := omega) only [q63, q51, iteT, or_true, true_or, jbI_s, jbV_s, jbR_s, bI_t, bI_f, if_pos, if_neg, jwi, tm101, Int.toNat_natCast, ca1, ca2, cm3, cm4, cm18, cm21, cm40, cm84, ca, Nat.mul_zero, Nat.zero_add]
  · rw [← e30]
    exact ref_put _ _ _ r a b d p v4 (by omega) p1 (by omega) (by rw [h217']; rw [bI_t (by omega)]) e29 m204 qh qs
