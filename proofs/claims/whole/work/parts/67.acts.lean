/-! THE TEXT: acts done, on both sides -/
/-- what an act leaves as it was -/
def XF (s t : jM) : Prop := ∀ q i j, q = 3 ∨ q = 8 ∨ q = 19 ∨ q = 27 ∨ q = 37 ∨ q = 55 ∨ q = 56 ∨ q = 57 ∨ q = 11 ∧ i = 0 ∧ (j = 8 ∨ j = 37 ∨ j = 38) → t q i j = s q i j
/-- what the reference writes as it makes a form -/
def XM (s t : jM) : Prop := ∀ q i j, ¬ (q = 47 ∨ q = 11 ∧ 21 ≤ j ∧ j ≠ 38) → t q i j = s q i j
def ActGo (m : jM) (k : Nat) : Prop := ∃ (ok : Int) (m2 m3 m4 : jM), jq 53 [.inr (10, 0)] m = some (some (.inl ok), m2) ∧ jq 211 [.inr (11, 0)] m2 = some (none, m3) ∧ jq 281 [.inr (11, 0), .inl (k : Int)] m3 = some (some (.inl ok), m4) ∧ ((ok = 0 ∧ Inv m4 ∧ m4 11 0 38 = m 11 0 38) ∨ (ok = 1 ∧ ∃ m5, jq 213 [.inr (11, 0)] m4 = some (none, m5) ∧ Inv m5 ∧ XF m m5))
theorem sq_91 (i : Nat) (hi : i < 4) (s : jM) : jq 91 [.inr (3, 0), .inl (i : Int)] s = some (some (.inl (s 19 0 i)), s) := by
  rw [bq_91, sq_38, jbI_s, bI_t (by omega), if_neg (by decide), if_pos (by omega), Int.toNat_natCast]
/-- what is held beyond the steps is nobody's -/
theorem Inv_hold {s : jM} {n nx : Nat} (hI : Inv s) (hS : RS s n nx) : Inv (mhold s n) := by
  obtain ⟨⟨a1, a2⟩, ⟨a3, a4⟩, a5, a6⟩ := mhold_s s n
  have ho : ∀ a b c, a ≠ 38 → a ≠ 39 → a ≠ 40 → mhold s n a b c = s a b c := fun a b c x y z => mhold_o s n a b c x y z
  obtain ⟨a, b, c, d, e, -, g⟩ := hI
  obtain ⟨s1, s2, s3, s4, s5, s6⟩ := hS
  have hD : ∀ v r, r < 4 → sD (mhold s n) n v r = sD s n v r := fun v r hr => by
    unfold sD
    split
    · rw [a1 _ (by omega)]
    · rw [ho _ _ _ (by omega) (by omega) (by omega)]
  have hN : ∀ v r, r < 84 → sN (mhold s n) n v r = sN s n v r := fun v r hr => by
    unfold sN
    split
    · rw [a3 _ (by omega)]
    · rw [ho _ _ _ (by omega) (by omega) (by omega)]
  have hL : ∀ v r, r < 18 → sL (mhold s n) n v r = sL s n v r := fun v r hr => by
    unfold sL
    split
    · rw [a5 _ (by omega)]
    · rw [ho _ _ _ (by omega) (by omega) (by omega)]
  refine ⟨RB_cg (fun k i j q => ho k i j (by omega) (by omega) (by omega)) a, RK_cg (fun k i j q => ho k i j (by omega) (by omega) (by omega)) b, RR_cg (fun k i j q => ho k i j (by omega) (by omega) (by omega)) c, RT_cg (fun k i j q => ho k i j (by omega) (by omega) (by omega)) d, RI_cg (fun k i j q => ho k i j (by omega) (by omega) (by omega)) e, ⟨n, nx, ?_, ?_, s3, ?_, s5, fun u hu => ⟨SK_cg (fun j => ho _ _ _ (by omega) (by omega) (by omega)) (ho _ _ _ (by omega) (by omega) (by omega)) (fun j => ho _ _ _ (by omega) (by omega) (by omega)) (s6 u hu).1, SE_cg (fun j => ho _ _ _ (by omega) (by omega) (by omega)) (ho _ _ _ (by omega) (by omega) (by omega)) (fun j => ho _ _ _ (by omega) (by omega) (by omega)) (hD u) (hD (u + 1)) (hN u) (hN (u + 1)) (hL u) (hL (u + 1)) (s6 u hu).2⟩⟩, TI_cg (fun j => ho _ _ _ (by omega) (by omega) (by omega)) g⟩
  · rw [ho _ _ _ (by omega) (by omega) (by omega)]; exact s1
  · rw [ho _ _ _ (by omega) (by omega) (by omega)]; exact s2
  · rw [ho _ _ _ (by omega) (by omega) (by omega)]; exact s4
theorem act_no {m : jM} {k : Nat} (hI : Inv m) (h53 : jq 53 [.inr (10, 0)] m = some (some (.inl 0), m)) (h281 : ∀ M, (∀ a b c, a ≠ 38 → a ≠ 39 → a ≠ 40 → M a b c = m a b c) → ∃ m4, jq 281 [.inr (11, 0), .inl (k : Int)] M = some (some (.inl 0), m4) ∧ XM M m4) : ActGo m k := by
  obtain ⟨n, nx, hS⟩ := hI.2.2.2.2.2.1
  have ho : ∀ a b c, a ≠ 38 → a ≠ 39 → a ≠ 40 → mhold m n a b c = m a b c := fun a b c x y z => mhold_o m n a b c x y z
  obtain ⟨m4, q1, q2⟩ := h281 (mhold m n) ho
  refine ⟨0, m, mhold m n, m4, h53, sq_211 m n hS.2.2.1 hS.2.1, q1, Or.inl ⟨rfl, Inv_kp (fun k i j z => ?_) (Inv_hold hI hS), ?_⟩⟩
  · unfold Scr at z
    exact q2 k i j (by omega)
  · rw [q2 _ _ _ (by omega), ho _ _ _ (by omega) (by omega) (by omega)]
/-- a made form laid -/
theorem act_lay {s U : jM} {f r d n nx : Nat} {g : Nat → Int} (hI : Inv s) (hS : RS s n nx) (hr : r < 4) (hd : d ≤ 5) (hf : f = 44 ∨ f = 45) (h1 : s 1 f 1 = (d : Int)) (hg1 : ∀ j, j < 21 → g101 (g j)) (hgz : ∀ j, mnN d ≤ j → j < 21 → g j = 0) (hg : ∀ j, j < 21 → s 16 f j = g j) (hU : XM (mhold (cchg s 0 r r f) n) U) (hU21 : U 11 0 21 = (d : Int)) (hU37 : U 11 0 37 = s 11 0 37) (hU47 : ∀ j, j < 21 → U 47 0 j = g j) : jq 215 [.inr (11, 0), .inl (r : Int)] U = some (none, mlay U r d) ∧ jq 213 [.inr (11, 0)] (mlay U r d) = some (none, msettle (mlay U r d) n) ∧ Inv (msettle (mlay U r d) n) ∧ XF s (msettle (mlay U r d) n) := by
  have hF : FW (s 1 f 1) (s 16 f) := by
    rw [h1]
    refine ⟨by omega, by omega, fun j hj => ?_, fun j h2 hj => ?_⟩
    · rw [hg j hj]; exact hg1 j hj
    · rw [hg j hj]; exact hgz j (by rw [Int.toNat_natCast] at h2; exact h2) hj
  have hk : hK s 0 r r f := Or.inl ⟨rfl, hr, rfl⟩
  have ho : ∀ a b c, (29 ≤ a ∨ a = 11) → a ≠ 38 → a ≠ 39 → a ≠ 40 → mhold (cchg s 0 r r f) n a b c = s a b c := fun a b c x y z w => mc_o _ _ _ _ _ _ (by omega) _ _ _ x y z w
  have ht : hT s (mlay U r d) n 0 r r f := by
    refine hT_mk (by omega) (fun q a b z => ?_) (fun r' hr' => ?_) (fun r' hr' j hj => ?_) (fun m hm j hj => ?_)
    · have z2 : ¬ Scr q a b := fun y => z (Or.inr (Or.inr (Or.inr y)))
      unfold Scr at z2
      rw [mlay_o _ _ _ _ _ _ (by omega) (by omega), hU _ _ _ (by omega)]
    · rw [mlay_d, h1, hU _ _ _ (by omega), ho _ _ _ (by omega) (by omega) (by omega) (by omega)]
      by_cases e : r' = r
      · rw [if_pos e, if_pos ⟨rfl, e⟩]
      · rw [if_neg e, if_neg (fun y => e y.2)]
    · rw [mlay_n _ _ _ _ _ hj, hU47 j hj, hU _ _ _ (by omega), ho _ _ _ (by omega) (by omega) (by omega) (by omega)]
      by_cases e : r' = r
      · rw [if_pos e, if_pos (show (0 : Int) = 0 ∧ r' = r from ⟨rfl, e⟩), hg j hj]
        by_cases c : j < mnN d
        · rw [if_pos c]
        · rw [if_neg c, hgz j (by omega) hj]
      · rw [if_neg e, if_neg (fun y => e y.2)]
    · rw [mlay_o _ _ _ _ _ _ (by omega) (by omega), hU _ _ _ (by omega), ho _ _ _ (by omega) (by omega) (by omega) (by omega), if_neg (fun y => absurd y.1 (by decide))]
  refine ⟨sq_215 _ r d hr hd hU21, ref_settle hI hS hk hF ht, chg _ _ n nx 0 r r f hI hS hk (by omega) hF ht, fun q i j z => ?_⟩
  rw [msettle_o _ _ _ _ _ (by omega) (by omega) (by omega) (by omega), mlay_o _ _ _ _ _ _ (by omega) (by omega)]
  by_cases e : q = 11 ∧ i = 0 ∧ j = 37
  · obtain ⟨rfl, rfl, rfl⟩ := e; exact hU37
  · rw [hU _ _ _ (by omega), mhold_o _ _ _ _ _ (by omega) (by omega) (by omega), cchg_o _ _ _ _ _ _ _ _ (by omega)]
/-! the reference's act, by its word -/
section
variable {M : jM} {k : Nat} {v0 v1 v2 v3 : Int}
theorem sq_281z (hk : k < 20) (h55 : M 55 0 k = 3) (h0 : M 56 0 (4 * k) = v0) (h1 : M 56 0 (4 * k + 1) = v1) : jq 281 [.inr (11, 0), .inl (k : Int)] M = jbI (jq 201 [.inl v0] M) fun x8 s8 => if x8 = 0 then some (some (.inl 0), s8) else if 5 < v1 then some (some (.inl 0), s8) else jbV (jq 214 [.inr (11, 0), .inl v1] s8) fun s9 => jbV (jq 215 [.inr (11, 0), .inl v0] s9) fun s10 => some (some (.inl 1), s10) := by
  rw [bq_281, jwi (x := 4 * (k : Int)) (by omega) (by omega), jwi (x := 4 * (k : Int) + 1) (by omega) (by omega), jwi (x := 4 * (k : Int) + 2) (by omega) (by omega), jwi (x := 4 * (k : Int) + 3) (by omega) (by omega), show (4 * (k : Int)).toNat = 4 * k by omega, show (4 * (k : Int) + 1).toNat = 4 * k + 1 by omega, show (4 * (k : Int) + 2).toNat = 4 * k + 2 by omega, show (4 * (k : Int) + 3).toNat = 4 * k + 3 by omega, Int.toNat_natCast, h55, h0, h1, if_pos (by omega), if_pos (by omega), if_pos (by omega), if_pos (by omega), if_pos (by omega), if_neg (show ¬ (3 : Int) = 0 by decide), if_neg (show ¬ (3 : Int) = 1 by decide), if_neg (show ¬ (3 : Int) = 2 by decide)]
theorem sq_281a (hk : k < 20) (h55 : M 55 0 k = 2) (h0 : M 56 0 (4 * k) = v0) (h1 : M 56 0 (4 * k + 1) = v1) (h2 : M 56 0 (4 * k + 2) = v2) : jq 281 [.inr (11, 0), .inl (k : Int)] M = jbI (jq 201 [.inl v0] M) fun x5 s5 => if x5 = 0 then some (some (.inl 0), s5) else jbI (jq 202 [.inl v1] s5) fun x6 s6 => if x6 = 0 then some (some (.inl 0), s6) else if 100 < v2 then some (some (.inl 0), s6) else jbV (jq 230 [.inr (11, 0), .inl v0, .inl v1, .inl v2] s6) fun s7 => some (some (.inl 1), s7) := by
  rw [bq_281, jwi (x := 4 * (k : Int)) (by omega) (by omega), jwi (x := 4 * (k : Int) + 1) (by omega) (by omega), jwi (x := 4 * (k : Int) + 2) (by omega) (by omega), jwi (x := 4 * (k : Int) + 3) (by omega) (by omega), show (4 * (k : Int)).toNat = 4 * k by omega, show (4 * (k : Int) + 1).toNat = 4 * k + 1 by omega, show (4 * (k : Int) + 2).toNat = 4 * k + 2 by omega, show (4 * (k : Int) + 3).toNat = 4 * k + 3 by omega, Int.toNat_natCast, h55, h0, h1, h2, if_pos (by omega), if_pos (by omega), if_pos (by omega), if_pos (by omega), if_pos (by omega), if_neg (show ¬ (2 : Int) = 0 by decide), if_neg (show ¬ (2 : Int) = 1 by decide), if_pos (show (2 : Int) = 2 from rfl)]
theorem sq_281l (hk : k < 20) (h55 : M 55 0 k = 1) (h0 : M 56 0 (4 * k) = v0) (h1 : M 56 0 (4 * k + 1) = v1) (h2 : M 56 0 (4 * k + 2) = v2) (h3 : M 56 0 (4 * k + 3) = v3) (hv : 0 ≤ v0) : jq 281 [.inr (11, 0), .inl (k : Int)] M = if v0 < 6 ∧ v1 ≤ 100 ∧ v2 ≤ 100 ∧ v3 ≤ 100 then some (some (.inl 1), jup (jup (jup M 31 0 (3 * v0.toNat) v1) 31 0 (3 * v0.toNat + 1) v2) 31 0 (3 * v0.toNat + 2) v3) else some (some (.inl 0), M) := by
  rw [bq_281, jwi (x := 4 * (k : Int)) (by omega) (by omega), jwi (x := 4 * (k : Int) + 1) (by omega) (by omega), jwi (x := 4 * (k : Int) + 2) (by omega) (by omega), jwi (x := 4 * (k : Int) + 3) (by omega) (by omega), show (4 * (k : Int)).toNat = 4 * k by omega, show (4 * (k : Int) + 1).toNat = 4 * k + 1 by omega, show (4 * (k : Int) + 2).toNat = 4 * k + 2 by omega, show (4 * (k : Int) + 3).toNat = 4 * k + 3 by omega, Int.toNat_natCast, h55, h0, h1, h2, h3, if_pos (by omega), if_pos (by omega), if_pos (by omega), if_pos (by omega), if_pos (by omega), if_neg (show ¬ (1 : Int) = 0 by decide), if_pos (show (1 : Int) = 1 from rfl), sq_202, jbI_s]
  by_cases c0 : v0 < 6
  · rw [bI_t (by omega), if_neg (by decide)]
    by_cases c1 : v1 ≤ 100
    · rw [if_neg (by omega)]
      by_cases c2 : v2 ≤ 100
      · rw [if_neg (by omega)]
        by_cases c3 : v3 ≤ 100
        · rw [if_neg (by omega), jwi (x := 3 * v0) (by omega) (by omega), jwi (x := 3 * v0 + 1) (by omega) (by omega), jwi (x := 3 * v0 + 2) (by omega) (by omega), if_pos (by omega), if_pos (by omega), if_pos (by omega), if_pos ⟨c0, c1, c2, c3⟩, show (3 * v0).toNat = 3 * v0.toNat by omega, show (3 * v0 + 1).toNat = 3 * v0.toNat + 1 by omega, show (3 * v0 + 2).toNat = 3 * v0.toNat + 2 by omega]
        · rw [if_pos (by omega), be_281_151, if_neg (fun z => c3 z.2.2.2)]
      · rw [if_pos (by omega), be_281_151, if_neg (fun z => c2 z.2.2.1)]
    · rw [if_pos (by omega), be_281_151, if_neg (fun z => c1 z.2.1)]
  · rw [bI_f (by omega), if_pos rfl, be_281_151, if_neg (fun z => c0 z.1)]
end
/-- the act zero -/
theorem act_zero {m : jM} {k : Nat} {v0 v1 : Int} (hI : Inv m) (hk : k < 20) (h5 : m 3 0 5 = 3) (o0 : m 19 0 0 = v0) (o1 : m 19 0 1 = v1) (h55 : m 55 0 k = 3) (h0 : m 56 0 (4 * k) = v0) (h1 : m 56 0 (4 * k + 1) = v1) (p0 : 0 ≤ v0) (p1 : 0 ≤ v1) : ActGo m k := by
  have q91 := sq_91 0 (by omega) m
  have q91b := sq_91 1 (by omega) m
  rw [o0] at q91
  rw [o1] at q91b
  have q91 : jq 91 [.inr (3, 0), .inl 0] m = some (some (.inl v0), m) := q91
  have q91b : jq 91 [.inr (3, 0), .inl 1] m = some (some (.inl v1), m) := q91b
  have e53 : jq 53 [.inr (10, 0)] m = jbI (jq 0 [.inr (10, 0), .inl v0, .inl v1] m) fun x11 s11 => if x11 < 0 then some (some (.inl 0), s11) else some (some (.inl 1), s11) := by
    rw [bq_53, q91, jbI_s, h5, if_neg (by decide), if_neg (by decide), if_neg (by decide), q91b, jbI_s]
  by_cases c : v0 < 4 ∧ v1 ≤ 5
  · obtain ⟨r, rfl⟩ := nat_of v0 p0
    obtain ⟨d, rfl⟩ := nat_of v1 p1
    obtain ⟨n, nx, hS⟩ := hI.2.2.2.2.2.1
    have hI' := Inv_fs hI 44 (Or.inl rfl) (d : Int) (fun _ => 0)
    have hS' : RS (fset m 44 (d : Int) (fun _ => 0)) n nx := RS_cg (fun k i j q => fset_o _ _ _ _ _ _ _ (by omega) (by omega)) hS
    have hfd := fset_d m 44 (d : Int) (fun _ => 0)
    have hfn := fset_n m 44 (d : Int) (fun _ => 0)
    have hfo : ∀ q b c, ¬ ((q = 1 ∨ q = 16) ∧ b = 44) → fset m 44 (d : Int) (fun _ => 0) q b c = m q b c := fun q b c z => fset_o _ _ _ _ _ _ _ (by omega) (by omega)
    have q65 := sq_65 44 (d : Int) m
    generalize fset m 44 (d : Int) (fun _ => 0) = s' at *
    have q51 := sq_51r hI' r 44 (by omega) (by omega)
    have qh := ref_hold 0 r r 44 (by omega) hS'
    have hu : ∀ a b c, (29 ≤ a ∨ a = 11) → a ≠ 38 → a ≠ 39 → a ≠ 40 → mhold (cchg s' 0 r r 44) n a b c = m a b c := fun a b c x y z w => by rw [mc_o _ _ _ _ _ _ (by omega) _ _ _ x y z w, hfo _ _ _ (by omega)]
    obtain ⟨l1, l2, l3, l4⟩ := act_lay (U := mset (mhold (cchg s' 0 r r 44) n) d (fun _ => 0)) (g := fun _ => 0) (d := d) hI' hS' (r := r) (by omega) (by omega) (Or.inl rfl) hfd (fun j hj => g21_0 j hj) (fun _ _ _ => rfl) (fun j hj => hfn j hj) (fun q i j z => mset_o _ _ _ _ _ _ (by omega) (by omega)) (mset_d _ _ _) (by rw [mset_o _ _ _ _ _ _ (by omega) (by omega), mc_o _ _ _ _ _ _ (by omega) _ _ _ (by omega) (by omega) (by omega) (by omega)]) (fun j hj => mset_n _ _ _ _ hj)
    refine ⟨1, cchg s' 0 r r 44, mhold (cchg s' 0 r r 44) n, _, ?_, qh, ?_, Or.inr ⟨rfl, _, l2, l3, fun q i j z => by rw [l4 q i j z, hfo _ _ _ (by omega)]⟩⟩
    · rw [e53, bq_0]
      have hn : ¬ (m 1 (22 * 0 + (Int.toNat (r : Int))) 1) < 0 := by
        obtain ⟨dd, _, e, _⟩ := inv_reg hI r (by omega)
        rw [Nat.mul_zero, Nat.zero_add, Int.toNat_natCast, e]
        omega
      rw [sq_39, jbI_s, bI_t (by omega), if_neg (by decide), sq_42, jbI_s, bI_t (by omega), if_neg (by decide), if_pos (by omega), q65, jbV_s, q51, jbV_s, jbI_s, if_neg hn]
    · rw [sq_281z (v0 := (r : Int)) (v1 := (d : Int)) hk ((hu _ _ _ (by omega) (by omega) (by omega) (by omega)).trans h55) ((hu _ _ _ (by omega) (by omega) (by omega) (by omega)).trans h0) ((hu _ _ _ (by omega) (by omega) (by omega) (by omega)).trans h1), sq_201, jbI_s, bI_t (by omega), if_neg (by decide), if_neg (by omega), sq_214, jbV_s, l1, jbV_s]
  · refine act_no hI ?_ (fun M hM => ⟨M, ?_, fun _ _ _ _ => rfl⟩)
    · rw [e53, bq_0, sq_39, jbI_s]
      by_cases c0 : v0 < 4
      · rw [bI_t (by omega), if_neg (by decide), sq_42, jbI_s, bI_f (by omega), if_pos rfl, jbI_s, if_pos (by decide)]
      · rw [bI_f (by omega), if_pos rfl, jbI_s, if_pos (by decide)]
    · rw [sq_281z (v0 := v0) (v1 := v1) hk ((hM _ _ _ (by omega) (by omega) (by omega)).trans h55) ((hM _ _ _ (by omega) (by omega) (by omega)).trans h0) ((hM _ _ _ (by omega) (by omega) (by omega)).trans h1), sq_201, jbI_s]
      by_cases c0 : v0 < 4
      · rw [bI_t (by omega), if_neg (by decide), if_pos (by omega)]
      · rw [bI_f (by omega), if_pos rfl]
/-- the act line -/
theorem act_line {m : jM} {k : Nat} {v0 v1 v2 v3 : Int} (hI : Inv m) (hk : k < 20) (h5 : m 3 0 5 = 1) (o0 : m 19 0 0 = v0) (o1 : m 19 0 1 = v1) (o2 : m 19 0 2 = v2) (o3 : m 19 0 3 = v3) (h55 : m 55 0 k = 1) (h0 : m 56 0 (4 * k) = v0) (h1 : m 56 0 (4 * k + 1) = v1) (h2 : m 56 0 (4 * k + 2) = v2) (h3 : m 56 0 (4 * k + 3) = v3) (p0 : 0 ≤ v0) (p1 : 0 ≤ v1) (p2 : 0 ≤ v2) (p3 : 0 ≤ v3) : ActGo m k := by
  have q91 := sq_91 0 (by omega) m
  have q91b := sq_91 1 (by omega) m
  have q91c := sq_91 2 (by omega) m
  have q91d := sq_91 3 (by omega) m
  rw [o0] at q91
  rw [o1] at q91b
  rw [o2] at q91c
  rw [o3] at q91d
  have q91 : jq 91 [.inr (3, 0), .inl 0] m = some (some (.inl v0), m) := q91
  have q91b : jq 91 [.inr (3, 0), .inl 1] m = some (some (.inl v1), m) := q91b
  have q91c : jq 91 [.inr (3, 0), .inl 2] m = some (some (.inl v2), m) := q91c
  have q91d : jq 91 [.inr (3, 0), .inl 3] m = some (some (.inl v3), m) := q91d
  have e53 : jq 53 [.inr (10, 0)] m = jbI (jq 7 [.inr (10, 0), .inl v0, .inl v1, .inl v2, .inl v3] m) fun x6 s6 => if x6 < 0 then some (some (.inl 0), s6) else some (some (.inl 1), s6) := by
    rw [bq_53, q91, jbI_s, h5, if_neg (by decide), if_pos rfl, q91b, jbI_s, q91c, jbI_s, q91d, jbI_s]
  by_cases c : v0 < 6 ∧ v1 ≤ 100 ∧ v2 ≤ 100 ∧ v3 ≤ 100
  · obtain ⟨r, rfl⟩ := nat_of v0 p0
    obtain ⟨n, nx, hS⟩ := hI.2.2.2.2.2.1
    have q71 := sq_71 m 44 v1 v2 v3
    have hI' := Inv_fs hI 44 (Or.inl rfl) 1 (fun j => if j = 2 then v3 else if j = 1 then v2 else if j = 0 then v1 else 0)
    have hS' : RS (fset m 44 1 (fun j => if j = 2 then v3 else if j = 1 then v2 else if j = 0 then v1 else 0)) n nx := RS_cg (fun k i j q => fset_o _ _ _ _ _ _ _ (by omega) (by omega)) hS
    have hfd := fset_d m 44 1 (fun j => if j = 2 then v3 else if j = 1 then v2 else if j = 0 then v1 else 0)
    have hfn := fset_n m 44 1 (fun j => if j = 2 then v3 else if j = 1 then v2 else if j = 0 then v1 else 0)
    have hfo : ∀ q b c, ¬ ((q = 1 ∨ q = 16) ∧ b = 44) → fset m 44 1 (fun j => if j = 2 then v3 else if j = 1 then v2 else if j = 0 then v1 else 0) q b c = m q b c := fun q b c z => fset_o _ _ _ _ _ _ _ (by omega) (by omega)
    generalize fset m 44 1 (fun j => if j = 2 then v3 else if j = 1 then v2 else if j = 0 then v1 else 0) = s' at *
    have q51 := sq_51l hI' r 44 (by omega) (by omega)
    have qh := ref_hold 1 r (4 + r) 44 (by omega) hS'
    have hF : FW (s' 1 44 1) (s' 16 44) := by
      rw [hfd]
      refine ⟨by omega, by omega, fun j hj => ?_, fun j h5 hj => ?_⟩
      · rw [hfn j hj]
        split
        · exact ⟨p3, by omega⟩
        · split
          · exact ⟨p2, by omega⟩
          · split
            · exact ⟨p1, by omega⟩
            · exact g21_0 j hj
      · have h5 : 3 ≤ j := h5
        rw [hfn j hj, if_neg (by omega), if_neg (by omega), if_neg (by omega)]
    have hk2 : hK s' 1 r (4 + r) 44 := Or.inr ⟨rfl, by omega, rfl, hfd⟩
    have hu : ∀ a b c, (29 ≤ a ∨ a = 11) → a ≠ 38 → a ≠ 39 → a ≠ 40 → mhold (cchg s' 1 r (4 + r) 44) n a b c = s' a b c := fun a b c x y z w => mc_o _ _ _ _ _ _ (by omega) _ _ _ x y z w
    have ho : ∀ q a b, q ≠ 31 → jup (jup (jup (mhold (cchg s' 1 r (4 + r) 44) n) 31 0 (3 * r) v1) 31 0 (3 * r + 1) v2) 31 0 (3 * r + 2) v3 q a b = mhold (cchg s' 1 r (4 + r) 44) n q a b := fun q a b z => by rw [jup_n _ _ _ _ _ _ _ _ (by omega), jup_n _ _ _ _ _ _ _ _ (by omega), jup_n _ _ _ _ _ _ _ _ (by omega)]
    have ht : hT s' (jup (jup (jup (mhold (cchg s' 1 r (4 + r) 44) n) 31 0 (3 * r) v1) 31 0 (3 * r + 1) v2) 31 0 (3 * r + 2) v3) n 1 r (4 + r) 44 := by
      refine hT_mk (by omega) (fun q a b z => ho _ _ _ (by omega)) (fun r' hr' => ?_) (fun r' hr' j hj => ?_) (fun m hm j hj => ?_)
      · rw [ho _ _ _ (by omega), hu _ _ _ (by omega) (by omega) (by omega) (by omega), if_neg (fun y => absurd y.1 (by decide))]
      · rw [ho _ _ _ (by omega), hu _ _ _ (by omega) (by omega) (by omega) (by omega), if_neg (fun y => absurd y.1 (by decide))]
      · by_cases e : m = r
        · rw [if_pos (show (1 : Int) = 1 ∧ m = r from ⟨rfl, e⟩), hfn j (by omega), e]
          by_cases e0 : j = 0
          · rw [e0, show 3 * r + 0 = 3 * r from rfl, jup_n _ _ _ _ _ _ _ _ (by omega), jup_n _ _ _ _ _ _ _ _ (by omega), jup_e, if_neg (by omega), if_neg (by omega), if_pos rfl]
          · by_cases e1 : j = 1
            · rw [e1, jup_n _ _ _ _ _ _ _ _ (by omega), jup_e, if_neg (by omega), if_pos rfl]
            · have e2 : j = 2 := by omega
              rw [e2, jup_e, if_pos rfl]
        · rw [if_neg (fun y => e y.2), jup_n _ _ _ _ _ _ _ _ (by omega), jup_n _ _ _ _ _ _ _ _ (by omega), jup_n _ _ _ _ _ _ _ _ (by omega), hu _ _ _ (by omega) (by omega) (by omega) (by omega)]
    have qs := ref_settle hI' hS' hk2 hF ht
    refine ⟨1, cchg s' 1 r (4 + r) 44, mhold (cchg s' 1 r (4 + r) 44) n, _, ?_, qh, ?_, Or.inr ⟨rfl, _, qs, chg _ _ n nx 1 r (4 + r) 44 hI' hS' hk2 (by omega) hF ht, fun q i j z => ?_⟩⟩
    · rw [e53, bq_7, sq_40, jbI_s, bI_t (by omega), if_neg (by decide), sq_43, jbI_s, bI_t (by omega), if_neg (by decide), sq_43, jbI_s, bI_t (by omega), if_neg (by decide), sq_43, jbI_s, bI_t (by omega), if_neg (by decide), q71, jbV_s, q51, jbV_s, jbI_s, if_neg (by decide)]
    · rw [sq_281l (v0 := (r : Int)) (v1 := v1) (v2 := v2) (v3 := v3) hk (by rw [hu _ _ _ (by omega) (by omega) (by omega) (by omega), hfo _ _ _ (by omega)]; exact h55) (by rw [hu _ _ _ (by omega) (by omega) (by omega) (by omega), hfo _ _ _ (by omega)]; exact h0) (by rw [hu _ _ _ (by omega) (by omega) (by omega) (by omega), hfo _ _ _ (by omega)]; exact h1) (by rw [hu _ _ _ (by omega) (by omega) (by omega) (by omega), hfo _ _ _ (by omega)]; exact h2) (by rw [hu _ _ _ (by omega) (by omega) (by omega) (by omega), hfo _ _ _ (by omega)]; exact h3) p0, if_pos c, Int.toNat_natCast]
    · rw [msettle_o _ _ _ _ _ (by omega) (by omega) (by omega) (by omega), ho _ _ _ (by omega), mhold_o _ _ _ _ _ (by omega) (by omega) (by omega), cchg_o _ _ _ _ _ _ _ _ (by omega), hfo _ _ _ (by omega)]
  · refine act_no hI ?_ (fun M hM => ⟨M, ?_, fun _ _ _ _ => rfl⟩)
    · rw [e53, bq_7, sq_40, jbI_s]
      by_cases c0 : v0 < 6
      · rw [bI_t (by omega), if_neg (by decide), sq_43, jbI_s]
        by_cases c1 : v1 ≤ 100
        · rw [bI_t (by omega), if_neg (by decide), sq_43, jbI_s]
          by_cases c2 : v2 ≤ 100
          · rw [bI_t (by omega), if_neg (by decide), sq_43, jbI_s, bI_f (by omega), if_pos rfl, jbI_s, if_pos (by decide)]
          · rw [bI_f (by omega), if_pos rfl, jbI_s, if_pos (by decide)]
        · rw [bI_f (by omega), if_pos rfl, jbI_s, if_pos (by decide)]
      · rw [bI_f (by omega), if_pos rfl, jbI_s, if_pos (by decide)]
    · rw [sq_281l (v0 := v0) (v1 := v1) (v2 := v2) (v3 := v3) hk ((hM _ _ _ (by omega) (by omega) (by omega)).trans h55) ((hM _ _ _ (by omega) (by omega) (by omega)).trans h0) ((hM _ _ _ (by omega) (by omega) (by omega)).trans h1) ((hM _ _ _ (by omega) (by omega) (by omega)).trans h2) ((hM _ _ _ (by omega) (by omega) (by omega)).trans h3) p0, if_neg c]
/-- the act add -/
theorem act_add {m : jM} {k : Nat} {v0 v1 v2 : Int} (hI : Inv m) (hk : k < 20) (h5 : m 3 0 5 = 2) (o0 : m 19 0 0 = v0) (o1 : m 19 0 1 = v1) (o2 : m 19 0 2 = v2) (h55 : m 55 0 k = 2) (h0 : m 56 0 (4 * k) = v0) (h1 : m 56 0 (4 * k + 1) = v1) (h2 : m 56 0 (4 * k + 2) = v2) (p0 : 0 ≤ v0) (p1 : 0 ≤ v1) (p2 : 0 ≤ v2) : ActGo m k := by
  have q91 := sq_91 0 (by omega) m
  have q91b := sq_91 1 (by omega) m
  have q91c := sq_91 2 (by omega) m
  rw [o0] at q91
  rw [o1] at q91b
  rw [o2] at q91c
  have q91 : jq 91 [.inr (3, 0), .inl 0] m = some (some (.inl v0), m) := q91
  have q91b : jq 91 [.inr (3, 0), .inl 1] m = some (some (.inl v1), m) := q91b
  have q91c : jq 91 [.inr (3, 0), .inl 2] m = some (some (.inl v2), m) := q91c
  have e53 : jq 53 [.inr (10, 0)] m = jbI (jq 10 [.inr (10, 0), .inl v0, .inl v1, .inl v2] m) fun x9 s9 => if x9 < 0 then some (some (.inl 0), s9) else some (some (.inl 1), s9) := by
    rw [bq_53, q91, jbI_s, h5, if_neg (by decide), if_neg (by decide), if_pos rfl, q91b, jbI_s, q91c, jbI_s]
  by_cases c : v0 < 4 ∧ v1 < 6 ∧ v2 ≤ 100
  · obtain ⟨r, rfl⟩ := nat_of v0 p0
    obtain ⟨l, rfl⟩ := nat_of v1 p1
    obtain ⟨d, hd, r1, r2, r3, r4, r5, r6, r7⟩ := inv_reg hI r (by omega)
    obtain ⟨k1, k2, k3, k4, k5, k6⟩ := inv_line hI l (by omega)
    obtain ⟨n, nx, hS⟩ := hI.2.2.2.2.2.1
    have em := mnN_le d (by omega)
    have g3 : g101 v2 := ⟨p2, by omega⟩
    have q66 := sq_66 m 44 r
    rw [r1] at q66
    have q73 := sq_73 m 44 (4 + l) d v2 (fun j => m 16 r j) (by omega) (by omega) k4 r5 g3
    have hI' := Inv_fs hI 44 (Or.inl rfl) (d : Int) (fun j => if j < mnN d then (m 16 r j + mat m (4 + l) d j * v2) % 101 else m 16 r j)
    have hS' : RS (fset m 44 (d : Int) (fun j => if j < mnN d then (m 16 r j + mat m (4 + l) d j * v2) % 101 else m 16 r j)) n nx := RS_cg (fun k i j q => fset_o _ _ _ _ _ _ _ (by omega) (by omega)) hS
    have hfd := fset_d m 44 (d : Int) (fun j => if j < mnN d then (m 16 r j + mat m (4 + l) d j * v2) % 101 else m 16 r j)
    have hfn := fset_n m 44 (d : Int) (fun j => if j < mnN d then (m 16 r j + mat m (4 + l) d j * v2) % 101 else m 16 r j)
    have hfo : ∀ q b c, ¬ ((q = 1 ∨ q = 16) ∧ b = 44) → fset m 44 (d : Int) (fun j => if j < mnN d then (m 16 r j + mat m (4 + l) d j * v2) % 101 else m 16 r j) q b c = m q b c := fun q b c z => fset_o _ _ _ _ _ _ _ (by omega) (by omega)
    generalize fset m 44 (d : Int) (fun j => if j < mnN d then (m 16 r j + mat m (4 + l) d j * v2) % 101 else m 16 r j) = s' at *
    have q51 := sq_51r hI' r 44 (by omega) (by omega)
    have qh := ref_hold 0 r r 44 (by omega) hS'
    have hu : ∀ a b c, (29 ≤ a ∨ a = 11) → a ≠ 38 → a ≠ 39 → a ≠ 40 → mhold (cchg s' 0 r r 44) n a b c = m a b c := fun a b c x y z w => by rw [mc_o _ _ _ _ _ _ (by omega) _ _ _ x y z w, hfo _ _ _ (by omega)]
    have hfn2 : ∀ j, j < 21 → s' 16 44 j = if j < mnN d then (m 30 0 (21 * r + j) + v2 * mmt m l d j) % 101 else m 30 0 (21 * r + j) := fun j hj => by
      rw [hfn j hj]
      by_cases c : j < mnN d
      · rw [if_pos c, if_pos c, k6, r4 j hj, Int.mul_comm]
      · rw [if_neg c, if_neg c, r4 j hj]
    have hF : FW (s' 1 44 1) (s' 16 44) := by
      rw [hfd]
      refine ⟨by omega, by omega, fun j hj => ?_, fun j h4 hj => ?_⟩
      · rw [hfn j hj]
        split
        · exact em101 _
        · exact r5 j hj
      · rw [Int.toNat_natCast] at h4
        rw [hfn j hj, if_neg (by omega)]
        exact r7 j h4 hj
    have hk2 : hK s' 0 r r 44 := Or.inl ⟨rfl, by omega, rfl⟩
    have ht : hT s' (madd (mhold (cchg s' 0 r r 44) n) r l d v2 (mnN d)) n 0 r r 44 := hT_add (s0 := m) (by omega) hd (by rw [hfo _ _ _ (by omega)]; exact r2) hfd (fun a b c z => hfo _ _ _ (by omega)) hfn2
    have qs := ref_settle hI' hS' hk2 hF ht
    have q230 := sq_230 (mhold (cchg s' 0 r r 44) n) r l d v2 (by omega) (by omega) hd g3 (by rw [hu _ _ _ (by omega) (by omega) (by omega) (by omega)]; exact r2) (fun j hj => by rw [hu _ _ _ (by omega) (by omega) (by omega) (by omega)]; exact r6 j hj) (by unfold MG; rw [hu _ _ _ (by omega) (by omega) (by omega) (by omega), hu _ _ _ (by omega) (by omega) (by omega) (by omega), hu _ _ _ (by omega) (by omega) (by omega) (by omega)]; exact k5)
    refine ⟨1, cchg s' 0 r r 44, mhold (cchg s' 0 r r 44) n, _, ?_, qh, ?_, Or.inr ⟨rfl, _, qs, chg _ _ n nx 0 r r 44 hI' hS' hk2 (by omega) hF ht, fun q i j z => ?_⟩⟩
    · have e44 : cchg s' 0 r r 44 1 44 1 = (d : Int) := by rw [cchg_o _ _ _ _ _ _ _ _ (by omega), hfd]
      rw [e53, bq_10, sq_39, jbI_s, bI_t (by omega), if_neg (by decide), sq_40, jbI_s, bI_t (by omega), if_neg (by decide), sq_43, jbI_s, bI_t (by omega), if_neg (by decide), if_pos (by omega), Nat.mul_zero, Nat.zero_add, Int.toNat_natCast, q66, jbV_s, if_pos (by omega), Nat.zero_add, Int.toNat_natCast, q73, jbV_s, q51, jbV_s, jbI_s, e44, if_neg (by omega)]
    · rw [sq_281a (v0 := (r : Int)) (v1 := (l : Int)) (v2 := v2) hk ((hu _ _ _ (by omega) (by omega) (by omega) (by omega)).trans h55) ((hu _ _ _ (by omega) (by omega) (by omega) (by omega)).trans h0) ((hu _ _ _ (by omega) (by omega) (by omega) (by omega)).trans h1) ((hu _ _ _ (by omega) (by omega) (by omega) (by omega)).trans h2), sq_201, jbI_s, bI_t (by omega), if_neg (by decide), sq_202, jbI_s, bI_t (by omega), if_neg (by decide), if_neg (by omega), q230, jbV_s]
    · rw [msettle_o _ _ _ _ _ (by omega) (by omega) (by omega) (by omega), madd_o _ _ _ _ _ _ _ _ _ (by omega), mhold_o _ _ _ _ _ (by omega) (by omega) (by omega), cchg_o _ _ _ _ _ _ _ _ (by omega), hfo _ _ _ (by omega)]
  · refine act_no hI ?_ (fun M hM => ⟨M, ?_, fun _ _ _ _ => rfl⟩)
    · rw [e53, bq_10, sq_39, jbI_s]
      by_cases c0 : v0 < 4
      · rw [bI_t (by omega), if_neg (by decide), sq_40, jbI_s]
        by_cases c1 : v1 < 6
        · rw [bI_t (by omega), if_neg (by decide), sq_43, jbI_s, bI_f (by omega), if_pos rfl, jbI_s, if_pos (by decide)]
        · rw [bI_f (by omega), if_pos rfl, jbI_s, if_pos (by decide)]
      · rw [bI_f (by omega), if_pos rfl, jbI_s, if_pos (by decide)]
    · rw [sq_281a (v0 := v0) (v1 := v1) (v2 := v2) hk ((hM _ _ _ (by omega) (by omega) (by omega)).trans h55) ((hM _ _ _ (by omega) (by omega) (by omega)).trans h0) ((hM _ _ _ (by omega) (by omega) (by omega)).trans h1) ((hM _ _ _ (by omega) (by omega) (by omega)).trans h2), sq_201, jbI_s]
      by_cases c0 : v0 < 4
      · rw [bI_t (by omega), if_neg (by decide), sq_202, jbI_s]
        by_cases c1 : v1 < 6
        · rw [bI_t (by omega), if_neg (by decide), if_pos (by omega)]
        · rw [bI_f (by omega), if_pos rfl]
      · rw [bI_f (by omega), if_pos rfl]
