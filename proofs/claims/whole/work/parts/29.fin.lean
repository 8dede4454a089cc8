/-! THE TWO SIDES' ROAD TO ONE CHANGE -/
def Go (s : jM) (y y' : Nat) (as : List jV) : Prop := ∃ x s1 s2, jq y (.inr (10, 0) :: as) s = some (some (.inl x), s1) ∧ jq y' (.inr (11, 0) :: as) s1 = some (some (.inl x), s2) ∧ Inv s2
theorem go_no {s : jM} {y y' : Nat} {as : List jV} (x : Int) (hI : Inv s) (h1 : jq y (.inr (10, 0) :: as) s = some (some (.inl x), s)) (h2 : jq y' (.inr (11, 0) :: as) s = some (some (.inl x), s)) : Go s y y' as := ⟨x, s, s, h1, h2, hI⟩
theorem fold_c {α : Type} {f g : Nat → α → α} (a : α) : ∀ n, (∀ i, i < n → f i = g i) → fold f a n = fold g a n
  | 0, _ => rfl
  | n + 1, h => by rw [fold, fold, fold_c a n (fun i hi => h i (by omega)), h n (by omega)]
theorem con_c {g g' h h' : Nat → Int} {d e n : Nat} (hd : d ≤ 5) (hn : n ≤ 21) (hg : ∀ j, j < 21 → g j = g' j) (hh : ∀ j, j < 21 → h j = h' j) : con g h d e n = con g' h' d e n := by
  have := (mnN_le d hd).2
  unfold con
  refine fold_c _ n (fun p hp => funext fun F => fold_c _ _ (fun q hq => funext fun G => ?_))
  unfold cst
  rw [hg p (by omega), hh q (by omega)]
theorem prd_c {g g' h h' : Nat → Int} {d n : Nat} (hd : d ≤ 5) (hn : n ≤ 21) (hg : ∀ j, j < 21 → g j = g' j) (hh : ∀ j, j < 21 → h j = h' j) : prd g h d n = prd g' h' d n := by
  have := (mnN_le d hd).2
  unfold prd
  refine fold_c _ n (fun p hp => funext fun F => fold_c _ _ (fun q hq => funext fun G => ?_))
  unfold pst
  rw [hg p (by omega), hh q (by omega)]
theorem pl_mn (b c d : Nat) (hb : b ≤ 5) (hc : c ≤ 5) (h : b + c ≤ d) (hd : d ≤ 5) : pl b c < mnN d := by
  obtain ⟨h1, h2, h3⟩ := pl_lt b hb c hc (by omega)
  exact (mn_lev d hd _ h1).mpr (by unfold plev; omega)
theorem fold_p {α : Type} (P : α → Prop) {f : Nat → α → α} {a : α} (ha : P a) : ∀ n, (∀ i b, i < n → P b → P (f i b)) → P (fold f a n)
  | 0, _ => ha
  | n + 1, h => h n _ (by omega) (fold_p P ha n (fun i b hi hb => h i b (by omega) hb))
theorem con_z (g h : Nat → Int) {d e : Nat} (hd : d ≤ 5) (he : e ≤ d) : ∀ j, mnN (d - e) ≤ j → con g h d e (mnN e) j = 0 := by
  have h1 := (mnN_le d hd).2
  have h2 := (mnN_le e (by omega)).2
  refine fold_p (fun F : Nat → Int => ∀ j, mnN (d - e) ≤ j → F j = 0) (fun _ _ => rfl) _ (fun p F hp hF => fold_p (fun F : Nat → Int => ∀ j, mnN (d - e) ≤ j → F j = 0) hF _ (fun q G hq hG j hj => ?_))
  unfold cst
  split
  · next c =>
    obtain ⟨q1, q2, q3, q4, q5, -⟩ := jyp_py q (by omega)
    obtain ⟨p1, p2, p3, p4, p5, -⟩ := jyp_py p (by omega)
    have hq6 : plev q = py q + pz q := rfl
    have hp6 : plev p = py p + pz p := rfl
    have := pl_mn (py q - py p) (pz q - pz p) (d - e) (by omega) (by omega) (by omega) (by omega)
    dsimp only
    rw [if_neg (by omega)]
    exact hG j hj
  · exact hG j hj
theorem prd_z (g h : Nat → Int) {d1 d2 : Nat} (hd : d1 + d2 ≤ 5) : ∀ j, mnN (d1 + d2) ≤ j → prd g h d2 (mnN d1) j = 0 := by
  have h1 := (mnN_le d1 (by omega)).2
  have h2 := (mnN_le d2 (by omega)).2
  refine fold_p (fun F : Nat → Int => ∀ j, mnN (d1 + d2) ≤ j → F j = 0) (fun _ _ => rfl) _ (fun p F hp hF => fold_p (fun F : Nat → Int => ∀ j, mnN (d1 + d2) ≤ j → F j = 0) hF _ (fun q G hq hG j hj => ?_))
  have hlq := (mn_lev d2 (by omega) q (by omega)).mp hq
  have hlp := (mn_lev d1 (by omega) p (by omega)).mp hp
  obtain ⟨q1, q2, q3, q4, q5, -⟩ := jyp_py q (by omega)
  obtain ⟨p1, p2, p3, p4, p5, -⟩ := jyp_py p (by omega)
  have hq6 : plev q = py q + pz q := rfl
  have hp6 : plev p = py p + pz p := rfl
  have := pl_mn (py p + py q) (pz p + pz q) (d1 + d2) (by omega) (by omega) (by omega) (by omega)
  unfold pst
  rw [if_neg (by omega)]
  exact hG j hj
theorem mhold_o (s : jM) (n : Nat) (a b c : Nat) (h1 : a ≠ 38) (h2 : a ≠ 39) (h3 : a ≠ 40) : mhold s n a b c = s a b c := by
  unfold mhold
  rw [jfl_ne _ _ _ _ _ _ _ _ _ (by omega), jfl_ne _ _ _ _ _ _ _ _ _ (by omega), jfl_ne _ _ _ _ _ _ _ _ _ (by omega)]
theorem mhold_s (s : jM) (n : Nat) : ((∀ j, j < 4 * n → mhold s n 38 0 j = s 38 0 j) ∧ ∀ j, j < 4 → mhold s n 38 0 (4 * n + j) = s 29 0 j) ∧ ((∀ j, j < 84 * n → mhold s n 39 0 j = s 39 0 j) ∧ ∀ j, j < 84 → mhold s n 39 0 (84 * n + j) = s 30 0 j) ∧ ((∀ j, j < 18 * n → mhold s n 40 0 j = s 40 0 j) ∧ ∀ j, j < 18 → mhold s n 40 0 (18 * n + j) = s 31 0 j) := by
  unfold mhold
  refine ⟨⟨fun j hj => ?_, fun j hj => ?_⟩, ⟨fun j hj => ?_, fun j hj => ?_⟩, ⟨fun j hj => ?_, fun j hj => ?_⟩⟩
  · rw [jfl_ne _ _ _ _ _ _ _ _ _ (by omega), jfl_ne _ _ _ _ _ _ _ _ _ (by omega), jfl_ne _ _ _ _ _ _ _ _ _ (by omega)]
  · rw [jfl_ne _ _ _ _ _ _ _ _ _ (by omega), jfl_ne _ _ _ _ _ _ _ _ _ (by omega), jfl_in _ _ _ _ _ _ _ hj]
  · rw [jfl_ne _ _ _ _ _ _ _ _ _ (by omega), jfl_ne _ _ _ _ _ _ _ _ _ (by omega), jfl_ne _ _ _ _ _ _ _ _ _ (by omega)]
  · rw [jfl_ne _ _ _ _ _ _ _ _ _ (by omega), jfl_in _ _ _ _ _ _ _ hj]
  · rw [jfl_ne _ _ _ _ _ _ _ _ _ (by omega), jfl_ne _ _ _ _ _ _ _ _ _ (by omega), jfl_ne _ _ _ _ _ _ _ _ _ (by omega)]
  · rw [jfl_in _ _ _ _ _ _ _ hj]
theorem hT_mk {s t : jM} {n : Nat} {κ : Int} {k i f : Nat} (hi : i < 10) (ho : ∀ q a b, ¬ (q = 29 ∨ q = 30 ∨ q = 31 ∨ Scr q a b) → t q a b = mhold (cchg s κ k i f) n q a b)
    (h29 : ∀ r, r < 4 → t 29 0 r = if κ = 0 ∧ r = k then s 1 f 1 else s 29 0 r)
    (h30 : ∀ r, r < 4 → ∀ j, j < 21 → t 30 0 (21 * r + j) = if κ = 0 ∧ r = k then s 16 f j else s 30 0 (21 * r + j))
    (h31 : ∀ m, m < 6 → ∀ j, j < 3 → t 31 0 (3 * m + j) = if κ = 1 ∧ m = k then s 16 f j else s 31 0 (3 * m + j)) : hT s t n κ k i f := by
  obtain ⟨⟨a1, a2⟩, ⟨a3, a4⟩, a5, a6⟩ := mhold_s (cchg s κ k i f) n
  have hc : ∀ q b c, 29 ≤ q → cchg s κ k i f q b c = s q b c := fun q b c z => cchg_o _ _ _ _ _ _ _ _ (by omega)
  refine ⟨fun q a b z => ?_, ⟨fun j hj => ?_, fun j hj => ?_⟩, ⟨fun j hj => ?_, fun j hj => ?_⟩, ⟨fun j hj => ?_, fun j hj => ?_⟩, h29, h30, h31⟩
  · rw [ho _ _ _ (fun y => z (by rcases y with y | y | y | y; exact Or.inl y; exact Or.inr (Or.inl y); exact Or.inr (Or.inr (Or.inl y)); exact Or.inr (Or.inr (Or.inr (Or.inr (Or.inr (Or.inr y)))))))]
    exact mhold_o _ _ _ _ _ (by omega) (by omega) (by omega)
  · rw [ho _ _ _ (by unfold Scr; omega), a1 j hj, hc _ _ _ (by omega)]
  · rw [ho _ _ _ (by unfold Scr; omega), a2 j hj, hc _ _ _ (by omega)]
  · rw [ho _ _ _ (by unfold Scr; omega), a3 j hj, hc _ _ _ (by omega)]
  · rw [ho _ _ _ (by unfold Scr; omega), a4 j hj, hc _ _ _ (by omega)]
  · rw [ho _ _ _ (by unfold Scr; omega), a5 j hj, hc _ _ _ (by omega)]
  · rw [ho _ _ _ (by unfold Scr; omega), a6 j hj, hc _ _ _ (by omega)]
theorem ref_settle {s t : jM} {n nx : Nat} {κ : Int} {k i f : Nat} (hI : Inv s) (hS : RS s n nx) (hk : hK s κ k i f) (hF : FW (s 1 f 1) (s 16 f)) (ht : hT s t n κ k i f) : jq 213 [.inr (11, 0)] t = some (none, msettle t n) := by
  have hi := hK_i hk
  obtain ⟨t0, t38, t39, t40, t29, t30, t31⟩ := ht
  refine sq_213 t n hS.2.2.1 ?_ (fun r hr => ?_)
  · rw [t0 _ _ _ (by unfold Scr; omega), cchg_o _ _ _ _ _ _ _ _ (by omega)]
    exact hS.2.1
  · rw [t29 r hr]
    split
    · exact ⟨hF.1, hF.2.1⟩
    · obtain ⟨b1, b2, -⟩ := hI.1.1 r hr
      rw [← b1]
      exact ⟨b2.1, b2.2.1⟩
theorem ref_hold {s : jM} {n nx : Nat} (κ : Int) (k i f : Nat) (hi : i < 10) (hS : RS s n nx) : jq 211 [.inr (11, 0)] (cchg s κ k i f) = some (none, mhold (cchg s κ k i f) n) := by
  refine sq_211 _ n hS.2.2.1 ?_
  rw [cchg_o _ _ _ _ _ _ _ _ (by omega)]
  exact hS.2.1
theorem mlay_o (s : jM) (r d : Nat) (a b c : Nat) (h : a ≠ 29) (h2 : a ≠ 30) : mlay s r d a b c = s a b c := by
  unfold mlay
  rw [jfl_ne _ _ _ _ _ _ _ _ _ (by omega), jup_n _ _ _ _ _ _ _ _ (by omega)]
theorem mlay_d (s : jM) (r d r' : Nat) : mlay s r d 29 0 r' = if r' = r then (d : Int) else s 29 0 r' := by
  unfold mlay
  rw [jfl_ne _ _ _ _ _ _ _ _ _ (by omega)]
  by_cases e : r' = r
  · rw [if_pos e, e, jup_e]
  · rw [if_neg e, jup_n _ _ _ _ _ _ _ _ (by omega)]
theorem mlay_n (s : jM) (r d r' j : Nat) (hj : j < 21) : mlay s r d 30 0 (21 * r' + j) = if r' = r then (if j < mnN d then s 47 0 j else 0) else s 30 0 (21 * r' + j) := by
  unfold mlay
  by_cases e : r' = r
  · rw [if_pos e, e, jfl_in _ _ _ _ _ _ _ hj]
  · rw [if_neg e, jfl_ne _ _ _ _ _ _ _ _ _ (by omega), jup_n _ _ _ _ _ _ _ _ (by omega)]
/-- a made form laid into register r -/
theorem hT_lay {s : jM} {n r d f : Nat} {g : Nat → Int} (hr : r < 4) (h1 : s 1 f 1 = (d : Int)) (hg : ∀ j, j < 21 → s 16 f j = if j < mnN d then g j else 0) : hT s (mlay (mset (mhold (cchg s 0 r r f) n) d g) r d) n 0 r r f := by
  refine hT_mk (by omega) (fun q a b z => ?_) (fun r' hr' => ?_) (fun r' hr' j hj => ?_) (fun m hm j hj => ?_)
  · have z2 : ¬ Scr q a b := fun y => z (Or.inr (Or.inr (Or.inr y)))
    unfold Scr at z2
    rw [mlay_o _ _ _ _ _ _ (by omega) (by omega), mset_o _ _ _ _ _ _ (by omega) (by omega)]
  · rw [mlay_d, h1, mset_o _ _ _ _ _ _ (by omega) (by omega), mhold_o _ _ _ _ _ (by omega) (by omega) (by omega), cchg_o _ _ _ _ _ _ _ _ (by omega)]
    by_cases e : r' = r
    · rw [if_pos e, if_pos ⟨rfl, e⟩]
    · rw [if_neg e, if_neg (fun y => e y.2)]
  · rw [mlay_n _ _ _ _ _ hj, mset_n _ _ _ _ hj, mset_o _ _ _ _ _ _ (by omega) (by omega), mhold_o _ _ _ _ _ (by omega) (by omega) (by omega), cchg_o _ _ _ _ _ _ _ _ (by omega)]
    by_cases e : r' = r
    · rw [if_pos e, hg j hj, if_pos (show (0 : Int) = 0 ∧ r' = r from ⟨rfl, e⟩)]
    · rw [if_neg e, if_neg (fun y => e y.2)]
  · rw [mlay_o _ _ _ _ _ _ (by omega) (by omega), mset_o _ _ _ _ _ _ (by omega) (by omega), mhold_o _ _ _ _ _ (by omega) (by omega) (by omega), cchg_o _ _ _ _ _ _ _ _ (by omega), if_neg (fun y => absurd y.1 (by decide))]
theorem sq_51r {s : jM} (hI : Inv s) (k f : Nat) (hk : k < 4) (hf : f < 46) : jq 51 [.inr (10, 0), .inl 0, .inl (k : Int), .inr (1, f)] s = some (none, cchg s 0 (k : Int) k f) := by
  obtain ⟨n, nx, s1, s2, s3, s4, s5, -⟩ := hI.2.2.2.2.2.1
  obtain ⟨b1, b2, -⟩ := hI.1.1 k hk
  rw [Nat.zero_add] at b1 b2
  exact sq_51 s 0 k f (s 1 k 1).toNat (by rw [if_pos rfl]; exact hk) hf (by have := b2.2.1; have := b2.1; omega) (by rw [if_pos rfl]; have := b2.1; omega) (by omega) (by omega)
theorem sq_51l {s : jM} (hI : Inv s) (k f : Nat) (hk : k < 6) (hf : f < 46) : jq 51 [.inr (10, 0), .inl 1, .inl (k : Int), .inr (1, f)] s = some (none, cchg s 1 (k : Int) (4 + k) f) := by
  obtain ⟨n, nx, s1, s2, s3, s4, s5, -⟩ := hI.2.2.2.2.2.1
  obtain ⟨b1, b2, -⟩ := hI.1.2 k hk
  rw [Nat.zero_add] at b1
  have := sq_51 s 1 k f 1 (by rw [if_neg (by decide)]; exact hk) hf (by omega) (by rw [if_neg (by decide)]; exact b1) (by omega) (by omega)
  rwa [if_neg (by decide)] at this
theorem kp_fset (s : jM) (f : Nat) (hf : f = 44 ∨ f = 45) (d : Int) (g : Nat → Int) : Kp s (fset s f d g) := by
  intro k i j h
  unfold Scr at h
  exact fset_o _ _ _ _ _ _ _ (by omega) (by omega)
/-- what the invariant says of a register, in both places -/
theorem inv_reg {s : jM} (hI : Inv s) (r : Nat) (hr : r < 4) : ∃ d : Nat, d ≤ 5 ∧ s 1 r 1 = (d : Int) ∧ s 29 0 r = (d : Int) ∧ FW (d : Int) (s 16 r) ∧ (∀ j, j < 21 → s 16 r j = s 30 0 (21 * r + j)) ∧ (∀ j, j < 21 → g101 (s 16 r j)) ∧ (∀ j, j < 21 → g101 (s 30 0 (21 * r + j))) ∧ (∀ j, mnN d ≤ j → j < 21 → s 16 r j = 0) := by
  obtain ⟨b1, b2, b3⟩ := hI.1.1 r hr
  rw [Nat.zero_add] at b1 b2 b3
  obtain ⟨c1, c2, c3, c4⟩ := b2
  refine ⟨(s 1 r 1).toNat, by omega, by omega, by omega, ?_, b3, c3, fun j hj => by rw [← b3 j hj]; exact c3 j hj, c4⟩
  rw [show ((s 1 r 1).toNat : Int) = s 1 r 1 by omega]
  exact ⟨c1, c2, c3, c4⟩
theorem inv_line {s : jM} (hI : Inv s) (k : Nat) (hk : k < 6) : s 1 (4 + k) 1 = 1 ∧ FW 1 (s 16 (4 + k)) ∧ (∀ j, j < 3 → s 16 (4 + k) j = s 31 0 (3 * k + j)) ∧ LG s (4 + k) ∧ MG s k ∧ ∀ d m, mat s (4 + k) d m = mmt s k d m := by
  obtain ⟨b1, b2, b3⟩ := hI.1.2 k hk
  rw [Nat.zero_add] at b1 b2 b3
  obtain ⟨c1, c2, c3, c4⟩ := id b2
  have e0 := b3 0 (by omega)
  have e1 := b3 1 (by omega)
  have e2 := b3 2 (by omega)
  rw [Nat.add_zero] at e0
  refine ⟨b1, b2, b3, ⟨c3 0 (by omega), c3 1 (by omega), c3 2 (by omega)⟩, ⟨?_, ?_, ?_⟩, fun d m => ?_⟩
  · rw [← e0]; exact c3 0 (by omega)
  · rw [← e1]; exact c3 1 (by omega)
  · rw [← e2]; exact c3 2 (by omega)
  · unfold mat mmt
    rw [e0, e1, e2]
/-- the reference's end of a change, with the answer read behind it -/
theorem go_lay {s s' : jM} {y y' : Nat} {as : List jV} {n nx r d : Nat} {g : Nat → Int} (x : Int) (hI : Inv s') (hS : RS s' n nx) (hr : r < 4) (hd : d ≤ 5) (h1 : s' 1 44 1 = (d : Int)) (hg1 : ∀ j, j < mnN d → j < 21 → g101 (g j)) (hg : ∀ j, j < 21 → s' 16 44 j = if j < mnN d then g j else 0)
    (hc : jq y (.inr (10, 0) :: as) s = some (some (.inl x), cchg s' 0 r r 44))
    (hm : jq 213 [.inr (11, 0)] (mlay (mset (mhold (cchg s' 0 r r 44) n) d g) r d) = some (none, msettle (mlay (mset (mhold (cchg s' 0 r r 44) n) d g) r d) n) → jq 215 [.inr (11, 0), .inl (r : Int)] (mset (mhold (cchg s' 0 r r 44) n) d g) = some (none, mlay (mset (mhold (cchg s' 0 r r 44) n) d g) r d) → msettle (mlay (mset (mhold (cchg s' 0 r r 44) n) d g) r d) n 29 0 r = (d : Int) → jq y' (.inr (11, 0) :: as) (cchg s' 0 r r 44) = some (some (.inl x), msettle (mlay (mset (mhold (cchg s' 0 r r 44) n) d g) r d) n)) : Go s y y' as := by
  have hF : FW (s' 1 44 1) (s' 16 44) := by
    rw [h1]
    refine ⟨by omega, by omega, fun j hj => ?_, fun j h2 hj => ?_⟩
    · rw [hg j hj]
      split
      · next c => exact hg1 j c hj
      · exact g21_0 j hj
    · rw [hg j hj, if_neg (by rw [Int.toNat_natCast] at h2; omega)]
  have hk : hK s' 0 r r 44 := Or.inl ⟨rfl, hr, rfl⟩
  have ht := hT_lay (n := n) hr h1 hg
  refine ⟨x, _, _, hc, hm (ref_settle hI hS hk hF ht) (sq_215 _ r d hr hd (mset_d _ _ _)) ?_, chg _ _ n nx 0 r r 44 hI hS hk (by omega) hF ht⟩
  rw [msettle_o _ _ _ _ _ (by omega) (by omega) (by omega) (by omega), mlay_d, if_pos rfl]
