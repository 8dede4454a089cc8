/-! RANK, KILLER -/
theorem kp_TM {s t : jM} (h : TM s t) : Kp s t := fun k i j z => by
  unfold Scr at z
  exact h k i j (by omega)
theorem TR_TM {s t : jM} (h : TR s t) : TM s t := fun k i j z => h k i j (by omega) (by omega)
/-- one monomial's row goes through -/
theorem row_step {A : Nat → Nat → Int} {ld : Nat → Int} {g : Nat → Int} (r d e p b : Nat) (s : jM) (hr : r < 4) (hd : d ≤ 5) (he : e ≤ d) (hp : p < mnN e) (hA : ∀ m p, A m p = g (Qp m p)) (hg : ∀ j, j < 21 → g101 (g j)) (hld : ∀ p, p < mnN e → (ld p = -1 ↔ Fr A (mnN (d - e)) (mnN e) p)) (hI : RefI A (mnN (d - e)) (mnN e) (fun p => p) ld p b s) (h29 : s 29 0 r = (d : Int)) (h30 : ∀ j, j < 21 → s 30 0 (21 * r + j) = g j) :
    ∃ u t x, jq 236 [.inr (11, 0), .inl (r : Int), .inl (e : Int), .inl (p : Int)] s = some (none, u) ∧ u 29 0 r = (d : Int) ∧ jq 235 [.inr (11, 0), .inl (mnN (d - e) : Int)] u = some (some (.inl x), t) ∧ TM s t ∧ (∀ j, j < 21 → g101 (t 52 0 j)) ∧ ((x = 0 ∧ ld p = -1 ∧ RefI A (mnN (d - e)) (mnN e) (fun p => p) ld (p + 1) b t ∧ Rel A (mnN (d - e)) (mnN e) (fun p => t 52 0 p) ∧ t 52 0 p = 1 ∧ (∀ q, p < q → q < mnN e → t 52 0 q = 0) ∧ ∀ q, q < p → ld q = -1 → t 52 0 q = 0) ∨ (x = 1 ∧ ld p ≠ -1 ∧ RefI A (mnN (d - e)) (mnN e) (fun p => p) ld (p + 1) (b + 1) t)) := by
  have m2 := (mnN_le e (by omega)).2
  have m3 := (mnN_le (d - e) (by omega)).2
  obtain ⟨u, u1, u2, u3, u4⟩ := sq_236 s r d e p hr hd he hp h29
  have hI2 := RefI_cg (t := u) (fun k i j z => u2 k i j (by omega) (by omega)) hI
  obtain ⟨t, x, t1, t2, t3, t4⟩ := ref_step (s := u) m3 m2 hld (fun p hp => by omega) hp hI2 (fun m hm => by
    have hq := (Qp_ok hd he hm hp).1
    rw [u3 m hm, h30 _ hq, hA]
    exact ⟨rfl, hg _ hq⟩) (fun q hq => u4 q (by omega)) (fun j hj => by
    rw [u4 j hj]
    split
    · exact ⟨by decide, by decide⟩
    · exact ⟨by decide, by decide⟩)
  exact ⟨u, t, x, u1, by rw [u2 _ _ _ (by omega) (by omega)]; exact h29, t1, TM_t (TR_TM u2) t2, t3, t4⟩
theorem sj_237 {A : Nat → Nat → Int} {ld : Nat → Int} {g : Nat → Int} (r d e : Nat) (hr : r < 4) (hd : d ≤ 5) (he : e ≤ d) (hA : ∀ m p, A m p = g (Qp m p)) (hg : ∀ j, j < 21 → g101 (g j)) (hld : ∀ p, p < mnN e → (ld p = -1 ↔ Fr A (mnN (d - e)) (mnN e) p)) : ∀ (c p b : Nat) (s : jM), p + c = mnN e → RefI A (mnN (d - e)) (mnN e) (fun p => p) ld p b s → s 29 0 r = (d : Int) → (∀ j, j < 21 → s 30 0 (21 * r + j) = g j) → ∃ t b', je 237 30 [some (.inr (11, 0)), some (.inl (r : Int)), some (.inl (e : Int)), some (.inl (p : Int))] [] s = some (some (.inl ((b' : Nat) : Int)), t) ∧ TM s t ∧ cntN ld (-1) (mnN e) + b' = mnN e
  | 0, p, b, s, hp, hI, h29, h30 => by
    have hp : p = mnN e := hp
    subst hp
    exact ⟨s, b, by rw [be_237_30, sq_203 e (by omega), jbI_s, if_neg (by omega), hI.1], fun _ _ _ _ => rfl, hI.2.2.2.2.2.2⟩
  | c + 1, p, b, s, hp, hI, h29, h30 => by
    have m2 := (mnN_le e (by omega)).2
    obtain ⟨u, t, x, u1, u2, t1, t2, t3, t4⟩ := row_step r d e p b s hr hd he (by omega) hA hg hld hI h29 h30
    have q29 : t 29 0 r = (d : Int) := by rw [t2 _ _ _ (by omega)]; exact h29
    have q30 : ∀ j, j < 21 → t 30 0 (21 * r + j) = g j := fun j hj => by rw [t2 _ _ _ (by omega)]; exact h30 j hj
    rw [be_237_30, sq_203 e (by omega), jbI_s, if_pos (by omega), u1, jbV_s, if_pos (by omega), Int.toNat_natCast, u2, jwn (x := (d : Int) - e) (n := d - e) (by omega) (by omega), sq_203 (d - e) (by omega), jbI_s, t1, jbI_s, jwn (x := (p : Int) + 1) (n := p + 1) (by omega) (by omega)]
    rcases t4 with ⟨-, -, hI2, -⟩ | ⟨-, -, hI2⟩
    · obtain ⟨v, b', v1, v2, v3⟩ := sj_237 r d e hr hd he hA hg hld c (p + 1) b t (by omega) hI2 q29 q30
      exact ⟨v, b', v1, TM_t t2 v2, v3⟩
    · obtain ⟨v, b', v1, v2, v3⟩ := sj_237 r d e hr hd he hA hg hld c (p + 1) (b + 1) t (by omega) hI2 q29 q30
      exact ⟨v, b', v1, TM_t t2 v2, v3⟩
theorem RefI_0 (A : Nat → Nat → Int) (n w : Nat) (sl : Nat → Nat) (ld : Nat → Int) (s : jM) (h : s 11 0 23 = 0) : RefI A n w sl ld 0 0 s :=
  ⟨h, ⟨fun k hk => absurd hk (by omega), fun k hk => absurd hk (by omega), fun k hk => absurd hk (by omega)⟩, fun k hk => absurd hk (by omega), fun k hk => absurd hk (by omega), fun k hk => absurd hk (by omega), fun p hp => absurd hp (by omega), rfl⟩
theorem ap_13 (s : jM) (hI : Inv s) (v1 v2 : Int) : Go s 13 237 [.inl v1, .inl v2] := by
  by_cases h1 : 0 ≤ v1 ∧ v1 < 4
  rotate_left
  · exact go_no (-1) hI (by rw [bq_13]; (repeat (first | rw [jbI_s] | rw [jbV_s] | rw [bI_t (by omega)] | rw [bI_f (by omega)] | rw [if_pos (by omega)] | rw [if_neg (by omega)] | rw [sq_39]))) (by rw [bq_237]; (repeat (first | rw [jbI_s] | rw [jbV_s] | rw [bI_t (by omega)] | rw [bI_f (by omega)] | rw [if_pos (by omega)] | rw [if_neg (by omega)] | rw [sq_201])))
  obtain ⟨r, rfl⟩ := nat_of v1 h1.1
  obtain ⟨d, hd, r1, r2, r3, r4, r5, r6, r7⟩ := inv_reg hI r (by omega)
  have b13 := bq_13 r v2 s
  have b237 := fun s => bq_237 r v2 s
  by_cases h2 : 0 ≤ v2 ∧ v2 ≤ d
  rotate_left
  · refine go_no (-1) hI ?_ ?_
    · rw [b13]
      by_cases c : v2 < 0
      · (repeat (first | rw [jbI_s] | rw [jbV_s] | rw [bI_t (by omega)] | rw [bI_f (by omega)] | rw [if_pos (by omega)] | rw [if_neg (by omega)] | rw [sq_39] | rw [Nat.mul_zero] | rw [Nat.zero_add] | rw [Int.toNat_natCast] | rw [r1]))
      · (repeat (first | rw [jbI_s] | rw [jbV_s] | rw [bI_t (by omega)] | rw [bI_f (by omega)] | rw [if_pos (by omega)] | rw [if_neg (by omega)] | rw [sq_39] | rw [Nat.mul_zero] | rw [Nat.zero_add] | rw [Int.toNat_natCast] | rw [r1]))
    · rw [b237]; (repeat (first | rw [jbI_s] | rw [jbV_s] | rw [bI_t (by omega)] | rw [bI_f (by omega)] | rw [if_pos (by omega)] | rw [if_neg (by omega)] | rw [sq_201] | rw [Int.toNat_natCast] | rw [r2] | rw [sq_200]))
  obtain ⟨e, rfl⟩ := nat_of v2 h2.1
  have he : e ≤ d := by omega
  obtain ⟨u, t, rk, u1, t1, t2, t3, t4, t5⟩ := take_red s r d e hd he hI.2.2.2.2.2.2 r1 r5
  have hI2 := Inv_kt t3 t2 hI
  have q29 : t 29 0 r = (d : Int) := by rw [t3 _ _ _ (by omega) (by unfold Scr; omega)]; exact r2
  have q30 : ∀ j, j < 21 → t 30 0 (21 * r + j) = s 16 r j := fun j hj => by rw [t3 _ _ _ (by omega) (by unfold Scr; omega)]; exact (r4 j hj).symm
  have cn := t5.2.2.2.2.2.2
  obtain ⟨v, b', w1, w2, w3⟩ := sj_237 (A := fun i j => s 16 r (Qp i j)) (ld := t 26 0) (g := s 16 r) r d e (by omega) hd he (fun _ _ => rfl) r5 (fun p hp => red_free t5 hp) (mnN e) 0 0 (jup t 11 0 23 0) (by omega) (RefI_0 _ _ _ _ _ _ (jup_e _ _ _ _ _)) (by rw [jup_n _ _ _ _ _ _ _ _ (by omega)]; exact q29) (fun j hj => by rw [jup_n _ _ _ _ _ _ _ _ (by omega)]; exact q30 j hj)
  have hb : b' = rk := by omega
  subst hb
  refine ⟨(b' : Int), t, v, ?_, ?_, Inv_kp (Kp_t (fun k i j z => ?_) (kp_TM w2)) hI2⟩
  · rw [b13]
    (repeat (first | rw [jbI_s] | rw [jbV_s] | rw [bI_t (by omega)] | rw [bI_f (by omega)] | rw [if_pos (by omega)] | rw [if_neg (by omega)] | rw [sq_39] | rw [Nat.mul_zero] | rw [Nat.zero_add] | rw [Int.toNat_natCast] | rw [r1] | rw [u1] | rw [t1]))
  · rw [b237]
    (repeat (first | rw [jbI_s] | rw [jbV_s] | rw [bI_t (by omega)] | rw [bI_f (by omega)] | rw [if_pos (by omega)] | rw [if_neg (by omega)] | rw [sq_201] | rw [Int.toNat_natCast] | rw [q29] | rw [sq_200]))
    exact w1
  · unfold Scr at z
    exact jup_n _ _ _ _ _ _ _ _ (by omega)
theorem freeK_ok (ld : Nat → Int) (w : Nat) (k : Int) : ∀ (c p : Nat), p + c = w → (cntN ld (-1) p : Int) ≤ k → (freeK ld w k c p (cntN ld (-1) p) = -1 ∧ (cntN ld (-1) w : Int) ≤ k) ∨ ∃ f : Nat, freeK ld w k c p (cntN ld (-1) p) = (f : Int) ∧ p ≤ f ∧ f < w ∧ ld f = -1 ∧ (cntN ld (-1) f : Int) = k ∧ k < cntN ld (-1) w
  | 0, p, hp, hk => by
    have hp : p = w := hp
    subst hp
    exact Or.inl ⟨rfl, hk⟩
  | c + 1, p, hp, hk => by
    unfold freeK
    by_cases c0 : ld p = -1
    · rw [if_pos c0]
      have e := cntN_yes (g := ld) (v := -1) c0
      by_cases c1 : (cntN ld (-1) p : Int) = k
      · rw [if_pos c1]
        refine Or.inr ⟨p, rfl, Nat.le_refl p, by omega, c0, c1, ?_⟩
        have mono : ∀ n m, cntN ld (-1) n ≤ cntN ld (-1) (n + m) := fun n m => by
          induction m with
          | zero => exact Nat.le_refl _
          | succ m ih =>
            have : cntN ld (-1) (n + m) ≤ cntN ld (-1) (n + m + 1) := by
              by_cases z : ld (n + m) = -1
              · rw [cntN_yes z]; omega
              · rw [cntN_no z]; omega
            exact Nat.le_trans ih this
        have := mono (p + 1) c
        rw [show p + 1 + c = w by omega] at this
        omega
      · rw [if_neg c1, show (cntN ld (-1) p : Int) + 1 = (cntN ld (-1) (p + 1) : Int) by rw [e]; omega]
        rcases freeK_ok ld w k c (p + 1) (by omega) (by rw [e]; omega) with y | ⟨f, y1, y2, y3⟩
        · exact Or.inl y
        · exact Or.inr ⟨f, y1, by omega, y3⟩
    · rw [if_neg c0]
      have e := cntN_no (g := ld) (v := -1) c0
      rw [← e]
      rcases freeK_ok ld w k c (p + 1) (by omega) (by rw [e]; exact hk) with y | ⟨f, y1, y2, y3⟩
      · exact Or.inl y
      · exact Or.inr ⟨f, y1, by omega, y3⟩
/-- what killer() answers -/
def kilA (B : Nat → Nat → Int) (ld : Nat → Int) (w : Nat) (k : Int) (i f : Int) : Int := if k = -1 then (cntN ld (-1) w : Int) else if f < 0 then -2 else rsol B ld f.toNat i.toNat
theorem sj_238 {A B : Nat → Nat → Int} {ld : Nat → Int} {g : Nat → Int} {rk : Nat} (r d e : Nat) (k i : Int) (hr : r < 4) (hd : d ≤ 5) (he : e ≤ d) (hA : ∀ m p, A m p = g (Qp m p)) (hg : ∀ j, j < 21 → g101 (g j)) (hRed : RedI A B (mnN (d - e)) (mnN e) (mnN e) ld rk) (hk : -1 ≤ k) (hi : k = -1 ∨ (0 ≤ i ∧ i < mnN e)) : ∀ (c p b : Nat) (s : jM), p + c = mnN e → RefI A (mnN (d - e)) (mnN e) (fun p => p) ld p b s → s 29 0 r = (d : Int) → (∀ j, j < 21 → s 30 0 (21 * r + j) = g j) → (k = -1 ∨ (cntN ld (-1) p : Int) ≤ k) → ∃ t, je 238 58 [some (.inr (11, 0)), some (.inl (r : Int)), some (.inl (e : Int)), some (.inl k), some (.inl i), some (.inl (cntN ld (-1) p : Int)), some (.inl (p : Int))] [] s = some (some (.inl (kilA B ld (mnN e) k i (freeK ld (mnN e) k c p (cntN ld (-1) p)))), t) ∧ TM s t
  | 0, p, b, s, hp, hI, h29, h30, hkp => by
    have hp : p = mnN e := hp
    subst hp
    refine ⟨s, ?_, fun _ _ _ _ => rfl⟩
    rw [be_238_58, sq_203 e (by omega), jbI_s, if_neg (by omega)]
    unfold kilA freeK
    by_cases c : k = -1
    · rw [if_pos c, if_pos c]
    · rw [if_neg c, if_neg c, if_pos (by decide)]
  | c + 1, p, b, s, hp, hI, h29, h30, hkp => by
    have m2 := (mnN_le e (by omega)).2
    have hld := fun p (hp : p < mnN e) => red_free hRed hp
    have hcl := cntN_le ld (-1) p
    obtain ⟨u, t, x, u1, u2, t1, t2, t3, t4⟩ := row_step r d e p b s hr hd he (by omega) hA hg hld hI h29 h30
    have q29 : t 29 0 r = (d : Int) := by rw [t2 _ _ _ (by omega)]; exact h29
    have q30 : ∀ j, j < 21 → t 30 0 (21 * r + j) = g j := fun j hj => by rw [t2 _ _ _ (by omega)]; exact h30 j hj
    rw [be_238_58, sq_203 e (by omega), jbI_s, if_pos (by omega), u1, jbV_s, if_pos (by omega), Int.toNat_natCast, u2, jwn (x := (d : Int) - e) (n := d - e) (by omega) (by omega), sq_203 (d - e) (by omega), jbI_s, t1, jbI_s, jwn (x := (p : Int) + 1) (n := p + 1) (by omega) (by omega), jwn (x := (cntN ld (-1) p : Int) + 1) (n := cntN ld (-1) p + 1) (by omega) (by omega)]
    rcases t4 with ⟨x0, hl, hI2, hy1, hy2, hy3, hy4⟩ | ⟨x1, hl, hI2⟩
    · have ec := cntN_yes (g := ld) (v := -1) hl
      rw [if_pos x0]
      by_cases c1 : (cntN ld (-1) p : Int) = k
      · rw [if_pos c1]
        have hki : 0 ≤ i ∧ i < mnN e := by omega
        obtain ⟨i', rfl⟩ := nat_of i hki.1
        have hf : freeK ld (mnN e) k (c + 1) p (cntN ld (-1) p) = (p : Int) := by rw [freeK, if_pos hl, if_pos c1]
        obtain ⟨s1, s2, s3, s4, s5⟩ := rsol_ok hRed (show p < mnN e by omega) hl
        have hu := rel_uniq hy1 s1 (by show (101 : Int) ∣ t 52 0 p - 1; rw [hy2]; exact ⟨0, rfl⟩) (by rw [s2]; exact ⟨0, rfl⟩) (fun j h1 h2 => by show (101 : Int) ∣ t 52 0 j; rw [hy3 j h1 h2]; exact ⟨0, rfl⟩) (fun j h1 h2 => by rw [s3 j h1 h2]; exact ⟨0, rfl⟩) (fun j h1 h2 => by show (101 : Int) ∣ t 52 0 j; rw [hy4 j h1 ((hld j (by omega)).mpr h2)]; exact ⟨0, rfl⟩) (fun j h1 h2 => by rw [s4 j (by omega) ((hld j (by omega)).mpr h2) (by omega)]; exact ⟨0, rfl⟩) i' (by omega)
        have heq : t 52 0 i' = rsol B ld p i' := eq_of_dv (t3 i' (by omega)) (s5 i' (by omega)) hu
        refine ⟨t, ?_, t2⟩
        rw [if_pos (by omega), Int.toNat_natCast, hf]
        unfold kilA
        rw [if_neg (by omega), if_neg (by omega), Int.toNat_natCast, Int.toNat_natCast, heq]
      · rw [if_neg c1]
        obtain ⟨v, v1, v2⟩ := sj_238 r d e k i hr hd he hA hg hRed hk hi c (p + 1) b t (by omega) hI2 q29 q30 (by rw [ec]; omega)
        rw [ec] at v1
        refine ⟨v, ?_, TM_t t2 v2⟩
        rw [v1]
        have hf : freeK ld (mnN e) k (c + 1) p (cntN ld (-1) p) = freeK ld (mnN e) k c (p + 1) ((cntN ld (-1) p + 1 : Nat) : Int) := by rw [freeK, if_pos hl, if_neg c1]; congr 1
        rw [hf]
    · have ec := cntN_no (g := ld) (v := -1) hl
      rw [if_neg (by omega)]
      obtain ⟨v, v1, v2⟩ := sj_238 r d e k i hr hd he hA hg hRed hk hi c (p + 1) (b + 1) t (by omega) hI2 q29 q30 (by rw [ec]; omega)
      rw [ec] at v1
      refine ⟨v, ?_, TM_t t2 v2⟩
      rw [v1]
      have hf : freeK ld (mnN e) k (c + 1) p (cntN ld (-1) p) = freeK ld (mnN e) k c (p + 1) (cntN ld (-1) p) := by rw [freeK, if_neg hl]
      rw [hf]
theorem ap_14 (s : jM) (hI : Inv s) (v1 v2 v3 v4 : Int) : Go s 14 238 [.inl v1, .inl v2, .inl v3, .inl v4] := by
  by_cases h1 : 0 ≤ v1 ∧ v1 < 4
  rotate_left
  · exact go_no (-1) hI (by rw [bq_14]; (repeat (first | rw [jbI_s] | rw [jbV_s] | rw [bI_t (by omega)] | rw [bI_f (by omega)] | rw [if_pos (by omega)] | rw [if_neg (by omega)] | rw [sq_39]))) (by rw [bq_238]; (repeat (first | rw [jbI_s] | rw [jbV_s] | rw [bI_t (by omega)] | rw [bI_f (by omega)] | rw [if_pos (by omega)] | rw [if_neg (by omega)] | rw [sq_201])))
  obtain ⟨r, rfl⟩ := nat_of v1 h1.1
  obtain ⟨d, hd, r1, r2, r3, r4, r5, r6, r7⟩ := inv_reg hI r (by omega)
  have b14 := bq_14 r v2 v3 v4 s
  have b238 := fun s => bq_238 r v2 v3 v4 s
  by_cases h2 : 0 ≤ v2 ∧ v2 ≤ d
  rotate_left
  · refine go_no (-1) hI ?_ ?_
    · rw [b14]
      by_cases c : v2 < 0
      · (repeat (first | rw [jbI_s] | rw [jbV_s] | rw [bI_t (by omega)] | rw [bI_f (by omega)] | rw [if_pos (by omega)] | rw [if_neg (by omega)] | rw [sq_39] | rw [Nat.mul_zero] | rw [Nat.zero_add] | rw [Int.toNat_natCast] | rw [r1]))
      · (repeat (first | rw [jbI_s] | rw [jbV_s] | rw [bI_t (by omega)] | rw [bI_f (by omega)] | rw [if_pos (by omega)] | rw [if_neg (by omega)] | rw [sq_39] | rw [Nat.mul_zero] | rw [Nat.zero_add] | rw [Int.toNat_natCast] | rw [r1]))
    · rw [b238]; (repeat (first | rw [jbI_s] | rw [jbV_s] | rw [bI_t (by omega)] | rw [bI_f (by omega)] | rw [if_pos (by omega)] | rw [if_neg (by omega)] | rw [sq_201] | rw [Int.toNat_natCast] | rw [r2] | rw [sq_200]))
  obtain ⟨e, rfl⟩ := nat_of v2 h2.1
  have he : e ≤ d := by omega
  have m2 := mnN_le e (by omega)
  by_cases h3 : -1 ≤ v3
  rotate_left
  · refine go_no (-1) hI ?_ ?_
    · rw [b14]; (repeat (first | rw [jbI_s] | rw [jbV_s] | rw [bI_t (by omega)] | rw [bI_f (by omega)] | rw [if_pos (by omega)] | rw [if_neg (by omega)] | rw [sq_39] | rw [Nat.mul_zero] | rw [Nat.zero_add] | rw [Int.toNat_natCast] | rw [r1]))
    · rw [b238]; (repeat (first | rw [jbI_s] | rw [jbV_s] | rw [bI_t (by omega)] | rw [bI_f (by omega)] | rw [if_pos (by omega)] | rw [if_neg (by omega)] | rw [sq_201] | rw [Int.toNat_natCast] | rw [r2] | rw [sq_200]))
  by_cases h4 : v3 = -1 ∨ (0 ≤ v4 ∧ v4 < mnN e)
  rotate_left
  · refine go_no (-1) hI ?_ ?_
    · rw [b14]; (repeat (first | rw [jbI_s] | rw [jbV_s] | rw [bI_t (by omega)] | rw [bI_f (by omega)] | rw [if_pos (by omega)] | rw [if_neg (by omega)] | rw [sq_39] | rw [Nat.mul_zero] | rw [Nat.zero_add] | rw [Int.toNat_natCast] | rw [r1] | rw [sq_45 e (by omega)] | rw [sq_38]))
    · rw [b238]; (repeat (first | rw [jbI_s] | rw [jbV_s] | rw [bI_t (by omega)] | rw [bI_f (by omega)] | rw [if_pos (by omega)] | rw [if_neg (by omega)] | rw [sq_201] | rw [Int.toNat_natCast] | rw [r2] | rw [sq_200] | rw [sq_203 e (by omega)] | rw [jwi (x := (mnN e : Int) - 1) (by omega) (by omega)]))
  obtain ⟨u, t, rk, u1, t1, t2, t3, t4, t5⟩ := take_red s r d e hd he hI.2.2.2.2.2.2 r1 r5
  have hI2 := Inv_kt t3 t2 hI
  have q29 : t 29 0 r = (d : Int) := by rw [t3 _ _ _ (by omega) (by unfold Scr; omega)]; exact r2
  have q30 : ∀ j, j < 21 → t 30 0 (21 * r + j) = s 16 r j := fun j hj => by rw [t3 _ _ _ (by omega) (by unfold Scr; omega)]; exact (r4 j hj).symm
  have cn := t5.2.2.2.2.2.2
  have z0 : cntN (t 26 0) (-1) 0 = 0 := rfl
  obtain ⟨v, w1, w2⟩ := sj_238 (A := fun i j => s 16 r (Qp i j)) (B := LA t) (ld := t 26 0) (g := s 16 r) r d e v3 v4 (by omega) hd he (fun _ _ => rfl) r5 t5 h3 h4 (mnN e) 0 0 (jup t 11 0 23 0) (by omega) (RefI_0 _ _ _ _ _ _ (jup_e _ _ _ _ _)) (by rw [jup_n _ _ _ _ _ _ _ _ (by omega)]; exact q29) (fun j hj => by rw [jup_n _ _ _ _ _ _ _ _ (by omega)]; exact q30 j hj) (by rw [z0]; omega)
  rw [z0] at w1
  have hfk := freeK_ok (t 26 0) (mnN e) v3 (mnN e) 0 (by omega)
  rw [z0] at hfk
  refine ⟨kilA (LA t) (t 26 0) (mnN e) v3 v4 (freeK (t 26 0) (mnN e) v3 (mnN e) 0 ((0 : Nat) : Int)), t, v, ?_, ?_, Inv_kp (Kp_t (fun k i j z => ?_) (kp_TM w2)) hI2⟩
  · have hend : ∀ o5, je 14 52 [some (.inr (10, 0)), some (.inl (r : Int)), some (.inl (e : Int)), some (.inl v3), some (.inl v4), o5] [] s = some (some (.inl (kilA (LA t) (t 26 0) (mnN e) v3 v4 (freeK (t 26 0) (mnN e) v3 (mnN e) 0 ((0 : Nat) : Int)))), t) := fun o5 => by
      rw [be_14_52, if_pos (by omega), Int.toNat_natCast, Nat.mul_zero, Nat.zero_add, u1, jbV_s, sq_45 e (by omega), jbI_s, t1, jbI_s, jwi (x := (mnN e : Int) - rk) (by omega) (by omega), show (mnN e : Int) - rk = (cntN (t 26 0) (-1) (mnN e) : Int) by omega]
      unfold kilA
      by_cases c : v3 = -1
      · rw [if_pos c, if_pos c]
      · rw [if_neg c, if_neg c]
        rcases hfk (by omega) with ⟨y1, y2⟩ | ⟨f, y1, y2, y3, y4, y5, y6⟩
        · rw [if_neg (by omega), y1, if_pos (by decide)]
        · obtain ⟨i, rfl⟩ := nat_of v4 (by omega)
          have q132 := sq_132 t (mnN e) v3 m2.2 t4
          have y1' : freeK (t 26 0) (mnN e) v3 (mnN e) 0 0 = (f : Int) := y1
          rw [y1'] at q132
          rw [if_pos y6, q132, jbI_s, sq_134 t (mnN (d - e)) (mnN e) rk f i (mnN_le (d - e) (by omega)).2 m2.2 t4 t5 y3 (by omega), jbI_s, y1, if_neg (by omega), Int.toNat_natCast, Int.toNat_natCast]
    rw [b14]
    by_cases c : v3 < 0
    · (repeat (first | rw [jbI_s] | rw [jbV_s] | rw [bI_t (by omega)] | rw [bI_f (by omega)] | rw [if_pos (by omega)] | rw [if_neg (by omega)] | rw [sq_39] | rw [Nat.mul_zero] | rw [Nat.zero_add] | rw [Int.toNat_natCast] | rw [r1] | rw [hend]))
    · have h4' : 0 ≤ v4 ∧ v4 < (mnN e : Int) := h4.elim (fun z => absurd z (by omega)) (fun z => z)
      (repeat (first | rw [jbI_s] | rw [jbV_s] | rw [bI_t (by omega)] | rw [bI_f (by omega)] | rw [if_pos (by omega)] | rw [if_neg (by omega)] | rw [sq_39] | rw [Nat.mul_zero] | rw [Nat.zero_add] | rw [Int.toNat_natCast] | rw [r1] | rw [sq_45 e (by omega)] | rw [sq_38] | rw [bI_t h4'] | rw [hend]))
  · rw [b238]
    by_cases c : v3 < 0
    · (repeat (first | rw [jbI_s] | rw [jbV_s] | rw [bI_t (by omega)] | rw [bI_f (by omega)] | rw [if_pos (by omega)] | rw [if_neg (by omega)] | rw [sq_201] | rw [Int.toNat_natCast] | rw [q29] | rw [sq_200]))
      exact w1
    · have h4' : 0 ≤ v4 ∧ v4 < (mnN e : Int) := h4.elim (fun z => absurd z (by omega)) (fun z => z)
      have h5' : 0 ≤ v4 ∧ v4 ≤ (mnN e : Int) - 1 := ⟨h4'.1, by have := h4'.2; omega⟩
      (repeat (first | rw [jbI_s] | rw [jbV_s] | rw [bI_t (by omega)] | rw [bI_f (by omega)] | rw [if_pos (by omega)] | rw [if_neg (by omega)] | rw [sq_201] | rw [Int.toNat_natCast] | rw [q29] | rw [sq_200] | rw [sq_203 e (by omega)] | rw [jwi (x := (mnN e : Int) - 1) (by omega) (by omega)] | rw [bI_t h5']))
      exact w1
  · unfold Scr at z
    exact jup_n _ _ _ _ _ _ _ _ (by omega)
