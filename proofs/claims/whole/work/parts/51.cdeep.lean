/-! DEEP AND ROOTS in the class -/
def f2 (s : jM) (r : Nat) (j : Nat) : Int := s 16 r (pl j 0)
theorem pl0 (j d : Nat) (hj : j ≤ d) (hd : d ≤ 5) : pl j 0 < 21 := (pl_lt j (by omega) 0 (by omega) (by omega)).1
theorem sj_80b (r d e i : Nat) (hd : d ≤ 5) (he : e ≤ d) (hi : i ≤ d - e) : ∀ (c j : Nat) (s : jM), j + c = e + 1 → TI s → s 7 0 2 = ((d + 1 - e : Nat) : Int) → s 7 0 3 = ((e + 1 : Nat) : Int) → ∃ t, je 80 33 [some (.inr (2, 0)), some (.inr (1, r)), some (.inl (e : Int)), some (.inl (i : Int)), some (.inl (j : Int))] [] s = je 80 20 [some (.inr (2, 0)), some (.inr (1, r)), some (.inl (e : Int)), some (.inl ((i + 1 : Nat) : Int)), some (.inl ((e + 1 : Nat) : Int))] [] t ∧ T5 s t ∧ ∀ a, a < 21 → ∀ b, LA t a b = if a = i ∧ b + j ≤ e then f2 s r (i + (e - b)) else LA s a b
  | 0, j, s, hj, hT, e2, e3 => by
    have hj : j = e + 1 := hj
    refine ⟨s, by rw [be_80_33, if_pos (by omega), jwn (x := (i : Int) + 1) (n := i + 1) (by omega) (by omega), hj], T5_r s, fun a ha b => by rw [if_neg (by omega)]⟩
  | c + 1, j, s, hj, hT, e2, e3 => by
    have hp := pl0 (i + j) d (by omega) hd
    have T1 := T5_up s ((s 24 0 i).toNat % 21) (e - j) (s 16 r (pl (i + j) 0))
    have hL := LA_up hT i (e - j) (by omega) (s 16 r (pl (i + j) 0))
    obtain ⟨t, t1, t2, t3⟩ := sj_80b r d e i hd he hi c (j + 1) (jup s 25 ((s 24 0 i).toNat % 21) (e - j) (s 16 r (pl (i + j) 0))) (by omega) (T5_ti T1 hT) (by rw [T1 _ _ _ (by omega)]; exact e2) (by rw [T1 _ _ _ (by omega)]; exact e3)
    refine ⟨t, ?_, T5_t T1 t2, fun a ha b => ?_⟩
    · rw [be_80_33, if_neg (by omega), jwn (x := (i : Int) + j) (n := i + j) (by omega) (by omega), show (.inl 0 : jV) = .inl ((0 : Nat) : Int) from rfl, sq_46 (i + j) 0 (by omega) (by omega), jbI_s, sq_62 r _ hp, jbI_s, jwn (x := (e : Int) - j) (n := e - j) (by omega) (by omega), sq_124 s (d + 1 - e) (e + 1) i (e - j) _ (by omega) (by omega) e2 e3 (by omega) (by omega), jbV_s, jwn (x := (j : Int) + 1) (n := j + 1) (by omega) (by omega)]
      exact t1
    · have ef : f2 (jup s 25 ((s 24 0 i).toNat % 21) (e - j) (s 16 r (pl (i + j) 0))) r (i + (e - b)) = f2 s r (i + (e - b)) := by unfold f2; rw [T1 _ _ _ (by omega)]
      rw [t3 a ha b, hL a b ha, ef]
      by_cases c1 : a = i ∧ b + (j + 1) ≤ e
      · rw [if_pos c1, if_pos (by omega)]
      · rw [if_neg c1]
        by_cases c2 : a = i ∧ b = e - j
        · rw [if_pos c2, if_pos (by omega)]
          unfold f2
          rw [show i + (e - b) = i + j by omega]
        · rw [if_neg c2, if_neg (by omega)]
theorem sj_80a (r d e : Nat) (hd : d ≤ 5) (he : e ≤ d) : ∀ (c i : Nat) (s : jM) (o4 : Option jV), i + c = d + 1 - e → TI s → s 1 r 1 = (d : Int) → s 7 0 2 = ((d + 1 - e : Nat) : Int) → s 7 0 3 = ((e + 1 : Nat) : Int) → ∃ t, je 80 20 [some (.inr (2, 0)), some (.inr (1, r)), some (.inl (e : Int)), some (.inl (i : Int)), o4] [] s = some (none, t) ∧ T5 s t ∧ ∀ a, a < 21 → ∀ b, LA t a b = if i ≤ a ∧ a < d + 1 - e ∧ b < e + 1 then f2 s r (a + (e - b)) else LA s a b
  | 0, i, s, o4, hi, hT, h1, e2, e3 => by
    refine ⟨s, ?_, T5_r s, fun a ha b => by rw [if_neg (by omega)]⟩
    rw [be_80_20, h1, jwi (x := (d : Int) - e) (by omega) (by omega), if_pos (by omega)]
  | c + 1, i, s, o4, hi, hT, h1, e2, e3 => by
    obtain ⟨u, u1, u2, u3⟩ := sj_80b r d e i hd he (by omega) (e + 1) 0 s (by omega) hT e2 e3
    obtain ⟨t, t1, t2, t3⟩ := sj_80a r d e hd he c (i + 1) u (some (.inl ((e + 1 : Nat) : Int))) (by omega) (T5_ti u2 hT) (by rw [u2 _ _ _ (by omega)]; exact h1) (by rw [u2 _ _ _ (by omega)]; exact e2) (by rw [u2 _ _ _ (by omega)]; exact e3)
    refine ⟨t, ?_, T5_t u2 t2, fun a ha b => ?_⟩
    · rw [be_80_20, h1, jwi (x := (d : Int) - e) (by omega) (by omega), if_neg (by omega)]
      exact u1.trans t1
    · have ef : ∀ j, f2 u r j = f2 s r j := fun j => by unfold f2; rw [u2 _ _ _ (by omega)]
      rw [t3 a ha b, u3 a ha b, ef]
      by_cases c1 : i + 1 ≤ a ∧ a < d + 1 - e ∧ b < e + 1
      · rw [if_pos c1, if_pos (by omega)]
      · rw [if_neg c1]
        by_cases c2 : a = i ∧ b + 0 ≤ e
        · rw [if_pos c2, if_pos (by omega), c2.1]
        · rw [if_neg c2, if_neg (by omega)]
theorem sq_80 (s : jM) (r d e : Nat) (hd : d ≤ 5) (he : e ≤ d + 1) (hT : TI s) (h1 : s 1 r 1 = (d : Int)) : ∃ t, jq 80 [.inr (2, 0), .inr (1, r), .inl (e : Int)] s = some (none, t) ∧ t 7 0 2 = ((d + 1 - e : Nat) : Int) ∧ t 7 0 3 = ((e + 1 : Nat) : Int) ∧ TI t ∧ (∀ k i j, k ≠ 7 → k ≠ 25 → t k i j = s k i j) ∧ ∀ a, a < d + 1 - e → ∀ b, b < e + 1 → LA t a b = dA (f2 s r) e a b := by
  obtain ⟨u, u1, u2, u3, u4, u5, u6⟩ := sq_123 s (d + 1 - e) (e + 1) (by omega) (by omega) hT
  have ue : jw (jw ((d : Int) - e) + 1) = ((d + 1 - e : Nat) : Int) := by rw [jwi (x := (d : Int) - e) (by omega) (by omega), jwi (by omega) (by omega)]; omega
  by_cases c : e = d + 1
  · refine ⟨u, ?_, u2, u3, u4, u5, fun a ha => absurd ha (by omega)⟩
    rw [bq_80, h1, ue, jwn (x := (e : Int) + 1) (n := e + 1) (by omega) (by omega), u1, jbV_s, be_80_20, u5 1 _ _ (by omega) (by omega), h1, jwi (x := (d : Int) - e) (by omega) (by omega), if_pos (by omega)]
  · obtain ⟨t, t1, t2, t3⟩ := sj_80a r d e hd (by omega) (d + 1 - e) 0 u none (by omega) u4 (by rw [u5 1 _ _ (by omega) (by omega)]; exact h1) u2 u3
    refine ⟨t, ?_, by rw [t2 _ _ _ (by omega)]; exact u2, by rw [t2 _ _ _ (by omega)]; exact u3, T5_ti t2 u4, fun k i j z z2 => by rw [t2 _ _ _ z2, u5 _ _ _ z z2], fun a ha b hb => ?_⟩
    · rw [bq_80, h1, ue, jwn (x := (e : Int) + 1) (n := e + 1) (by omega) (by omega), u1, jbV_s]
      exact t1
    · rw [t3 a (by omega) b, if_pos (by omega)]
      unfold dA f2
      rw [u5 16 _ _ (by omega) (by omega)]
theorem sj_81 {A : Nat → Nat → Int} (h e p rk : Nat) (hh : h ≤ 21) (he : e ≤ 6) (hp : p < e + 1) (v1 : Int) : ∀ (c i : Nat) (s : jM), i + c = e + 1 → s 2 0 3 = (e : Int) → s 7 0 3 = ((e + 1 : Nat) : Int) → RedI A (LA s) h (e + 1) (e + 1) (s 26 0) rk → ∃ t, je 81 12 [some (.inr (2, 0)), some (.inl v1), some (.inl (p : Int)), some (.inl (i : Int))] [] s = some (none, t) ∧ (∀ k a b, k ≠ 17 → t k a b = s k a b) ∧ ∀ m, t 17 0 m = if i ≤ m ∧ m < e + 1 then rsol (LA s) (s 26 0) p (e - m) else s 17 0 m
  | 0, i, s, hi, h3, e3, hR => by
    refine ⟨s, by rw [be_81_12, h3, if_pos (by omega)], fun _ _ _ _ => rfl, fun m => by rw [if_neg (by omega)]⟩
  | c + 1, i, s, hi, h3, e3, hR => by
    have hLA : LA (jup s 17 0 i (rsol (LA s) (s 26 0) p (e - i))) = LA s := funext fun a => funext fun b => by unfold LA; rw [jup_n _ _ _ _ _ _ _ _ (by omega), jup_n _ _ _ _ _ _ _ _ (by omega)]
    have h26 : jup s 17 0 i (rsol (LA s) (s 26 0) p (e - i)) 26 0 = s 26 0 := funext fun m => jup_n _ _ _ _ _ _ _ _ (by omega)
    obtain ⟨t, t1, t2, t3⟩ := sj_81 h e p rk hh he hp v1 c (i + 1) (jup s 17 0 i (rsol (LA s) (s 26 0) p (e - i))) (by omega) (by rw [jup_n _ _ _ _ _ _ _ _ (by omega)]; exact h3) (by rw [jup_n _ _ _ _ _ _ _ _ (by omega)]; exact e3) (by rw [hLA, h26]; exact hR)
    refine ⟨t, ?_, fun k a b z => by rw [t2 k a b z, jup_n _ _ _ _ _ _ _ _ (by omega)], fun m => ?_⟩
    · rw [be_81_12, h3, if_neg (by omega), jwn (x := (e : Int) - i) (n := e - i) (by omega) (by omega), sq_134 s h (e + 1) rk p (e - i) hh (by omega) e3 hR hp (by omega), jbI_s, if_pos (by omega), Int.toNat_natCast, jwn (x := (i : Int) + 1) (n := i + 1) (by omega) (by omega)]
      exact t1
    · rw [t3 m, hLA, h26]
      by_cases c1 : i + 1 ≤ m ∧ m < e + 1
      · rw [if_pos c1, if_pos (by omega)]
      · rw [if_neg c1]
        by_cases c2 : m = i
        · rw [c2, jup_e, if_pos (by omega)]
        · rw [jup_n _ _ _ _ _ _ _ _ (by omega), if_neg (by omega)]
theorem sj_79 (r d : Nat) (f : Nat → Int) (hd : d ≤ 5) (hf : ∀ j, j < d + 1 → g101 (f j)) : ∀ (c e : Nat) (s : jM) (o3 : Option jV), e + c = d + 1 → TI s → s 1 r 1 = (d : Int) → (∀ j, j < d + 1 → f2 s r j = f j) → (∀ e', e' < e → ∀ p, p < e' + 1 → ¬ Fr (dA f e') (d + 1 - e') (e' + 1) p) → ∃ t E, je 79 18 [some (.inr (2, 0)), some (.inr (1, r)), some (.inl (e : Int)), o3] [] s = some (some (.inl 1), t) ∧ TI t ∧ Kt s t ∧ t 2 0 3 = ((E : Nat) : Int) ∧ DR f d E (t 17 0) := by
  intro c
  induction c with
  | zero =>
    intro e s o3 he hT h1 hff hno
    have he : e = d + 1 := he
    obtain ⟨u, u1, u2, u3, u4, u5, u6⟩ := sq_80 s r d e hd (by omega) hT h1
    obtain ⟨t, rk, t1, t2, t3, t4⟩ := sq_127 u (d + 1 - e) (e + 1) (by omega) (by omega) u4 u2 u3 (fun a ha => absurd ha (by omega))
    have hR := RedI_a (A' := dA f e) (fun i hi => absurd hi (by omega)) t4
    have hFr : ∀ p, p < e + 1 → t 26 0 p = -1 := fun p hp => (red_free hR hp).mpr ⟨fun j => if j = p then 1 else 0, fun i hi => absurd hi (by omega), by show (101 : Int) ∣ (if p = p then 1 else 0) - 1; rw [if_pos rfl]; exact ⟨0, rfl⟩, fun j h2 _ => by show (101 : Int) ∣ (if j = p then 1 else 0); rw [if_neg (by omega)]; exact ⟨0, rfl⟩⟩
    have te3 : t 7 0 3 = ((e + 1 : Nat) : Int) := by rw [t3 _ _ _ (by omega) (by omega) (by omega)]; exact u3
    obtain ⟨x, x1, x2⟩ := sq_133 t (e + 1) (by omega) te3
    rcases x2 with ⟨-, z⟩ | ⟨p, ep, hp, hp1, hp2⟩
    · exact absurd (hFr e (by omega)) (z e (by omega))
    · have hLA : LA (jup t 2 0 3 (e : Int)) = LA t := funext fun a => funext fun b => by unfold LA; rw [jup_n _ _ _ _ _ _ _ _ (by omega), jup_n _ _ _ _ _ _ _ _ (by omega)]
      have h26 : jup t 2 0 3 (e : Int) 26 0 = t 26 0 := funext fun m => jup_n _ _ _ _ _ _ _ _ (by omega)
      obtain ⟨w, w1, w2, w3⟩ := sj_81 (A := dA f e) (d + 1 - e) e p rk (by omega) (by omega) hp e (e + 1) 0 (jup t 2 0 3 (e : Int)) (by omega) (jup_e _ _ _ _ _) (by rw [jup_n _ _ _ _ _ _ _ _ (by omega)]; exact te3) (by rw [hLA, h26]; exact hR)
      have w1 : je 81 12 [some (.inr (2, 0)), some (.inl (e : Int)), some (.inl (p : Int)), some (.inl 0)] [] (jup t 2 0 3 (e : Int)) = some (none, w) := w1
      have wo : ∀ k a b, k ≠ 17 → k ≠ 2 → w k a b = t k a b := fun k a b z z2 => by rw [w2 k a b z, jup_n _ _ _ _ _ _ _ _ (by omega)]
      refine ⟨w, e, ?_, TI_cg (fun j => wo 24 0 j (by omega) (by omega)) t2, fun k i j z z2 => ?_, by rw [w2 _ _ _ (by omega), jup_e], by omega, hno, p, hp, fun j h2 h3 hF => hp2 j h2 h3 ((red_free hR h3).mpr hF), ?_⟩
      · rw [be_79_18, h1, jwi (x := (d : Int) + 1) (by omega) (by omega), if_neg (by omega), u1, jbV_s, t1, jbI_s, x1, jbI_s, if_neg (by omega), ep, bq_81, if_neg (show ¬ (6 : Int) < (e : Int) by omega), w1, jbV_s]
      · unfold Scr at z2
        rw [wo _ _ _ (by omega) (by omega), t3 _ _ _ z (by omega) (by omega), u5 _ _ _ (by omega) (by omega)]
      · have hs := rsol_Sol hR hp hp1
        have : ∀ j, j < e + 1 → (fun j => w 17 0 (e - j)) j = rsol (LA t) (t 26 0) p j := fun j hj => by
          show w 17 0 (e - j) = _
          rw [w3, if_pos (by omega), hLA, h26, show e - (e - j) = j by omega]
        obtain ⟨a1, a2, a3, a4, a5⟩ := hs
        refine ⟨fun i hi => absurd hi (by omega), by rw [this p hp]; exact a2, fun j h2 h3 => by rw [this j h3]; exact a3 j h2 h3, fun j h2 h3 => by rw [this j (by omega)]; exact a4 j h2 h3, fun j hj => by rw [this j hj]; exact a5 j hj⟩
  | succ c ih =>
    intro e s o3 he hT h1 hff hno
    obtain ⟨u, u1, u2, u3, u4, u5, u6⟩ := sq_80 s r d e hd (by omega) hT h1
    have hA : ∀ a, a < d + 1 - e → ∀ b, b < e + 1 → LA u a b = dA f e a b := fun a ha b hb => by
      rw [u6 a ha b hb]
      unfold dA
      exact hff _ (by omega)
    obtain ⟨t, rk, t1, t2, t3, t4⟩ := sq_127 u (d + 1 - e) (e + 1) (by omega) (by omega) u4 u2 u3 (fun a ha b hb => by
      rw [hA a ha b hb]
      unfold dA
      exact hf _ (by omega))
    have hR := RedI_a (A' := dA f e) (fun i hi j hj => (hA i hi j hj).symm) t4
    have te3 : t 7 0 3 = ((e + 1 : Nat) : Int) := by rw [t3 _ _ _ (by omega) (by omega) (by omega)]; exact u3
    have hKt : Kt s t := fun k i j z z2 => by
      unfold Scr at z2
      rw [t3 _ _ _ z (by omega) (by omega), u5 _ _ _ (by omega) (by omega)]
    obtain ⟨x, x1, x2⟩ := sq_133 t (e + 1) (by omega) te3
    rcases x2 with ⟨ex, z⟩ | ⟨p, ep, hp, hp1, hp2⟩
    · have hff2 : ∀ j, j < d + 1 → f2 t r j = f j := fun j hj => by
        rw [← hff j hj]
        unfold f2
        rw [t3 _ _ _ (by omega) (by omega) (by omega), u5 _ _ _ (by omega) (by omega)]
      obtain ⟨w, E, w1, w2, w3, w4⟩ := ih (e + 1) t (some (.inl x)) (by omega) t2 (by rw [t3 _ _ _ (by omega) (by omega) (by omega), u5 _ _ _ (by omega) (by omega)]; exact h1) hff2 (fun e' he' p hp hF => by
        by_cases c1 : e' = e
        · subst c1
          exact z p hp ((red_free hR hp).mpr hF)
        · exact hno e' (by omega) p hp hF)
      refine ⟨w, E, ?_, w2, Kt_t hKt w3, w4⟩
      rw [be_79_18, h1, jwi (x := (d : Int) + 1) (by omega) (by omega), if_neg (by omega), u1, jbV_s, t1, jbI_s, x1, jbI_s, if_pos (by omega), jwn (x := (e : Int) + 1) (n := e + 1) (by omega) (by omega)]
      exact w1
    · have hLA : LA (jup t 2 0 3 (e : Int)) = LA t := funext fun a => funext fun b => by unfold LA; rw [jup_n _ _ _ _ _ _ _ _ (by omega), jup_n _ _ _ _ _ _ _ _ (by omega)]
      have h26 : jup t 2 0 3 (e : Int) 26 0 = t 26 0 := funext fun m => jup_n _ _ _ _ _ _ _ _ (by omega)
      obtain ⟨w, w1, w2, w3⟩ := sj_81 (A := dA f e) (d + 1 - e) e p rk (by omega) (by omega) hp e (e + 1) 0 (jup t 2 0 3 (e : Int)) (by omega) (jup_e _ _ _ _ _) (by rw [jup_n _ _ _ _ _ _ _ _ (by omega)]; exact te3) (by rw [hLA, h26]; exact hR)
      have w1 : je 81 12 [some (.inr (2, 0)), some (.inl (e : Int)), some (.inl (p : Int)), some (.inl 0)] [] (jup t 2 0 3 (e : Int)) = some (none, w) := w1
      have wo : ∀ k a b, k ≠ 17 → k ≠ 2 → w k a b = t k a b := fun k a b z z2 => by rw [w2 k a b z, jup_n _ _ _ _ _ _ _ _ (by omega)]
      refine ⟨w, e, ?_, TI_cg (fun j => wo 24 0 j (by omega) (by omega)) t2, fun k i j z z2 => ?_, by rw [w2 _ _ _ (by omega), jup_e], by omega, hno, p, hp, fun j h2 h3 hF => hp2 j h2 h3 ((red_free hR h3).mpr hF), ?_⟩
      · rw [be_79_18, h1, jwi (x := (d : Int) + 1) (by omega) (by omega), if_neg (by omega), u1, jbV_s, t1, jbI_s, x1, jbI_s, if_neg (by omega), ep, bq_81, if_neg (show ¬ (6 : Int) < (e : Int) by omega), w1, jbV_s]
      · unfold Scr at z2
        rw [wo _ _ _ (by omega) (by omega)]
        exact hKt k i j z (by unfold Scr; omega)
      · have hs := rsol_Sol hR hp hp1
        have : ∀ j, j < e + 1 → (fun j => w 17 0 (e - j)) j = rsol (LA t) (t 26 0) p j := fun j hj => by
          show w 17 0 (e - j) = _
          rw [w3, if_pos (by omega), hLA, h26, show e - (e - j) = j by omega]
        obtain ⟨a1, a2, a3, a4, a5⟩ := hs
        refine ⟨Rel_lin 1 0 a1 a1 (fun j hj => by have q : w 17 0 (e - j) = rsol (LA t) (t 26 0) p j := this j hj; rw [q]; omega), by rw [this p hp]; exact a2, fun j h2 h3 => by rw [this j h3]; exact a3 j h2 h3, fun j h2 h3 => by rw [this j (by omega)]; exact a4 j h2 h3, fun j hj => by rw [this j hj]; exact a5 j hj⟩
/-- whether deep() has an answer -/
def isDp (s : jM) (r d : Nat) : Prop := two (s 16 r) (mnN d) ∧ cntN (s 16 r) 0 (mnN d) ≠ mnN d
theorem sq_79 (s : jM) (r d : Nat) (hd : d ≤ 5) (hT : TI s) (h1 : s 1 r 1 = (d : Int)) (hg : ∀ j, j < 21 → g101 (s 16 r j)) : (¬ isDp s r d ∧ jq 79 [.inr (2, 0), .inr (1, r)] s = some (some (.inl 0), s)) ∨ (isDp s r d ∧ ∃ t E, jq 79 [.inr (2, 0), .inr (1, r)] s = some (some (.inl 1), t) ∧ TI t ∧ Kt s t ∧ t 2 0 3 = ((E : Nat) : Int) ∧ DR (f2 s r) d E (t 17 0)) := by
  obtain ⟨x, q1, q2, q3⟩ := sq_70 s r d h1 hd
  have q69 := sq_69 s r d h1 hd
  have em := mnN_le d hd
  have hc := cntN_le (s 16 r) 0 (mnN d)
  rw [bq_79, q1, jbI_s]
  by_cases c0 : x = 0
  · exact Or.inl ⟨fun z => absurd (q3.mpr z.1) (by omega), by rw [if_pos c0]⟩
  · rw [if_neg c0, q69, jbI_s]
    by_cases c1 : cntN (s 16 r) 0 (mnN d) = mnN d
    · exact Or.inl ⟨fun z => z.2 c1, by rw [if_pos (by omega)]⟩
    · rw [if_neg (by omega)]
      refine Or.inr ⟨⟨q3.mp (by omega), c1⟩, ?_⟩
      exact sj_79 r d (f2 s r) hd (fun j hj => hg _ (pl0 j d (by omega) hd)) (d + 1) 0 s none (by omega) hT h1 (fun _ _ => rfl) (fun e' he' => absurd he' (by omega))
