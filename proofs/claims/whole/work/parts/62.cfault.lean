/-! THE TEXT: acts and faults in the class -/
section
variable {T : Nat → Int} {n : Nat}
theorem pw_up {c : Int} {p : Nat × Int} (h : (pw T n c p).2 = 0) : (pw T n c p).1 = p.1 + 1 := by
  have z := pw_bad h
  unfold pw at h ⊢
  rw [if_pos z] at h ⊢
  by_cases c1 : nx T n p.1 = c
  · rw [if_pos c1]
  · rw [if_neg c1] at h; exact absurd h (by show ¬ (1 : Int) = 0; decide)
theorem pw_le (hT : okT T n) (c : Int) (hc : 0 ≤ c) (p : Nat × Int) (hp : p.1 ≤ n) (h2 : p.2 = 0 ∨ p.2 = 1) : p.1 ≤ (pw T n c p).1 ∧ (pw T n c p).1 ≤ n ∧ ((pw T n c p).2 = 0 ∨ (pw T n c p).2 = 1) := by
  unfold pw
  by_cases z : p.2 = 0
  · rw [if_pos z]
    by_cases c1 : nx T n p.1 = c
    · have := (nx_ok hT p.1).2.2.2 (by omega)
      rw [if_pos c1]; exact ⟨by show p.1 ≤ p.1 + 1; omega, this, Or.inl rfl⟩
    · rw [if_neg c1]; exact ⟨Nat.le_refl _, hp, Or.inr rfl⟩
  · rw [if_neg z]; exact ⟨Nat.le_refl _, hp, h2⟩
theorem pf_le (hT : okT T n) (p : Nat × Int) (hp : p.1 ≤ n) : p.1 ≤ (pf T n p).1.1 ∧ (pf T n p).1.1 ≤ n ∧ ((pf T n p).1.2 = 0 ∨ (pf T n p).1.2 = 1) ∧ ((pf T n p).1.2 = 0 → (pf T n p).1.1 = p.1 + 1 ∧ 0 ≤ (pf T n p).2 ∧ (pf T n p).2 ≤ 9) := by
  unfold pf
  by_cases z : p.2 = 0 ∧ 48 ≤ nx T n p.1 ∧ nx T n p.1 ≤ 57
  · have := (nx_ok hT p.1).2.2.2 (by omega)
    rw [if_pos z]
    exact ⟨by show p.1 ≤ p.1 + 1; omega, this, Or.inl rfl, fun _ => ⟨rfl, by show 0 ≤ nx T n p.1 - 48; omega, by show nx T n p.1 - 48 ≤ 9; omega⟩⟩
  · rw [if_neg z]; exact ⟨Nat.le_refl _, hp, Or.inr rfl, fun h => absurd h (by show ¬ (1 : Int) = 0; decide)⟩
theorem pfs_le (hT : okT T n) (p : Nat × Int) (hp : p.1 ≤ n) : p.1 ≤ (pfs T n p).1.1 ∧ (pfs T n p).1.1 ≤ n ∧ ((pfs T n p).1.2 = 0 ∨ (pfs T n p).1.2 = 1) ∧ ((pfs T n p).1.2 = 0 → p.1 < (pfs T n p).1.1 ∧ 0 ≤ (pfs T n p).2 ∧ (pfs T n p).2 ≤ 999) := by
  unfold pfs
  by_cases z : p.2 = 0 ∧ 48 ≤ nx T n p.1 ∧ nx T n p.1 ≤ 57
  · have h1 := (nx_ok hT p.1).2.2.2 (by omega)
    obtain ⟨a1, a2, a3, a4, a5⟩ := pfl_ok hT 2 (p.1 + 1) (nx T n p.1 - 48) (by omega)
    rw [if_pos z]
    refine ⟨?_, a5 h1, Or.inl rfl, fun _ => ⟨?_, a3, a4 (by omega) (Nat.le_refl 2)⟩⟩
    · show p.1 ≤ (pfl T n 2 (p.1 + 1) (nx T n p.1 - 48)).1; omega
    · show p.1 < (pfl T n 2 (p.1 + 1) (nx T n p.1 - 48)).1; omega
  · rw [if_neg z]; exact ⟨Nat.le_refl _, hp, Or.inr rfl, fun h => absurd h (by show ¬ (1 : Int) = 0; decide)⟩
theorem we_ok (hT : okT T n) (a : Nat) (ha : a ≤ n) : a ≤ we T n a ∧ we T n a ≤ n ∧ (ww T n a ≠ -1 → a + 3 ≤ we T n a ∧ 0 ≤ ww T n a ∧ ww T n a ≤ 3) := by
  obtain ⟨w1, w2, w3⟩ := wen_ok hT 80 a ha (by have := hT.1; omega)
  refine ⟨w1, w2, fun z => ?_⟩
  rcases wrd_ok (T := T) (n := n) a (we T n a) with y | ⟨y1, y2, y3⟩
  · exact absurd y z
  · exact ⟨y3, y1, y2⟩
/-- an act ends behind where it begins -/
theorem pa_ok (hT : okT T n) (a : Nat) (ha : a ≤ n) : (pa T n a).1 ≤ n ∧ ((pa T n a).2 = 0 ∨ (pa T n a).2 = 1) ∧ ((pa T n a).2 = 0 → a + 6 ≤ (pa T n a).1 ∧ ww T n a ≠ -1) := by
  obtain ⟨w1, w2, w3⟩ := we_ok hT a ha
  unfold pa
  by_cases c : ww T n a = -1
  · rw [if_pos c]; exact ⟨ha, Or.inr rfl, fun h => absurd h (by show ¬ (1 : Int) = 0; decide)⟩
  rw [if_neg c]
  obtain ⟨w3, w4, w5⟩ := w3 c
  generalize we T n a = e at *
  have g0 := pw_le hT 32 (by decide) (e, 0) w2 (Or.inl rfl)
  have g1 := pf_le hT (pw T n 32 (e, 0)) g0.2.1
  have u0 : (A0 T n e).1.2 = 0 → (A0 T n e).1.1 = e + 2 := fun z => by
    have h1 := (g1.2.2.2 z).1
    have h2 := pw_up (pf_bad z)
    have h1 : (A0 T n e).1.1 = (pw T n 32 (e, 0)).1 + 1 := h1
    rw [h1, h2]
  have g1 : (A0 T n e).1.1 ≤ n ∧ ((A0 T n e).1.2 = 0 ∨ (A0 T n e).1.2 = 1) := ⟨g1.2.1, g1.2.2.1⟩
  have q1 := pw_le hT 32 (by decide) (A0 T n e).1 g1.1 g1.2
  have q2 := pw_le hT 61 (by decide) _ q1.2.1 q1.2.2
  have q3 := pw_le hT 32 (by decide) _ q2.2.1 q2.2.2
  have uq : (Aq T n e).2 = 0 → (Aq T n e).1 = e + 5 := fun z => by
    have h3 := pw_up z
    have h2 := pw_up (pw_bad z)
    have h1 := pw_up (pw_bad (pw_bad z))
    have h0 := u0 (pw_bad (pw_bad (pw_bad z)))
    have h3 : (Aq T n e).1 = (pw T n 61 (pw T n 32 (A0 T n e).1)).1 + 1 := h3
    rw [h3, h2, h1, h0]
  have q3 : (Aq T n e).1 ≤ n ∧ ((Aq T n e).2 = 0 ∨ (Aq T n e).2 = 1) := ⟨q3.2.1, q3.2.2⟩
  have cml : ∀ p : Nat × Int, p.1 ≤ n → (p.2 = 0 ∨ p.2 = 1) → p.1 ≤ (cm T n p).1 ∧ (cm T n p).1 ≤ n ∧ ((cm T n p).2 = 0 ∨ (cm T n p).2 = 1) := fun p h1 h2 => by
    have a1 := pw_le hT 32 (by decide) p h1 h2
    have a2 := pw_le hT 44 (by decide) _ a1.2.1 a1.2.2
    have a3 := pw_le hT 32 (by decide) _ a2.2.1 a2.2.2
    have a3' : (pw T n 44 (pw T n 32 p)).1 ≤ (cm T n p).1 ∧ (cm T n p).1 ≤ n ∧ ((cm T n p).2 = 0 ∨ (cm T n p).2 = 1) := a3
    exact ⟨by omega, a3'.2.1, a3'.2.2⟩
  unfold pe
  by_cases c0 : ww T n a = 0
  · rw [if_pos c0]
    unfold Sm
    by_cases c1 : (Aq T n e).2 = 0
    · obtain ⟨p1, p2, p3, p4, p5⟩ := psm_ok hT 81 (Aq T n e).1 1 (by have := hT.1; omega) q3.1 (Or.inl rfl)
      rw [if_pos c1]
      exact ⟨p2, p3, fun z => ⟨by have := uq c1; have := (p5 z).1; omega, c⟩⟩
    · rw [if_neg c1]
      exact ⟨q3.1, q3.2, fun z => absurd z c1⟩
  rw [if_neg c0]
  by_cases c1 : ww T n a = 1
  · have l1 := pfs_le hT (Aq T n e) q3.1
    have l1' : (L1 T n e).1.1 ≤ n ∧ ((L1 T n e).1.2 = 0 ∨ (L1 T n e).1.2 = 1) := ⟨l1.2.1, l1.2.2.1⟩
    have m1 := cml (L1 T n e).1 l1'.1 l1'.2
    have l2 := pfs_le hT (cm T n (L1 T n e).1) m1.2.1
    have l2' : (L2 T n e).1.1 ≤ n ∧ ((L2 T n e).1.2 = 0 ∨ (L2 T n e).1.2 = 1) := ⟨l2.2.1, l2.2.2.1⟩
    have m2 := cml (L2 T n e).1 l2'.1 l2'.2
    have l3 := pfs_le hT (cm T n (L2 T n e).1) m2.2.1
    rw [if_pos c1]
    refine ⟨l3.2.1, l3.2.2.1, fun z => ⟨?_, c⟩⟩
    have z2 : (L2 T n e).1.2 = 0 := cm_bad (pfs_bad z)
    have z1 : (L1 T n e).1.2 = 0 := cm_bad (pfs_bad z2)
    have zq : (Aq T n e).2 = 0 := pfs_bad z1
    have h1 := uq zq
    have h2 : (Aq T n e).1 ≤ (L1 T n e).1.1 := l1.1
    have h3 : (cm T n (L1 T n e).1).1 ≤ (L2 T n e).1.1 := l2.1
    have h4 : (cm T n (L2 T n e).1).1 ≤ (L3 T n e).1.1 := l3.1
    omega
  rw [if_neg c1]
  have b0 := pw_le hT 32 (by decide) (A0 T n e).1 g1.1 g1.2
  have b1 := pf_le hT (pw T n 32 (A0 T n e).1) b0.2.1
  have ub : (B1 T n e).1.2 = 0 → (B1 T n e).1.1 = e + 4 := fun z => by
    have h1 : (B1 T n e).1.1 = (pw T n 32 (A0 T n e).1).1 + 1 := (b1.2.2.2 z).1
    have h2 := pw_up (pf_bad z)
    have h3 := u0 (pw_bad (pf_bad z))
    rw [h1, h2, h3]
  have b1' : (B1 T n e).1.1 ≤ n ∧ ((B1 T n e).1.2 = 0 ∨ (B1 T n e).1.2 = 1) := ⟨b1.2.1, b1.2.2.1⟩
  by_cases c2 : ww T n a = 2
  · have d0 := pw_le hT 32 (by decide) (B1 T n e).1 b1'.1 b1'.2
    have d1 := pfs_le hT (pw T n 32 (B1 T n e).1) d0.2.1
    rw [if_pos c2]
    refine ⟨d1.2.1, d1.2.2.1, fun z => ⟨?_, c⟩⟩
    have h1 := ub (pw_bad (pfs_bad z))
    have h2 : (pw T n 32 (B1 T n e).1).1 ≤ (B2 T n e).1.1 := d1.1
    omega
  · rw [if_neg c2]
    exact ⟨b1'.1, b1'.2, fun z => ⟨by have := ub z; omega, c⟩⟩
/-- the operands of the act at a, as the class holds them -/
def OPS (T : Nat → Int) (n : Nat) (t : jM) (a : Nat) : Prop := t 3 0 5 = ww T n a ∧ t 19 0 0 = (A0 T n (we T n a)).2 ∧ (ww T n a = 0 → CS t (Sm T n (we T n a)).1) ∧ (ww T n a = 1 → t 19 0 1 = (L1 T n (we T n a)).2 ∧ t 19 0 2 = (L2 T n (we T n a)).2 ∧ t 19 0 3 = (L3 T n (we T n a)).2) ∧ (ww T n a = 2 → t 19 0 1 = (B1 T n (we T n a)).2 ∧ t 19 0 2 = (B2 T n (we T n a)).2) ∧ (ww T n a = 3 → t 19 0 1 = (B1 T n (we T n a)).2)
/-- where it stands behind an act and what parts it -/
def qa (T : Nat → Int) (n a : Nat) : Nat × Int := if (pa T n a).1 < n then pw T n 59 (pa T n a) else pa T n a
theorem act_end (hT : okT T n) {u : jM} {q : Nat × Int} (hq01 : q.2 = 0 ∨ q.2 = 1) (h : CE T n u q) : ∃ t, (jbI (jq 90 [.inr (3, 0)] u) fun x3 s3 => if x3 = 0 then some (some (.inl 0), s3) else jbV (jq 98 [.inr (3, 0), .inl 59] s3) fun s4 => some (some (.inl 1), s4)) = some (some (.inl (if q.1 < n then 1 else 0)), t) ∧ CP T n t (if q.1 < n then pw T n 59 q else q) ∧ T3 u t := by
  rcases h with h | ⟨h1, h2, h3⟩
  · obtain ⟨t, t1, t2, t3⟩ := sq_98 hT h 59 (by decide)
    rw [bq_90, h.2.2.1, h.1]
    by_cases c : q.1 < n
    · rw [if_pos (by omega), jbI_s, if_neg (by decide), t1, jbV_s, if_pos c, if_pos c]
      exact ⟨t, rfl, t2, t3⟩
    · rw [if_neg (by omega), jbI_s, if_pos rfl, if_neg c, if_neg c]
      exact ⟨u, rfl, h, T3_r u⟩
  · have hs : 48 ≤ nx T n q.1 ∧ nx T n q.1 ≤ 57 := h3
    have hq := (nx_ok hT q.1).2.2.2 (by omega)
    obtain ⟨t, t1, t2, t3⟩ := sq_98 hT h2 59 (by decide)
    have hqq : q = (q.1, 1) := Prod.ext rfl (hq01.resolve_left h1)
    have e1 : pw T n 59 (q.1, 0) = (q.1, 1) := by
      unfold pw
      rw [if_pos (show (q.1, (0 : Int)).2 = 0 from rfl), if_neg (show ¬ nx T n q.1 = 59 by omega)]
    have e2 : pw T n 59 q = q := by
      unfold pw
      rw [if_neg h1]
    have e8 : u 8 0 1 = (n : Int) := h2.1
    have e3 : u 3 0 3 = (q.1 : Int) := h2.2.2.1
    rw [bq_90, e3, e8, if_pos (by omega), jbI_s, if_neg (by decide), t1, jbV_s, if_pos hq, if_pos hq, e2]
    rw [e1] at t2
    rw [← hqq] at t2
    exact ⟨t, rfl, t2, t3⟩
theorem sq_94 (hT : okT T n) {s : jM} {a : Nat} (h : CP T n s (a, 0)) : ∃ t, jq 94 [.inr (3, 0)] s = some (some (.inl (if (pa T n a).1 < n then 1 else 0)), t) ∧ CP T n t (qa T n a) ∧ TA s t ∧ ((pa T n a).2 = 0 → OPS T n t a) := by
  have ha : a ≤ n := h.2.2.2.2.2
  obtain ⟨g1, g2, g3⟩ := pa_ok hT a ha
  obtain ⟨w1, w2, w3⟩ := we_ok hT a ha
  obtain ⟨u, u1, u2, u3, u4⟩ := sq_99 hT h
  have hend := fun (v : jM) (hv : CE T n v (pa T n a)) => act_end hT g2 hv
  rw [bq_94, u1, jbI_s]
  by_cases cw : ww T n a = -1
  · have hp : pa T n a = (a, 1) := if_pos cw
    have h5 : CP T n (jup u 3 0 5 (ww T n a)) (a, 0) := CP_c (u3 cw) (fun k i j z => jup_n _ _ _ _ _ _ _ _ (by omega))
    obtain ⟨v, v1, v2, v3⟩ := sq_95 h5
    have hu3 : u 3 0 3 = (a : Int) := (u3 cw).2.2.1
    obtain ⟨t, t1, t2, t3⟩ := hend v (Or.inl (by rw [hp]; exact v2))
    rw [if_neg (by omega), if_neg (by omega), if_neg (by omega), if_neg (by omega), hu3, v1, jbV_s, t1]
    refine ⟨t, rfl, t2, TA_t (fun k i j z => by rw [jup_n _ _ _ _ _ _ _ _ (by omega), u2 _ _ _ (by omega)]) (TA_t (fun k i j z => v3 _ _ _ (by omega)) (fun k i j z => t3 _ _ _ (by omega))), fun z => absurd z (by rw [hp]; show ¬ (1 : Int) = 0; decide)⟩
  obtain ⟨w4, w5, w6⟩ := w3 cw
  have hp : pa T n a = pe T n (ww T n a) (we T n a) := if_neg cw
  have h5 : CP T n (jup u 3 0 5 (ww T n a)) (we T n a, 0) := CP_c (u4 cw) (fun k i j z => jup_n _ _ _ _ _ _ _ _ (by omega))
  have hA5 : TA s (jup u 3 0 5 (ww T n a)) := fun k i j z => by rw [jup_n _ _ _ _ _ _ _ _ (by omega), u2 _ _ _ (by omega)]
  have e5 : jup u 3 0 5 (ww T n a) 3 0 5 = ww T n a := jup_e _ _ _ _ _
  unfold pe at hp
  by_cases c0 : ww T n a = 0
  · rw [if_pos c0] at hp
    obtain ⟨v, v1, v2, v3, v5, v4⟩ := sq_108 hT h5
    obtain ⟨t, t1, t2, t3⟩ := hend v (by rw [hp]; exact v2)
    rw [if_pos c0, v1, jbV_s, t1]
    refine ⟨t, rfl, t2, TA_t hA5 (TA_t v3 (fun k i j z => t3 _ _ _ (by omega))), fun z => ?_⟩
    rw [hp] at z
    obtain ⟨o0, o1⟩ := v4 z
    refine ⟨?_, by rw [t3 _ _ _ (by omega)]; exact o0, fun _ => CS_c o1 (fun k i j z => t3 _ _ _ (by omega)), fun y => absurd y (by omega), fun y => absurd y (by omega), fun y => absurd y (by omega)⟩
    rw [t3 _ _ _ (by omega)]
    exact (v5 : v 3 0 5 = _).trans e5
  by_cases c1 : ww T n a = 1
  · rw [if_neg c0, if_pos c1] at hp
    obtain ⟨v, v1, v2, v3, v4⟩ := sq_107 hT h5
    obtain ⟨t, t1, t2, t3⟩ := hend v (Or.inl (by rw [hp]; exact v2))
    rw [if_neg c0, if_pos c1, v1, jbV_s, t1]
    refine ⟨t, rfl, t2, TA_t hA5 (TA_t (T31_A v3) (fun k i j z => t3 _ _ _ (by omega))), fun z => ?_⟩
    rw [hp] at z
    obtain ⟨o0, o1, o2, o3⟩ := v4 z
    refine ⟨by rw [t3 _ _ _ (by omega), v3 _ _ _ (by omega)]; exact e5, by rw [t3 _ _ _ (by omega)]; exact o0, fun y => absurd y c0, fun _ => ⟨by rw [t3 _ _ _ (by omega)]; exact o1, by rw [t3 _ _ _ (by omega)]; exact o2, by rw [t3 _ _ _ (by omega)]; exact o3⟩, fun y => absurd y (by omega), fun y => absurd y (by omega)⟩
  rw [if_neg c0, if_neg c1] at hp
  obtain ⟨b, b1, b2, b3, b4, b5⟩ := sq_102 hT h5 0 (by omega)
  have b2 : CP T n b (A0 T n (we T n a)).1 := b2
  obtain ⟨d, d1, d2, d3, d4, d5⟩ := sq_102 hT b2 1 (by omega)
  have d2 : CP T n d (B1 T n (we T n a)).1 := d2
  have b1 : jq 102 [.inr (3, 0), .inl 0] (jup u 3 0 5 (ww T n a)) = some (none, b) := b1
  have d1 : jq 102 [.inr (3, 0), .inl 1] b = some (none, d) := d1
  by_cases c2 : ww T n a = 2
  · rw [if_pos c2] at hp
    obtain ⟨f, f1, f2, f3⟩ := sq_98 hT d2 32 (by decide)
    obtain ⟨g, k1, k2, k3, k4, k5⟩ := sq_103 hT f2 2 (by omega)
    have k2 : CP T n g (B2 T n (we T n a)).1 := k2
    have k1 : jq 103 [.inr (3, 0), .inl 2] f = some (none, g) := k1
    obtain ⟨t, t1, t2, t3⟩ := hend g (Or.inl (by rw [hp]; exact k2))
    rw [if_neg c0, if_neg c1, if_pos c2, b1, jbV_s, d1, jbV_s, f1, jbV_s, k1, jbV_s, t1]
    refine ⟨t, rfl, t2, TA_t hA5 (TA_t (T31_A b3) (TA_t (T31_A d3) (TA_t (T31_A (T3_31 f3)) (TA_t (T31_A k3) (fun k i j z => t3 _ _ _ (by omega)))))), fun z => ?_⟩
    rw [hp] at z
    have zb : (B1 T n (we T n a)).1.2 = 0 := pw_bad (pfs_bad z)
    have za : (A0 T n (we T n a)).1.2 = 0 := pw_bad (pf_bad zb)
    refine ⟨by rw [t3 _ _ _ (by omega), k3 _ _ _ (by omega), f3 _ _ _ (by omega), d3 _ _ _ (by omega), b3 _ _ _ (by omega)]; exact e5, ?_, fun y => absurd y c0, fun y => absurd y c1, fun _ => ⟨?_, ?_⟩, fun y => absurd y (by omega)⟩
    · rw [t3 _ _ _ (by omega), k4 0 (by omega), f3 _ _ _ (by omega), d4 0 (by omega)]; exact b5 za
    · rw [t3 _ _ _ (by omega), k4 1 (by omega), f3 _ _ _ (by omega)]; exact d5 zb
    · rw [t3 _ _ _ (by omega)]; exact k5 z
  · have c3 : ww T n a = 3 := by omega
    rw [if_neg c2] at hp
    obtain ⟨t, t1, t2, t3⟩ := hend d (Or.inl (by rw [hp]; exact d2))
    rw [if_neg c0, if_neg c1, if_neg c2, if_pos c3, b1, jbV_s, d1, jbV_s, t1]
    refine ⟨t, rfl, t2, TA_t hA5 (TA_t (T31_A b3) (TA_t (T31_A d3) (fun k i j z => t3 _ _ _ (by omega)))), fun z => ?_⟩
    rw [hp] at z
    have za : (A0 T n (we T n a)).1.2 = 0 := pw_bad (pf_bad z)
    refine ⟨by rw [t3 _ _ _ (by omega), d3 _ _ _ (by omega), b3 _ _ _ (by omega)]; exact e5, ?_, fun y => absurd y c0, fun y => absurd y c1, fun y => absurd y c2, fun _ => ?_⟩
    · rw [t3 _ _ _ (by omega), d4 0 (by omega)]; exact b5 za
    · rw [t3 _ _ _ (by omega)]; exact d5 z
/-- the text from an act on: where it ends, or its fault -/
def ptx2 (T : Nat → Int) (n : Nat) : Nat → Nat → Nat × Int
  | 0, a => (a, 1)
  | f + 1, a => if (qa T n a).2 = 0 ∧ (pa T n a).1 < n then ptx2 T n f (qa T n a).1 else qa T n a
theorem qa_ok (hT : okT T n) (a : Nat) (ha : a ≤ n) : (qa T n a).1 ≤ n ∧ ((qa T n a).2 = 0 ∨ (qa T n a).2 = 1) ∧ ((qa T n a).2 = 0 → (pa T n a).2 = 0 ∧ a + 6 ≤ (qa T n a).1) ∧ ((qa T n a).2 = 0 → (pa T n a).1 < n → a + 7 ≤ (qa T n a).1) := by
  obtain ⟨g1, g2, g3⟩ := pa_ok hT a ha
  unfold qa
  by_cases c : (pa T n a).1 < n
  · have h1 := pw_le hT 59 (by decide) (pa T n a) g1 g2
    rw [if_pos c]
    exact ⟨h1.2.1, h1.2.2, fun z => ⟨pw_bad z, by have := (g3 (pw_bad z)).1; omega⟩, fun z _ => by have := pw_up z; have := (g3 (pw_bad z)).1; omega⟩
  · rw [if_neg c]
    exact ⟨g1, g2, fun z => ⟨z, (g3 z).1⟩, fun _ y => absurd y c⟩
theorem sj_93 (hT : okT T n) : ∀ (f a m : Nat) (s : jM), n + 1 ≤ a + f → 2 * m ≤ a → CP T n s (a, 0) → ∃ t, je 93 8 [some (.inr (3, 0)), some (.inl 1), some (.inl (m : Int))] [] s = some (some (.inl (if (ptx2 T n f a).2 = 0 then -1 else ((ptx2 T n f a).1 : Int))), t) ∧ CP T n t (ptx2 T n f a) ∧ TA s t
  | 0, a, m, s, hf, hm, h => absurd hf (by have : a ≤ n := h.2.2.2.2.2; omega)
  | f + 1, a, m, s, hf, hm, h => by
    have ha : a ≤ n := h.2.2.2.2.2
    have hn := hT.1
    obtain ⟨t, t1, t2, t3, -⟩ := sq_94 hT h
    obtain ⟨q1, q2, q3, q4⟩ := qa_ok hT a ha
    have h4 : s 3 0 4 = -1 := by have := h.2.2.2.1; rw [if_pos (show (a, (0 : Int)).2 = 0 from rfl)] at this; exact this
    have t4 := t2.2.2.2.1
    rw [be_93_8, if_pos (by omega), if_neg (by decide), if_pos h4, t1, jbI_s, jwn (x := (m : Int) + 1) (n := m + 1) (by omega) (by omega)]
    by_cases c : (pa T n a).1 < n
    · rw [if_pos c]
      by_cases c2 : (qa T n a).2 = 0
      · have e : ptx2 T n (f + 1) a = ptx2 T n f (qa T n a).1 := if_pos ⟨c2, c⟩
        have := q4 c2 c
        obtain ⟨u, u1, u2, u3⟩ := sj_93 hT f (qa T n a).1 (m + 1) t (by omega) (by omega) (by rw [← pz0 c2]; exact t2)
        rw [e]
        exact ⟨u, u1, u2, TA_t t3 u3⟩
      · have e : ptx2 T n (f + 1) a = qa T n a := if_neg (fun z => c2 z.1)
        rw [e, if_neg c2]
        rw [if_neg c2] at t4
        refine ⟨t, ?_, t2, t3⟩
        rw [be_93_8]
        by_cases c3 : ((m + 1 : Nat) : Int) < 80
        · rw [if_pos c3, if_neg (by decide), if_neg (by omega), t4]
        · rw [if_neg c3, t4]
    · have e : ptx2 T n (f + 1) a = qa T n a := if_neg (fun z => c z.2)
      rw [if_neg c, e]
      refine ⟨t, ?_, t2, t3⟩
      rw [be_93_8, t4]
      by_cases c3 : ((m + 1 : Nat) : Int) < 80
      · rw [if_pos c3, if_pos rfl]
      · rw [if_neg c3]
theorem sq_93 (hT : okT T n) {s : jM} (h1 : s 8 0 1 = (n : Int)) (h2 : ∀ i, i < n → s 27 0 i = T i) : ∃ t, jq 93 [.inr (3, 0)] s = some (some (.inl (if (ptx2 T n 81 0).2 = 0 then -1 else ((ptx2 T n 81 0).1 : Int))), t) ∧ TA s t := by
  have hn := hT.1
  obtain ⟨t, t1, t2, t3⟩ := sj_93 hT 81 0 0 (jup (jup s 3 0 3 0) 3 0 4 (-1)) (by omega) (by omega) ⟨by rw [jup_n _ _ _ _ _ _ _ _ (by omega), jup_n _ _ _ _ _ _ _ _ (by omega)]; exact h1, fun i hi => by rw [jup_n _ _ _ _ _ _ _ _ (by omega), jup_n _ _ _ _ _ _ _ _ (by omega)]; exact h2 i hi, by rw [jup_n _ _ _ _ _ _ _ _ (by omega), jup_e]; rfl, by rw [jup_e, if_pos rfl], Or.inl rfl, by show 0 ≤ n; omega⟩
  refine ⟨t, ?_, fun k i j z => by rw [t3 k i j z, jup_n _ _ _ _ _ _ _ _ (by omega), jup_n _ _ _ _ _ _ _ _ (by omega)]⟩
  rw [bq_93, bq_89, jbV_s]
  exact t1
end
