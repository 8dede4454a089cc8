/-! ROOTS on both sides -/
def nrt (q : Nat → Int) (e : Nat) : Nat := cntN (evq q e) 0 101 + if q e = 0 then 1 else 0
def rtk (q : Nat → Int) (e k : Nat) : Int := if k < cntN (evq q e) 0 101 then kroot (evq q e) 101 k else 101
theorem cnt_mono (g : Nat → Int) (v : Int) (n : Nat) : ∀ m, cntN g v n ≤ cntN g v (n + m)
  | 0 => Nat.le_refl _
  | m + 1 => by
    have ih := cnt_mono g v n m
    have : cntN g v (n + m) ≤ cntN g v (n + m + 1) := by
      by_cases z : g (n + m) = v
      · rw [cntN_yes z]; omega
      · rw [cntN_no z]; omega
    exact Nat.le_trans ih this
theorem DR_q {f : Nat → Int} {d e : Nat} {q : Nat → Int} (h : DR f d e q) : (∀ i, i < e + 1 → g101 (q i)) ∧ ∃ i, i < e + 1 ∧ q i ≠ 0 := by
  obtain ⟨a1, a2, p, a3, a4, b1, b2, b3, b4, b5⟩ := h
  refine ⟨fun i hi => ?_, e - p, by omega, ?_⟩
  · have h : g101 (q (e - (e - i))) := b5 (e - i) (by omega)
    rw [show e - (e - i) = i by omega] at h
    exact h
  · have b2 : q (e - p) = 1 := b2
    rw [b2]; decide
/-- roots: at most e, of two kinds -/
theorem nrt_le {f : Nat → Int} {d e : Nat} {q : Nat → Int} (h : DR f d e q) : nrt q e ≤ e := by
  obtain ⟨h1, h2⟩ := DR_q h
  obtain ⟨a, b, -⟩ := root_le h1 h2
  unfold nrt
  by_cases c : q e = 0
  · rw [if_pos c]; exact b c
  · rw [if_neg c, Nat.add_zero]; exact a
theorem nrt_c {q q' : Nat → Int} {e : Nat} (h : ∀ i, i < e + 1 → q i = q' i) : nrt q e = nrt q' e ∧ rtk q e = rtk q' e := by
  have he : evq q e = evq q' e := funext fun t => by unfold evq; rw [dot_c (e + 1) h (fun _ _ => rfl)]
  unfold nrt
  rw [he, h e (by omega)]
  exact ⟨rfl, funext fun k => by unfold rtk; rw [he]⟩
theorem sj_84 (e : Nat) (he : e ≤ 6) (t : Nat) (ht : t < 101) (s : jM) (hq : ∀ i, i < e + 1 → g101 (s 17 0 i)) : ∀ (n : Nat) (v : Int), n ≤ e + 1 → g101 v → (101 : Int) ∣ v * rd (t : Int) n + dot (s 17 0) (rd (t : Int)) n - dot (s 17 0) (rd (t : Int)) (e + 1) → je 84 7 [some (.inr (2, 0)), some (.inl (t : Int)), some (.inl v), some (.inl ((n : Int) - 1))] [] s = some (some (.inl (evq (s 17 0) e t)), s)
  | 0, v, hn, hv, hd => by
    rw [be_84_7, if_pos (by omega)]
    have e1 : v = evq (s 17 0) e t := by
      refine eq_of_dv hv (em101 _) ?_
      rw [show rd (t : Int) 0 = 1 from rfl, Int.mul_one, dot] at hd
      unfold evq
      omega
    rw [e1]
  | n + 1, v, hn, hv, hd => by
    have hm := mul101 hv (show g101 (t : Int) from ⟨by omega, by omega⟩)
    obtain ⟨g1, g2⟩ := hq n (by omega)
    have en : ((n + 1 : Nat) : Int) - 1 = (n : Int) := by omega
    have e2 : jw ((n : Int) + (-1)) = (n : Int) - 1 := by rw [jwi (by omega) (by omega)]; omega
    rw [be_84_7, en, if_neg (by omega), if_pos (by omega), Int.toNat_natCast, e2, jwi (x := v * t) (by omega) (by omega), jwi (x := v * t + s 17 0 n) (by omega) (by omega), tm101 (by omega)]
    refine sj_84 e he t ht s hq n _ (by omega) (em101 _) ?_
    have h1 := rd_s (t : Int) n
    have h2 : (101 : Int) ∣ v * (rd (t : Int) (n + 1) - rd (t : Int) n * t) := dvm2 h1
    have h3 : (101 : Int) ∣ ((v * t + s 17 0 n) % 101 - (v * t + s 17 0 n)) * rd (t : Int) n := dvm (by omega)
    rw [dot] at hd
    have e3 : (v * t + s 17 0 n) % 101 * rd (t : Int) n + dot (s 17 0) (rd (t : Int)) n - dot (s 17 0) (rd (t : Int)) (e + 1) = ((v * t + s 17 0 n) % 101 - (v * t + s 17 0 n)) * rd (t : Int) n - v * (rd (t : Int) (n + 1) - rd (t : Int) n * t) + (v * rd (t : Int) (n + 1) + (dot (s 17 0) (rd (t : Int)) n + s 17 0 n * rd (t : Int) n) - dot (s 17 0) (rd (t : Int)) (e + 1)) := by grind
    rw [e3]
    omega
theorem sq_84 (e : Nat) (he : e ≤ 6) (t : Nat) (ht : t < 101) (s : jM) (h3 : s 2 0 3 = (e : Int)) (hq : ∀ i, i < e + 1 → g101 (s 17 0 i)) : jq 84 [.inr (2, 0), .inl (t : Int)] s = some (some (.inl (evq (s 17 0) e t)), s) := by
  have := sj_84 e he t ht s hq (e + 1) 0 (by omega) ⟨by decide, by decide⟩ (by rw [Int.zero_mul]; omega)
  rw [show ((e + 1 : Nat) : Int) - 1 = (e : Int) by omega] at this
  rw [bq_84, h3]
  exact this
theorem sq_85 (s : jM) (n : Nat) (v : Int) (hn : n < 6) (h : s 2 0 4 = (n : Int)) : jq 85 [.inr (2, 0), .inl v] s = some (none, jup (jup s 18 0 n v) 2 0 4 ((n + 1 : Nat) : Int)) := by
  rw [bq_85, h, if_pos (by omega), if_pos (by omega), Int.toNat_natCast, jwn (x := (n : Int) + 1) (n := n + 1) (by omega) (by omega)]
def T2 (s t : jM) : Prop := ∀ k i j, ¬ (k = 18 ∨ k = 2 ∧ j = 4) → t k i j = s k i j
theorem sj_83 {q : Nat → Int} (e : Nat) (he : e ≤ 6) (hq : ∀ i, i < e + 1 → g101 (q i)) (hn : cntN (evq q e) 0 101 ≤ e) : ∀ (c t : Nat) (s : jM), t + c = 101 → s 2 0 3 = (e : Int) → s 17 0 = q → s 2 0 4 = (cntN (evq q e) 0 t : Int) → (∀ k, k < cntN (evq q e) 0 t → s 18 0 k = kroot (evq q e) t k) → ∃ u, je 83 7 [some (.inr (2, 0)), some (.inl (t : Int))] [] s = je 83 7 [some (.inr (2, 0)), some (.inl (101 : Nat))] [] u ∧ T2 s u ∧ u 2 0 4 = (cntN (evq q e) 0 101 : Int) ∧ ∀ k, k < cntN (evq q e) 0 101 → u 18 0 k = kroot (evq q e) 101 k
  | 0, t, s, ht, h3, h17, h4, h18 => by
    have ht : t = 101 := ht
    subst ht
    exact ⟨s, rfl, fun _ _ _ _ => rfl, h4, h18⟩
  | c + 1, t, s, ht, h3, h17, h4, h18 => by
    have h84 := sq_84 e he t (by omega) s h3 (by rw [h17]; exact hq)
    rw [h17] at h84
    have hmono := cnt_mono (evq q e) 0 (t + 1) c
    rw [show t + 1 + c = 101 by omega] at hmono
    rw [be_83_7, if_pos (by omega), h84, jbI_s, jwn (x := (t : Int) + 1) (n := t + 1) (by omega) (by omega)]
    by_cases c0 : evq q e t = 0
    · have ec := cntN_yes (g := evq q e) (v := 0) c0
      rw [if_pos c0, sq_85 s (cntN (evq q e) 0 t) t (by omega) h4, jbV_s]
      obtain ⟨u, u1, u2, u3, u4⟩ := sj_83 e he hq hn c (t + 1) (jup (jup s 18 0 (cntN (evq q e) 0 t) (t : Int)) 2 0 4 ((cntN (evq q e) 0 t + 1 : Nat) : Int)) (by omega) (by rw [jup_n _ _ _ _ _ _ _ _ (by omega), jup_n _ _ _ _ _ _ _ _ (by omega)]; exact h3) (by rw [← h17]; exact funext fun j => by rw [jup_n _ _ _ _ _ _ _ _ (by omega), jup_n _ _ _ _ _ _ _ _ (by omega)]) (by rw [jup_e, ec]) (fun k hk => by
        rw [jup_n _ _ _ _ _ _ _ _ (by omega)]
        unfold kroot
        by_cases z : k = cntN (evq q e) 0 t
        · rw [if_pos ⟨c0, z⟩, z, jup_e]
        · rw [if_neg (fun y => z y.2), jup_n _ _ _ _ _ _ _ _ (by omega)]
          exact h18 k (by omega))
      exact ⟨u, u1, fun k i j z => by rw [u2 k i j z, jup_n _ _ _ _ _ _ _ _ (by omega), jup_n _ _ _ _ _ _ _ _ (by omega)], u3, u4⟩
    · have ec := cntN_no (g := evq q e) (v := 0) c0
      rw [if_neg c0]
      exact sj_83 e he hq hn c (t + 1) s (by omega) h3 h17 (by rw [ec]; exact h4) (fun k hk => by
        unfold kroot
        rw [if_neg (fun y => c0 y.1)]
        exact h18 k (by omega))
theorem sq_83 {f : Nat → Int} {d : Nat} (e : Nat) (s : jM) (hd : d ≤ 5) (h3 : s 2 0 3 = (e : Int)) (hD : DR f d e (s 17 0)) : ∃ u, jq 83 [.inr (2, 0)] s = some (some (.inl (nrt (s 17 0) e : Int)), u) ∧ T2 s u ∧ u 2 0 4 = (nrt (s 17 0) e : Int) ∧ ∀ k, k < nrt (s 17 0) e → u 18 0 k = rtk (s 17 0) e k := by
  have he : e ≤ 6 := by have := hD.1; omega
  obtain ⟨hq, hne⟩ := DR_q hD
  obtain ⟨r1, r2, -⟩ := root_le hq hne
  obtain ⟨u, u1, u2, u3, u4⟩ := sj_83 e he hq r1 101 0 (jup s 2 0 4 0) (by omega) (by rw [jup_n _ _ _ _ _ _ _ _ (by omega)]; exact h3) (funext fun j => jup_n _ _ _ _ _ _ _ _ (by omega)) (jup_e _ _ _ _ _) (fun k hk => absurd hk (by show ¬ k < 0; omega))
  have u1 : je 83 7 [some (.inr (2, 0)), some (.inl 0)] [] (jup s 2 0 4 0) = je 83 7 [some (.inr (2, 0)), some (.inl 101)] [] u := u1
  have g3 : u 2 0 3 = (e : Int) := by rw [u2 _ _ _ (by omega), jup_n _ _ _ _ _ _ _ _ (by omega)]; exact h3
  have g17 : ∀ j, u 17 0 j = s 17 0 j := fun j => by rw [u2 _ _ _ (by omega), jup_n _ _ _ _ _ _ _ _ (by omega)]
  have h82 : jq 82 [.inr (2, 0), .inl (e : Int)] u = some (some (.inl (s 17 0 e)), u) := by
    rw [bq_82, g3, jwi (x := (e : Int) + 1) (by omega) (by omega), sq_38, jbI_s, bI_t (by omega), if_neg (by decide), if_pos (by omega), Int.toNat_natCast, g17]
  have hsu : T2 s u := fun k i j z => by rw [u2 k i j z, jup_n _ _ _ _ _ _ _ _ (by omega)]
  unfold nrt
  by_cases c0 : s 17 0 e = 0
  · have r2 := r2 c0
    rw [if_pos c0]
    refine ⟨jup (jup u 18 0 (cntN (evq (s 17 0) e) 0 101) 101) 2 0 4 ((cntN (evq (s 17 0) e) 0 101 + 1 : Nat) : Int), ?_, fun k i j z => by rw [jup_n _ _ _ _ _ _ _ _ (by omega), jup_n _ _ _ _ _ _ _ _ (by omega)]; exact hsu k i j z, jup_e _ _ _ _ _, fun k hk => ?_⟩
    · rw [bq_83, u1, be_83_7, if_neg (by omega), g3, h82, jbI_s, if_pos c0, sq_85 u _ 101 (by omega) u3, jbV_s, jup_e]
    · rw [jup_n _ _ _ _ _ _ _ _ (by omega)]
      unfold rtk
      by_cases z : k < cntN (evq (s 17 0) e) 0 101
      · rw [if_pos z, jup_n _ _ _ _ _ _ _ _ (by omega)]
        exact u4 k z
      · rw [if_neg z, show k = cntN (evq (s 17 0) e) 0 101 by omega, jup_e]
  · rw [if_neg c0, Nat.add_zero]
    refine ⟨u, ?_, hsu, u3, fun k hk => ?_⟩
    · rw [bq_83, u1, be_83_7, if_neg (by omega), g3, h82, jbI_s, if_neg c0, u3]
    · unfold rtk
      rw [if_pos hk]
      exact u4 k hk
/-- the reference's roots -/
def T6 (s t : jM) : Prop := ∀ k i j, ¬ (k = 54 ∨ k = 11 ∧ j = 31) → t k i j = s k i j
theorem sj_242b (e : Nat) (he : e ≤ 6) (t : Nat) (ht : t < 101) (v1 : Int) (s : jM) (h29 : s 11 0 29 = (e : Int)) (hq : ∀ i, i < e + 1 → g101 (s 53 0 i)) : ∀ (c n : Nat) (v : Int), n + c = e + 1 → g101 v → (101 : Int) ∣ v - dot (s 53 0) (rd (t : Int)) n → je 242 48 [some (.inr (11, 0)), some (.inl v1), some (.inl (t : Int)), some (.inl v), some (.inl (n : Int))] [] s = je 242 48 [some (.inr (11, 0)), some (.inl v1), some (.inl (t : Int)), some (.inl (evq (s 53 0) e t)), some (.inl ((e + 1 : Nat) : Int))] [] s
  | 0, n, v, hn, hv, hd => by
    have hn : n = e + 1 := hn
    subst hn
    have e1 : v = evq (s 53 0) e t := by
      refine eq_of_dv hv (em101 _) ?_
      unfold evq
      omega
    rw [e1]
  | c + 1, n, v, hn, hv, hd => by
    have hg := hq n (by omega)
    have hm := mul101 hg (rd_g (t : Int) n)
    obtain ⟨g1, g2⟩ := id hv
    rw [be_242_48, h29, if_neg (by omega), if_pos (by omega), sq_207 (t : Int) ⟨by omega, by omega⟩ n (by omega), jbI_s, Int.toNat_natCast, jwi (x := s 53 0 n * rd (t : Int) n) (by omega) (by omega), jwi (x := v + s 53 0 n * rd (t : Int) n) (by omega) (by omega), tm101 (by omega), jwn (x := (n : Int) + 1) (n := n + 1) (by omega) (by omega)]
    refine sj_242b e he t ht v1 s h29 hq c (n + 1) _ (by omega) (em101 _) ?_
    rw [dot]
    omega
theorem sj_242 {q : Nat → Int} (e : Nat) (he : e ≤ 6) (v1 : Int) (hq : ∀ i, i < e + 1 → g101 (q i)) (hn : cntN (evq q e) 0 101 ≤ e) : ∀ (c t : Nat) (s : jM) (o3 o4 : Option jV), t + c = 101 → s 11 0 29 = (e : Int) → s 53 0 = q → s 11 0 31 = (cntN (evq q e) 0 t : Int) → (∀ k, k < cntN (evq q e) 0 t → s 54 0 k = kroot (evq q e) t k) → ∃ u o3' o4', je 242 37 [some (.inr (11, 0)), some (.inl v1), some (.inl (t : Int)), o3, o4] [] s = je 242 37 [some (.inr (11, 0)), some (.inl v1), some (.inl (101 : Nat)), o3', o4'] [] u ∧ T6 s u ∧ u 11 0 31 = (cntN (evq q e) 0 101 : Int) ∧ ∀ k, k < cntN (evq q e) 0 101 → u 54 0 k = kroot (evq q e) 101 k
  | 0, t, s, o3, o4, ht, h29, h53, h31, h54 => by
    have ht : t = 101 := ht
    subst ht
    exact ⟨s, o3, o4, rfl, fun _ _ _ _ => rfl, h31, h54⟩
  | c + 1, t, s, o3, o4, ht, h29, h53, h31, h54 => by
    have hb := sj_242b e he t (by omega) v1 s h29 (by rw [h53]; exact hq) (e + 1) 0 0 (by omega) ⟨by decide, by decide⟩ (by rw [dot]; exact ⟨0, rfl⟩)
    have hb : je 242 48 [some (.inr (11, 0)), some (.inl v1), some (.inl (t : Int)), some (.inl 0), some (.inl 0)] [] s = _ := hb
    rw [h53] at hb
    have hmono := cnt_mono (evq q e) 0 (t + 1) c
    rw [show t + 1 + c = 101 by omega] at hmono
    rw [be_242_37, if_pos (by omega), hb, be_242_48, h29, if_pos (by omega), jwn (x := (t : Int) + 1) (n := t + 1) (by omega) (by omega)]
    by_cases c0 : evq q e t = 0
    · have ec := cntN_yes (g := evq q e) (v := 0) c0
      rw [if_pos c0, h31, if_pos (by omega), Int.toNat_natCast, jwn (x := (cntN (evq q e) 0 t : Int) + 1) (n := cntN (evq q e) 0 t + 1) (by omega) (by omega)]
      obtain ⟨u, o3', o4', u1, u2, u3, u4⟩ := sj_242 e he v1 hq hn c (t + 1) (jup (jup s 54 0 (cntN (evq q e) 0 t) (t : Int)) 11 0 31 ((cntN (evq q e) 0 t + 1 : Nat) : Int)) (some (.inl (evq q e t))) (some (.inl ((e + 1 : Nat) : Int))) (by omega) (by rw [jup_n _ _ _ _ _ _ _ _ (by omega), jup_n _ _ _ _ _ _ _ _ (by omega)]; exact h29) (by rw [← h53]; exact funext fun j => by rw [jup_n _ _ _ _ _ _ _ _ (by omega), jup_n _ _ _ _ _ _ _ _ (by omega)]) (by rw [jup_e, ec]) (fun k hk => by
        rw [jup_n _ _ _ _ _ _ _ _ (by omega)]
        unfold kroot
        by_cases z : k = cntN (evq q e) 0 t
        · rw [if_pos ⟨c0, z⟩, z, jup_e]
        · rw [if_neg (fun y => z y.2), jup_n _ _ _ _ _ _ _ _ (by omega)]
          exact h54 k (by omega))
      exact ⟨u, o3', o4', u1, fun k i j z => by rw [u2 k i j z, jup_n _ _ _ _ _ _ _ _ (by omega), jup_n _ _ _ _ _ _ _ _ (by omega)], u3, u4⟩
    · have ec := cntN_no (g := evq q e) (v := 0) c0
      rw [if_neg c0]
      exact sj_242 e he v1 hq hn c (t + 1) s _ _ (by omega) h29 h53 (by rw [ec]; exact h31) (fun k hk => by
        unfold kroot
        rw [if_neg (fun y => c0 y.1)]
        exact h54 k (by omega))
/-- from where hasKiller() has said yes -/
theorem ref_roots {f : Nat → Int} {d : Nat} (e : Nat) (v1 : Int) (s : jM) (o3 o4 : Option jV) (hd : d ≤ 5) (h29 : s 11 0 29 = (e : Int)) (hD : DR f d e (s 53 0)) : ∃ u, je 242 37 [some (.inr (11, 0)), some (.inl v1), some (.inl 0), o3, o4] [] (jup s 11 0 31 0) = some (none, u) ∧ T6 s u ∧ u 11 0 31 = (nrt (s 53 0) e : Int) ∧ ∀ k, k < nrt (s 53 0) e → u 54 0 k = rtk (s 53 0) e k := by
  have he : e ≤ 6 := by have := hD.1; omega
  obtain ⟨hq, hne⟩ := DR_q hD
  obtain ⟨r1, r2, -⟩ := root_le hq hne
  obtain ⟨u, o3', o4', u1, u2, u3, u4⟩ := sj_242 e he v1 hq r1 101 0 (jup s 11 0 31 0) o3 o4 (by omega) (by rw [jup_n _ _ _ _ _ _ _ _ (by omega)]; exact h29) (funext fun j => jup_n _ _ _ _ _ _ _ _ (by omega)) (jup_e _ _ _ _ _) (fun k hk => absurd hk (by show ¬ k < 0; omega))
  have u1 : je 242 37 [some (.inr (11, 0)), some (.inl v1), some (.inl 0), o3, o4] [] (jup s 11 0 31 0) = je 242 37 [some (.inr (11, 0)), some (.inl v1), some (.inl 101), o3', o4'] [] u := u1
  have g29 : u 11 0 29 = (e : Int) := by rw [u2 _ _ _ (by omega), jup_n _ _ _ _ _ _ _ _ (by omega)]; exact h29
  have g53 : ∀ j, u 53 0 j = s 53 0 j := fun j => by rw [u2 _ _ _ (by omega), jup_n _ _ _ _ _ _ _ _ (by omega)]
  have hsu : T6 s u := fun k i j z => by rw [u2 k i j z, jup_n _ _ _ _ _ _ _ _ (by omega)]
  unfold nrt
  by_cases c0 : s 53 0 e = 0
  · have r2 := r2 c0
    rw [if_pos c0]
    refine ⟨jup (jup u 54 0 (cntN (evq (s 53 0) e) 0 101) 101) 11 0 31 ((cntN (evq (s 53 0) e) 0 101 + 1 : Nat) : Int), ?_, fun k i j z => by rw [jup_n _ _ _ _ _ _ _ _ (by omega), jup_n _ _ _ _ _ _ _ _ (by omega)]; exact hsu k i j z, jup_e _ _ _ _ _, fun k hk => ?_⟩
    · rw [u1, be_242_37, if_neg (by omega), g29, if_pos (by omega), Int.toNat_natCast, g53, if_pos c0, u3, if_pos (by omega), Int.toNat_natCast, jwn (x := (cntN (evq (s 53 0) e) 0 101 : Int) + 1) (n := cntN (evq (s 53 0) e) 0 101 + 1) (by omega) (by omega)]
    · rw [jup_n _ _ _ _ _ _ _ _ (by omega)]
      unfold rtk
      by_cases z : k < cntN (evq (s 53 0) e) 0 101
      · rw [if_pos z, jup_n _ _ _ _ _ _ _ _ (by omega)]
        exact u4 k z
      · rw [if_neg z, show k = cntN (evq (s 53 0) e) 0 101 by omega, jup_e]
  · rw [if_neg c0, Nat.add_zero]
    refine ⟨u, ?_, hsu, u3, fun k hk => ?_⟩
    · rw [u1, be_242_37, if_neg (by omega), g29, if_pos (by omega), Int.toNat_natCast, g53, if_neg c0]
    · unfold rtk
      rw [if_pos hk]
      exact u4 k hk
