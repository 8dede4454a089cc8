/-! TANGENT: the call -/
theorem st_249 (k d l j : Nat) (s : jM) (hk : k < 6) (hd : d ≤ 5) (hl : l < 3) (hj : j < mnN d) (hM : MG s k) (o5 o6 o7 o8 o9 o10 o11 : Option jV) : ∃ p5 p6 p7 p8 p9 p10 p11, je 249 35 [some (.inr (11, 0)), some (.inl (d : Int)), some (.inl (k : Int)), some (.inl (l : Int)), some (.inl (j : Int)), o5, o6, o7, o8, o9, o10, o11] [] s = je 249 35 [some (.inr (11, 0)), some (.inl (d : Int)), some (.inl (k : Int)), some (.inl (l : Int)), some (.inl ((j + 1 : Nat) : Int)), p5, p6, p7, p8, p9, p10, p11] [] (if 0 < tgT d l j then jup s 51 0 j (tgE (s 31 0 (3 * k)) (s 31 0 (3 * k + 1)) (s 31 0 (3 * k + 2)) d l j) else s) := by
  have h : l = 0 ∨ l = 1 ∨ l = 2 := by omega
  rcases h with e | e | e
  · subst e; exact st_249_0 k d j s hk hd hj hM o5 o6 o7 o8 o9 o10 o11
  · subst e; exact st_249_1 k d j s hk hd hj hM o5 o6 o7 o8 o9 o10 o11
  · subst e; exact st_249_2 k d j s hk hd hj hM o5 o6 o7 o8 o9 o10 o11
theorem sj_249b (k d l : Nat) (hk : k < 6) (hd : d ≤ 5) (hl : l < 3) : ∀ (c j : Nat) (s : jM) (o5 o6 o7 o8 o9 o10 o11 : Option jV), j + c = mnN d → MG s k → (∀ m, j ≤ m → m < mnN d → s 51 0 m = 0) → ∃ t, je 249 35 [some (.inr (11, 0)), some (.inl (d : Int)), some (.inl (k : Int)), some (.inl (l : Int)), some (.inl (j : Int)), o5, o6, o7, o8, o9, o10, o11] [] s = some (none, t) ∧ (∀ q a b, q ≠ 51 → t q a b = s q a b) ∧ ∀ m, m < mnN d → t 51 0 m = if j ≤ m then tgE (s 31 0 (3 * k)) (s 31 0 (3 * k + 1)) (s 31 0 (3 * k + 2)) d l m else s 51 0 m
  | 0, j, s, o5, o6, o7, o8, o9, o10, o11, hj, hM, hz => by
    have hj : j = mnN d := hj
    refine ⟨s, by rw [hj, be_249_35, sq_203 d hd, jbI_s, if_neg (by omega)], fun _ _ _ _ => rfl, fun m hm => by rw [if_neg (by omega)]⟩
  | c + 1, j, s, o5, o6, o7, o8, o9, o10, o11, hj, hM, hz => by
    obtain ⟨p5, p6, p7, p8, p9, p10, p11, hs⟩ := st_249 k d l j s hk hd hl (by omega) hM o5 o6 o7 o8 o9 o10 o11
    have hU : ∀ q a b, q ≠ 51 → (if 0 < tgT d l j then jup s 51 0 j (tgE (s 31 0 (3 * k)) (s 31 0 (3 * k + 1)) (s 31 0 (3 * k + 2)) d l j) else s) q a b = s q a b := fun q a b z => by
      split
      · exact jup_n _ _ _ _ _ _ _ _ (by omega)
      · rfl
    have hU2 : ∀ m, m < mnN d → (if 0 < tgT d l j then jup s 51 0 j (tgE (s 31 0 (3 * k)) (s 31 0 (3 * k + 1)) (s 31 0 (3 * k + 2)) d l j) else s) 51 0 m = if m = j then tgE (s 31 0 (3 * k)) (s 31 0 (3 * k + 1)) (s 31 0 (3 * k + 2)) d l j else s 51 0 m := fun m hm => by
      by_cases c1 : 0 < tgT d l j
      · rw [if_pos c1]
        by_cases e : m = j
        · rw [if_pos e, e, jup_e]
        · rw [if_neg e, jup_n _ _ _ _ _ _ _ _ (by omega)]
      · rw [if_neg c1]
        by_cases e : m = j
        · rw [if_pos e, tgE_0 (by omega)]; exact hz m (by omega) hm
        · rw [if_neg e]
    generalize (if 0 < tgT d l j then jup s 51 0 j (tgE (s 31 0 (3 * k)) (s 31 0 (3 * k + 1)) (s 31 0 (3 * k + 2)) d l j) else s) = U at *
    obtain ⟨t, t1, t2, t3⟩ := sj_249b k d l hk hd hl c (j + 1) U p5 p6 p7 p8 p9 p10 p11 (by omega) (by unfold MG; rw [hU _ _ _ (by omega), hU _ _ _ (by omega), hU _ _ _ (by omega)]; exact hM) (fun m h1 h2 => by rw [hU2 m h2, if_neg (by omega)]; exact hz m (by omega) h2)
    refine ⟨t, hs.trans t1, fun q a b z => by rw [t2 q a b z, hU q a b z], fun m hm => ?_⟩
    rw [t3 m hm, hU2 m hm, hU _ _ _ (by omega), hU _ _ _ (by omega), hU _ _ _ (by omega)]
    by_cases c1 : j + 1 ≤ m
    · rw [if_pos c1, if_pos (by omega)]
    · rw [if_neg c1]
      by_cases e : m = j
      · rw [if_pos e, if_pos (by omega), e]
      · rw [if_neg e, if_neg (by omega)]
theorem sj_249a (v1 v2 v3 : Int) (o5 o6 o7 o8 o9 o10 o11 : Option jV) : ∀ (c j : Nat) (s : jM), j + c = 21 → ∃ t, je 249 3 [some (.inr (11, 0)), some (.inl v1), some (.inl v2), some (.inl v3), some (.inl (j : Int)), o5, o6, o7, o8, o9, o10, o11] [] s = je 249 35 [some (.inr (11, 0)), some (.inl v1), some (.inl v2), some (.inl v3), some (.inl 0), o5, o6, o7, o8, o9, o10, o11] [] t ∧ TR s t ∧ ∀ m, m < 21 → (t 51 0 m = if j ≤ m then 0 else s 51 0 m) ∧ (t 52 0 m = if j ≤ m then 0 else s 52 0 m)
  | 0, j, s, hj => by
    refine ⟨s, by rw [be_249_3, if_neg (by omega)], TR_r s, fun m hm => ⟨by rw [if_neg (by omega)], by rw [if_neg (by omega)]⟩⟩
  | c + 1, j, s, hj => by
    obtain ⟨t, t1, t2, t3⟩ := sj_249a v1 v2 v3 o5 o6 o7 o8 o9 o10 o11 c (j + 1) (jup (jup s 51 0 j 0) 52 0 j 0) (by omega)
    refine ⟨t, ?_, fun k a b z z2 => by rw [t2 k a b z z2, jup_n _ _ _ _ _ _ _ _ (by omega), jup_n _ _ _ _ _ _ _ _ (by omega)], fun m hm => ?_⟩
    · rw [be_249_3, if_pos (by omega), if_pos (by omega), if_pos (by omega), Int.toNat_natCast, jwn (x := (j : Int) + 1) (n := j + 1) (by omega) (by omega)]
      exact t1
    · obtain ⟨y1, y2⟩ := t3 m hm
      rw [y1, y2]
      by_cases e : m = j
      · rw [e, if_neg (by omega), if_pos (by omega), if_neg (by omega), if_pos (by omega), jup_e, jup_n _ _ _ _ _ _ _ _ (by omega), jup_e]
        exact ⟨rfl, rfl⟩
      · rw [jup_n _ _ _ _ _ 51 _ _ (by omega), jup_n _ _ _ _ _ 51 _ _ (by omega), jup_n _ _ _ _ _ 52 _ _ (by omega), jup_n _ _ _ _ _ 52 _ _ (by omega)]
        by_cases e2 : j + 1 ≤ m
        · rw [if_pos e2, if_pos (show j ≤ m by omega), if_pos e2, if_pos (show j ≤ m by omega)]
          exact ⟨rfl, rfl⟩
        · rw [if_neg e2, if_neg (show ¬ j ≤ m by omega), if_neg e2, if_neg (show ¬ j ≤ m by omega)]
          exact ⟨rfl, rfl⟩
theorem sq_249 (s : jM) (k d l : Nat) (hk : k < 6) (hd : d ≤ 5) (hl : l < 3) (hM : MG s k) : ∃ t, jq 249 [.inr (11, 0), .inl (d : Int), .inl (k : Int), .inl (l : Int)] s = some (none, t) ∧ TR s t ∧ (∀ m, m < mnN d → t 51 0 m = tgE (s 31 0 (3 * k)) (s 31 0 (3 * k + 1)) (s 31 0 (3 * k + 2)) d l m) ∧ ∀ m, m < 21 → t 52 0 m = 0 := by
  have em := mnN_le d hd
  obtain ⟨u, u1, u2, u3⟩ := sj_249a d k l none none none none none none none 21 0 s (by omega)
  obtain ⟨t, t1, t2, t3⟩ := sj_249b k d l hk hd hl (mnN d) 0 u none none none none none none none (by omega) (by unfold MG; rw [u2 _ _ _ (by omega) (by omega), u2 _ _ _ (by omega) (by omega), u2 _ _ _ (by omega) (by omega)]; exact hM) (fun m _ h2 => by rw [(u3 m (by omega)).1, if_pos (by omega)])
  refine ⟨t, by rw [bq_249]; exact u1.trans t1, fun q a b z z2 => by rw [t2 q a b z, u2 q a b z z2], fun m hm => ?_, fun m hm => by rw [t2 _ _ _ (by omega), (u3 m hm).2, if_pos (by omega)]⟩
  rw [t3 m hm, if_pos (by omega), u2 _ _ _ (by omega) (by omega), u2 _ _ _ (by omega) (by omega), u2 _ _ _ (by omega) (by omega)]
/-- whether the line k is among the bits -/
def Btn (v : Int) (k : Nat) : Prop := jand (jshr v (k : Int)) 1 = 1
theorem bit_cnt : ∀ n : Nat, n < 64 → ∀ s, jq 300 [.inl (n : Int)] s = some (some (.inl (cntN (fun k => jand (jshr (n : Int) (k : Int)) 1) 1 6 : Int)), s) := by
  intro n hn s
  rw [bq_300]
  have h : ∀ n : Nat, n < 64 → (jand (jw ((jw ((jand (jw ((jw ((jand (jw ((n : Int) - (jand (jushr (n : Int) 1) 1431655765))) 858993459) + (jand (jushr (jw ((n : Int) - (jand (jushr (n : Int) 1) 1431655765))) 2) 858993459))) + (jushr (jw ((jand (jw ((n : Int) - (jand (jushr (n : Int) 1) 1431655765))) 858993459) + (jand (jushr (jw ((n : Int) - (jand (jushr (n : Int) 1) 1431655765))) 2) 858993459))) 4))) 252645135) + (jushr (jand (jw ((jw ((jand (jw ((n : Int) - (jand (jushr (n : Int) 1) 1431655765))) 858993459) + (jand (jushr (jw ((n : Int) - (jand (jushr (n : Int) 1) 1431655765))) 2) 858993459))) + (jushr (jw ((jand (jw ((n : Int) - (jand (jushr (n : Int) 1) 1431655765))) 858993459) + (jand (jushr (jw ((n : Int) - (jand (jushr (n : Int) 1) 1431655765))) 2) 858993459))) 4))) 252645135) 8))) + (jushr (jw ((jand (jw ((jw ((jand (jw ((n : Int) - (jand (jushr (n : Int) 1) 1431655765))) 858993459) + (jand (jushr (jw ((n : Int) - (jand (jushr (n : Int) 1) 1431655765))) 2) 858993459))) + (jushr (jw ((jand (jw ((n : Int) - (jand (jushr (n : Int) 1) 1431655765))) 858993459) + (jand (jushr (jw ((n : Int) - (jand (jushr (n : Int) 1) 1431655765))) 2) 858993459))) 4))) 252645135) + (jushr (jand (jw ((jw ((jand (jw ((n : Int) - (jand (jushr (n : Int) 1) 1431655765))) 858993459) + (jand (jushr (jw ((n : Int) - (jand (jushr (n : Int) 1) 1431655765))) 2) 858993459))) + (jushr (jw ((jand (jw ((n : Int) - (jand (jushr (n : Int) 1) 1431655765))) 858993459) + (jand (jushr (jw ((n : Int) - (jand (jushr (n : Int) 1) 1431655765))) 2) 858993459))) 4))) 252645135) 8))) 16))) 63) = (cntN (fun k => jand (jshr (n : Int) (k : Int)) 1) 1 6 : Int) := by decide +kernel
  rw [h n hn]
/-- the table of the tangent rows -/
def tgM (L : Nat → Int) (v : Int) (d a j : Nat) : Int := if jand (jshr v ((a / 3 : Nat) : Int)) 1 = 1 then tgE (L (3 * (a / 3))) (L (3 * (a / 3) + 1)) (L (3 * (a / 3) + 2)) d (a % 3) j else 0
theorem sj_250b {L : Nat → Int} (d k : Nat) (v w nn : Int) (hd : d ≤ 5) (hk : k < 6) (hL : ∀ k, k < 6 → g101 (L (3 * k)) ∧ g101 (L (3 * k + 1)) ∧ g101 (L (3 * k + 2))) (hbit : jand (jshr v (k : Int)) 1 = 1) : ∀ (c l b : Nat) (s : jM), l + c = 3 → RefV (tgM L v d) (mnN d) (fun a => a < 3 * k + l ∧ jand (jshr v ((a / 3 : Nat) : Int)) 1 = 1) b s → b ≤ 3 * k + l → (∀ j, j < 18 → s 31 0 j = L j) → ∃ (t : jM) (b' : Nat), je 250 64 [some (.inr (11, 0)), some (.inl (d : Int)), some (.inl v), some (.inl w), some (.inl nn), some (.inl (k : Int)), some (.inl (l : Int))] [] s = je 250 41 [some (.inr (11, 0)), some (.inl (d : Int)), some (.inl v), some (.inl w), some (.inl nn), some (.inl ((k + 1 : Nat) : Int)), some (.inl 3)] [] t ∧ TM s t ∧ b' ≤ 3 * (k + 1) ∧ RefV (tgM L v d) (mnN d) (fun a => a < 3 * (k + 1) ∧ jand (jshr v ((a / 3 : Nat) : Int)) 1 = 1) b' t
  | 0, l, b, s, hl, hI, hb, h31 => by
    have hl : l = 3 := hl
    subst hl
    exact ⟨s, b, by rw [be_250_64, if_neg (by omega), jwn (x := (k : Int) + 1) (n := k + 1) (by omega) (by omega)]; rfl, fun _ _ _ _ => rfl, hb, hI⟩
  | c + 1, l, b, s, hl, hI, hb, h31 => by
    have em := mnN_le d hd
    have hM : MG s k := by
      obtain ⟨a1, a2, a3⟩ := hL k hk
      unfold MG
      rw [h31 _ (by omega), h31 _ (by omega), h31 _ (by omega)]
      exact ⟨a1, a2, a3⟩
    obtain ⟨u, u1, u2, u3, u4⟩ := sq_249 s k d l hk hd (by omega) hM
    have hI2 := RefV_cg (t := u) (fun k i j z => u2 k i j (by omega) (by omega)) hI
    have hdiv : (3 * k + l) / 3 = k := by omega
    have hmod : (3 * k + l) % 3 = l := by omega
    have hrow : ∀ m, tgM L v d (3 * k + l) m = tgE (L (3 * k)) (L (3 * k + 1)) (L (3 * k + 2)) d l m := fun m => by
      unfold tgM
      rw [hdiv, hmod, if_pos hbit]
    obtain ⟨t, x, b', t1, t2, t3, t4⟩ := refv_step (D2 := fun a => a < 3 * k + (l + 1) ∧ jand (jshr v ((a / 3 : Nat) : Int)) 1 = 1) (3 * k + l) em.2 (by omega) hI2 (fun a => by
      refine ⟨fun z => ?_, fun z => ?_⟩
      · by_cases e : a = 3 * k + l
        · exact Or.inr e
        · exact Or.inl ⟨by omega, z.2⟩
      · rcases z with z | z
        · exact ⟨by omega, z.2⟩
        · refine ⟨by omega, ?_⟩
          rw [z, hdiv]; exact hbit) (fun m hm => by
      rw [u3 m hm, hrow, h31 _ (by omega), h31 _ (by omega), h31 _ (by omega)]
      exact ⟨rfl, tgE_g _ _ _ _ _ _⟩) (fun j hj => by rw [u4 j hj]; exact ⟨by decide, by decide⟩)
    have hst := TM_t (TR_TM u2) t2
    obtain ⟨t', b'', q1, q2, q3, q4⟩ := sj_250b d k v w nn hd hk hL hbit c (l + 1) b' t (by omega) t4 (by omega) (fun j hj => by rw [hst _ _ _ (by omega)]; exact h31 j hj)
    refine ⟨t', b'', ?_, TM_t hst q2, q3, q4⟩
    rw [be_250_64, if_pos (by omega), u1, jbV_s, sq_203 d hd, jbI_s, t1, jbI_s, jwn (x := (l : Int) + 1) (n := l + 1) (by omega) (by omega)]
    exact q1
theorem sj_250 {L : Nat → Int} (d : Nat) (v w : Int) (hd : d ≤ 5) (hL : ∀ k, k < 6 → g101 (L (3 * k)) ∧ g101 (L (3 * k + 1)) ∧ g101 (L (3 * k + 2))) : ∀ (c k b : Nat) (s : jM) (o6 : Option jV), k + c = 6 → RefV (tgM L v d) (mnN d) (fun a => a < 3 * k ∧ jand (jshr v ((a / 3 : Nat) : Int)) 1 = 1) b s → b ≤ 3 * k → (∀ j, j < 18 → s 31 0 j = L j) → ∃ (t : jM) (b' : Nat), je 250 41 [some (.inr (11, 0)), some (.inl (d : Int)), some (.inl v), some (.inl w), some (.inl (cntN (fun k => jand (jshr v (k : Int)) 1) 1 k : Int)), some (.inl (k : Int)), o6] [] s = some (some (.inl (if w = 0 then (b' : Int) else if 3 * (cntN (fun k => jand (jshr v (k : Int)) 1) 1 6 : Int) < mnN d then 3 * (cntN (fun k => jand (jshr v (k : Int)) 1) 1 6 : Int) else mnN d)), t) ∧ TM s t ∧ RefV (tgM L v d) (mnN d) (fun a => a < 18 ∧ jand (jshr v ((a / 3 : Nat) : Int)) 1 = 1) b' t
  | 0, k, b, s, o6, hk, hI, hb, h31 => by
    have hk : k = 6 := hk
    subst hk
    have hc := cntN_le (fun k => jand (jshr v (k : Int)) 1) 1 6
    have em := mnN_le d hd
    refine ⟨s, b, ?_, fun _ _ _ _ => rfl, hI⟩
    rw [be_250_41, if_neg (by omega)]
    by_cases c0 : w = 0
    · rw [if_pos c0, if_pos c0, hI.1]
    · rw [if_neg c0, if_neg c0, sq_203 d hd, jbI_s, jwi (x := 3 * (cntN (fun k => jand (jshr v (k : Int)) 1) 1 6 : Int)) (by omega) (by omega)]
      by_cases c1 : 3 * (cntN (fun k => jand (jshr v (k : Int)) 1) 1 6 : Int) < mnN d
      · rw [if_pos c1, if_pos c1]
      · rw [if_neg c1, if_neg c1, sq_203 d hd, jbI_s]
  | c + 1, k, b, s, o6, hk, hI, hb, h31 => by
    have hc := cntN_le (fun k => jand (jshr v (k : Int)) 1) 1 k
    rw [be_250_41, if_pos (by omega)]
    by_cases hbit : jand (jshr v (k : Int)) 1 = 1
    · rw [if_pos hbit, jwn (x := (cntN (fun k => jand (jshr v (k : Int)) 1) 1 k : Int) + 1) (n := cntN (fun k => jand (jshr v (k : Int)) 1) 1 (k + 1)) (by rw [cntN_yes hbit]; omega) (by rw [cntN_yes hbit]; omega)]
      obtain ⟨t, b', t1, t2, t3, t4⟩ := sj_250b d k v w (cntN (fun k => jand (jshr v (k : Int)) 1) 1 (k + 1) : Int) hd (by omega) hL hbit 3 0 b s (by omega) hI (by omega) h31
      obtain ⟨t', b'', q1, q2, q3⟩ := sj_250 d v w hd hL c (k + 1) b' t (some (.inl 3)) (by omega) t4 t3 (fun j hj => by rw [t2 _ _ _ (by omega)]; exact h31 j hj)
      exact ⟨t', b'', t1.trans q1, TM_t t2 q2, q3⟩
    · rw [if_neg hbit, jwn (x := (k : Int) + 1) (n := k + 1) (by omega) (by omega), ← cntN_no (g := fun k : Nat => jand (jshr v (k : Int)) 1) (v := 1) (i := k) hbit]
      have hI2 : RefV (tgM L v d) (mnN d) (fun a => a < 3 * (k + 1) ∧ jand (jshr v ((a / 3 : Nat) : Int)) 1 = 1) b s := by
        obtain ⟨i1, i2, i3, i4, i5⟩ := hI
        refine ⟨i1, i2, i3, i4, fun y => (i5 y).trans ⟨fun h a ha => h a ⟨?_, ha.2⟩, fun h a ha => h a ⟨by omega, ha.2⟩⟩⟩
        by_cases e : a < 3 * k
        · exact e
        · have : a / 3 = k := by omega
          have h2 := ha.2
          rw [this] at h2
          exact absurd h2 hbit
      exact sj_250 d v w hd hL c (k + 1) b s o6 (by omega) hI2 (by omega) h31
theorem sj_19 {L : Nat → Int} (d : Nat) (v w : Int) (hd : d ≤ 5) (hL : ∀ k, k < 6 → g101 (L (3 * k)) ∧ g101 (L (3 * k + 1)) ∧ g101 (L (3 * k + 2))) : ∀ (c k : Nat) (s : jM), k + c = 6 → TI s → s 7 0 2 = 18 → s 7 0 3 = (mnN d : Int) → (∀ k, k < 6 → ∀ j, j < 3 → s 16 (4 + k) j = L (3 * k + j)) → (∀ a, a < 18 → ∀ b, b < mnN d → LA s a b = if a < 3 * k then tgM L v d a b else 0) → ∃ t, je 19 64 [some (.inr (10, 0)), some (.inl (d : Int)), some (.inl v), some (.inl w), some (.inl (k : Int))] [] s = je 19 64 [some (.inr (10, 0)), some (.inl (d : Int)), some (.inl v), some (.inl w), some (.inl (6 : Nat))] [] t ∧ TI t ∧ T5 s t ∧ ∀ a, a < 18 → ∀ b, b < mnN d → LA t a b = tgM L v d a b
  | 0, k, s, hk, hT, e2, e3, h16, hA => by
    have hk : k = 6 := hk
    subst hk
    exact ⟨s, rfl, hT, T5_r s, fun a ha b hb => by rw [hA a ha b hb, if_pos (by omega)]⟩
  | c + 1, k, s, hk, hT, e2, e3, h16, hA => by
    rw [be_19_64, if_pos (by omega), jwn (x := (k : Int) + 1) (n := k + 1) (by omega) (by omega)]
    by_cases hbit : jand (jshr v (k : Int)) 1 = 1
    · obtain ⟨l1, l2, l3⟩ := hL k (by omega)
      have w0 := h16 k (by omega) 0 (by omega)
      rw [Nat.add_zero] at w0
      obtain ⟨t, t1, t2, t3⟩ := sj_126 k d (L (3 * k)) (L (3 * k + 1)) (L (3 * k + 2)) (by omega) hd l1 l2 l3 (mnN d) 0 s none none none (by omega) hT e2 e3 w0 (h16 k (by omega) 1 (by omega)) (h16 k (by omega) 2 (by omega))
      obtain ⟨t', q1, q2, q3, q4⟩ := sj_19 d v w hd hL c (k + 1) t (by omega) (T5_ti t2 hT) (by rw [t2 _ _ _ (by omega)]; exact e2) (by rw [t2 _ _ _ (by omega)]; exact e3) (fun m hm j hj => by rw [t2 _ _ _ (by omega)]; exact h16 m hm j hj) (fun a ha b hb => by
        rw [t3 a (by omega) b, hA a ha b hb]
        by_cases e : 3 * k ≤ a ∧ a < 3 * k + 3
        · have e1 : a / 3 = k := by omega
          have e2 : a % 3 = a - 3 * k := by omega
          have eM : tgM L v d a b = tgE (L (3 * k)) (L (3 * k + 1)) (L (3 * k + 2)) d (a - 3 * k) b := by
            unfold tgM
            rw [e1, e2, if_pos hbit]
          rw [if_pos (show a < 3 * (k + 1) by omega), eM, if_neg (show ¬ a < 3 * k by omega)]
          by_cases z : 0 < tgT d (a - 3 * k) b
          · rw [if_pos ⟨by omega, z⟩]
          · rw [if_neg (fun y => z y.2), tgE_0 (by omega)]
        · rw [if_neg (fun y => e ⟨y.1.1, y.1.2.1⟩)]
          by_cases e3 : a < 3 * k
          · rw [if_pos e3, if_pos (by omega)]
          · rw [if_neg e3, if_neg (by omega)])
      refine ⟨t', ?_, q2, T5_t t2 q3, q4⟩
      rw [if_pos hbit, if_pos (by omega), jwn (x := 3 * (k : Int)) (n := 3 * k) (by omega) (by omega), Nat.mul_zero, Nat.zero_add, Int.toNat_natCast, bq_126]
      have t1 : je 126 3 [some (.inr (7, 0)), some (.inl ((3 * k : Nat) : Int)), some (.inr (1, 4 + k)), some (.inl (d : Int)), some (.inl 0), none, none, none] [] s = some (none, t) := t1
      rw [t1, jbV_s]
      exact q1
    · rw [if_neg hbit]
      refine sj_19 d v w hd hL c (k + 1) s (by omega) hT e2 e3 h16 (fun a ha b hb => ?_)
      rw [hA a ha b hb]
      by_cases e : a < 3 * k
      · rw [if_pos e, if_pos (by omega)]
      · rw [if_neg e]
        by_cases e2 : a < 3 * (k + 1)
        · have e1 : a / 3 = k := by omega
          rw [if_pos e2]
          unfold tgM
          rw [e1, if_neg hbit]
        · rw [if_neg e2]
theorem ap_19 (s : jM) (hI : Inv s) (v1 v2 v3 : Int) : Go s 19 250 [.inl v1, .inl v2, .inl v3] := by
  have b250 := fun s => bq_250 v1 v2 v3 s
  by_cases h1 : 1 ≤ v1 ∧ v1 ≤ 5
  rotate_left
  · refine go_no (-1) hI ?_ (by rw [b250]; (repeat (first | rw [jbI_s] | rw [jbV_s] | rw [bI_t (by omega)] | rw [bI_f (by omega)] | rw [if_pos (by omega)] | rw [if_neg (by omega)] | rw [sq_200])))
    rw [bq_19]
    by_cases c : v1 < 1
    · (repeat (first | rw [jbI_s] | rw [jbV_s] | rw [bI_t (by omega)] | rw [bI_f (by omega)] | rw [if_pos (by omega)] | rw [if_neg (by omega)] | rw [sq_38]))
    · (repeat (first | rw [jbI_s] | rw [jbV_s] | rw [bI_t (by omega)] | rw [bI_f (by omega)] | rw [if_pos (by omega)] | rw [if_neg (by omega)] | rw [sq_38]))
  by_cases h2 : 0 ≤ v2 ∧ v2 < 64
  rotate_left
  · exact go_no (-1) hI (by rw [bq_19]; (repeat (first | rw [jbI_s] | rw [jbV_s] | rw [bI_t (by omega)] | rw [bI_f (by omega)] | rw [if_pos (by omega)] | rw [if_neg (by omega)] | rw [sq_38]))) (by rw [b250]; (repeat (first | rw [jbI_s] | rw [jbV_s] | rw [bI_t (by omega)] | rw [bI_f (by omega)] | rw [if_pos (by omega)] | rw [if_neg (by omega)] | rw [sq_200])))
  by_cases h3 : 0 ≤ v3 ∧ v3 < 2
  rotate_left
  · exact go_no (-1) hI (by rw [bq_19]; (repeat (first | rw [jbI_s] | rw [jbV_s] | rw [bI_t (by omega)] | rw [bI_f (by omega)] | rw [if_pos (by omega)] | rw [if_neg (by omega)] | rw [sq_38]))) (by rw [b250]; (repeat (first | rw [jbI_s] | rw [jbV_s] | rw [bI_t (by omega)] | rw [bI_f (by omega)] | rw [if_pos (by omega)] | rw [if_neg (by omega)] | rw [sq_200])))
  obtain ⟨d, rfl⟩ := nat_of v1 (by omega)
  have hd : d ≤ 5 := by omega
  have em := mnN_le d hd
  obtain ⟨vn, hvn⟩ := nat_of v2 h2.1
  have hL : ∀ k, k < 6 → g101 (s 31 0 (3 * k)) ∧ g101 (s 31 0 (3 * k + 1)) ∧ g101 (s 31 0 (3 * k + 2)) := fun k hk => (inv_line hI k hk).2.2.2.2.1
  have h16 : ∀ k, k < 6 → ∀ j, j < 3 → s 16 (4 + k) j = s 31 0 (3 * k + j) := fun k hk => (inv_line hI k hk).2.2.1
  have r0 : ∀ U : jM, (∀ j, U 31 0 j = s 31 0 j) → RefV (tgM (s 31 0) v2 d) (mnN d) (fun a => a < 3 * 0 ∧ jand (jshr v2 ((a / 3 : Nat) : Int)) 1 = 1) 0 (jup U 11 0 23 0) := fun U _ => ⟨jup_e _ _ _ _ _, ⟨fun k hk => absurd hk (by omega), fun k hk => absurd hk (by omega), fun k hk => absurd hk (by omega)⟩, fun k hk => absurd hk (by omega), fun k hk => absurd hk (by omega), fun y => ⟨fun _ a ha => absurd ha.1 (by omega), fun _ k hk => absurd hk (by omega)⟩⟩
  have href : ∀ U : jM, (∀ j, U 31 0 j = s 31 0 j) → ∃ (t : jM) (b' : Nat), jq 250 [.inr (11, 0), .inl (d : Int), .inl v2, .inl v3] U = some (some (.inl (if v3 = 0 then (b' : Int) else if 3 * (cntN (fun k => jand (jshr v2 (k : Int)) 1) 1 6 : Int) < mnN d then 3 * (cntN (fun k => jand (jshr v2 (k : Int)) 1) 1 6 : Int) else mnN d)), t) ∧ Kp U t ∧ RefV (tgM (s 31 0) v2 d) (mnN d) (fun a => a < 18 ∧ jand (jshr v2 ((a / 3 : Nat) : Int)) 1 = 1) b' t := fun U hU => by
    obtain ⟨t, b', t1, t2, t3⟩ := sj_250 d v2 v3 hd hL 6 0 0 (jup U 11 0 23 0) none (by omega) (r0 U hU) (by omega) (fun j hj => by rw [jup_n _ _ _ _ _ _ _ _ (by omega)]; exact hU j)
    refine ⟨t, b', ?_, Kp_t (fun k i j z => ?_) (kp_TM t2), t3⟩
    · rw [b250]
      (repeat (first | rw [jbI_s] | rw [jbV_s] | rw [bI_t (by omega)] | rw [bI_f (by omega)] | rw [if_pos (by omega)] | rw [if_neg (by omega)] | rw [sq_200]))
      exact t1
    · unfold Scr at z
      exact jup_n _ _ _ _ _ _ _ _ (by omega)
  have hc := cntN_le (fun k => jand (jshr v2 (k : Int)) 1) 1 6
  by_cases c1 : v3 = 1
  · obtain ⟨t, b', t1, t2, t3⟩ := href s (fun _ => rfl)
    have hbc := bit_cnt vn (by omega) s
    rw [← hvn] at hbc
    refine ⟨_, s, t, ?_, t1, Inv_kp t2 hI⟩
    rw [bq_19]
    (repeat (first | rw [jbI_s] | rw [jbV_s] | rw [bI_t (by omega)] | rw [bI_f (by omega)] | rw [if_pos (by omega)] | rw [if_neg (by omega)] | rw [sq_38] | rw [hbc] | rw [sq_45 d hd] | rw [jwi (x := 3 * (cntN (fun k => jand (jshr v2 (k : Int)) 1) 1 6 : Int)) (by omega) (by omega)]))
    by_cases c2 : 3 * (cntN (fun k => jand (jshr v2 (k : Int)) 1) 1 6 : Int) < mnN d
    · rw [if_pos c2, if_neg (by omega)]
    · rw [if_neg c2]
      by_cases c3 : (mnN d : Int) < 3 * (cntN (fun k => jand (jshr v2 (k : Int)) 1) 1 6 : Int)
      · rw [if_pos c3]
      · rw [if_neg c3, show 3 * (cntN (fun k => jand (jshr v2 (k : Int)) 1) 1 6 : Int) = mnN d by omega]
  · obtain ⟨a, a1, a2, a3, a4, a5, a6⟩ := sq_123 s 18 (mnN d) (by omega) em.2 hI.2.2.2.2.2.2
    obtain ⟨u, u1, u2, u3, u4⟩ := sj_19 d v2 v3 hd hL 6 0 a (by omega) a4 a2 a3 (fun k hk j hj => by rw [a5 _ _ _ (by omega) (by omega)]; exact h16 k hk j hj) (fun x hx b hb => by rw [a6 x (by omega) b, if_pos ⟨hx, hb⟩, if_neg (by omega)])
    have ue2 : u 7 0 2 = ((18 : Nat) : Int) := by rw [u3 _ _ _ (by omega)]; exact a2
    have ue3 : u 7 0 3 = (mnN d : Int) := by rw [u3 _ _ _ (by omega)]; exact a3
    obtain ⟨t, rk, t1, t2, t3, t4⟩ := sq_127 u 18 (mnN d) (by omega) em.2 u2 ue2 ue3 (fun x hx b hb => by
      rw [u4 x hx b hb]
      unfold tgM
      split
      · exact tgE_g _ _ _ _ _ _
      · exact ⟨by decide, by decide⟩)
    have hRed := RedI_a (A' := tgM (s 31 0) v2 d) (fun i hi j hj => (u4 i hi j hj).symm) t4
    have hKt : Kt s t := fun k i j z1 z2 => by
      unfold Scr at z2
      rw [t3 k i j z1 (by omega) (by omega), u3 _ _ _ (by omega), a5 _ _ _ (by omega) (by omega)]
    have hI2 := Inv_kt hKt t2 hI
    obtain ⟨r, b', r1, r2, r3⟩ := href t (fun j => hKt 31 0 j (by omega) (by unfold Scr; omega))
    obtain ⟨g1, g2, g3, g4, g5⟩ := r3
    have hcount := ech_count (M := tgM (s 31 0) v2 d) (V := fun k j => r 49 0 (21 * k + j)) (P := fun k => (r 48 0 k).toNat) (h := 18) (n := mnN d) (b := b') (ld := t 26 0) (fun k hk => by have := g2.1 k hk; omega) (fun k hk => (g3 k hk).1) (fun k hk k' h1 h2 => (g3 k hk).2 k' h1 h2) (fun k hk j hj => g4 k hk j (by have := g2.1 k hk; omega)) (fun y => by
      refine Iff.trans ?_ (g5 y).symm
      refine ⟨fun h a ha => h a ha.1, fun h a ha => ?_⟩
      by_cases hb : jand (jshr v2 ((a / 3 : Nat) : Int)) 1 = 1
      · exact h a ⟨ha, hb⟩
      · exact dot_0 _ (fun j hj => by
          unfold tgM
          rw [if_neg hb, Int.zero_mul]; exact ⟨0, rfl⟩)) (fun j hj => red_free hRed hj)
    have hbr : b' = rk := by have := hRed.2.2.2.2.2.2; omega
    have v30 : v3 = 0 := by omega
    rw [if_pos v30] at r1
    refine ⟨(b' : Int), t, r, ?_, r1, Inv_kp r2 hI2⟩
    have u1 : je 19 64 [some (.inr (10, 0)), some (.inl (d : Int)), some (.inl v2), some (.inl v3), some (.inl 0)] [] a = _ := u1
    have a1 : jq 123 [.inr (7, 0), .inl 18, .inl (mnN d : Int)] s = some (none, a) := a1
    rw [bq_19]
    (repeat (first | rw [jbI_s] | rw [jbV_s] | rw [bI_t (by omega)] | rw [bI_f (by omega)] | rw [if_pos (by omega)] | rw [if_neg (by omega)] | rw [sq_38] | rw [sq_45 d hd] | rw [a1] | rw [u1] | rw [be_19_64] | rw [t1]))
    rw [hbr]
