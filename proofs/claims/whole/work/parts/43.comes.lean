/-! THE REFERENCE'S ROWS -/
theorem dot_upd (e g : Nat → Int) (k : Nat) (u : Int) : ∀ n, dot (fun j => if j = k then u else e j) g n = dot e g n + if k < n then (u - e k) * g k else 0
  | 0 => by rw [if_neg (by omega)]; rfl
  | n + 1 => by
    rw [dot, dot, dot_upd e g k u n]
    by_cases c : n = k
    · subst c
      rw [if_pos rfl, if_neg (by omega), if_pos (by omega)]
      grind
    · rw [if_neg c]
      by_cases c2 : k < n
      · rw [if_pos c2, if_pos (by omega)]; omega
      · rw [if_neg c2, if_neg (by omega)]; omega
/-- only the row and its share change -/
def TR (s t : jM) : Prop := ∀ k i j, k ≠ 51 → k ≠ 52 → t k i j = s k i j
theorem TR_r (s : jM) : TR s s := fun _ _ _ _ _ => rfl
theorem TR_t {s t u : jM} (h : TR s t) (h2 : TR t u) : TR s u := fun k i j z z2 => (h2 k i j z z2).trans (h k i j z z2)
theorem sj_235a (n k : Nat) (v : Int) (hn : n ≤ 21) (hk : k < 21) (hv : v ≠ 0) (hvg : g101 v) : ∀ (c m : Nat) (s : jM), m + c = n → (∀ j, j < n → g101 (s 51 0 j)) → (∀ j, j < n → g101 (s 49 0 (21 * k + j))) → ∃ t, je 235 25 [some (.inr (11, 0)), some (.inl (n : Int)), some (.inl (k : Int)), some (.inl v), some (.inl (m : Int))] [] s = je 235 76 [some (.inr (11, 0)), some (.inl (n : Int)), some (.inl (k : Int)), some (.inl v), some (.inl 0)] [] t ∧ (∀ q i j, q ≠ 51 → t q i j = s q i j) ∧ ∀ j, t 51 0 j = if m ≤ j ∧ j < n then (s 51 0 j - v * s 49 0 (21 * k + j)) % 101 else s 51 0 j
  | 0, m, s, hm, hR, hV => by
    refine ⟨s, by rw [be_235_25, if_neg (by omega)], fun _ _ _ _ => rfl, fun j => by rw [if_neg (by omega)]⟩
  | c + 1, m, s, hm, hR, hV => by
    obtain ⟨g1, g2⟩ := hR m (by omega)
    have hm2 := mul101 hvg (hV m (by omega))
    have hU : ∀ q i j, q ≠ 51 → jup s 51 0 m ((s 51 0 m - v * s 49 0 (21 * k + m)) % 101) q i j = s q i j := fun q i j z => jup_n _ _ _ _ _ _ _ _ (by omega)
    have hU2 : ∀ j, jup s 51 0 m ((s 51 0 m - v * s 49 0 (21 * k + m)) % 101) 51 0 j = if j = m then (s 51 0 m - v * s 49 0 (21 * k + m)) % 101 else s 51 0 j := fun j => by
      by_cases e : j = m
      · rw [if_pos e, e, jup_e]
      · rw [if_neg e, jup_n _ _ _ _ _ _ _ _ (by omega)]
    obtain ⟨t, t1, t2, t3⟩ := sj_235a n k v hn hk hv hvg c (m + 1) (jup s 51 0 m ((s 51 0 m - v * s 49 0 (21 * k + m)) % 101)) (by omega) (fun j hj => by
      rw [hU2]
      split
      · exact em101 _
      · exact hR j hj) (fun j hj => by rw [hU _ _ _ (by omega)]; exact hV j hj)
    refine ⟨t, ?_, fun q i j z => by rw [t2 q i j z, hU q i j z], fun j => ?_⟩
    · rw [be_235_25, if_pos (by omega), if_neg hv, if_pos (by omega), jwi (x := 21 * (k : Int)) (by omega) (by omega), jwi (x := 21 * (k : Int) + m) (by omega) (by omega), if_pos (by omega), show (21 * (k : Int) + m).toNat = 21 * k + m by omega, Int.toNat_natCast, jwi (x := v * s 49 0 (21 * k + m)) (by omega) (by omega), jwi (x := s 51 0 m - v * s 49 0 (21 * k + m)) (by omega) (by omega), sq_209 _ (by omega) (by omega), jbI_s, if_pos (by omega), jwn (x := (m : Int) + 1) (n := m + 1) (by omega) (by omega)]
      exact t1
    · rw [t3, hU2, hU _ _ _ (by omega)]
      by_cases c1 : m + 1 ≤ j ∧ j < n
      · rw [if_pos c1, if_neg (by omega), if_pos (by omega)]
      · rw [if_neg c1]
        by_cases c2 : j = m
        · rw [if_pos c2, if_pos (by omega), c2]
        · rw [if_neg c2, if_neg (by omega)]
theorem sj_235b (n k : Nat) (v : Int) (hn : n ≤ 21) (hk : k < 21) (hv : v ≠ 0) (hvg : g101 v) : ∀ (c m : Nat) (s : jM), m + c = 21 → (∀ j, j < 21 → g101 (s 52 0 j)) → (∀ j, j < 21 → g101 (s 50 0 (21 * k + j))) → ∃ t, je 235 76 [some (.inr (11, 0)), some (.inl (n : Int)), some (.inl (k : Int)), some (.inl v), some (.inl (m : Int))] [] s = je 235 2 [some (.inr (11, 0)), some (.inl (n : Int)), some (.inl ((k + 1 : Nat) : Int)), some (.inl v), some (.inl (21 : Nat))] [] t ∧ (∀ q i j, q ≠ 52 → t q i j = s q i j) ∧ ∀ j, t 52 0 j = if m ≤ j ∧ j < 21 then (s 52 0 j - v * s 50 0 (21 * k + j)) % 101 else s 52 0 j
  | 0, m, s, hm, hR, hV => by
    refine ⟨s, by rw [be_235_76, if_neg (by omega), jwn (x := (k : Int) + 1) (n := k + 1) (by omega) (by omega), show m = 21 by omega], fun _ _ _ _ => rfl, fun j => by rw [if_neg (by omega)]⟩
  | c + 1, m, s, hm, hR, hV => by
    obtain ⟨g1, g2⟩ := hR m (by omega)
    have hm2 := mul101 hvg (hV m (by omega))
    have hU : ∀ q i j, q ≠ 52 → jup s 52 0 m ((s 52 0 m - v * s 50 0 (21 * k + m)) % 101) q i j = s q i j := fun q i j z => jup_n _ _ _ _ _ _ _ _ (by omega)
    have hU2 : ∀ j, jup s 52 0 m ((s 52 0 m - v * s 50 0 (21 * k + m)) % 101) 52 0 j = if j = m then (s 52 0 m - v * s 50 0 (21 * k + m)) % 101 else s 52 0 j := fun j => by
      by_cases e : j = m
      · rw [if_pos e, e, jup_e]
      · rw [if_neg e, jup_n _ _ _ _ _ _ _ _ (by omega)]
    obtain ⟨t, t1, t2, t3⟩ := sj_235b n k v hn hk hv hvg c (m + 1) (jup s 52 0 m ((s 52 0 m - v * s 50 0 (21 * k + m)) % 101)) (by omega) (fun j hj => by
      rw [hU2]
      split
      · exact em101 _
      · exact hR j hj) (fun j hj => by rw [hU _ _ _ (by omega)]; exact hV j hj)
    refine ⟨t, ?_, fun q i j z => by rw [t2 q i j z, hU q i j z], fun j => ?_⟩
    · rw [be_235_76, if_pos (by omega), if_neg hv, if_pos (by omega), jwi (x := 21 * (k : Int)) (by omega) (by omega), jwi (x := 21 * (k : Int) + m) (by omega) (by omega), if_pos (by omega), show (21 * (k : Int) + m).toNat = 21 * k + m by omega, Int.toNat_natCast, jwi (x := v * s 50 0 (21 * k + m)) (by omega) (by omega), jwi (x := s 52 0 m - v * s 50 0 (21 * k + m)) (by omega) (by omega), sq_209 _ (by omega) (by omega), jbI_s, if_pos (by omega), jwn (x := (m : Int) + 1) (n := m + 1) (by omega) (by omega)]
      exact t1
    · rw [t3, hU2, hU _ _ _ (by omega)]
      by_cases c1 : m + 1 ≤ j ∧ j < 21
      · rw [if_pos c1, if_neg (by omega), if_pos (by omega)]
      · rw [if_neg c1]
        by_cases c2 : j = m
        · rw [if_pos c2, if_pos (by omega), c2]
        · rw [if_neg c2, if_neg (by omega)]
/-- the numbers that the reference holds are within -/
def BG (s : jM) (n b : Nat) : Prop := (∀ k, k < b → 0 ≤ s 48 0 k ∧ s 48 0 k < n) ∧ (∀ k, k < b → ∀ j, j < n → g101 (s 49 0 (21 * k + j))) ∧ (∀ k, k < b → ∀ j, j < 21 → g101 (s 50 0 (21 * k + j)))
/-- each vector has 1 at its own place, 0 at those of the ones ahead of it -/
def BT (s : jM) (b : Nat) : Prop := ∀ k, k < b → s 49 0 (21 * k + (s 48 0 k).toNat) = 1 ∧ ∀ k', k < k' → k' < b → s 49 0 (21 * k' + (s 48 0 k).toNat) = 0
theorem BG_tr {s t : jM} {n b : Nat} (h : TR s t) (hB : BG s n b) : BG t n b := by
  obtain ⟨h1, h2, h3⟩ := hB
  exact ⟨fun k hk => by rw [h 48 _ _ (by omega) (by omega)]; exact h1 k hk, fun k hk j hj => by rw [h 49 _ _ (by omega) (by omega)]; exact h2 k hk j hj, fun k hk j hj => by rw [h 50 _ _ (by omega) (by omega)]; exact h3 k hk j hj⟩
theorem BT_tr {s t : jM} {b : Nat} (h : TR s t) (hB : BT s b) : BT t b := fun k hk => by
  rw [h 48 _ _ (by omega) (by omega), h 49 _ _ (by omega) (by omega)]
  exact ⟨(hB k hk).1, fun k' h1 h2 => by rw [h 49 _ _ (by omega) (by omega)]; exact (hB k hk).2 k' h1 h2⟩
theorem sj_235 (n b : Nat) (hn : n ≤ 21) (hb : b ≤ 21) : ∀ (c k : Nat) (s : jM) (o3 o4 : Option jV), k + c = b → s 11 0 23 = (b : Int) → BG s n b → BT s b → (∀ j, j < n → g101 (s 51 0 j)) → (∀ j, j < 21 → g101 (s 52 0 j)) → (∀ k', k' < k → s 51 0 (s 48 0 k').toNat = 0) → ∃ t o3' o4' e, je 235 2 [some (.inr (11, 0)), some (.inl (n : Int)), some (.inl (k : Int)), o3, o4] [] s = je 235 133 [some (.inr (11, 0)), some (.inl (n : Int)), some (.inl 0), o3', o4'] [] t ∧ TR s t ∧ (∀ j, j < n → g101 (t 51 0 j)) ∧ (∀ j, j < 21 → g101 (t 52 0 j)) ∧ (∀ k', k' < b → t 51 0 (s 48 0 k').toNat = 0) ∧ (∀ j, j < n → (101 : Int) ∣ t 51 0 j - (s 51 0 j - dot e (fun k => s 49 0 (21 * k + j)) b)) ∧ (∀ j, j < 21 → (101 : Int) ∣ t 52 0 j - (s 52 0 j - dot e (fun k => s 50 0 (21 * k + j)) b)) ∧ ∀ j, j < k → e j = 0
  | 0, k, s, o3, o4, hk, h11, hB, hT, hR, hS, hz => by
    have hk : k = b := hk
    subst hk
    have z : ∀ g : Nat → Int, dot (fun _ => 0) g k = 0 := fun g => by
      have : ∀ n, dot (fun _ => 0) g n = 0 := fun n => by
        induction n with
        | zero => rfl
        | succ n ih => rw [dot, ih, Int.zero_mul]; rfl
      exact this k
    refine ⟨s, o3, o4, fun _ => 0, ?_, TR_r s, hR, hS, hz, fun j hj => ?_, fun j hj => ?_, fun _ _ => rfl⟩
    · rw [be_235_2, h11, if_neg (by omega)]
    · rw [z]; omega
    · rw [z]; omega
  | c + 1, k, s, o3, o4, hk, h11, hB, hT, hR, hS, hz => by
    obtain ⟨p1, p2⟩ := hB.1 k (by omega)
    obtain ⟨p, hp⟩ := nat_of _ p1
    have hvg := hR p (by omega)
    rw [be_235_2, h11, if_pos (by omega), if_pos (by omega), Int.toNat_natCast, hp, if_pos (by omega), Int.toNat_natCast]
    have hTk := (hT k (by omega)).1
    rw [hp, Int.toNat_natCast] at hTk
    by_cases c0 : s 51 0 p = 0
    · have hstep : je 235 25 [some (.inr (11, 0)), some (.inl (n : Int)), some (.inl (k : Int)), some (.inl (s 51 0 p)), some (.inl 0)] [] s = je 235 2 [some (.inr (11, 0)), some (.inl (n : Int)), some (.inl ((k + 1 : Nat) : Int)), some (.inl (s 51 0 p)), some (.inl 0)] [] s := by
        have e76 : je 235 76 [some (.inr (11, 0)), some (.inl (n : Int)), some (.inl (k : Int)), some (.inl (s 51 0 p)), some (.inl 0)] [] s = je 235 2 [some (.inr (11, 0)), some (.inl (n : Int)), some (.inl ((k + 1 : Nat) : Int)), some (.inl (s 51 0 p)), some (.inl 0)] [] s := by
          rw [be_235_76, if_pos (by omega), if_pos c0, jwn (x := (k : Int) + 1) (n := k + 1) (by omega) (by omega)]
        rw [be_235_25]
        by_cases c1 : (0 : Int) < n
        · rw [if_pos c1, if_pos c0, e76]
        · rw [if_neg c1, e76]
      rw [hstep]
      obtain ⟨t, o3', o4', e, t1, t2, t3, t4, t5, t6, t7, t8⟩ := sj_235 n b hn hb c (k + 1) s (some (.inl (s 51 0 p))) (some (.inl 0)) (by omega) h11 hB hT hR hS (fun k' hk' => by
        by_cases e : k' = k
        · rw [e, hp, Int.toNat_natCast]; exact c0
        · exact hz k' (by omega))
      exact ⟨t, o3', o4', e, t1, t2, t3, t4, t5, t6, t7, fun j hj => t8 j (by omega)⟩
    · obtain ⟨u, u1, u2, u3⟩ := sj_235a n k (s 51 0 p) hn (by omega) c0 hvg n 0 s (by omega) hR (fun j hj => hB.2.1 k (by omega) j hj)
      have u1 : je 235 25 [some (.inr (11, 0)), some (.inl (n : Int)), some (.inl (k : Int)), some (.inl (s 51 0 p)), some (.inl 0)] [] s = _ := u1
      obtain ⟨w, w1, w2, w3⟩ := sj_235b n k (s 51 0 p) hn (by omega) c0 hvg 21 0 u (by omega) (fun j hj => by rw [u2 _ _ _ (by omega)]; exact hS j hj) (fun j hj => by rw [u2 _ _ _ (by omega)]; exact hB.2.2 k (by omega) j hj)
      have w1 : je 235 76 [some (.inr (11, 0)), some (.inl (n : Int)), some (.inl (k : Int)), some (.inl (s 51 0 p)), some (.inl 0)] [] u = _ := w1
      have tr : TR s w := fun q i j z z2 => by rw [w2 q i j z2, u2 q i j z]
      have w51 : ∀ j, w 51 0 j = if j < n then (s 51 0 j - s 51 0 p * s 49 0 (21 * k + j)) % 101 else s 51 0 j := fun j => by
        rw [w2 _ _ _ (by omega), u3]
        by_cases e : j < n
        · rw [if_pos e, if_pos (by omega)]
        · rw [if_neg e, if_neg (by omega)]
      have w52 : ∀ j, j < 21 → w 52 0 j = (s 52 0 j - s 51 0 p * s 50 0 (21 * k + j)) % 101 := fun j hj => by
        rw [w3, if_pos (by omega), u2 _ _ _ (by omega), u2 _ _ _ (by omega)]
      have hR2 : ∀ j, j < n → g101 (w 51 0 j) := fun j hj => by rw [w51, if_pos hj]; exact em101 _
      have hS2 : ∀ j, j < 21 → g101 (w 52 0 j) := fun j hj => by rw [w52 j hj]; exact em101 _
      obtain ⟨t, o3', o4', e, t1, t2, t3, t4, t5, t6, t7, t8⟩ := sj_235 n b hn hb c (k + 1) w (some (.inl (s 51 0 p))) (some (.inl (21 : Nat))) (by omega) (by rw [tr _ _ _ (by omega) (by omega)]; exact h11) (BG_tr tr hB) (BT_tr tr hT) hR2 hS2 (fun k' hk' => by
        rw [tr 48 _ _ (by omega) (by omega), w51]
        obtain ⟨y1, y2⟩ := hB.1 k' (by omega)
        rw [if_pos (by omega)]
        by_cases e : k' = k
        · rw [e, hp, Int.toNat_natCast, hTk, Int.mul_one]; omega
        · rw [hz k' (by omega), (hT k' (by omega)).2 k (by omega) (by omega), Int.mul_zero]; rfl)
      have e49 : ∀ j, (fun k => w 49 0 (21 * k + j)) = fun k => s 49 0 (21 * k + j) := fun j => funext fun k => tr _ _ _ (by omega) (by omega)
      have e50 : ∀ j, (fun k => w 50 0 (21 * k + j)) = fun k => s 50 0 (21 * k + j) := fun j => funext fun k => tr _ _ _ (by omega) (by omega)
      refine ⟨t, o3', o4', fun j => if j = k then s 51 0 p else e j, ?_, TR_t tr t2, t3, t4, fun k' hk' => ?_, fun j hj => ?_, fun j hj => ?_, fun j hj => ?_⟩
      · rw [u1, w1, t1]
      · have := t5 k' hk'
        rwa [tr 48 _ _ (by omega) (by omega)] at this
      · have q := t6 j hj
        rw [e49, w51, if_pos hj] at q
        rw [dot_upd, if_pos (by omega), t8 k (by omega), Int.sub_zero]
        omega
      · have q := t7 j hj
        rw [e50, w52 j hj] at q
        rw [dot_upd, if_pos (by omega), t8 k (by omega), Int.sub_zero]
        omega
      · show (if j = k then s 51 0 p else e j) = 0
        rw [if_neg (by omega)]
        exact t8 j (by omega)
theorem sj_235c (n : Nat) (hn : n ≤ 21) (t : jM) (o3 o4 : Option jV) : (∃ x, x = (0 : Int) ∧ (∀ j, j < n → t 51 0 j = 0) ∧ je 235 133 [some (.inr (11, 0)), some (.inl (n : Int)), some (.inl 0), o3, o4] [] t = some (some (.inl 0), t)) ∨ ∃ a : Nat, a < n ∧ t 51 0 a ≠ 0 ∧ (∀ j, j < a → t 51 0 j = 0) ∧ (g101 (t 51 0 a) → je 235 133 [some (.inr (11, 0)), some (.inl (n : Int)), some (.inl 0), o3, o4] [] t = je 235 173 [some (.inr (11, 0)), some (.inl (n : Int)), some (.inl (a : Int)), some (.inl (rd (t 51 0 a) 99)), some (.inl 0)] [] t) := by
  have key : ∀ c m, m + c = n → (∀ j, j < m → t 51 0 j = 0) → (∃ x, x = (0 : Int) ∧ (∀ j, j < n → t 51 0 j = 0) ∧ je 235 133 [some (.inr (11, 0)), some (.inl (n : Int)), some (.inl (m : Int)), o3, o4] [] t = some (some (.inl 0), t)) ∨ ∃ a : Nat, a < n ∧ t 51 0 a ≠ 0 ∧ (∀ j, j < a → t 51 0 j = 0) ∧ (g101 (t 51 0 a) → je 235 133 [some (.inr (11, 0)), some (.inl (n : Int)), some (.inl (m : Int)), o3, o4] [] t = je 235 173 [some (.inr (11, 0)), some (.inl (n : Int)), some (.inl (a : Int)), some (.inl (rd (t 51 0 a) 99)), some (.inl 0)] [] t) := by
    intro c
    induction c with
    | zero =>
      intro m hm hz
      have hm : m = n := hm
      subst hm
      exact Or.inl ⟨0, rfl, hz, by rw [be_235_133, if_neg (by omega), if_pos rfl]⟩
    | succ c ih =>
      intro m hm hz
      by_cases c0 : t 51 0 m = 0
      · have ih := ih (m + 1) (by omega) (fun j hj => by
          by_cases e : j = m
          · rw [e]; exact c0
          · exact hz j (by omega))
        rw [be_235_133, if_pos (by omega), if_pos (by omega), Int.toNat_natCast, if_pos c0, jwn (x := (m : Int) + 1) (n := m + 1) (by omega) (by omega)]
        exact ih
      · refine Or.inr ⟨m, by omega, c0, hz, fun hg => ?_⟩
        rw [be_235_133, if_pos (by omega), if_pos (by omega), Int.toNat_natCast, if_neg c0, if_neg (by omega), if_pos (by omega), sq_208 _ hg, jbI_s]
  exact key n 0 (by omega) (fun j hj => absurd hj (by omega))
/-- the row comes to the others -/
def radd (t : jM) (n b a : Nat) : jM := jup (jup (jfl (jfl t 49 0 (21 * b) n (fun j => t 51 0 j * rd (t 51 0 a) 99 % 101)) 50 0 (21 * b) 21 (fun j => t 52 0 j * rd (t 51 0 a) 99 % 101)) 48 0 b (a : Int)) 11 0 23 ((b + 1 : Nat) : Int)
theorem sj_235d (n b a : Nat) (hn : n ≤ 21) (hb : b < 21) (t : jM) (h11 : t 11 0 23 = (b : Int)) (hR : ∀ j, j < n → g101 (t 51 0 j)) (hS : ∀ j, j < 21 → g101 (t 52 0 j)) : je 235 173 [some (.inr (11, 0)), some (.inl (n : Int)), some (.inl (a : Int)), some (.inl (rd (t 51 0 a) 99)), some (.inl 0)] [] t = some (some (.inl 1), radd t n b a) := by
  unfold radd
  have hug := rd_g (t 51 0 a) 99
  generalize rd (t 51 0 a) 99 = u at *
  have l1 : je 235 173 [some (.inr (11, 0)), some (.inl (n : Int)), some (.inl (a : Int)), some (.inl u), some (.inl 0)] [] t = je 235 173 [some (.inr (11, 0)), some (.inl (n : Int)), some (.inl (a : Int)), some (.inl u), some (.inl (n : Int))] [] (jfl t 49 0 (21 * b) n (fun j => t 51 0 j * u % 101)) := by
    refine Eq.trans (congrArg (fun z => je 235 173 [some (.inr (11, 0)), some (.inl (n : Int)), some (.inl (a : Int)), some (.inl u), some (.inl 0)] [] z) (jfl_0 t 49 0 (21 * b) (fun j => t 51 0 j * u % 101)).symm) ?_
    refine loopI (P := fun i => je 235 173 [some (.inr (11, 0)), some (.inl (n : Int)), some (.inl (a : Int)), some (.inl u), some (.inl (i : Int))] [] (jfl t 49 0 (21 * b) i (fun j => t 51 0 j * u % 101))) (n := n) (fun i hi => ?_) rfl
    show je 235 173 _ [] _ = _
    have hm := mul101 (hR i hi) hug
    rw [be_235_173, if_pos (by omega), if_pos (by omega), jfl_ne _ _ _ _ _ _ 11 _ _ (by omega), h11, jwi (x := 21 * (b : Int)) (by omega) (by omega), jwi (x := 21 * (b : Int) + i) (by omega) (by omega), if_pos (by omega), show (21 * (b : Int) + i).toNat = 21 * b + i by omega, Int.toNat_natCast, jfl_ne _ _ _ _ _ _ 51 _ _ (by omega), jwi (x := t 51 0 i * u) (by omega) (by omega), tm101 hm.1, jwn (x := (i : Int) + 1) (n := i + 1) (by omega) (by omega), jfl_up _ _ _ _ _ _ _ rfl _ rfl]
  rw [l1, be_235_173, if_neg (by omega)]
  have e52 : ∀ j, t 52 0 j = jfl t 49 0 (21 * b) n (fun j => t 51 0 j * u % 101) 52 0 j := fun j => by rw [jfl_ne _ _ _ _ _ _ _ _ _ (by omega)]
  have h11 : jfl t 49 0 (21 * b) n (fun j => t 51 0 j * u % 101) 11 0 23 = (b : Int) := by rw [jfl_ne _ _ _ _ _ _ _ _ _ (by omega), h11]
  have hS : ∀ j, j < 21 → g101 (jfl t 49 0 (21 * b) n (fun j => t 51 0 j * u % 101) 52 0 j) := fun j hj => by rw [← e52]; exact hS j hj
  simp only [e52]
  clear l1 e52 hR
  generalize jfl t 49 0 (21 * b) n (fun j => t 51 0 j * u % 101) = t at *
  have l1 : je 235 215 [some (.inr (11, 0)), some (.inl (n : Int)), some (.inl (a : Int)), some (.inl u), some (.inl 0)] [] t = je 235 215 [some (.inr (11, 0)), some (.inl (n : Int)), some (.inl (a : Int)), some (.inl u), some (.inl (21 : Nat))] [] (jfl t 50 0 (21 * b) 21 (fun j => t 52 0 j * u % 101)) := by
    refine Eq.trans (congrArg (fun z => je 235 215 [some (.inr (11, 0)), some (.inl (n : Int)), some (.inl (a : Int)), some (.inl u), some (.inl 0)] [] z) (jfl_0 t 50 0 (21 * b) (fun j => t 52 0 j * u % 101)).symm) ?_
    refine loopI (P := fun i => je 235 215 [some (.inr (11, 0)), some (.inl (n : Int)), some (.inl (a : Int)), some (.inl u), some (.inl (i : Int))] [] (jfl t 50 0 (21 * b) i (fun j => t 52 0 j * u % 101))) (n := 21) (fun i hi => ?_) rfl
    show je 235 215 _ [] _ = _
    have hm := mul101 (hS i hi) hug
    rw [be_235_215, if_pos (by omega), if_pos (by omega), jfl_ne _ _ _ _ _ _ 11 _ _ (by omega), h11, jwi (x := 21 * (b : Int)) (by omega) (by omega), jwi (x := 21 * (b : Int) + i) (by omega) (by omega), if_pos (by omega), show (21 * (b : Int) + i).toNat = 21 * b + i by omega, Int.toNat_natCast, jfl_ne _ _ _ _ _ _ 52 _ _ (by omega), jwi (x := t 52 0 i * u) (by omega) (by omega), tm101 hm.1, jwn (x := (i : Int) + 1) (n := i + 1) (by omega) (by omega), jfl_up _ _ _ _ _ _ _ rfl _ rfl]
  have h11 : jfl t 50 0 (21 * b) 21 (fun j => t 52 0 j * u % 101) 11 0 23 = (b : Int) := by rw [jfl_ne _ _ _ _ _ _ _ _ _ (by omega), h11]
  rw [l1, be_235_215, if_neg (by omega), h11, if_pos (by omega), Int.toNat_natCast, jwn (x := (b : Int) + 1) (n := b + 1) (by omega) (by omega)]
