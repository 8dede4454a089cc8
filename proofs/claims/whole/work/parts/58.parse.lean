/-! THE TEXT: what both sides read, byte by byte -/
/-- the byte at a, -1 behind the last -/
def nx (T : Nat → Int) (n a : Nat) : Int := if a < n then T a else -1
def isF (x : Int) : Prop := 48 ≤ x ∧ x ≤ 57
/-- the place, and whether it is a fault -/
def pw (T : Nat → Int) (n : Nat) (c : Int) (p : Nat × Int) : Nat × Int := if p.2 = 0 then (if nx T n p.1 = c then (p.1 + 1, 0) else (p.1, 1)) else p
def pf (T : Nat → Int) (n : Nat) (p : Nat × Int) : (Nat × Int) × Int := if p.2 = 0 ∧ 48 ≤ nx T n p.1 ∧ nx T n p.1 ≤ 57 then ((p.1 + 1, 0), nx T n p.1 - 48) else ((p.1, 1), 0)
def pfl (T : Nat → Int) (n : Nat) : Nat → Nat → Int → Nat × Int
  | 0, a, v => (a, v)
  | k + 1, a, v => if 48 ≤ nx T n a ∧ nx T n a ≤ 57 then pfl T n k (a + 1) (10 * v + (nx T n a - 48)) else (a, v)
def pfs (T : Nat → Int) (n : Nat) (p : Nat × Int) : (Nat × Int) × Int := if p.2 = 0 ∧ 48 ≤ nx T n p.1 ∧ nx T n p.1 ≤ 57 then (((pfl T n 2 (p.1 + 1) (nx T n p.1 - 48)).1, 0), (pfl T n 2 (p.1 + 1) (nx T n p.1 - 48)).2) else ((p.1, 1), 0)
def okT (T : Nat → Int) (n : Nat) : Prop := n ≤ 80 ∧ ∀ i, i < n → 32 ≤ T i ∧ T i ≤ 126
theorem nx_ok {T : Nat → Int} {n : Nat} (h : okT T n) (a : Nat) : -1 ≤ nx T n a ∧ nx T n a ≤ 126 ∧ (nx T n a ≠ -1 → a < n ∧ nx T n a = T a) ∧ (0 ≤ nx T n a → a < n) := by
  unfold nx
  by_cases c : a < n
  · have := h.2 a c
    rw [if_pos c]
    exact ⟨by omega, by omega, fun _ => ⟨c, rfl⟩, fun _ => c⟩
  · rw [if_neg c]
    exact ⟨by omega, by omega, fun z => absurd rfl z, fun z => absurd z (by omega)⟩
theorem pfl_ok {T : Nat → Int} {n : Nat} (h : okT T n) : ∀ (k a : Nat) (v : Int), 0 ≤ v → a ≤ (pfl T n k a v).1 ∧ (pfl T n k a v).1 ≤ a + k ∧ 0 ≤ (pfl T n k a v).2 ∧ (v ≤ 9 → k ≤ 2 → (pfl T n k a v).2 ≤ 999) ∧ (a ≤ n → (pfl T n k a v).1 ≤ n)
  | 0, a, v, hv => ⟨Nat.le_refl _, Nat.le_refl _, hv, fun h1 _ => by show v ≤ 999; omega, fun h1 => h1⟩
  | k + 1, a, v, hv => by
    unfold pfl
    by_cases c : 48 ≤ nx T n a ∧ nx T n a ≤ 57
    · have ha := (nx_ok h a).2.2.2 (by omega)
      rw [if_pos c]
      obtain ⟨h1, h2, h3, h4, h5⟩ := pfl_ok h k (a + 1) (10 * v + (nx T n a - 48)) (by omega)
      refine ⟨by omega, by omega, h3, fun hv9 hk => ?_, fun _ => h5 (by omega)⟩
      -- at most two more figures
      have : ∀ k, k ≤ 1 → ∀ a v, 0 ≤ v → v ≤ 99 → (pfl T n k a v).2 ≤ 999 := fun k hk a v h6 h7 => by
        have : k = 0 ∨ k = 1 := by omega
        rcases this with e | e
        · subst e; show v ≤ 999; omega
        · subst e
          unfold pfl
          split
          · show 10 * v + (nx T n a - 48) ≤ 999; omega
          · show v ≤ 999; omega
      exact this k (by omega) _ _ (by omega) (by omega)
    · rw [if_neg c]
      exact ⟨Nat.le_refl _, by show a ≤ a + (k + 1); omega, hv, fun h1 _ => by show v ≤ 999; omega, fun h1 => h1⟩
/-- the class at a place -/
def CP (T : Nat → Int) (n : Nat) (s : jM) (p : Nat × Int) : Prop := s 8 0 1 = (n : Int) ∧ (∀ i, i < n → s 27 0 i = T i) ∧ s 3 0 3 = (p.1 : Int) ∧ s 3 0 4 = (if p.2 = 0 then -1 else (p.1 : Int)) ∧ (p.2 = 0 ∨ p.2 = 1) ∧ p.1 ≤ n
/-- the reference at a place -/
def RP (T : Nat → Int) (n : Nat) (s : jM) (p : Nat × Int) : Prop := s 11 0 8 = (n : Int) ∧ (∀ i, i < n → s 37 0 i = T i) ∧ s 11 0 36 = (p.1 : Int) ∧ s 11 0 37 = p.2 ∧ (p.2 = 0 ∨ p.2 = 1) ∧ p.1 ≤ n
/-- the places that the class' reader may write: the places alone, the operands too, the sum too -/
def T3 (s t : jM) : Prop := ∀ k i j, ¬ (k = 3 ∧ (j = 3 ∨ j = 4)) → t k i j = s k i j
def T31 (s t : jM) : Prop := ∀ k i j, ¬ (k = 3 ∧ (j = 3 ∨ j = 4) ∨ k = 19) → t k i j = s k i j
theorem T3_r (s : jM) : T3 s s := fun _ _ _ _ => rfl
theorem T3_t {s t u : jM} (h : T3 s t) (h2 : T3 t u) : T3 s u := fun k i j z => (h2 k i j z).trans (h k i j z)
theorem T31_t {s t u : jM} (h : T31 s t) (h2 : T31 t u) : T31 s u := fun k i j z => (h2 k i j z).trans (h k i j z)
theorem T3_31 {s t : jM} (h : T3 s t) : T31 s t := fun k i j z => h k i j (by omega)
section
variable {T : Nat → Int} {n : Nat}
theorem sq_96 (hT : okT T n) {s : jM} {p : Nat × Int} (h : CP T n s p) (c : Int) (hc : 0 ≤ c) : jq 96 [.inr (3, 0), .inl c] s = some (some (.inl (bI (p.2 = 0 ∧ nx T n p.1 = c))), s) := by
  obtain ⟨h1, h2, h3, h4, h5, h6⟩ := h
  have hn := hT.1
  rw [bq_96, h4, h3, h1]
  by_cases c0 : p.2 = 0
  · rw [if_pos c0, if_pos rfl]
    by_cases c1 : p.1 < n
    · have e : nx T n p.1 = T p.1 := by unfold nx; rw [if_pos c1]
      rw [if_pos (by omega), if_pos (by omega), Int.toNat_natCast, h2 _ c1, e]
      by_cases c2 : T p.1 = c
      · rw [if_pos c2, bI_t ⟨c0, c2⟩]
      · rw [if_neg c2, bI_f (fun z => c2 z.2)]
    · have e : nx T n p.1 = -1 := by unfold nx; rw [if_neg c1]
      rw [if_neg (by omega), bI_f (fun z => by rw [e] at z; omega)]
  · rw [if_neg c0, if_neg (by omega), bI_f (fun z => c0 z.1)]
theorem sq_97 (hT : okT T n) {s : jM} {p : Nat × Int} (h : CP T n s p) (c d : Int) (hc : 0 ≤ c) : jq 97 [.inr (3, 0), .inl c, .inl d] s = some (some (.inl (bI (p.2 = 0 ∧ c ≤ nx T n p.1 ∧ nx T n p.1 ≤ d))), s) := by
  obtain ⟨h1, h2, h3, h4, h5, h6⟩ := h
  have hn := hT.1
  rw [bq_97, h4, h3, h1]
  by_cases c0 : p.2 = 0
  · rw [if_pos c0, if_pos rfl]
    by_cases c1 : p.1 < n
    · have e : nx T n p.1 = T p.1 := by unfold nx; rw [if_pos c1]
      rw [if_pos (by omega), if_pos (by omega), Int.toNat_natCast, h2 _ c1, e]
      by_cases c2 : T p.1 < c
      · rw [if_pos c2, bI_f (by omega)]
      · rw [if_neg c2, if_pos (by omega)]
        by_cases c3 : d < T p.1
        · rw [if_pos c3, bI_f (by omega)]
        · rw [if_neg c3, bI_t (by omega)]
    · have e : nx T n p.1 = -1 := by unfold nx; rw [if_neg c1]
      rw [if_neg (by omega), bI_f (fun z => by rw [e] at z; omega)]
  · rw [if_neg c0, if_neg (by omega), bI_f (fun z => c0 z.1)]
theorem sq_136 (hT : okT T n) {s : jM} {p : Nat × Int} (h : CP T n s p) (a : Nat) : jq 136 [.inr (8, 0), .inl (a : Int)] s = some (some (.inl (nx T n a)), s) := by
  obtain ⟨h1, h2, h3, h4, h5, h6⟩ := h
  have hn := hT.1
  rw [bq_136, if_neg (by omega), h1]
  unfold nx
  by_cases c1 : a < n
  · rw [if_pos (by omega), if_pos (by omega), Int.toNat_natCast, h2 _ c1, if_pos c1]
  · rw [if_neg (by omega), if_neg c1]
/-- a place is a fault, if none was -/
theorem sq_95 {s : jM} {p : Nat × Int} (h : CP T n s p) : ∃ t, jq 95 [.inr (3, 0), .inl (p.1 : Int)] s = some (none, t) ∧ CP T n t (p.1, 1) ∧ T3 s t := by
  obtain ⟨h1, h2, h3, h4, h5, h6⟩ := h
  rw [bq_95, h4]
  by_cases c0 : p.2 = 0
  · rw [if_pos c0, if_pos rfl]
    refine ⟨_, rfl, ⟨by rw [jup_n _ _ _ _ _ _ _ _ (by omega)]; exact h1, fun i hi => by rw [jup_n _ _ _ _ _ _ _ _ (by omega)]; exact h2 i hi, by rw [jup_n _ _ _ _ _ _ _ _ (by omega)]; exact h3, by rw [jup_e, if_neg (show ¬ (1 : Int) = 0 by decide)], Or.inr rfl, h6⟩, fun k i j z => jup_n _ _ _ _ _ _ _ _ (by omega)⟩
  · rw [if_neg c0, if_neg (by omega)]
    rw [if_neg c0] at h4
    exact ⟨s, rfl, ⟨h1, h2, h3, by rw [if_neg (show ¬ (1 : Int) = 0 by decide)]; exact h4, Or.inr rfl, h6⟩, T3_r s⟩
/-- one step on -/
theorem CP_up {s : jM} {a : Nat} (h : CP T n s (a, 0)) (ha : a < n) : CP T n (jup s 3 0 3 ((a + 1 : Nat) : Int)) (a + 1, 0) := by
  obtain ⟨h1, h2, h3, h4, h5, h6⟩ := h
  exact ⟨by rw [jup_n _ _ _ _ _ _ _ _ (by omega)]; exact h1, fun i hi => by rw [jup_n _ _ _ _ _ _ _ _ (by omega)]; exact h2 i hi, jup_e _ _ _ _ _, by rw [jup_n _ _ _ _ _ _ _ _ (by omega)]; exact h4, Or.inl rfl, ha⟩
theorem pz0 {p : Nat × Int} (h : p.2 = 0) : p = (p.1, 0) := Prod.ext rfl h
theorem CP_bad {s : jM} {p : Nat × Int} (h : CP T n s p) (hp : ¬ p.2 = 0) : p = (p.1, 1) := Prod.ext rfl (by rcases h.2.2.2.2.1 with z | z; exact absurd z hp; exact z)
theorem sq_98 (hT : okT T n) {s : jM} {p : Nat × Int} (h : CP T n s p) (c : Int) (hc : 0 ≤ c) : ∃ t, jq 98 [.inr (3, 0), .inl c] s = some (none, t) ∧ CP T n t (pw T n c p) ∧ T3 s t := by
  have h96 := sq_96 hT h c hc
  have h3 := h.2.2.1
  rw [bq_98, h96, jbI_s]
  unfold pw
  by_cases c0 : p.2 = 0
  · by_cases c1 : nx T n p.1 = c
    · have ha := (nx_ok hT p.1).2.2.2 (by omega)
      have hn := hT.1
      rw [bI_t ⟨c0, c1⟩, if_neg (show ¬ (1 : Int) = 0 by decide), if_pos c0, if_pos c1, h3, jwn (x := (p.1 : Int) + 1) (n := p.1 + 1) (by omega) (by omega)]
      exact ⟨_, rfl, CP_up (by rw [← pz0 c0]; exact h) ha, fun k i j z => jup_n _ _ _ _ _ _ _ _ (by omega)⟩
    · obtain ⟨t, t1, t2, t3⟩ := sq_95 h
      rw [bI_f (fun z => c1 z.2), if_pos rfl, if_pos c0, if_neg c1, h3, t1, jbV_s]
      exact ⟨t, rfl, t2, t3⟩
  · obtain ⟨t, t1, t2, t3⟩ := sq_95 h
    rw [bI_f (fun z => c0 z.1), if_pos rfl, if_neg c0, h3, t1, jbV_s]
    rw [← CP_bad h c0] at t2
    exact ⟨t, rfl, t2, t3⟩
theorem CP_c {s t : jM} {p : Nat × Int} (h : CP T n s p) (ht : ∀ k i j, k = 3 ∧ (j = 3 ∨ j = 4) ∨ k = 8 ∨ k = 27 → t k i j = s k i j) : CP T n t p := by
  obtain ⟨h1, h2, h3, h4, h5, h6⟩ := h
  exact ⟨by rw [ht _ _ _ (by omega)]; exact h1, fun i hi => by rw [ht _ _ _ (by omega)]; exact h2 i hi, by rw [ht _ _ _ (by omega)]; exact h3, by rw [ht _ _ _ (by omega)]; exact h4, h5, h6⟩
/-- a figure, to an operand -/
theorem sq_102 (hT : okT T n) {s : jM} {p : Nat × Int} (h : CP T n s p) (i : Nat) (hi : i < 4) : ∃ t, jq 102 [.inr (3, 0), .inl (i : Int)] s = some (none, t) ∧ CP T n t (pf T n (pw T n 32 p)).1 ∧ T31 s t ∧ (∀ j, j ≠ i → t 19 0 j = s 19 0 j) ∧ ((pf T n (pw T n 32 p)).1.2 = 0 → t 19 0 i = (pf T n (pw T n 32 p)).2) := by
  obtain ⟨u, u1, u2, u3⟩ := sq_98 hT h 32 (by decide)
  generalize pw T n 32 p = q at *
  have h97 := sq_97 hT u2 48 57 (by decide)
  have q3 := u2.2.2.1
  have hn := hT.1
  rw [bq_102, u1, jbV_s, h97, jbI_s]
  unfold pf
  by_cases c0 : q.2 = 0 ∧ 48 ≤ nx T n q.1 ∧ nx T n q.1 ≤ 57
  · have ha := (nx_ok hT q.1).2.2.2 (by omega)
    rw [bI_t c0, if_neg (show ¬ (1 : Int) = 0 by decide), if_pos c0, q3, sq_136 hT u2 q.1, jbI_s, if_pos (by omega), Int.toNat_natCast, q3, jwn (x := (q.1 : Int) + 1) (n := q.1 + 1) (by omega) (by omega), jwi (x := nx T n q.1 - 48) (by omega) (by omega)]
    refine ⟨_, rfl, CP_up (CP_c (by rw [← pz0 c0.1]; exact u2) (fun k i j z => jup_n _ _ _ _ _ _ _ _ (by omega))) ha, fun k i j z => ?_, fun j hj => ?_, fun _ => ?_⟩
    · rw [jup_n _ _ _ _ _ _ _ _ (by omega), jup_n _ _ _ _ _ _ _ _ (by omega)]; exact u3 k i j (by omega)
    · rw [jup_n _ _ _ _ _ _ _ _ (by omega), jup_n _ _ _ _ _ _ _ _ (by omega)]; exact u3 _ _ _ (by omega)
    · rw [jup_n _ _ _ _ _ _ _ _ (by omega), jup_e]
  · obtain ⟨t, t1, t2, t3⟩ := sq_95 u2
    rw [bI_f c0, if_pos rfl, if_neg c0, q3, t1, jbV_s]
    exact ⟨t, rfl, t2, T3_31 (T3_t u3 t3), fun j _ => (T3_t u3 t3) _ _ _ (by omega), fun z => absurd z (by show ¬ (1 : Int) = 0; decide)⟩
theorem sj_104 (hT : okT T n) : ∀ (k a : Nat) (v : Int) (s : jM), k ≤ 3 → 0 ≤ v → CP T n s (a, 0) → ((k = 3 → v = 0) ∧ (k = 2 → v ≤ 9) ∧ (k = 1 → v ≤ 99) ∧ v ≤ 999) → ∃ t, je 104 4 [some (.inr (3, 0)), some (.inl v), some (.inl ((3 : Int) - k))] [] s = some (some (.inl (pfl T n k a v).2), t) ∧ CP T n t ((pfl T n k a v).1, 0) ∧ T3 s t
  | 0, a, v, s, hk, h0, h, h4 => by
    refine ⟨s, by rw [be_104_4, if_neg (by omega)]; rfl, h, T3_r s⟩
  | k + 1, a, v, s, hk, h0, h, h4 => by
    have h97 := sq_97 hT h 48 57 (by decide)
    have q3 : s 3 0 3 = (a : Int) := h.2.2.1
    have hn := hT.1
    rw [be_104_4, if_pos (by omega), h97, jbI_s]
    unfold pfl
    by_cases c0 : 48 ≤ nx T n a ∧ nx T n a ≤ 57
    · have ha := (nx_ok hT a).2.2.2 (by omega)
      rw [bI_t ⟨rfl, c0⟩, if_neg (show ¬ (1 : Int) = 0 by decide), if_pos c0, q3, sq_136 hT h a, jbI_s, q3, jwn (x := (a : Int) + 1) (n := a + 1) (by omega) (by omega), jwi (x := v * 10) (by omega) (by omega), jwi (x := v * 10 + nx T n a) (by omega) (by omega), jwi (x := v * 10 + nx T n a - 48) (by omega) (by omega), show v * 10 + nx T n a - 48 = 10 * v + (nx T n a - 48) by omega, jwi (x := (3 : Int) - ((k + 1 : Nat) : Int) + 1) (by omega) (by omega), show (3 : Int) - ((k + 1 : Nat) : Int) + 1 = 3 - (k : Int) by omega]
      obtain ⟨t, t1, t2, t3⟩ := sj_104 hT k (a + 1) (10 * v + (nx T n a - 48)) (jup s 3 0 3 ((a + 1 : Nat) : Int)) (by omega) (by omega) (CP_up h ha) ⟨by omega, by omega, by omega, by omega⟩
      exact ⟨t, t1, t2, fun k i j z => by rw [t3 k i j z, jup_n _ _ _ _ _ _ _ _ (by omega)]⟩
    · rw [bI_f (fun z => c0 z.2), if_pos rfl, if_neg c0]
      exact ⟨s, rfl, h, T3_r s⟩
/-- up to three figures -/
theorem sq_104 (hT : okT T n) {s : jM} {a : Nat} (h : CP T n s (a, 0)) (hF : 48 ≤ nx T n a ∧ nx T n a ≤ 57) : ∃ t, jq 104 [.inr (3, 0)] s = some (some (.inl (pfs T n (a, 0)).2), t) ∧ CP T n t (pfs T n (a, 0)).1 ∧ T3 s t := by
  obtain ⟨t, t1, t2, t3⟩ := sj_104 hT 3 a 0 s (Nat.le_refl 3) (by omega) h ⟨fun _ => rfl, by omega, by omega, by omega⟩
  have e : pfl T n 3 a 0 = pfl T n 2 (a + 1) (nx T n a - 48) := by
    show (if 48 ≤ nx T n a ∧ nx T n a ≤ 57 then pfl T n 2 (a + 1) (10 * 0 + (nx T n a - 48)) else (a, 0)) = _
    rw [if_pos hF]
    congr 1
    omega
  rw [e] at t1 t2
  have e2 : pfs T n (a, 0) = (((pfl T n 2 (a + 1) (nx T n a - 48)).1, 0), (pfl T n 2 (a + 1) (nx T n a - 48)).2) := if_pos ⟨rfl, hF⟩
  rw [e2]
  exact ⟨t, by rw [bq_104]; exact t1, t2, t3⟩
theorem sq_103 (hT : okT T n) {s : jM} {p : Nat × Int} (h : CP T n s p) (i : Nat) (hi : i < 4) : ∃ t, jq 103 [.inr (3, 0), .inl (i : Int)] s = some (none, t) ∧ CP T n t (pfs T n p).1 ∧ T31 s t ∧ (∀ j, j ≠ i → t 19 0 j = s 19 0 j) ∧ ((pfs T n p).1.2 = 0 → t 19 0 i = (pfs T n p).2) := by
  have h97 := sq_97 hT h 48 57 (by decide)
  rw [bq_103, h97, jbI_s]
  by_cases c0 : p.2 = 0 ∧ 48 ≤ nx T n p.1 ∧ nx T n p.1 ≤ 57
  · have hp := pz0 c0.1
    obtain ⟨t, t1, t2, t3⟩ := sq_104 hT (a := p.1) (by rw [← hp]; exact h) c0.2
    rw [← hp] at t1 t2
    rw [bI_t c0, if_neg (show ¬ (1 : Int) = 0 by decide), t1, jbI_s, if_pos (by omega), Int.toNat_natCast]
    refine ⟨_, rfl, CP_c t2 (fun k a j z => jup_n _ _ _ _ _ _ _ _ (by omega)), fun k a j z => ?_, fun j hj => ?_, fun _ => jup_e _ _ _ _ _⟩
    · rw [jup_n _ _ _ _ _ _ _ _ (by omega)]; exact t3 _ _ _ (by omega)
    · rw [jup_n _ _ _ _ _ _ _ _ (by omega)]; exact t3 _ _ _ (by omega)
  · obtain ⟨t, t1, t2, t3⟩ := sq_95 h
    have e : pfs T n p = ((p.1, 1), 0) := if_neg c0
    rw [bI_f c0, if_pos rfl, h.2.2.1, t1, jbV_s, e]
    exact ⟨t, rfl, t2, T3_31 t3, fun j _ => t3 _ _ _ (by omega), fun z => absurd z (by show ¬ (1 : Int) = 0; decide)⟩
end
