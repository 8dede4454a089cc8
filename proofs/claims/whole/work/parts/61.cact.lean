/-! THE TEXT: words and acts in the class -/
theorem sq_301 (k : Nat) (hk : k < 4) (s : jM) : jq 301 [.inr (73, k)] s = some (some (.inl (jsl k : Int)), s) := by
  have h : ∀ k : Nat, k < 4 → jshr (jsl k : Int) 0 = (jsl k : Int) := by decide +kernel
  rw [bq_301, bq_303, jbI_s, h k hk]
theorem jsl_4 : ∀ k : Nat, k < 4 → 3 ≤ jsl k ∧ jsl k ≤ 4 := by decide +kernel
theorem jsb_ok : ∀ k : Nat, k < 4 → ∀ i : Nat, i < 4 → ji2c (jand (jsb k i) 255) = jsb k i ∧ 0 ≤ jsb k i ∧ jsb k i ≤ 127 := by decide +kernel
theorem sq_302 (k i : Nat) (hk : k < 4) (hi : i < jsl k) (s : jM) : jq 302 [.inr (73, k), .inl (i : Int)] s = some (some (.inl (jsb k i)), s) := by
  have hl := jsl_4 k hk
  obtain ⟨h1, h2, h3⟩ := jsb_ok k hk i (by omega)
  rw [bq_302, bq_304, jbI_s, if_neg (by decide), bq_306, bq_305, bq_307, if_neg (by omega), if_pos (by omega), jbI_s, jbV_s, if_pos (by omega), Int.toNat_natCast, h1, if_pos ⟨h2, h3⟩, jbI_s, if_pos ⟨h2, h3⟩]
section
variable {T : Nat → Int} {n : Nat}
/-- whether a word stands at a -/
def mwd (T : Nat → Int) (n k a : Nat) : Nat → Nat → Int
  | 0, _ => 1
  | c + 1, i => if nx T n (a + i) = jsb k i then mwd T n k a c (i + 1) else 0
def wis (T : Nat → Int) (n k a e : Nat) : Int := if e = a + jsl k then mwd T n k a (jsl k) 0 else 0
theorem mwd_01 (k a : Nat) : ∀ c i, mwd T n k a c i = 0 ∨ mwd T n k a c i = 1
  | 0, _ => Or.inr rfl
  | c + 1, i => by
    unfold mwd
    split
    · exact mwd_01 k a c (i + 1)
    · exact Or.inl rfl
theorem wis_01 (k a e : Nat) : wis T n k a e = 0 ∨ wis T n k a e = 1 := by
  unfold wis
  split
  · exact mwd_01 k a _ _
  · exact Or.inl rfl
/-- the end of the letters from a on -/
def wen (T : Nat → Int) (n : Nat) : Nat → Nat → Nat
  | 0, a => a
  | f + 1, a => if 97 ≤ nx T n a ∧ nx T n a ≤ 122 then wen T n f (a + 1) else a
def wrd (T : Nat → Int) (n a e : Nat) : Int := if wis T n 0 a e ≠ 0 then 0 else if wis T n 1 a e ≠ 0 then 1 else if wis T n 2 a e ≠ 0 then 2 else if wis T n 3 a e ≠ 0 then 3 else -1
theorem wen_ok (hT : okT T n) : ∀ (f a : Nat), a ≤ n → n ≤ a + f → a ≤ wen T n f a ∧ wen T n f a ≤ n ∧ ¬ (97 ≤ nx T n (wen T n f a) ∧ nx T n (wen T n f a) ≤ 122)
  | 0, a, ha, hf => by
    refine ⟨Nat.le_refl a, ha, fun z => ?_⟩
    have := (nx_ok hT a).2.2.2 (by have : 97 ≤ nx T n a := z.1; omega)
    omega
  | f + 1, a, ha, hf => by
    unfold wen
    by_cases c : 97 ≤ nx T n a ∧ nx T n a ≤ 122
    · have h1 := (nx_ok hT a).2.2.2 (by omega)
      rw [if_pos c]
      obtain ⟨q1, q2, q3⟩ := wen_ok hT f (a + 1) (by omega) (by omega)
      exact ⟨by omega, q2, q3⟩
    · rw [if_neg c]; exact ⟨Nat.le_refl a, ha, c⟩
theorem wrd_ok (a e : Nat) : (wrd T n a e = -1 ∨ (0 ≤ wrd T n a e ∧ wrd T n a e ≤ 3 ∧ a + 3 ≤ e)) := by
  have hw : ∀ k, k < 4 → wis T n k a e ≠ 0 → a + 3 ≤ e := fun k hk h => by
    unfold wis at h
    have := jsl_4 k hk
    by_cases c : e = a + jsl k
    · omega
    · rw [if_neg c] at h; exact absurd rfl h
  unfold wrd
  by_cases c0 : wis T n 0 a e ≠ 0
  · rw [if_pos c0]; exact Or.inr ⟨by omega, by omega, hw 0 (by omega) c0⟩
  rw [if_neg c0]
  by_cases c1 : wis T n 1 a e ≠ 0
  · rw [if_pos c1]; exact Or.inr ⟨by omega, by omega, hw 1 (by omega) c1⟩
  rw [if_neg c1]
  by_cases c2 : wis T n 2 a e ≠ 0
  · rw [if_pos c2]; exact Or.inr ⟨by omega, by omega, hw 2 (by omega) c2⟩
  rw [if_neg c2]
  by_cases c3 : wis T n 3 a e ≠ 0
  · rw [if_pos c3]; exact Or.inr ⟨by omega, by omega, hw 3 (by omega) c3⟩
  rw [if_neg c3]; exact Or.inl rfl
theorem sj_101 (hT : okT T n) {s : jM} {a e : Nat} (h : CP T n s (a, 0)) (k : Nat) (hk : k < 4) (he : e ≤ n) : ∀ c i, i + c = jsl k → je 101 17 [some (.inr (3, 0)), some (.inr (73, k)), some (.inl (e : Int)), some (.inl (i : Int))] [] s = some (some (.inl (mwd T n k a c i)), s)
  | 0, i, hi => by
    rw [be_101_17, sq_301 k hk, jbI_s, if_neg (by omega)]
    rfl
  | c + 1, i, hi => by
    have h3 : s 3 0 3 = (a : Int) := h.2.2.1
    have ha : a ≤ n := h.2.2.2.2.2
    have hn := hT.1
    have hl := jsl_4 k hk
    rw [be_101_17, sq_301 k hk, jbI_s, if_pos (by omega), h3, jwn (x := (a : Int) + i) (n := a + i) (by omega) (by omega), sq_136 hT h (a + i), jbI_s, sq_302 k i hk (by omega), jbI_s, jwn (x := (i : Int) + 1) (n := i + 1) (by omega) (by omega)]
    unfold mwd
    by_cases c1 : nx T n (a + i) = jsb k i
    · rw [if_pos c1, if_pos c1]
      exact sj_101 hT h k hk he c (i + 1) (by omega)
    · rw [if_neg c1, if_neg c1]
theorem sq_101 (hT : okT T n) {s : jM} {a e : Nat} (h : CP T n s (a, 0)) (k : Nat) (hk : k < 4) (hae : a ≤ e) (he : e ≤ n) : jq 101 [.inr (3, 0), .inr (73, k), .inl (e : Int)] s = some (some (.inl (wis T n k a e)), s) := by
  have h3 : s 3 0 3 = (a : Int) := h.2.2.1
  have hn := hT.1
  have hl := jsl_4 k hk
  rw [bq_101, sq_301 k hk, jbI_s, h3, jwi (x := (e : Int) - a) (by omega) (by omega)]
  unfold wis
  by_cases c : e = a + jsl k
  · rw [if_pos (by omega), if_pos c]
    exact sj_101 hT h k hk he (jsl k) 0 (by omega)
  · rw [if_neg (by omega), if_neg c]
theorem sq_100 (hT : okT T n) {s : jM} {a e : Nat} (h : CP T n s (a, 0)) (hae : a ≤ e) (he : e ≤ n) : jq 100 [.inr (3, 0), .inl (e : Int)] s = some (some (.inl (wrd T n a e)), s) := by
  unfold wrd
  rw [bq_100, sq_101 hT h 0 (by omega) hae he, jbI_s]
  by_cases c0 : wis T n 0 a e = 0
  · rw [if_pos c0, if_neg (fun z => z c0), sq_101 hT h 1 (by omega) hae he, jbI_s]
    by_cases c1 : wis T n 1 a e = 0
    · rw [if_pos c1, if_neg (fun z => z c1), sq_101 hT h 2 (by omega) hae he, jbI_s]
      by_cases c2 : wis T n 2 a e = 0
      · rw [if_pos c2, if_neg (fun z => z c2), sq_101 hT h 3 (by omega) hae he, jbI_s]
        by_cases c3 : wis T n 3 a e = 0
        · rw [if_pos c3, if_neg (fun z => z c3)]
        · rw [if_neg c3, if_pos c3]
      · rw [if_neg c2, if_pos c2]
    · rw [if_neg c1, if_pos c1]
  · rw [if_neg c0, if_pos c0]
theorem sj_99 (hT : okT T n) {s : jM} {a : Nat} (h : CP T n s (a, 0)) : ∀ (f e : Nat) (o2 : Option jV), a ≤ e → e ≤ n → n ≤ e + f → je 99 5 [some (.inr (3, 0)), some (.inl (e : Int)), o2] [] s = some (some (.inl (wrd T n a (wen T n f e))), if wrd T n a (wen T n f e) = -1 then s else jup s 3 0 3 (wen T n f e : Int))
  | f, e, o2, hae, he, hf => by
    have h8 : s 8 0 1 = (n : Int) := h.1
    have hn := hT.1
    have fin : ∀ e : Nat, a ≤ e → e ≤ n → (jbI (jq 100 [.inr (3, 0), .inl (e : Int)] s) fun x2 s2 => if x2 = (-1) then some (some (.inl x2), s2) else some (some (.inl x2), (jup s2 3 0 3 (e : Int)))) = some (some (.inl (wrd T n a e)), if wrd T n a e = -1 then s else jup s 3 0 3 (e : Int)) := fun e h1 h2 => by
      rw [sq_100 hT h h1 h2, jbI_s]
      by_cases c : wrd T n a e = -1
      · rw [if_pos c, if_pos c]
      · rw [if_neg c, if_neg c]
    rw [be_99_5, h8]
    by_cases c1 : e < n
    · have q136 := sq_136 hT h e
      obtain ⟨g, rfl⟩ : ∃ g, f = g + 1 := ⟨f - 1, by omega⟩
      rw [if_pos (by omega), q136, jbI_s]
      have ew : wen T n (g + 1) e = if 97 ≤ nx T n e ∧ nx T n e ≤ 122 then wen T n g (e + 1) else e := rfl
      by_cases c2 : nx T n e < 97
      · rw [if_pos c2, ew, if_neg (by omega)]
        exact fin e hae he
      · rw [if_neg c2, q136, jbI_s]
        by_cases c3 : 122 < nx T n e
        · rw [if_pos c3, ew, if_neg (by omega)]
          exact fin e hae he
        · rw [if_neg c3, ew, if_pos (by omega), jwn (x := (e : Int) + 1) (n := e + 1) (by omega) (by omega)]
          exact sj_99 hT h g (e + 1) o2 (by omega) (by omega) (by omega)
    · have en : nx T n e = -1 := by unfold nx; rw [if_neg c1]
      have ew : wen T n f e = e := by
        cases f with
        | zero => rfl
        | succ g => show (if 97 ≤ nx T n e ∧ nx T n e ≤ 122 then wen T n g (e + 1) else e) = e; rw [if_neg (by omega)]
      rw [if_neg (by omega), ew]
      exact fin e hae he
/-- the end of the word at a, and the word -/
def we (T : Nat → Int) (n a : Nat) : Nat := wen T n 80 a
def ww (T : Nat → Int) (n a : Nat) : Int := wrd T n a (we T n a)
theorem sq_99 (hT : okT T n) {s : jM} {a : Nat} (h : CP T n s (a, 0)) : ∃ t, jq 99 [.inr (3, 0)] s = some (some (.inl (ww T n a)), t) ∧ T3 s t ∧ (ww T n a = -1 → CP T n t (a, 0)) ∧ (ww T n a ≠ -1 → CP T n t (we T n a, 0)) := by
  have h3 : s 3 0 3 = (a : Int) := h.2.2.1
  have ha : a ≤ n := h.2.2.2.2.2
  have hn := hT.1
  obtain ⟨w1, w2, w3⟩ := wen_ok hT 80 a ha (by omega)
  refine ⟨_, by rw [bq_99, h3]; exact sj_99 hT h 80 a none (Nat.le_refl a) ha (by omega), ?_, fun z => ?_, fun z => ?_⟩
  · split
    · exact T3_r s
    · exact fun k i j z => jup_n _ _ _ _ _ _ _ _ (by omega)
  · have z : wrd T n a (wen T n 80 a) = -1 := z
    rw [if_pos z]; exact h
  · have z : ¬ wrd T n a (wen T n 80 a) = -1 := z
    rw [if_neg z]
    obtain ⟨h1, h2, _, h4, h5, h6⟩ := h
    exact ⟨by rw [jup_n _ _ _ _ _ _ _ _ (by omega)]; exact h1, fun i hi => by rw [jup_n _ _ _ _ _ _ _ _ (by omega)]; exact h2 i hi, jup_e _ _ _ _ _, by rw [jup_n _ _ _ _ _ _ _ _ (by omega)]; exact h4, Or.inl rfl, w2⟩
/-- the parts of an act behind the word's end e -/
def A0 (T : Nat → Int) (n e : Nat) : (Nat × Int) × Int := pf T n (pw T n 32 (e, 0))
def Aq (T : Nat → Int) (n e : Nat) : Nat × Int := pw T n 32 (pw T n 61 (pw T n 32 (A0 T n e).1))
def cm (T : Nat → Int) (n : Nat) (p : Nat × Int) : Nat × Int := pw T n 32 (pw T n 44 (pw T n 32 p))
def L1 (T : Nat → Int) (n e : Nat) : (Nat × Int) × Int := pfs T n (Aq T n e)
def L2 (T : Nat → Int) (n e : Nat) : (Nat × Int) × Int := pfs T n (cm T n (L1 T n e).1)
def L3 (T : Nat → Int) (n e : Nat) : (Nat × Int) × Int := pfs T n (cm T n (L2 T n e).1)
def B1 (T : Nat → Int) (n e : Nat) : (Nat × Int) × Int := pf T n (pw T n 32 (A0 T n e).1)
def B2 (T : Nat → Int) (n e : Nat) : (Nat × Int) × Int := pfs T n (pw T n 32 (B1 T n e).1)
/-- the sum of a form act, and where the act ends -/
def Sm (T : Nat → Int) (n e : Nat) : List (Int × Int × Int × Int × Int) × (Nat × Int) := if (Aq T n e).2 = 0 then psm T n 81 (Aq T n e).1 1 else ([], Aq T n e)
def pe (T : Nat → Int) (n : Nat) (w : Int) (e : Nat) : Nat × Int := if w = 0 then (Sm T n e).2 else if w = 1 then (L3 T n e).1 else if w = 2 then (B2 T n e).1 else (B1 T n e).1
/-- where an act that begins at a ends -/
def pa (T : Nat → Int) (n a : Nat) : Nat × Int := if ww T n a = -1 then (a, 1) else pe T n (ww T n a) (we T n a)
theorem sq_105 (hT : okT T n) {s : jM} {p : Nat × Int} (h : CP T n s p) : ∃ t, jq 105 [.inr (3, 0)] s = some (none, t) ∧ CP T n t (pw T n 32 (pw T n 61 (pw T n 32 p))) ∧ T3 s t := by
  obtain ⟨a, a1, a2, a3⟩ := sq_98 hT h 32 (by decide)
  obtain ⟨b, b1, b2, b3⟩ := sq_98 hT a2 61 (by decide)
  obtain ⟨c, c1, c2, c3⟩ := sq_98 hT b2 32 (by decide)
  exact ⟨c, by rw [bq_105, a1, jbV_s, b1, jbV_s, c1, jbV_s], c2, T3_t a3 (T3_t b3 c3)⟩
theorem sq_106 (hT : okT T n) {s : jM} {p : Nat × Int} (h : CP T n s p) : ∃ t, jq 106 [.inr (3, 0)] s = some (none, t) ∧ CP T n t (cm T n p) ∧ T3 s t := by
  obtain ⟨a, a1, a2, a3⟩ := sq_98 hT h 32 (by decide)
  obtain ⟨b, b1, b2, b3⟩ := sq_98 hT a2 44 (by decide)
  obtain ⟨c, c1, c2, c3⟩ := sq_98 hT b2 32 (by decide)
  exact ⟨c, by rw [bq_106, a1, jbV_s, b1, jbV_s, c1, jbV_s], c2, T3_t a3 (T3_t b3 c3)⟩
/-- faults stay -/
theorem pw_bad {c : Int} {p : Nat × Int} (h : (pw T n c p).2 = 0) : p.2 = 0 := by
  unfold pw at h
  by_cases z : p.2 = 0
  · exact z
  · rw [if_neg z] at h; exact h
theorem pf_bad {p : Nat × Int} (h : (pf T n p).1.2 = 0) : p.2 = 0 := by
  unfold pf at h
  by_cases z : p.2 = 0 ∧ 48 ≤ nx T n p.1 ∧ nx T n p.1 ≤ 57
  · exact z.1
  · rw [if_neg z] at h; exact absurd h (by show ¬ (1 : Int) = 0; decide)
theorem pfs_bad {p : Nat × Int} (h : (pfs T n p).1.2 = 0) : p.2 = 0 := by
  unfold pfs at h
  by_cases z : p.2 = 0 ∧ 48 ≤ nx T n p.1 ∧ nx T n p.1 ≤ 57
  · exact z.1
  · rw [if_neg z] at h; exact absurd h (by show ¬ (1 : Int) = 0; decide)
theorem cm_bad {p : Nat × Int} (h : (cm T n p).2 = 0) : p.2 = 0 := pw_bad (pw_bad (pw_bad h))
theorem sq_107 (hT : okT T n) {s : jM} {e : Nat} (h : CP T n s (e, 0)) : ∃ t, jq 107 [.inr (3, 0)] s = some (none, t) ∧ CP T n t (L3 T n e).1 ∧ T31 s t ∧ ((L3 T n e).1.2 = 0 → t 19 0 0 = (A0 T n e).2 ∧ t 19 0 1 = (L1 T n e).2 ∧ t 19 0 2 = (L2 T n e).2 ∧ t 19 0 3 = (L3 T n e).2) := by
  obtain ⟨a, a1, a2, a3, a4, a5⟩ := sq_102 hT h 0 (by omega)
  have a2 : CP T n a (A0 T n e).1 := a2
  obtain ⟨b, b1, b2, b3⟩ := sq_105 hT a2
  have b2 : CP T n b (Aq T n e) := b2
  obtain ⟨c, c1, c2, c3, c4, c5⟩ := sq_103 hT b2 1 (by omega)
  have c2 : CP T n c (L1 T n e).1 := c2
  obtain ⟨d, d1, d2, d3⟩ := sq_106 hT c2
  obtain ⟨f, f1, f2, f3, f4, f5⟩ := sq_103 hT d2 2 (by omega)
  have f2 : CP T n f (L2 T n e).1 := f2
  obtain ⟨g, g1, g2, g3⟩ := sq_106 hT f2
  obtain ⟨k, k1, k2, k3, k4, k5⟩ := sq_103 hT g2 3 (by omega)
  refine ⟨k, ?_, k2, T31_t a3 (T31_t (T3_31 b3) (T31_t c3 (T31_t (T3_31 d3) (T31_t f3 (T31_t (T3_31 g3) k3))))), fun z => ?_⟩
  · rw [bq_107, show (.inl 0 : jV) = .inl ((0 : Nat) : Int) from rfl, a1, jbV_s, b1, jbV_s, show jq 103 [.inr (3, 0), .inl 1] b = jq 103 [.inr (3, 0), .inl ((1 : Nat) : Int)] b from rfl, c1, jbV_s, d1, jbV_s, show jq 103 [.inr (3, 0), .inl 2] d = jq 103 [.inr (3, 0), .inl ((2 : Nat) : Int)] d from rfl, f1, jbV_s, g1, jbV_s, show jq 103 [.inr (3, 0), .inl 3] g = jq 103 [.inr (3, 0), .inl ((3 : Nat) : Int)] g from rfl, k1, jbV_s]
  · have z3 : (cm T n (L2 T n e).1).2 = 0 := pfs_bad z
    have z2 : (L2 T n e).1.2 = 0 := cm_bad z3
    have z1 : (cm T n (L1 T n e).1).2 = 0 := pfs_bad z2
    have z0 : (L1 T n e).1.2 = 0 := cm_bad z1
    have zq : (Aq T n e).2 = 0 := pfs_bad z0
    have za : (A0 T n e).1.2 = 0 := pw_bad (pw_bad (pw_bad zq))
    refine ⟨?_, ?_, ?_, k5 z⟩
    · rw [k4 0 (by omega), g3 _ _ _ (by omega), f4 0 (by omega), d3 _ _ _ (by omega), c4 0 (by omega), b3 _ _ _ (by omega)]
      exact a5 za
    · rw [k4 1 (by omega), g3 _ _ _ (by omega), f4 1 (by omega), d3 _ _ _ (by omega)]
      exact c5 z0
    · rw [k4 2 (by omega), g3 _ _ _ (by omega)]
      exact f5 z2
/-- what the class' reader may write -/
def TA (s t : jM) : Prop := ∀ k i j, ¬ (k = 3 ∨ k = 19 ∨ (k = 1 ∨ k = 16) ∧ i = 45) → t k i j = s k i j
theorem TA_t {s t u : jM} (h : TA s t) (h2 : TA t u) : TA s u := fun k i j z => (h2 k i j z).trans (h k i j z)
theorem T31_A {s t : jM} (h : T31 s t) : TA s t := fun k i j z => h k i j (by omega)
theorem TS_A {s t : jM} (h : TS s t) : TA s t := fun k i j z => h k i j (by omega)
theorem sq_108 (hT : okT T n) {s : jM} {e : Nat} (h : CP T n s (e, 0)) : ∃ t, jq 108 [.inr (3, 0)] s = some (none, t) ∧ CE T n t (Sm T n e).2 ∧ TA s t ∧ t 3 0 5 = s 3 0 5 ∧ ((Sm T n e).2.2 = 0 → t 19 0 0 = (A0 T n e).2 ∧ CS t (Sm T n e).1) := by
  obtain ⟨a, a1, a2, a3, a4, a5⟩ := sq_102 hT h 0 (by omega)
  have a2 : CP T n a (A0 T n e).1 := a2
  obtain ⟨b, b1, b2, b3⟩ := sq_105 hT a2
  have b2 : CP T n b (Aq T n e) := b2
  have b4 : CP T n (jup (jup b 3 0 6 (-1)) 3 0 7 0) (Aq T n e) := CP_c b2 (fun k i j z => by rw [jup_n _ _ _ _ _ _ _ _ (by omega), jup_n _ _ _ _ _ _ _ _ (by omega)])
  have b5 : CS (jup (jup b 3 0 6 (-1)) 3 0 7 0) [] := ⟨by rw [jup_n _ _ _ _ _ _ _ _ (by omega), jup_e], jup_e _ _ _ _ _⟩
  have b6 : TA s (jup (jup b 3 0 6 (-1)) 3 0 7 0) := fun k i j z => by
    rw [jup_n _ _ _ _ _ _ _ _ (by omega), jup_n _ _ _ _ _ _ _ _ (by omega), b3 _ _ _ (by omega)]
    exact a3 _ _ _ (by omega)
  have b7 : (A0 T n e).1.2 = 0 → jup (jup b 3 0 6 (-1)) 3 0 7 0 19 0 0 = (A0 T n e).2 := fun z => by
    rw [jup_n _ _ _ _ _ _ _ _ (by omega), jup_n _ _ _ _ _ _ _ _ (by omega), b3 _ _ _ (by omega)]
    exact a5 z
  have a1' : jq 102 [.inr (3, 0), .inl 0] s = some (none, a) := a1
  have b108 : jq 108 [.inr (3, 0)] s = jbV (jq 109 [.inr (3, 0), .inl 1] (jup (jup b 3 0 6 (-1)) 3 0 7 0)) fun s3 => je 108 26 [some (.inr (3, 0)), some (.inl 0), none] [] s3 := by
    rw [bq_108, a1', jbV_s, b1, jbV_s]
  have b8 : jup (jup b 3 0 6 (-1)) 3 0 7 0 3 0 5 = s 3 0 5 := by rw [jup_n _ _ _ _ _ _ _ _ (by omega), jup_n _ _ _ _ _ _ _ _ (by omega), b3 _ _ _ (by omega), a3 _ _ _ (by omega)]
  generalize jup (jup b 3 0 6 (-1)) 3 0 7 0 = c at *
  have hn := hT.1
  unfold Sm
  by_cases c0 : (Aq T n e).2 = 0
  · have hq := pz0 c0
    have hqn : (Aq T n e).1 ≤ n := b4.2.2.2.2.2
    obtain ⟨t, t1, t2, t3, t4⟩ := sj_108 hT 81 (Aq T n e).1 1 0 c none [] (by omega) (by omega) (Or.inl rfl) (by rw [← hq]; exact b4) (fun y hy => absurd hy (by simp)) b5
    have t1 : (jbV (jq 109 [.inr (3, 0), .inl 1] c) fun s3 => je 108 26 [some (.inr (3, 0)), some (.inl 0), none] [] s3) = some (none, t) := t1
    rw [if_pos c0, b108, t1]
    refine ⟨t, rfl, t3, TA_t b6 (TS_A t2), (t2 _ _ _ (by omega)).trans b8, fun z => ⟨?_, t4 z⟩⟩
    rw [t2 _ _ _ (by omega)]
    exact b7 (pw_bad (pw_bad (pw_bad c0)))
  · have hq := CP_bad b4 c0
    obtain ⟨t, t1, t2, t3⟩ := sq_109b hT (a := (Aq T n e).1) 1 (by rw [← hq]; exact b4)
    rw [← hq] at t2
    have q43 := sq_96 hT t2 43 (by decide)
    have q45 := sq_96 hT t2 45 (by decide)
    rw [if_neg c0, b108, t1, jbV_s, be_108_26, if_pos (by decide), q43, jbI_s, bI_f (fun z => c0 z.1), if_pos rfl, q45, jbI_s, bI_f (fun z => c0 z.1), if_pos rfl]
    exact ⟨t, rfl, Or.inl t2, TA_t b6 (fun k i j z => t3 _ _ _ (by omega)), (t3 _ _ _ (by omega)).trans b8, fun z => absurd z c0⟩
end
