/-! THE CLASS' TABLE -/
def tref (s : jM) (i : Nat) : Nat := (s 24 0 i).toNat % 21
/-- the table as the class reads it -/
def LA (s : jM) (i j : Nat) : Int := s 25 ((s 24 0 i).toNat % 21) j
def T5 (s t : jM) : Prop := ∀ k i j, k ≠ 25 → t k i j = s k i j
theorem T5_r (s : jM) : T5 s s := fun _ _ _ _ => rfl
theorem T5_t {s t u : jM} (h : T5 s t) (h2 : T5 t u) : T5 s u := fun k i j z => (h2 k i j z).trans (h k i j z)
theorem T5_ti {s t : jM} (h : T5 s t) (hT : TI s) : TI t := TI_cg (fun j => h 24 0 j (by omega)) hT
theorem LA_up {s : jM} (hT : TI s) (i j : Nat) (hi : i < 21) (v : Int) (a b : Nat) (ha : a < 21) : LA (jup s 25 ((s 24 0 i).toNat % 21) j v) a b = if a = i ∧ b = j then v else LA s a b := by
  unfold LA
  rw [jup_n s 25 _ _ _ 24 _ _ (by omega)]
  by_cases h : a = i ∧ b = j
  · rw [if_pos h, h.1, h.2, jup_e]
  · rw [if_neg h, jup_n _ _ _ _ _ _ _ _ (fun z => h ⟨hT a ha i hi z.2.1, z.2.2⟩)]
theorem T5_up (s : jM) (i j : Nat) (v : Int) : T5 s (jup s 25 i j v) := fun k a b z => jup_n _ _ _ _ _ _ _ _ (by omega)
theorem sj_123b (h w i : Nat) (v1 v2 : Int) (hi : i < h) (hh : h ≤ 21) (hw : w ≤ 21) : ∀ c j s, j + c = w → TI s → s 7 0 2 = (h : Int) → s 7 0 3 = (w : Int) → ∃ t, je 123 41 [some (.inr (7, 0)), some (.inl v1), some (.inl v2), some (.inl (i : Int)), some (.inl (j : Int))] [] s = je 123 30 [some (.inr (7, 0)), some (.inl v1), some (.inl v2), some (.inl ((i + 1 : Nat) : Int)), some (.inl (w : Int))] [] t ∧ T5 s t ∧ ∀ a, a < 21 → ∀ b, LA t a b = if a = i ∧ j ≤ b ∧ b < w then 0 else LA s a b
  | 0, j, s, hj, hT, e2, e3 => by
    refine ⟨s, ?_, T5_r s, fun a ha b => ?_⟩
    · rw [be_123_41, e3, if_neg (by omega), jwn (x := (i : Int) + 1) (n := i + 1) (by omega) (by omega), show j = w by omega]
    · rw [if_neg (by omega)]
  | c + 1, j, s, hj, hT, e2, e3 => by
    have T1 := T5_up s ((s 24 0 i).toNat % 21) j 0
    obtain ⟨t, t1, t2, t3⟩ := sj_123b h w i v1 v2 hi hh hw c (j + 1) (jup s 25 ((s 24 0 i).toNat % 21) j 0) (by omega) (T5_ti T1 hT) (by rw [T1 _ _ _ (by omega)]; exact e2) (by rw [T1 _ _ _ (by omega)]; exact e3)
    refine ⟨t, ?_, T5_t T1 t2, fun a ha b => ?_⟩
    · rw [be_123_41, e3, if_pos (by omega), if_pos (by omega), if_pos (by omega), Int.toNat_natCast, Int.toNat_natCast, jwn (x := (j : Int) + 1) (n := j + 1) (by omega) (by omega)]
      exact t1
    · rw [t3 a ha b, LA_up hT i j (by omega) 0 a b ha]
      by_cases c1 : a = i ∧ j + 1 ≤ b ∧ b < w
      · rw [if_pos c1, if_pos (by omega)]
      · rw [if_neg c1]
        by_cases c2 : a = i ∧ b = j
        · rw [if_pos c2, if_pos (by omega)]
        · rw [if_neg c2, if_neg (by omega)]
theorem sj_123a (h w : Nat) (v1 v2 : Int) (hh : h ≤ 21) (hw : w ≤ 21) : ∀ c i s o4, i + c = h → TI s → s 7 0 2 = (h : Int) → s 7 0 3 = (w : Int) → ∃ t, je 123 30 [some (.inr (7, 0)), some (.inl v1), some (.inl v2), some (.inl (i : Int)), o4] [] s = some (none, t) ∧ T5 s t ∧ ∀ a, a < 21 → ∀ b, LA t a b = if i ≤ a ∧ a < h ∧ b < w then 0 else LA s a b
  | 0, i, s, o4, hi, hT, e2, e3 => by
    refine ⟨s, ?_, T5_r s, fun a ha b => ?_⟩
    · rw [be_123_30, e2, if_neg (by omega)]
    · rw [if_neg (by omega)]
  | c + 1, i, s, o4, hi, hT, e2, e3 => by
    obtain ⟨u, u1, u2, u3⟩ := sj_123b h w i v1 v2 (by omega) hh hw w 0 s (by omega) hT e2 e3
    obtain ⟨t, t1, t2, t3⟩ := sj_123a h w v1 v2 hh hw c (i + 1) u (some (.inl (w : Int))) (by omega) (T5_ti u2 hT) (by rw [u2 _ _ _ (by omega)]; exact e2) (by rw [u2 _ _ _ (by omega)]; exact e3)
    refine ⟨t, ?_, T5_t u2 t2, fun a ha b => ?_⟩
    · rw [be_123_30, e2, if_pos (by omega)]
      exact u1.trans t1
    · rw [t3 a ha b, u3 a ha b]
      by_cases c1 : i + 1 ≤ a ∧ a < h ∧ b < w
      · rw [if_pos c1, if_pos (by omega)]
      · rw [if_neg c1]
        by_cases c2 : a = i ∧ 0 ≤ b ∧ b < w
        · rw [if_pos c2, if_pos (by omega)]
        · rw [if_neg c2, if_neg (by omega)]
theorem sq_123 (s : jM) (h w : Nat) (hh : h ≤ 21) (hw : w ≤ 21) (hT : TI s) : ∃ t, jq 123 [.inr (7, 0), .inl (h : Int), .inl (w : Int)] s = some (none, t) ∧ t 7 0 2 = (h : Int) ∧ t 7 0 3 = (w : Int) ∧ TI t ∧ (∀ k i j, k ≠ 7 → k ≠ 25 → t k i j = s k i j) ∧ ∀ a, a < 21 → ∀ b, LA t a b = if a < h ∧ b < w then 0 else LA s a b := by
  have e1 : (if 21 < (if (h : Int) < 0 then 0 else (h : Int)) then 21 else if (h : Int) < 0 then 0 else (h : Int)) = (h : Int) := by
    rw [if_neg (show ¬ (h : Int) < 0 by omega), if_neg (by omega)]
  have e2 : (if 21 < (if (w : Int) < 0 then 0 else (w : Int)) then 21 else if (w : Int) < 0 then 0 else (w : Int)) = (w : Int) := by
    rw [if_neg (show ¬ (w : Int) < 0 by omega), if_neg (by omega)]
  have hU : ∀ k i j, k ≠ 7 → jup (jup s 7 0 2 (h : Int)) 7 0 3 (w : Int) k i j = s k i j := fun k i j z => by rw [jup_n _ _ _ _ _ _ _ _ (by omega), jup_n _ _ _ _ _ _ _ _ (by omega)]
  have h2 : jup (jup s 7 0 2 (h : Int)) 7 0 3 (w : Int) 7 0 2 = (h : Int) := by rw [jup_n _ _ _ _ _ _ _ _ (by omega), jup_e]
  have h3 : jup (jup s 7 0 2 (h : Int)) 7 0 3 (w : Int) 7 0 3 = (w : Int) := jup_e _ _ _ _ _
  obtain ⟨t, t1, t2, t3⟩ := sj_123a h w h w hh hw h 0 (jup (jup s 7 0 2 (h : Int)) 7 0 3 (w : Int)) none (by omega) (TI_cg (fun j => hU 24 0 j (by omega)) hT) h2 h3
  refine ⟨t, ?_, ?_, ?_, T5_ti t2 (TI_cg (fun j => hU 24 0 j (by omega)) hT), fun k i j z z2 => ?_, fun a ha b => ?_⟩
  · rw [bq_123, e1, e2]
    exact t1
  · rw [t2 _ _ _ (by omega), h2]
  · rw [t2 _ _ _ (by omega), h3]
  · rw [t2 _ _ _ z2, hU _ _ _ z]
  · rw [t3 a ha b]
    have : LA (jup (jup s 7 0 2 (h : Int)) 7 0 3 (w : Int)) a b = LA s a b := by unfold LA; rw [hU _ _ _ (by omega), hU _ _ _ (by omega)]
    rw [this]
    by_cases c : a < h ∧ b < w
    · rw [if_pos c, if_pos (by omega)]
    · rw [if_neg c, if_neg (by omega)]
theorem sq_124 (s : jM) (h w i j : Nat) (v : Int) (hh : h ≤ 21) (hw : w ≤ 21) (e2 : s 7 0 2 = (h : Int)) (e3 : s 7 0 3 = (w : Int)) (hi : i < h) (hj : j < w) : jq 124 [.inr (7, 0), .inl (i : Int), .inl (j : Int), .inl v] s = some (none, jup s 25 ((s 24 0 i).toNat % 21) j v) := by
  rw [bq_124, e2, sq_38, jbI_s, bI_t (by omega), if_neg (by decide), e3, sq_38, jbI_s, bI_t (by omega), if_neg (by decide), if_pos (by omega), if_pos (by omega), Int.toNat_natCast, Int.toNat_natCast]
theorem sq_128 (s : jM) (h j r : Nat) (hh : h ≤ 21) (hj : j < 21) (hr : r ≤ h) (e2 : s 7 0 2 = (h : Int)) : ∃ x, jq 128 [.inr (7, 0), .inl (j : Int), .inl (r : Int)] s = some (some (.inl x), s) ∧ ((x = -1 ∧ ∀ i, r ≤ i → i < h → LA s i j = 0) ∨ ∃ i : Nat, x = (i : Int) ∧ r ≤ i ∧ i < h ∧ LA s i j ≠ 0) := by
  rw [bq_128]
  have key : ∀ c i, i + c = h → r ≤ i → (∀ m, r ≤ m → m < i → LA s m j = 0) → ∃ x, je 128 2 [some (.inr (7, 0)), some (.inl (j : Int)), some (.inl (r : Int)), some (.inl (i : Int))] [] s = some (some (.inl x), s) ∧ ((x = -1 ∧ ∀ i, r ≤ i → i < h → LA s i j = 0) ∨ ∃ i : Nat, x = (i : Int) ∧ r ≤ i ∧ i < h ∧ LA s i j ≠ 0) := by
    intro c
    induction c with
    | zero =>
      intro i hi hri hm
      refine ⟨-1, ?_, Or.inl ⟨rfl, fun m h1 h2 => hm m h1 (by omega)⟩⟩
      rw [be_128_2, e2, if_neg (by omega)]
    | succ c ih =>
      intro i hi hri hm
      have e : s 25 ((s 24 0 i).toNat % 21) j = LA s i j := rfl
      rw [be_128_2, e2, if_pos (by omega), if_pos (by omega), if_pos (by omega), Int.toNat_natCast, Int.toNat_natCast, e, jwn (x := (i : Int) + 1) (n := i + 1) (by omega) (by omega)]
      by_cases c0 : LA s i j = 0
      · rw [if_pos c0]
        refine ih (i + 1) (by omega) (by omega) (fun m h1 h2 => ?_)
        by_cases c1 : m = i
        · rw [c1]; exact c0
        · exact hm m h1 (by omega)
      · rw [if_neg c0]
        exact ⟨(i : Int), rfl, Or.inr ⟨i, rfl, hri, by omega, c0⟩⟩
  exact key (h - r) r (by omega) (Nat.le_refl r) (fun m h1 h2 => absurd h2 (by omega))
/-- the places that reduce() may write -/
def T4 (s t : jM) : Prop := ∀ k i j, k ≠ 24 → k ≠ 25 → k ≠ 26 → t k i j = s k i j
theorem T4_t {s t u : jM} (h : T4 s t) (h2 : T4 t u) : T4 s u := fun k i j z z2 z3 => (h2 k i j z z2 z3).trans (h k i j z z2 z3)
theorem T5_4 {s t : jM} (h : T5 s t) : T4 s t := fun k i j _ z _ => h k i j z
theorem sq_129 (s : jM) (i k : Nat) (hi : i < 21) (hk : k < 21) (hT : TI s) : ∃ t, jq 129 [.inr (7, 0), .inl (i : Int), .inl (k : Int)] s = some (none, t) ∧ TI t ∧ (∀ q a b, q ≠ 24 → t q a b = s q a b) ∧ ∀ a, a < 21 → ∀ b, LA t a b = if a = k then LA s i b else if a = i then LA s k b else LA s a b := by
  refine ⟨_, by rw [bq_129, if_pos (by omega), if_pos (by omega), if_pos (by omega), if_pos (by omega), Int.toNat_natCast, Int.toNat_natCast], ?_, fun q a b z => by rw [jup_n _ _ _ _ _ _ _ _ (by omega), jup_n _ _ _ _ _ _ _ _ (by omega)], ?_⟩
  all_goals
    have hr : ∀ a, (jup (jup s 24 0 i ((((s 24 0 k).toNat % 21 : Nat)) : Int)) 24 0 k ((((s 24 0 i).toNat % 21 : Nat)) : Int) 24 0 a).toNat % 21 = if a = k then (s 24 0 i).toNat % 21 else if a = i then (s 24 0 k).toNat % 21 else (s 24 0 a).toNat % 21 := fun a => by
      by_cases c1 : a = k
      · rw [if_pos c1, c1, jup_e, Int.toNat_natCast]; omega
      · rw [if_neg c1, jup_n _ _ _ _ _ _ _ _ (by omega)]
        by_cases c2 : a = i
        · rw [if_pos c2, c2, jup_e, Int.toNat_natCast]; omega
        · rw [if_neg c2, jup_n _ _ _ _ _ _ _ _ (by omega)]
  · intro a ha b hb hab
    rw [hr, hr] at hab
    by_cases c1 : a = k
    · rw [if_pos c1] at hab
      by_cases c2 : b = k
      · omega
      · rw [if_neg c2] at hab
        by_cases c3 : b = i
        · rw [if_pos c3] at hab
          have := hT i hi k hk hab
          omega
        · rw [if_neg c3] at hab
          exact absurd (hT i hi b hb hab) (by omega)
    · rw [if_neg c1] at hab
      by_cases c2 : b = k
      · rw [if_pos c2] at hab
        by_cases c3 : a = i
        · rw [if_pos c3] at hab
          have := hT k hk i hi hab
          omega
        · rw [if_neg c3] at hab
          exact absurd (hT a ha i hi hab) (by omega)
      · rw [if_neg c2] at hab
        by_cases c3 : a = i
        · rw [if_pos c3] at hab
          by_cases c4 : b = i
          · omega
          · rw [if_neg c4] at hab
            exact absurd (hT k hk b hb hab) (by omega)
        · rw [if_neg c3] at hab
          by_cases c4 : b = i
          · rw [if_pos c4] at hab
            exact absurd (hT a ha k hk hab) (by omega)
          · rw [if_neg c4] at hab
            exact hT a ha b hb hab
  · intro a ha b
    show jup (jup s 24 0 i _) 24 0 k _ 25 _ b = _
    rw [hr, jup_n _ _ _ _ _ _ _ _ (by omega), jup_n _ _ _ _ _ _ _ _ (by omega)]
    unfold LA
    by_cases c1 : a = k
    · rw [if_pos c1, if_pos c1]
    · rw [if_neg c1, if_neg c1]
      by_cases c2 : a = i
      · rw [if_pos c2, if_pos c2]
      · rw [if_neg c2, if_neg c2]
theorem sj_130 (w r q : Nat) (x : Int) (hr : r < 21) (hw : w ≤ 21) (hx : g101 x) : ∀ c j s, j + c = w → TI s → s 7 0 3 = (w : Int) → (∀ b, j ≤ b → b < w → g101 (LA s r b)) → ∃ t, je 130 17 [some (.inr (7, 0)), some (.inl (r : Int)), some (.inl (q : Int)), some (.inl x), some (.inl (j : Int))] [] s = some (none, t) ∧ T5 s t ∧ ∀ a, a < 21 → ∀ b, LA t a b = if a = r ∧ j ≤ b ∧ b < w then LA s a b * x % 101 else LA s a b
  | 0, j, s, hj, hT, e3, hg => by
    refine ⟨s, ?_, T5_r s, fun a ha b => ?_⟩
    · rw [be_130_17, e3, if_neg (by omega)]
    · rw [if_neg (by omega)]
  | c + 1, j, s, hj, hT, e3, hg => by
    have e : s 25 ((s 24 0 r).toNat % 21) j = LA s r j := rfl
    have hm := mul101 (hg j (by omega) (by omega)) hx
    have T1 := T5_up s ((s 24 0 r).toNat % 21) j (LA s r j * x % 101)
    have hL := LA_up hT r j hr (LA s r j * x % 101)
    obtain ⟨t, t1, t2, t3⟩ := sj_130 w r q x hr hw hx c (j + 1) (jup s 25 ((s 24 0 r).toNat % 21) j (LA s r j * x % 101)) (by omega) (T5_ti T1 hT) (by rw [T1 _ _ _ (by omega)]; exact e3) (fun b h1 h2 => by rw [hL r b hr, if_neg (by omega)]; exact hg b (by omega) h2)
    refine ⟨t, ?_, T5_t T1 t2, fun a ha b => ?_⟩
    · rw [be_130_17, e3, if_pos (by omega), if_pos (by omega), if_pos (by omega), if_pos (by omega), if_pos (by omega), Int.toNat_natCast, Int.toNat_natCast, e, jwn (x := (j : Int) + 1) (n := j + 1) (by omega) (by omega), jwi (by omega) (by omega), tm101 hm.1]
      exact t1
    · rw [t3 a ha b, hL a b ha]
      by_cases c1 : a = r ∧ j + 1 ≤ b ∧ b < w
      · rw [if_pos c1, if_neg (by omega), if_pos (by omega)]
      · rw [if_neg c1]
        by_cases c2 : a = r ∧ b = j
        · rw [if_pos c2, if_pos (by omega), c2.1, c2.2]
        · rw [if_neg c2, if_neg (by omega)]
theorem sq_130 (s : jM) (w r q : Nat) (hr : r < 21) (hq : q < w) (hw : w ≤ 21) (hT : TI s) (e3 : s 7 0 3 = (w : Int)) (hg : ∀ b, b < w → g101 (LA s r b)) : ∃ t, jq 130 [.inr (7, 0), .inl (r : Int), .inl (q : Int)] s = some (none, t) ∧ T5 s t ∧ ∀ a, a < 21 → ∀ b, LA t a b = if a = r ∧ q ≤ b ∧ b < w then LA s a b * rd (LA s r q) 99 % 101 else LA s a b := by
  have e : s 25 ((s 24 0 r).toNat % 21) q = LA s r q := rfl
  have h48 := sq_48 (LA s r q) (hg q hq) 99 (by omega) s
  obtain ⟨t, t1, t2, t3⟩ := sj_130 w r q (rd (LA s r q) 99) hr hw (rd_g _ _) (w - q) q s (by omega) hT e3 (fun b _ h => hg b h)
  refine ⟨t, ?_, t2, t3⟩
  rw [bq_130, if_pos (by omega), if_pos (by omega), Int.toNat_natCast, Int.toNat_natCast, e, show (.inl 99 : jV) = .inl ((99 : Nat) : Int) from rfl, h48, jbI_s]
  exact t1
theorem sj_131b (h w r q i : Nat) (x : Int) (hr : r < 21) (hi : i < h) (hir : i ≠ r) (hh : h ≤ 21) (hw : w ≤ 21) (hx : g101 x) : ∀ c j s, j + c = w → TI s → s 7 0 3 = (w : Int) → (∀ b, j ≤ b → b < w → g101 (LA s i b) ∧ g101 (LA s r b)) → ∃ t, je 131 36 [some (.inr (7, 0)), some (.inl (r : Int)), some (.inl (q : Int)), some (.inl (i : Int)), some (.inl x), some (.inl (j : Int))] [] s = je 131 2 [some (.inr (7, 0)), some (.inl (r : Int)), some (.inl (q : Int)), some (.inl ((i + 1 : Nat) : Int)), some (.inl x), some (.inl (w : Int))] [] t ∧ T5 s t ∧ ∀ a, a < 21 → ∀ b, LA t a b = if a = i ∧ j ≤ b ∧ b < w then (LA s i b + x * LA s r b) % 101 else LA s a b
  | 0, j, s, hj, hT, e3, hg => by
    refine ⟨s, ?_, T5_r s, fun a ha b => ?_⟩
    · rw [be_131_36, e3, if_neg (by omega), jwn (x := (i : Int) + 1) (n := i + 1) (by omega) (by omega), show j = w by omega]
    · rw [if_neg (by omega)]
  | c + 1, j, s, hj, hT, e3, hg => by
    have ei : s 25 ((s 24 0 i).toNat % 21) j = LA s i j := rfl
    have er : s 25 ((s 24 0 r).toNat % 21) j = LA s r j := rfl
    obtain ⟨g1, g2⟩ := hg j (by omega) (by omega)
    have hm := mul101 hx g2
    obtain ⟨g3, g4⟩ := g1
    have T1 := T5_up s ((s 24 0 i).toNat % 21) j ((LA s i j + x * LA s r j) % 101)
    have hL := LA_up hT i j (by omega) ((LA s i j + x * LA s r j) % 101)
    obtain ⟨t, t1, t2, t3⟩ := sj_131b h w r q i x hr hi hir hh hw hx c (j + 1) (jup s 25 ((s 24 0 i).toNat % 21) j ((LA s i j + x * LA s r j) % 101)) (by omega) (T5_ti T1 hT) (by rw [T1 _ _ _ (by omega)]; exact e3) (fun b h1 h2 => by rw [hL i b (by omega), hL r b hr, if_neg (by omega), if_neg (by omega)]; exact hg b (by omega) h2)
    refine ⟨t, ?_, T5_t T1 t2, fun a ha b => ?_⟩
    · rw [be_131_36, e3, if_pos (by omega), if_pos (by omega), if_pos (by omega), if_pos (by omega), if_pos (by omega), if_pos (by omega), if_pos (by omega), Int.toNat_natCast, Int.toNat_natCast, Int.toNat_natCast, ei, er, jwn (x := (j : Int) + 1) (n := j + 1) (by omega) (by omega), jwi (x := x * LA s r j) (by omega) (by omega), jwi (x := LA s i j + x * LA s r j) (by omega) (by omega), tm101 (by omega)]
      exact t1
    · rw [t3 a ha b, hL i b (by omega), hL r b hr, hL a b ha]
      by_cases c1 : a = i ∧ j + 1 ≤ b ∧ b < w
      · rw [if_pos c1, if_neg (by omega), if_neg (by omega), if_pos (by omega)]
      · rw [if_neg c1]
        by_cases c2 : a = i ∧ b = j
        · rw [if_pos c2, if_pos (by omega), c2.2]
        · rw [if_neg c2, if_neg (by omega)]
/-- what clearing a column leaves at a place -/
def clrA (B : Nat → Nat → Int) (r q a b : Nat) : Int := if B a q = 0 then B a b else (B a b + (101 - B a q) % 101 * B r b) % 101
theorem sj_131 (h w r q : Nat) (hr : r < h) (hq : q < w) (hh : h ≤ 21) (hw : w ≤ 21) : ∀ c i s o4 o5, i + c = h → TI s → s 7 0 2 = (h : Int) → s 7 0 3 = (w : Int) → (∀ a, a < h → ∀ b, b < w → g101 (LA s a b)) → ∃ t, je 131 2 [some (.inr (7, 0)), some (.inl (r : Int)), some (.inl (q : Int)), some (.inl (i : Int)), o4, o5] [] s = some (none, t) ∧ T5 s t ∧ ∀ a, a < 21 → ∀ b, LA t a b = if a ≠ r ∧ i ≤ a ∧ a < h ∧ q ≤ b ∧ b < w then clrA (LA s) r q a b else LA s a b
  | 0, i, s, o4, o5, hi, hT, e2, e3, hg => by
    refine ⟨s, ?_, T5_r s, fun a ha b => ?_⟩
    · rw [be_131_2, e2, if_neg (by omega)]
    · rw [if_neg (by omega)]
  | c + 1, i, s, o4, o5, hi, hT, e2, e3, hg => by
    have ei : s 25 ((s 24 0 i).toNat % 21) q = LA s i q := rfl
    have hgi := hg i (by omega) q hq
    obtain ⟨g1, g2⟩ := id hgi
    rw [be_131_2, e2, if_pos (by omega), if_pos (by omega), if_pos (by omega), Int.toNat_natCast, Int.toNat_natCast, ei, sq_49 _ hgi, jbI_s, jwn (x := (i : Int) + 1) (n := i + 1) (by omega) (by omega)]
    by_cases c1 : i = r
    · rw [if_pos (by omega)]
      obtain ⟨t, t1, t2, t3⟩ := sj_131 h w r q hr hq hh hw c (i + 1) s (some (.inl ((101 - LA s i q) % 101))) o5 (by omega) hT e2 e3 hg
      refine ⟨t, t1, t2, fun a ha b => ?_⟩
      rw [t3 a ha b]
      by_cases c2 : a ≠ r ∧ i + 1 ≤ a ∧ a < h ∧ q ≤ b ∧ b < w
      · rw [if_pos c2, if_pos (by omega)]
      · rw [if_neg c2, if_neg (by omega)]
    · rw [if_neg (by omega)]
      by_cases c0 : LA s i q = 0
      · rw [if_pos (by omega)]
        obtain ⟨t, t1, t2, t3⟩ := sj_131 h w r q hr hq hh hw c (i + 1) s (some (.inl ((101 - LA s i q) % 101))) o5 (by omega) hT e2 e3 hg
        refine ⟨t, t1, t2, fun a ha b => ?_⟩
        rw [t3 a ha b]
        by_cases c2 : a ≠ r ∧ i + 1 ≤ a ∧ a < h ∧ q ≤ b ∧ b < w
        · rw [if_pos c2, if_pos (by omega)]
        · rw [if_neg c2]
          by_cases c3 : a ≠ r ∧ i ≤ a ∧ a < h ∧ q ≤ b ∧ b < w
          · rw [if_pos c3, show a = i by omega]
            unfold clrA
            rw [if_pos c0]
          · rw [if_neg c3]
      · rw [if_neg (by omega)]
        obtain ⟨u, u1, u2, u3⟩ := sj_131b h w r q i ((101 - LA s i q) % 101) (by omega) (by omega) c1 hh hw (em101 _) (w - q) q s (by omega) hT e3 (fun b _ hb => ⟨hg i (by omega) b hb, hg r hr b hb⟩)
        obtain ⟨t, t1, t2, t3⟩ := sj_131 h w r q hr hq hh hw c (i + 1) u (some (.inl ((101 - LA s i q) % 101))) (some (.inl (w : Int))) (by omega) (T5_ti u2 hT) (by rw [u2 _ _ _ (by omega)]; exact e2) (by rw [u2 _ _ _ (by omega)]; exact e3) (fun a ha b hb => by
          rw [u3 a (by omega) b]
          split
          · exact em101 _
          · exact hg a ha b hb)
        refine ⟨t, u1.trans t1, T5_t u2 t2, fun a ha b => ?_⟩
        rw [t3 a ha b]
        by_cases c2 : a ≠ r ∧ i + 1 ≤ a ∧ a < h ∧ q ≤ b ∧ b < w
        · rw [if_pos c2, if_pos (by omega)]
          unfold clrA
          rw [u3 a ha q, u3 a ha b, u3 r (by omega) b, if_neg (show ¬ (a = i ∧ q ≤ q ∧ q < w) by omega), if_neg (show ¬ (a = i ∧ q ≤ b ∧ b < w) by omega), if_neg (show ¬ (r = i ∧ q ≤ b ∧ b < w) by omega)]
        · rw [if_neg c2, u3 a ha b]
          by_cases c3 : a = i ∧ q ≤ b ∧ b < w
          · rw [if_pos c3, if_pos (by omega), c3.1]
            unfold clrA
            rw [if_neg c0]
          · rw [if_neg c3, if_neg (by omega)]
theorem sq_131 (s : jM) (h w r q : Nat) (hr : r < h) (hq : q < w) (hh : h ≤ 21) (hw : w ≤ 21) (hT : TI s) (e2 : s 7 0 2 = (h : Int)) (e3 : s 7 0 3 = (w : Int)) (hg : ∀ a, a < h → ∀ b, b < w → g101 (LA s a b)) : ∃ t, jq 131 [.inr (7, 0), .inl (r : Int), .inl (q : Int)] s = some (none, t) ∧ T5 s t ∧ ∀ a, a < 21 → ∀ b, LA t a b = if a ≠ r ∧ a < h ∧ q ≤ b ∧ b < w then clrA (LA s) r q a b else LA s a b := by
  obtain ⟨t, t1, t2, t3⟩ := sj_131 h w r q hr hq hh hw h 0 s none none (by omega) hT e2 e3 hg
  refine ⟨t, by rw [bq_131]; exact t1, t2, fun a ha b => ?_⟩
  rw [t3 a ha b]
  by_cases c : a ≠ r ∧ a < h ∧ q ≤ b ∧ b < w
  · rw [if_pos c, if_pos (by omega)]
  · rw [if_neg c, if_neg (by omega)]
