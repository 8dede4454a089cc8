/-! WEIGHT: the call -/
theorem sq_88 (x : Int) (hx : x = 101 ∨ ∃ m : Nat, x = (m : Int) ∧ m < 101) (d b : Nat) (hb : b < 1000) (s : jM) : jq 88 [.inl x, .inl (d : Int), .inl (b : Int)] s = some (some (.inl (if x = 101 then (if b = d then 1 else 0) else rd x b)), s) := by
  rw [bq_88]
  by_cases c : x = 101
  · rw [if_pos c, if_pos c]
    by_cases c2 : b = d
    · rw [if_pos (by omega), if_pos c2]
    · rw [if_neg (by omega), if_neg c2]
  · obtain ⟨m, hm, hm2⟩ := hx.resolve_left c
    rw [if_neg c, if_neg c, sq_48 x ⟨by omega, by omega⟩ b hb, jbI_s]
theorem sj_87b {R f : Nat → Int} (r d e b : Nat) (v2 : Int) (hd : d ≤ 5) (he : e ≤ d) (hb : b < d + 1) (hR : ∀ k, k < e → R k = 101 ∨ ∃ m : Nat, R k = (m : Int) ∧ m < 101) (hf : ∀ j, j < d + 1 → g101 (f j)) : ∀ (c k : Nat) (s : jM), k + c = e → TI s → s 1 r 1 = (d : Int) → s 2 0 4 = (e : Int) → (∀ k, k < e → s 18 0 k = R k) → (∀ j, j < d + 1 → f2 s r j = f j) → s 7 0 2 = ((d + 1 : Nat) : Int) → s 7 0 3 = ((e + 1 : Nat) : Int) → ∃ t, je 87 32 [some (.inr (2, 0)), some (.inr (1, r)), some (.inl v2), some (.inl (b : Int)), some (.inl (k : Int))] [] s = je 87 21 [some (.inr (2, 0)), some (.inr (1, r)), some (.inl v2), some (.inl ((b + 1 : Nat) : Int)), some (.inl (e : Int))] [] t ∧ T5 s t ∧ ∀ x, x < 21 → ∀ y, LA t x y = if x = b ∧ k ≤ y ∧ y < e + 1 then wA f R d e b y else LA s x y
  | 0, k, s, hk, hT, h1, h4, h18, hff, e2, e3 => by
    have hk : k = e := hk
    subst hk
    have hp := pl0 b d (by omega) hd
    have hfb := hf b hb
    have eb : s 16 r (pl b 0) = f b := hff b hb
    have T1 := T5_up s ((s 24 0 b).toNat % 21) k ((101 - f b) % 101)
    have hL := LA_up hT b k (by omega) ((101 - f b) % 101)
    refine ⟨jup s 25 ((s 24 0 b).toNat % 21) k ((101 - f b) % 101), ?_, T1, fun x hx y => ?_⟩
    · rw [be_87_32, h4, if_neg (by omega), show (.inl 0 : jV) = .inl ((0 : Nat) : Int) from rfl, sq_46 b 0 (by omega) (by omega), jbI_s, sq_62 r _ hp, jbI_s, eb, sq_49 _ hfb, jbI_s, sq_124 s (d + 1) (k + 1) b k _ (by omega) (by omega) e2 e3 hb (by omega), jbV_s, jwn (x := (b : Int) + 1) (n := b + 1) (by omega) (by omega)]
    · rw [hL x y hx]
      by_cases c : x = b ∧ y = k
      · rw [if_pos c, if_pos (by omega), c.2]
        unfold wA
        rw [if_pos rfl]
      · rw [if_neg c, if_neg (by omega)]
  | c + 1, k, s, hk, hT, h1, h4, h18, hff, e2, e3 => by
    have h88 := sq_88 (R k) (hR k (by omega)) d b (by omega) s
    have T1 := T5_up s ((s 24 0 b).toNat % 21) k (if R k = 101 then (if b = d then 1 else 0) else rd (R k) b)
    have hL := LA_up hT b k (by omega) (if R k = 101 then (if b = d then 1 else 0) else rd (R k) b)
    obtain ⟨t, t1, t2, t3⟩ := sj_87b r d e b v2 hd he hb hR hf c (k + 1) (jup s 25 ((s 24 0 b).toNat % 21) k (if R k = 101 then (if b = d then 1 else 0) else rd (R k) b)) (by omega) (T5_ti T1 hT) (by rw [T1 _ _ _ (by omega)]; exact h1) (by rw [T1 _ _ _ (by omega)]; exact h4) (fun k hk => by rw [T1 _ _ _ (by omega)]; exact h18 k hk) (fun j hj => by unfold f2; rw [T1 _ _ _ (by omega)]; exact hff j hj) (by rw [T1 _ _ _ (by omega)]; exact e2) (by rw [T1 _ _ _ (by omega)]; exact e3)
    refine ⟨t, ?_, T5_t T1 t2, fun x hx y => ?_⟩
    · rw [be_87_32, h4, if_pos (by omega), if_pos (by omega), Int.toNat_natCast, h18 k (by omega), h1, h88, jbI_s, sq_124 s (d + 1) (e + 1) b k _ (by omega) (by omega) e2 e3 hb (by omega), jbV_s, jwn (x := (k : Int) + 1) (n := k + 1) (by omega) (by omega)]
      exact t1
    · rw [t3 x hx y, hL x y hx]
      by_cases c1 : x = b ∧ k + 1 ≤ y ∧ y < e + 1
      · rw [if_pos c1, if_pos (by omega)]
      · rw [if_neg c1]
        by_cases c2 : x = b ∧ y = k
        · rw [if_pos c2, if_pos (show x = b ∧ k ≤ y ∧ y < e + 1 by omega), c2.2]
          unfold wA
          rw [if_neg (show ¬ k = e by omega)]
        · rw [if_neg c2, if_neg (by omega)]
theorem sj_87a {R f : Nat → Int} (r d e : Nat) (i : Nat) (hd : d ≤ 5) (he : e ≤ d) (hi : i < e) (hR : ∀ k, k < e → R k = 101 ∨ ∃ m : Nat, R k = (m : Int) ∧ m < 101) (hf : ∀ j, j < d + 1 → g101 (f j)) : ∀ (c b : Nat) (s : jM) (o4 : Option jV), b + c = d + 1 → TI s → s 1 r 1 = (d : Int) → s 2 0 4 = (e : Int) → (∀ k, k < e → s 18 0 k = R k) → (∀ j, j < d + 1 → f2 s r j = f j) → s 7 0 2 = ((d + 1 : Nat) : Int) → s 7 0 3 = ((e + 1 : Nat) : Int) → (∀ x, x < b → ∀ y, y < e + 1 → LA s x y = wA f R d e x y) → Fr (wA f R d e) (d + 1) (e + 1) e → ∃ t x, je 87 21 [some (.inr (2, 0)), some (.inr (1, r)), some (.inl (i : Int)), some (.inl (b : Int)), o4] [] s = some (some (.inl x), t) ∧ TI t ∧ T4 s t ∧ ∀ y, Sol (wA f R d e) (d + 1) (e + 1) e y → x = y i
  | 0, b, s, o4, hb, hT, h1, h4, h18, hff, e2, e3, hA, hF => by
    have hb : b = d + 1 := hb
    subst hb
    obtain ⟨t, rk, t1, t2, t3, t4⟩ := sq_127 s (d + 1) (e + 1) (by omega) (by omega) hT e2 e3 (fun x hx y hy => by rw [hA x hx y hy]; exact wA_g _ _ _ _ _ _)
    have hRed := RedI_a (A' := wA f R d e) (fun x hx y hy => (hA x hx y hy).symm) t4
    have te3 : t 7 0 3 = ((e + 1 : Nat) : Int) := by rw [t3 _ _ _ (by omega) (by omega) (by omega)]; exact e3
    have te4 : t 2 0 4 = (e : Int) := by rw [t3 _ _ _ (by omega) (by omega) (by omega)]; exact h4
    have hlf := (red_free hRed (show e < e + 1 by omega)).mpr hF
    refine ⟨t, _, by rw [be_87_21, h1, if_pos (by omega), t1, jbI_s, te4, sq_134 t (d + 1) (e + 1) rk e i (by omega) (by omega) te3 hRed (by omega) (by omega), jbI_s], t2, t3, fun y hy => Sol_uniq (rsol_Sol hRed (by omega) hlf) hy i (by omega)⟩
  | c + 1, b, s, o4, hb, hT, h1, h4, h18, hff, e2, e3, hA, hF => by
    obtain ⟨u, u1, u2, u3⟩ := sj_87b r d e b i hd he (by omega) hR hf e 0 s (by omega) hT h1 h4 h18 hff e2 e3
    have u1 : je 87 32 [some (.inr (2, 0)), some (.inr (1, r)), some (.inl (i : Int)), some (.inl (b : Int)), some (.inl 0)] [] s = _ := u1
    obtain ⟨t, x, t1, t2, t3, t4⟩ := sj_87a r d e i hd he hi hR hf c (b + 1) u (some (.inl (e : Int))) (by omega) (T5_ti u2 hT) (by rw [u2 _ _ _ (by omega)]; exact h1) (by rw [u2 _ _ _ (by omega)]; exact h4) (fun k hk => by rw [u2 _ _ _ (by omega)]; exact h18 k hk) (fun j hj => by unfold f2; rw [u2 _ _ _ (by omega)]; exact hff j hj) (by rw [u2 _ _ _ (by omega)]; exact e2) (by rw [u2 _ _ _ (by omega)]; exact e3) (fun x hx y hy => by
      rw [u3 x (by omega) y]
      by_cases c1 : x = b
      · rw [if_pos (by omega), c1]
      · rw [if_neg (by omega)]
        exact hA x (by omega) y hy) hF
    refine ⟨t, x, ?_, t2, T4_t (T5_4 u2) t3, t4⟩
    rw [be_87_21, h1, if_neg (by omega), u1]
    exact t1
/-- the reference's rows -/
theorem sq_246 (s : jM) (k d m : Nat) (hk : k < 7) (hm : m < 1000) (hx : s 54 0 k = 101 ∨ ∃ m : Nat, s 54 0 k = (m : Int) ∧ m < 101) : jq 246 [.inr (11, 0), .inl (k : Int), .inl (d : Int), .inl (m : Int)] s = some (some (.inl (if s 54 0 k = 101 then (if m = d then 1 else 0) else rd (s 54 0 k) m)), s) := by
  rw [bq_246, if_pos (by omega), Int.toNat_natCast]
  by_cases c : s 54 0 k = 101
  · rw [if_pos c, if_pos c]
    by_cases c2 : m = d
    · rw [if_pos (by omega), if_pos c2]
    · rw [if_neg (by omega), if_neg c2]
  · obtain ⟨x, hx1, hx2⟩ := hx.resolve_left c
    rw [if_neg c, if_neg c, if_pos (by omega), sq_207 (s 54 0 k) ⟨by omega, by omega⟩ m hm, jbI_s]
theorem sj_247b {R : Nat → Int} (r d k : Nat) (i : Int) (hd : d ≤ 5) (hk : k < 6) : ∀ (c m : Nat) (s : jM), m + c = 21 → s 54 0 k = R k → (R k = 101 ∨ ∃ m : Nat, R k = (m : Int) ∧ m < 101) → ∃ t, je 247 27 [some (.inr (11, 0)), some (.inl (r : Int)), some (.inl i), some (.inl (d : Int)), some (.inl (k : Int)), some (.inl (m : Int))] [] s = je 247 27 [some (.inr (11, 0)), some (.inl (r : Int)), some (.inl i), some (.inl (d : Int)), some (.inl (k : Int)), some (.inl (21 : Nat))] [] t ∧ TR s t ∧ ∀ j, j < 21 → (t 51 0 j = if m ≤ j then (if j < d + 1 then (if R k = 101 then (if j = d then 1 else 0) else rd (R k) j) else 0) else s 51 0 j) ∧ (t 52 0 j = if m ≤ j then (if j = k then 1 else 0) else s 52 0 j)
  | 0, m, s, hm, h54, hR => by
    have hm : m = 21 := hm
    subst hm
    exact ⟨s, rfl, TR_r s, fun j hj => ⟨by rw [if_neg (by omega)], by rw [if_neg (by omega)]⟩⟩
  | c + 1, m, s, hm, h54, hR => by
    have hs : ∀ X V : Int, (X = if m < d + 1 then (if R k = 101 then (if m = d then 1 else 0) else rd (R k) m) else 0) → (V = if m = k then 1 else 0) → ∃ t, je 247 27 [some (.inr (11, 0)), some (.inl (r : Int)), some (.inl i), some (.inl (d : Int)), some (.inl (k : Int)), some (.inl ((m + 1 : Nat) : Int))] [] (jup (jup s 51 0 m X) 52 0 m V) = je 247 27 [some (.inr (11, 0)), some (.inl (r : Int)), some (.inl i), some (.inl (d : Int)), some (.inl (k : Int)), some (.inl (21 : Nat))] [] t ∧ TR s t ∧ ∀ j, j < 21 → (t 51 0 j = if m ≤ j then (if j < d + 1 then (if R k = 101 then (if j = d then 1 else 0) else rd (R k) j) else 0) else s 51 0 j) ∧ (t 52 0 j = if m ≤ j then (if j = k then 1 else 0) else s 52 0 j) := fun X V hX hV => by
      obtain ⟨t, t1, t2, t3⟩ := sj_247b (R := R) r d k i hd hk c (m + 1) (jup (jup s 51 0 m X) 52 0 m V) (by omega) (by rw [jup_n _ _ _ _ _ _ _ _ (by omega), jup_n _ _ _ _ _ _ _ _ (by omega)]; exact h54) hR
      refine ⟨t, t1, fun k a b z z2 => by rw [t2 k a b z z2, jup_n _ _ _ _ _ _ _ _ (by omega), jup_n _ _ _ _ _ _ _ _ (by omega)], fun j hj => ?_⟩
      obtain ⟨y1, y2⟩ := t3 j hj
      rw [y1, y2]
      by_cases e1 : j = m
      · rw [e1, if_neg (show ¬ m + 1 ≤ m by omega), if_neg (show ¬ m + 1 ≤ m by omega), if_pos (Nat.le_refl m), if_pos (Nat.le_refl m), jup_e, jup_n _ _ _ _ _ _ _ _ (by omega), jup_e, hX, hV]
        exact ⟨rfl, rfl⟩
      · rw [jup_n _ _ _ _ _ 51 _ _ (by omega), jup_n _ _ _ _ _ 51 _ _ (by omega), jup_n _ _ _ _ _ 52 _ _ (by omega), jup_n _ _ _ _ _ 52 _ _ (by omega)]
        by_cases e2 : m + 1 ≤ j
        · rw [if_pos e2, if_pos (show m ≤ j by omega), if_pos e2, if_pos (show m ≤ j by omega)]
          exact ⟨rfl, rfl⟩
        · rw [if_neg e2, if_neg (show ¬ m ≤ j by omega), if_neg e2, if_neg (show ¬ m ≤ j by omega)]
          exact ⟨rfl, rfl⟩
    rw [be_247_27, if_pos (by omega), jwn (x := (m : Int) + 1) (n := m + 1) (by omega) (by omega)]
    by_cases c1 : (d : Int) < m
    · rw [if_pos c1, if_pos (by omega), Int.toNat_natCast]
      by_cases c2 : (m : Int) = k
      · rw [if_pos c2, if_pos (by omega)]
        exact hs 0 1 (by rw [if_neg (by omega)]) (by rw [if_pos (by omega)])
      · rw [if_neg c2, if_pos (by omega)]
        exact hs 0 0 (by rw [if_neg (by omega)]) (by rw [if_neg (by omega)])
    · rw [if_neg c1, sq_246 s k d m (by omega) (by omega) (by rw [h54]; exact hR), jbI_s, if_pos (by omega), Int.toNat_natCast, h54]
      by_cases c2 : (m : Int) = k
      · rw [if_pos c2, if_pos (by omega)]
        exact hs _ 1 (if_pos (show m < d + 1 by omega)).symm (by rw [if_pos (by omega)])
      · rw [if_neg c2, if_pos (by omega)]
        exact hs _ 0 (if_pos (show m < d + 1 by omega)).symm (by rw [if_neg (by omega)])
theorem sj_247c {f : Nat → Int} (r d : Nat) (i : Int) (o5 : Option jV) (hr : r < 4) (hd : d ≤ 5) : ∀ (c m : Nat) (s : jM), m + c = 21 → s 29 0 r = (d : Int) → (∀ j, j < d + 1 → s 30 0 (21 * r + pl j 0) = f j) → ∃ t, je 247 102 [some (.inr (11, 0)), some (.inl (r : Int)), some (.inl i), some (.inl (d : Int)), some (.inl (m : Int)), o5] [] s = je 247 102 [some (.inr (11, 0)), some (.inl (r : Int)), some (.inl i), some (.inl (d : Int)), some (.inl (21 : Nat)), o5] [] t ∧ TR s t ∧ ∀ j, j < 21 → (t 51 0 j = if m ≤ j then (if j < d + 1 then f j else 0) else s 51 0 j) ∧ (t 52 0 j = if m ≤ j then 0 else s 52 0 j)
  | 0, m, s, hm, h29, h30 => by
    have hm : m = 21 := hm
    subst hm
    exact ⟨s, rfl, TR_r s, fun j hj => ⟨by rw [if_neg (by omega)], by rw [if_neg (by omega)]⟩⟩
  | c + 1, m, s, hm, h29, h30 => by
    have hs : ∀ X : Int, (X = if m < d + 1 then f m else 0) → ∃ t, je 247 102 [some (.inr (11, 0)), some (.inl (r : Int)), some (.inl i), some (.inl (d : Int)), some (.inl ((m + 1 : Nat) : Int)), o5] [] (jup (jup s 51 0 m X) 52 0 m 0) = je 247 102 [some (.inr (11, 0)), some (.inl (r : Int)), some (.inl i), some (.inl (d : Int)), some (.inl (21 : Nat)), o5] [] t ∧ TR s t ∧ ∀ j, j < 21 → (t 51 0 j = if m ≤ j then (if j < d + 1 then f j else 0) else s 51 0 j) ∧ (t 52 0 j = if m ≤ j then 0 else s 52 0 j) := fun X hX => by
      obtain ⟨t, t1, t2, t3⟩ := sj_247c (f := f) r d i o5 hr hd c (m + 1) (jup (jup s 51 0 m X) 52 0 m 0) (by omega) (by rw [jup_n _ _ _ _ _ _ _ _ (by omega), jup_n _ _ _ _ _ _ _ _ (by omega)]; exact h29) (fun j hj => by rw [jup_n _ _ _ _ _ _ _ _ (by omega), jup_n _ _ _ _ _ _ _ _ (by omega)]; exact h30 j hj)
      refine ⟨t, t1, fun k a b z z2 => by rw [t2 k a b z z2, jup_n _ _ _ _ _ _ _ _ (by omega), jup_n _ _ _ _ _ _ _ _ (by omega)], fun j hj => ?_⟩
      obtain ⟨y1, y2⟩ := t3 j hj
      rw [y1, y2]
      by_cases e1 : j = m
      · rw [e1, if_neg (show ¬ m + 1 ≤ m by omega), if_neg (show ¬ m + 1 ≤ m by omega), if_pos (Nat.le_refl m), if_pos (Nat.le_refl m), jup_e, jup_n _ _ _ _ _ _ _ _ (by omega), jup_e, hX]
        exact ⟨rfl, rfl⟩
      · rw [jup_n _ _ _ _ _ 51 _ _ (by omega), jup_n _ _ _ _ _ 51 _ _ (by omega), jup_n _ _ _ _ _ 52 _ _ (by omega), jup_n _ _ _ _ _ 52 _ _ (by omega)]
        by_cases e2 : m + 1 ≤ j
        · rw [if_pos e2, if_pos (show m ≤ j by omega), if_pos e2, if_pos (show m ≤ j by omega)]
          exact ⟨rfl, rfl⟩
        · rw [if_neg e2, if_neg (show ¬ m ≤ j by omega), if_neg e2, if_neg (show ¬ m ≤ j by omega)]
          exact ⟨rfl, rfl⟩
    rw [be_247_102, if_pos (by omega), jwn (x := (m : Int) + 1) (n := m + 1) (by omega) (by omega)]
    by_cases c1 : (d : Int) < m
    · rw [if_pos c1, if_pos (by omega), if_pos (by omega), Int.toNat_natCast]
      exact hs 0 (by rw [if_neg (by omega)])
    · rw [if_neg c1, sq_239 s r d m hr hd (by omega) h29, jbI_s, if_pos (by omega), if_pos (by omega), Int.toNat_natCast, h30 m (by omega)]
      exact hs _ (by rw [if_pos (by omega)])
/-- the last row, and the answer -/
theorem sj_247d {R f : Nat → Int} (r d e i b : Nat) (s : jM) (o5 : Option jV) (hr : r < 4) (hd : d ≤ 5) (he : e ≤ d) (hi : i < e) (hf : ∀ j, j < d + 1 → g101 (f j)) (h29 : s 29 0 r = (d : Int)) (h30 : ∀ j, j < d + 1 → s 30 0 (21 * r + pl j 0) = f j) (hI : RefI (wA f R d e) (d + 1) (e + 1) (fun p => p) (ldc (wA f R d e) (d + 1) (e + 1)) e b s) (hF : Fr (wA f R d e) (d + 1) (e + 1) e) : ∃ t x y, je 247 102 [some (.inr (11, 0)), some (.inl (r : Int)), some (.inl (i : Int)), some (.inl (d : Int)), some (.inl 0), o5] [] s = some (some (.inl x), t) ∧ TM s t ∧ Sol (wA f R d e) (d + 1) (e + 1) e y ∧ x = y i := by
  obtain ⟨u, u1, u2, u3⟩ := sj_247c r d i o5 hr hd 21 0 s (by omega) h29 h30
  have u1 : je 247 102 [some (.inr (11, 0)), some (.inl (r : Int)), some (.inl (i : Int)), some (.inl (d : Int)), some (.inl 0), o5] [] s = je 247 102 [some (.inr (11, 0)), some (.inl (r : Int)), some (.inl (i : Int)), some (.inl (d : Int)), some (.inl 21), o5] [] u := u1
  obtain ⟨i1, i2, i3, i4, i5, i6, i7⟩ := RefI_cg (t := u) (fun k i j z => u2 k i j (by omega) (by omega)) hI
  have hR : ∀ m, m < d + 1 → u 51 0 m = f m := fun m hm => by rw [(u3 m (by omega)).1, if_pos (by omega), if_pos hm]
  have hS : ∀ j, j < 21 → u 52 0 j = 0 := fun j hj => by rw [(u3 j hj).2, if_pos (by omega)]
  obtain ⟨t, o3, o4, c, t1, t2, t3, t4, t5, t6, t7, -⟩ := sj_235 (d + 1) b (by omega) (by omega) b 0 u none none (by omega) i1 i2 i3 (fun j hj => by rw [hR j hj]; exact hf j hj) (fun j hj => by rw [hS j hj]; exact ⟨by decide, by decide⟩) (fun k' hk' => absurd hk' (by omega))
  have t1 : je 235 2 [some (.inr (11, 0)), some (.inl ((d + 1 : Nat) : Int)), some (.inl 0), none, none] [] u = _ := t1
  -- nothing is left of the row
  have hae : ∀ m, wA f R d e m e = (101 - f m) % 101 := fun m => by unfold wA; rw [if_pos rfl]
  have hz : ∀ m, m < d + 1 → t 51 0 m = 0 := fun m hm => by
    obtain ⟨x, x1, x2, x3⟩ := hF
    obtain ⟨D, hD⟩ := span_sum x e i6
    have hg : ∀ m, m < d + 1 → (101 : Int) ∣ t 51 0 m - dot (fun k => D k + (-1) * c k) (fun k => u 49 0 (21 * k + m)) b := fun m hm => by
      have q1 := t6 m hm
      rw [hR m hm] at q1
      have q2 := hD m hm
      have q3 := x1 m hm
      rw [dot, hae] at q3
      have q5 : (101 : Int) ∣ ((101 - f m) % 101) * (x e - 1) := dvm2 x2
      rw [Int.mul_sub, Int.mul_one] at q5
      have q6 : dot (fun k => D k + (-1) * c k) (fun k => u 49 0 (21 * k + m)) b = dot D (fun k => u 49 0 (21 * k + m)) b + (-1) * dot c (fun k => u 49 0 (21 * k + m)) b := by
        rw [dot_comm, dot_add2, dot_comm _ D, dot_comm _ c]
      rw [q6]
      omega
    exact dv0 (t3 m hm) (tri_zero (V := fun k m => u 49 0 (21 * k + m)) (P := fun k => (u 48 0 k).toNat) (R := t 51 0) (fun k hk => by have := i2.1 k hk; omega) (fun k hk => (i3 k hk).1) (fun k hk k' h1 h2 => (i3 k hk).2 k' h1 h2) hg t5 m hm)
  have h235 : jq 235 [.inr (11, 0), .inl ((d + 1 : Nat) : Int)] u = some (some (.inl 0), t) := by
    rw [bq_235]
    rcases sj_235c (d + 1) (by omega) t o3 o4 with ⟨x, ex, -, ht⟩ | ⟨a, ha, han, -⟩
    · exact t1.trans ht
    · exact absurd (hz a ha) han
  have hT : ∀ p, p < 21 → (101 : Int) ∣ t 52 0 p + dot c (fun k => u 50 0 (21 * k + p)) b := fun p hp => by
    have := t7 p hp
    rw [hS p hp] at this
    omega
  have hTz : ∀ p, p < e + 1 → (e ≤ p ∨ ldc (wA f R d e) (d + 1) (e + 1) p = -1) → t 52 0 p = 0 := fun p hp h => by
    have := hT p (by omega)
    rw [dot_z b (fun k hk => i5 k hk p hp h)] at this
    exact dv0 (t4 p (by omega)) (by omega)
  obtain ⟨g1, g2⟩ := t4 i (by omega)
  refine ⟨t, (-(t 52 0 i)) % 101, fun p => if p = e then 1 else (-(t 52 0 p)) % 101, ?_, fun k a j z => by rw [t2 k a j (by omega) (by omega), u2 k a j (by omega) (by omega)], ⟨fun m hm => ?_, if_pos rfl, fun j h1 h2 => absurd h2 (by omega), fun j h1 h2 => ?_, fun j hj => ?_⟩, ?_⟩
  · rw [u1, be_247_102, if_neg (by omega), jwn (x := (d : Int) + 1) (n := d + 1) (by omega) (by omega), h235, jbI_s, if_pos (by omega), Int.toNat_natCast, jwi (x := -(t 52 0 i)) (by omega) (by omega), sq_209 _ (by omega) (by omega), jbI_s]
  · have q1 := dot_linx (g := wA f R d e m) (x := fun p => if p = e then (1 : Int) else (-(t 52 0 p)) % 101) (y := fun p => t 52 0 p) (z := fun p => if p = e then (1 : Int) else 0) (-1) 1 (e + 1) (fun p hp => by
      show (101 : Int) ∣ (if p = e then (1 : Int) else (-(t 52 0 p)) % 101) - (-1 * t 52 0 p + 1 * (if p = e then 1 else 0))
      by_cases z : p = e
      · rw [if_pos z, if_pos z, hTz p hp (Or.inl (by omega))]; exact ⟨0, rfl⟩
      · rw [if_neg z, if_neg z]; omega)
    have q2 := dot_1 (g := wA f R d e m) (x := fun p => if p = e then (1 : Int) else 0) e (e + 1) (by omega) (fun j hj hne => by
      show (101 : Int) ∣ wA f R d e m j * (if j = e then 1 else 0)
      rw [if_neg hne, Int.mul_zero]; exact ⟨0, rfl⟩)
    have q3 : wA f R d e m e * (fun p => if p = e then (1 : Int) else 0) e = (101 - f m) % 101 := by
      show wA f R d e m e * (if e = e then 1 else 0) = _
      rw [if_pos rfl, Int.mul_one, hae]
    rw [q3] at q2
    have q4 := dot_cg (e := wA f R d e m) (f := fun p => t 52 0 p) (g := fun p => (fun _ => (0 : Int)) p - dot c (fun k => u 50 0 (21 * k + p)) b) (e + 1) (fun p hp => by
      show (101 : Int) ∣ t 52 0 p - (0 - dot c (fun k => u 50 0 (21 * k + p)) b)
      have := hT p (by omega)
      omega)
    have q5 := dot_dbl (wA f R d e m) (fun _ => 0) c (fun k p => u 50 0 (21 * k + p)) b (e + 1)
    rw [q5, dot_z (e + 1) (fun _ _ => rfl)] at q4
    have q6 := dot_cg (e := c) (f := fun k => u 49 0 (21 * k + m)) (g := fun k => dot (wA f R d e m) (fun p => u 50 0 (21 * k + p)) (e + 1)) b (fun k hk => i4 k hk m hm)
    have q7 := t6 m hm
    rw [hR m hm, hz m hm] at q7
    omega
  · show (if j = e then (1 : Int) else (-(t 52 0 j)) % 101) = 0
    rw [if_neg (by omega), hTz j (by omega) (Or.inr ((ldc_ok _ _ _ j).mpr h2))]
    rfl
  · show g101 (if j = e then (1 : Int) else (-(t 52 0 j)) % 101)
    split
    · exact ⟨by decide, by decide⟩
    · exact em101 _
  · show (-(t 52 0 i)) % 101 = (if i = e then (1 : Int) else (-(t 52 0 i)) % 101)
    rw [if_neg (by omega)]
theorem sj_247 {R f : Nat → Int} (r d e i : Nat) (hr : r < 4) (hd : d ≤ 5) (he : e ≤ d) (hi : i < e) (hf : ∀ j, j < d + 1 → g101 (f j)) (hR : ∀ k, k < e → R k = 101 ∨ ∃ m : Nat, R k = (m : Int) ∧ m < 101) (hF : Fr (wA f R d e) (d + 1) (e + 1) e) : ∀ (c k b : Nat) (s : jM) (o5 : Option jV), k + c = e → s 29 0 r = (d : Int) → (∀ j, j < d + 1 → s 30 0 (21 * r + pl j 0) = f j) → s 11 0 31 = (e : Int) → (∀ k, k < e → s 54 0 k = R k) → RefI (wA f R d e) (d + 1) (e + 1) (fun p => p) (ldc (wA f R d e) (d + 1) (e + 1)) k b s → ∃ t x y, je 247 15 [some (.inr (11, 0)), some (.inl (r : Int)), some (.inl (i : Int)), some (.inl (d : Int)), some (.inl (k : Int)), o5] [] s = some (some (.inl x), t) ∧ TM s t ∧ Sol (wA f R d e) (d + 1) (e + 1) e y ∧ x = y i
  | 0, k, b, s, o5, hk, h29, h30, h31, h54, hI => by
    have hk : k = e := hk
    subst hk
    rw [be_247_15, h31, if_neg (by omega)]
    exact sj_247d r d k i b s o5 hr hd he hi hf h29 h30 hI hF
  | c + 1, k, b, s, o5, hk, h29, h30, h31, h54, hI => by
    obtain ⟨u, u1, u2, u3⟩ := sj_247b (R := R) r d k i hd (by omega) 21 0 s (by omega) (h54 k (by omega)) (hR k (by omega))
    have u1 : je 247 27 [some (.inr (11, 0)), some (.inl (r : Int)), some (.inl (i : Int)), some (.inl (d : Int)), some (.inl (k : Int)), some (.inl 0)] [] s = je 247 27 [some (.inr (11, 0)), some (.inl (r : Int)), some (.inl (i : Int)), some (.inl (d : Int)), some (.inl (k : Int)), some (.inl 21)] [] u := u1
    have hI2 := RefI_cg (t := u) (fun k i j z => u2 k i j (by omega) (by omega)) hI
    obtain ⟨t, x, t1, t2, t3, t4⟩ := ref_step (s := u) (by omega) (by omega) (fun q _ => ldc_ok _ _ _ q) (fun q hq => by omega) (show k < e + 1 by omega) hI2 (fun m hm => by
      have := (u3 m (by omega)).1
      rw [if_pos (by omega), if_pos hm] at this
      have hw : wA f R d e m k = if R k = 101 then (if m = d then 1 else 0) else rd (R k) m := by unfold wA; rw [if_neg (by omega)]
      rw [this, hw]
      refine ⟨rfl, ?_⟩
      have := wA_g f R d e m k
      rw [hw] at this
      exact this) (fun q hq => by
      have := (u3 q (by omega)).2
      rw [if_pos (by omega)] at this
      exact this) (fun j hj => by
      rw [(u3 j hj).2, if_pos (by omega)]
      split
      · exact ⟨by decide, by decide⟩
      · exact ⟨by decide, by decide⟩)
    have hst : TM s t := TM_t (TR_TM u2) t2
    have t31 : t 11 0 31 = (e : Int) := by rw [hst _ _ _ (by omega)]; exact h31
    have hgo := fun b h => sj_247 r d e i hr hd he hi hf hR hF c (k + 1) b t (some (.inl 21)) (by omega) (by rw [hst _ _ _ (by omega)]; exact h29) (fun j hj => by rw [hst _ _ _ (by omega)]; exact h30 j hj) t31 (fun m hm => by rw [hst _ _ _ (by omega)]; exact h54 m hm) h
    have hend : je 247 15 [some (.inr (11, 0)), some (.inl (r : Int)), some (.inl (i : Int)), some (.inl (d : Int)), some (.inl (k : Int)), o5] [] s = je 247 15 [some (.inr (11, 0)), some (.inl (r : Int)), some (.inl (i : Int)), some (.inl (d : Int)), some (.inl ((k + 1 : Nat) : Int)), some (.inl 21)] [] t := by
      rw [be_247_15, h31, if_pos (by omega), u1, be_247_27, if_neg (by omega), jwn (x := (d : Int) + 1) (n := d + 1) (by omega) (by omega), t1, jbI_s, jwn (x := (k : Int) + 1) (n := k + 1) (by omega) (by omega)]
    rw [hend]
    rcases t4 with ⟨-, -, hI3, -⟩ | ⟨-, -, hI3⟩
    · obtain ⟨v, x', y, v1, v2, v3⟩ := hgo b hI3
      exact ⟨v, x', y, v1, TM_t hst v2, v3⟩
    · obtain ⟨v, x', y, v1, v2, v3⟩ := hgo (b + 1) hI3
      exact ⟨v, x', y, v1, TM_t hst v2, v3⟩
theorem wA_c {f R R' : Nat → Int} (d e : Nat) (h : R = R') : wA f R d e = wA f R' d e := by rw [h]
theorem ap_18 (s : jM) (hI : Inv s) (v1 v2 : Int) : Go s 18 248 [.inl v1, .inl v2] := by
  by_cases h1 : 0 ≤ v1 ∧ v1 < 4
  rotate_left
  · exact go_no (-1) hI (by rw [bq_18]; (repeat (first | rw [jbI_s] | rw [jbV_s] | rw [bI_t (by omega)] | rw [bI_f (by omega)] | rw [if_pos (by omega)] | rw [if_neg (by omega)] | rw [sq_39]))) (by rw [bq_248]; (repeat (first | rw [jbI_s] | rw [jbV_s] | rw [bI_t (by omega)] | rw [bI_f (by omega)] | rw [if_pos (by omega)] | rw [if_neg (by omega)] | rw [sq_201])))
  by_cases h2 : 0 ≤ v2
  rotate_left
  · exact go_no (-1) hI (by rw [bq_18]; (repeat (first | rw [jbI_s] | rw [jbV_s] | rw [bI_t (by omega)] | rw [bI_f (by omega)] | rw [if_pos (by omega)] | rw [if_neg (by omega)] | rw [sq_39]))) (by rw [bq_248]; (repeat (first | rw [jbI_s] | rw [jbV_s] | rw [bI_t (by omega)] | rw [bI_f (by omega)] | rw [if_pos (by omega)] | rw [if_neg (by omega)] | rw [sq_201])))
  obtain ⟨r, rfl⟩ := nat_of v1 h1.1
  obtain ⟨i, rfl⟩ := nat_of v2 h2
  have hr : r < 4 := by omega
  obtain ⟨d, hd, r1, r2, r3, r4, r5, r6, r7⟩ := inv_reg hI r hr
  have b18 := bq_18 r i s
  rcases sq_79 s r d hd hI.2.2.2.2.2.2 r1 r5 with ⟨hn, h79⟩ | ⟨hp, t, E, h79, t1, t2, t3, t4⟩
  · refine go_no (-5) hI ?_ ?_
    · rw [b18]; (repeat (first | rw [jbI_s] | rw [jbV_s] | rw [bI_t (by omega)] | rw [bI_f (by omega)] | rw [if_pos (by omega)] | rw [if_neg (by omega)] | rw [sq_39] | rw [Nat.mul_zero] | rw [Nat.zero_add] | rw [Int.toNat_natCast] | rw [h79]))
    · rcases sq_241 s r d hr hd r2 (s 16 r) (fun j hj => (r4 j hj).symm) (isDp s r d) Iff.rfl with ⟨_, h⟩ | ⟨y, _⟩
      · rw [bq_248]; (repeat (first | rw [jbI_s] | rw [jbV_s] | rw [bI_t (by omega)] | rw [bI_f (by omega)] | rw [if_pos (by omega)] | rw [if_neg (by omega)] | rw [sq_201] | rw [h]))
      · exact absurd y hn
  obtain ⟨w, w1, w2, w3, w4⟩ := sq_83 E t hd t3 t4
  have hw : Kt s w := fun k i j z z2 => by
    have z3 := z2
    unfold Scr at z3
    rw [w2 _ _ _ (by omega)]
    exact t2 k i j z z2
  have hTw : TI w := TI_cg (fun j => w2 _ _ _ (by omega)) t1
  -- the reference, from any state that differs in what both may use
  have href : ∀ U : jM, Kt s U → ∃ u, jq 241 [.inr (11, 0), .inl (r : Int)] U = some (some (.inl 1), U) ∧ jq 242 [.inr (11, 0), .inl (r : Int)] U = some (none, u) ∧ Kp U u ∧ u 11 0 29 = (E : Int) ∧ u 11 0 31 = (nrt (t 17 0) E : Int) ∧ (∀ k, k < nrt (t 17 0) E → u 54 0 k = rtk (t 17 0) E k) ∧ u 29 0 r = (d : Int) ∧ ∀ j, j < d + 1 → u 30 0 (21 * r + pl j 0) = f2 s r j := fun U hU => by
    have q29 : U 29 0 r = (d : Int) := by rw [hU _ _ _ (by omega) (by unfold Scr; omega)]; exact r2
    have q30 : ∀ j, j < 21 → U 30 0 (21 * r + j) = s 30 0 (21 * r + j) := fun j hj => hU _ _ _ (by omega) (by unfold Scr; omega)
    rcases sq_241 U r d hr hd q29 (s 16 r) (fun j hj => by rw [q30 j hj, r4 j hj]) (isDp s r d) Iff.rfl with ⟨y, _⟩ | ⟨_, h⟩
    · exact absurd hp y
    have hf2 := f2_of hI r d hr hd q30
    obtain ⟨u, E', u1, u2, u3, u4, u5, u6⟩ := sq_242 r d (f2 s r) hr hd (f2_g hI r d hr hd) U q29 hf2
    obtain ⟨eE, eq⟩ := DR_uniq t4 u4
    subst eE
    obtain ⟨n1, n2⟩ := nrt_c eq
    rw [← n1] at u5
    rw [← n1, ← n2] at u6
    exact ⟨u, h, u1, u2, u3, u5, u6, by rw [u2 _ _ _ (by unfold Scr; omega)]; exact q29, fun j hj => by rw [u2 _ _ _ (by unfold Scr; omega)]; exact hf2 j hj⟩
  have hE := t4.1
  have hle := nrt_le t4
  have hrt := rtk_ok t4
  have wE : w 2 0 3 = (E : Int) := by rw [w2 _ _ _ (by omega)]; exact t3
  have w1d : w 1 r 1 = (d : Int) := by rw [hw _ _ _ (by omega) (by unfold Scr; omega)]; exact r1
  have b248 := fun U => bq_248 r i U
  obtain ⟨u, u0, u1, u2, u3, u4, u5, u6, u7⟩ := href w hw
  have hI2 := Inv_kt hw hTw hI
  by_cases c1 : nrt (t 17 0) E = E
  rotate_left
  · refine ⟨-5, w, u, ?_, ?_, Inv_kp u2 hI2⟩
    · rw [b18]; (repeat (first | rw [jbI_s] | rw [jbV_s] | rw [bI_t (by omega)] | rw [bI_f (by omega)] | rw [if_pos (by omega)] | rw [if_neg (by omega)] | rw [sq_39] | rw [Nat.mul_zero] | rw [Nat.zero_add] | rw [Int.toNat_natCast] | rw [h79] | rw [w1] | rw [wE]))
    · rw [b248]; (repeat (first | rw [jbI_s] | rw [jbV_s] | rw [bI_t (by omega)] | rw [bI_f (by omega)] | rw [if_pos (by omega)] | rw [if_neg (by omega)] | rw [sq_201] | rw [u0] | rw [u1] | rw [u4] | rw [u3]))
  by_cases c2 : E ≤ d
  rotate_left
  · refine ⟨-5, w, u, ?_, ?_, Inv_kp u2 hI2⟩
    · rw [b18]; (repeat (first | rw [jbI_s] | rw [jbV_s] | rw [bI_t (by omega)] | rw [bI_f (by omega)] | rw [if_pos (by omega)] | rw [if_neg (by omega)] | rw [sq_39] | rw [Nat.mul_zero] | rw [Nat.zero_add] | rw [Int.toNat_natCast] | rw [h79] | rw [w1] | rw [wE] | rw [w1d]))
    · rw [b248]; (repeat (first | rw [jbI_s] | rw [jbV_s] | rw [bI_t (by omega)] | rw [bI_f (by omega)] | rw [if_pos (by omega)] | rw [if_neg (by omega)] | rw [sq_201] | rw [u0] | rw [u1] | rw [u4] | rw [u3] | rw [Int.toNat_natCast] | rw [u6]))
  by_cases c3 : i < E
  rotate_left
  · refine ⟨-2, w, u, ?_, ?_, Inv_kp u2 hI2⟩
    · rw [b18]; (repeat (first | rw [jbI_s] | rw [jbV_s] | rw [bI_t (by omega)] | rw [bI_f (by omega)] | rw [if_pos (by omega)] | rw [if_neg (by omega)] | rw [sq_39] | rw [Nat.mul_zero] | rw [Nat.zero_add] | rw [Int.toNat_natCast] | rw [h79] | rw [w1] | rw [wE] | rw [w1d]))
    · rw [b248]; (repeat (first | rw [jbI_s] | rw [jbV_s] | rw [bI_t (by omega)] | rw [bI_f (by omega)] | rw [if_pos (by omega)] | rw [if_neg (by omega)] | rw [sq_201] | rw [u0] | rw [u1] | rw [u4] | rw [u3] | rw [Int.toNat_natCast] | rw [u6]))
  have hF := weight_fr t4 c1 c2
  rw [c1] at w3 w4 hrt
  have hfg := f2_g hI r d hr hd
  -- the class' answer
  obtain ⟨a, a1, a2, a3, a4, a5, a6⟩ := sq_123 w (d + 1) (E + 1) (by omega) (by omega) hTw
  have hfa : ∀ j, j < d + 1 → f2 a r j = f2 s r j := fun j hj => by
    unfold f2
    rw [a5 _ _ _ (by omega) (by omega), hw _ _ _ (by omega) (by unfold Scr; omega)]
  obtain ⟨v, x, v1, v2, v3, v4⟩ := sj_87a (R := rtk (t 17 0) E) (f := f2 s r) r d E i hd c2 c3 hrt hfg (d + 1) 0 a none (by omega) a4 (by rw [a5 _ _ _ (by omega) (by omega)]; exact w1d) (by rw [a5 _ _ _ (by omega) (by omega)]; exact w3) (fun k hk => by rw [a5 _ _ _ (by omega) (by omega)]; exact w4 k hk) hfa a2 a3 (fun x hx => absurd hx (by omega)) hF
  have h87 : jq 87 [.inr (2, 0), .inr (1, r), .inl (i : Int)] w = some (some (.inl x), v) := by
    rw [bq_87, w1d, w3, jwn (x := (d : Int) + 1) (n := d + 1) (by omega) (by omega), jwn (x := (E : Int) + 1) (n := E + 1) (by omega) (by omega), a1, jbV_s]
    exact v1
  have hv : Kt s v := fun k i j z z2 => by
    have z3 := z2
    unfold Scr at z3
    rw [v3 _ _ _ z (by omega) (by omega), a5 _ _ _ (by omega) (by omega)]
    exact hw k i j z z2
  obtain ⟨u', p0, p1, p2, p3, p4, p5, p6, p7⟩ := href v hv
  rw [c1] at p4 p5
  -- the reference's
  obtain ⟨g, y, ys, g1, g2, g3, g4⟩ := sj_247 (R := rtk (t 17 0) E) (f := f2 s r) r d E i hr hd c2 c3 hfg hrt hF E 0 0 (jup u' 11 0 23 0) none (by omega) (by rw [jup_n _ _ _ _ _ _ _ _ (by omega)]; exact p6) (fun j hj => by rw [jup_n _ _ _ _ _ _ _ _ (by omega)]; exact p7 j hj) (by rw [jup_n _ _ _ _ _ _ _ _ (by omega)]; exact p4) (fun k hk => by rw [jup_n _ _ _ _ _ _ _ _ (by omega)]; exact p5 k hk) (RefI_0 _ _ _ _ _ _ (jup_e _ _ _ _ _))
  have h247 : jq 247 [.inr (11, 0), .inl (r : Int), .inl (i : Int)] u' = some (some (.inl x), g) := by
    rw [bq_247, if_pos (by omega), Int.toNat_natCast, p6, v4 ys g3, ← g4]
    exact g1
  have hI3 := Inv_kt hv v2 hI
  refine ⟨x, v, g, ?_, ?_, Inv_kp (Kp_t p2 (Kp_t (fun k i j z => ?_) (kp_TM g2))) hI3⟩
  · rw [b18]
    (repeat (first | rw [jbI_s] | rw [jbV_s] | rw [bI_t (by omega)] | rw [bI_f (by omega)] | rw [if_pos (by omega)] | rw [if_neg (by omega)] | rw [sq_39] | rw [Nat.mul_zero] | rw [Nat.zero_add] | rw [Int.toNat_natCast] | rw [h79] | rw [w1] | rw [c1] | rw [wE] | rw [w1d] | rw [h87]))
  · rw [b248]
    (repeat (first | rw [jbI_s] | rw [jbV_s] | rw [bI_t (by omega)] | rw [bI_f (by omega)] | rw [if_pos (by omega)] | rw [if_neg (by omega)] | rw [sq_201] | rw [p0] | rw [p1] | rw [p4] | rw [p3] | rw [Int.toNat_natCast] | rw [p6] | rw [h247]))
  · unfold Scr at z
    exact jup_n _ _ _ _ _ _ _ _ (by omega)
