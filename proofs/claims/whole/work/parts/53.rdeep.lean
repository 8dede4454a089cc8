/-! DEEP in the reference -/
noncomputable def ldc (A : Nat → Nat → Int) (h w p : Nat) : Int := @ite _ (Fr A h w p) (Classical.propDecidable _) (-1) 0
theorem ldc_ok (A : Nat → Nat → Int) (h w p : Nat) : ldc A h w p = -1 ↔ Fr A h w p := by
  unfold ldc
  by_cases c : Fr A h w p
  · rw [if_pos c]; exact ⟨fun _ => c, fun _ => rfl⟩
  · rw [if_neg c]; exact ⟨fun z => absurd z (by decide), fun z => absurd z c⟩
theorem sq_239 (s : jM) (r d j : Nat) (hr : r < 4) (hd : d ≤ 5) (hj : j ≤ d) (h29 : s 29 0 r = (d : Int)) : jq 239 [.inr (11, 0), .inl (r : Int), .inl (j : Int)] s = some (some (.inl (s 30 0 (21 * r + pl j 0))), s) := by
  have hp := pl0 j d hj hd
  have h204 := sq_204 d (d - j) j hd (by omega)
  rw [show d - (d - j) - j = 0 by omega] at h204
  rw [bq_239, if_pos (by omega), Int.toNat_natCast, h29, jwn (x := (d : Int) - j) (n := d - j) (by omega) (by omega), h204, jbI_s, jwi (x := 21 * (r : Int)) (by omega) (by omega), jwi (x := 21 * (r : Int) + (pl j 0 : Nat)) (by omega) (by omega), if_pos (by omega), show (21 * (r : Int) + (pl j 0 : Nat)).toNat = 21 * r + pl j 0 by omega]
theorem sj_240c (r d e i : Nat) (f : Nat → Int) (fd : Int) (hr : r < 4) (hd : d ≤ 5) (he : e ≤ d) (hi : i ≤ e) : ∀ (c m : Nat) (s : jM), m + c = 21 → s 29 0 r = (d : Int) → (∀ j, j < d + 1 → s 30 0 (21 * r + pl j 0) = f j) → ∃ t, je 240 63 [some (.inr (11, 0)), some (.inl (r : Int)), some (.inl (e : Int)), some (.inl (d : Int)), some (.inl fd), some (.inl (i : Int)), some (.inl (m : Int))] [] s = je 240 63 [some (.inr (11, 0)), some (.inl (r : Int)), some (.inl (e : Int)), some (.inl (d : Int)), some (.inl fd), some (.inl (i : Int)), some (.inl (21 : Nat))] [] t ∧ TR s t ∧ ∀ j, j < 21 → (t 51 0 j = if m ≤ j then (if j < d + 1 - e then f (j + i) else 0) else s 51 0 j) ∧ (t 52 0 j = if m ≤ j then (if j = i then 1 else 0) else s 52 0 j)
  | 0, m, s, hm, h29, h30 => by
    have hm : m = 21 := hm
    subst hm
    exact ⟨s, rfl, TR_r s, fun j hj => ⟨by rw [if_neg (by omega)], by rw [if_neg (by omega)]⟩⟩
  | c + 1, m, s, hm, h29, h30 => by
    have hs : ∀ X V : Int, (X = if m < d + 1 - e then f (m + i) else 0) → (V = if m = i then 1 else 0) → ∃ t, je 240 63 [some (.inr (11, 0)), some (.inl (r : Int)), some (.inl (e : Int)), some (.inl (d : Int)), some (.inl fd), some (.inl (i : Int)), some (.inl ((m + 1 : Nat) : Int))] [] (jup (jup s 51 0 m X) 52 0 m V) = je 240 63 [some (.inr (11, 0)), some (.inl (r : Int)), some (.inl (e : Int)), some (.inl (d : Int)), some (.inl fd), some (.inl (i : Int)), some (.inl (21 : Nat))] [] t ∧ TR s t ∧ ∀ j, j < 21 → (t 51 0 j = if m ≤ j then (if j < d + 1 - e then f (j + i) else 0) else s 51 0 j) ∧ (t 52 0 j = if m ≤ j then (if j = i then 1 else 0) else s 52 0 j) := fun X V hX hV => by
      obtain ⟨t, t1, t2, t3⟩ := sj_240c r d e i f fd hr hd he hi c (m + 1) (jup (jup s 51 0 m X) 52 0 m V) (by omega) (by rw [jup_n _ _ _ _ _ _ _ _ (by omega), jup_n _ _ _ _ _ _ _ _ (by omega)]; exact h29) (fun j hj => by rw [jup_n _ _ _ _ _ _ _ _ (by omega), jup_n _ _ _ _ _ _ _ _ (by omega)]; exact h30 j hj)
      refine ⟨t, t1, fun k a b z z2 => by rw [t2 k a b z z2, jup_n _ _ _ _ _ _ _ _ (by omega), jup_n _ _ _ _ _ _ _ _ (by omega)], fun j hj => ?_⟩
      obtain ⟨y1, y2⟩ := t3 j hj
      rw [y1, y2]
      by_cases e1 : j = m
      · rw [e1, if_neg (show ¬ m + 1 ≤ m by omega), if_neg (show ¬ m + 1 ≤ m by omega), if_pos (Nat.le_refl m), if_pos (Nat.le_refl m), jup_e, jup_n _ _ _ _ _ _ _ _ (by omega), jup_e, hX, hV]
        exact ⟨rfl, rfl⟩
      · rw [jup_n _ _ _ _ _ 51 _ _ (by omega), jup_n _ _ _ _ _ 51 _ _ (by omega), jup_n _ _ _ _ _ 52 _ _ (by omega), jup_n _ _ _ _ _ 52 _ _ (by omega)]
        by_cases e2 : m + 1 ≤ j
        · rw [if_pos e2, if_pos (show m ≤ j by omega), if_pos e2, if_pos (show m ≤ j by omega)]
          exact ⟨rfl, rfl⟩
        · rw [if_neg e2, if_neg (show ¬ m ≤ j by omega), if_neg e2, if_neg (show ¬ m ≤ j by omega)]
          exact ⟨rfl, rfl⟩
    rw [be_240_63, if_pos (by omega), jwi (x := (d : Int) - e) (by omega) (by omega), jwn (x := (m : Int) + 1) (n := m + 1) (by omega) (by omega)]
    by_cases c1 : (d : Int) - e < m
    · rw [if_pos c1, if_pos (by omega), Int.toNat_natCast]
      by_cases c2 : (m : Int) = i
      · rw [if_pos c2, if_pos (by omega)]
        exact hs 0 1 (by rw [if_neg (by omega)]) (by rw [if_pos (by omega)])
      · rw [if_neg c2, if_pos (by omega)]
        exact hs 0 0 (by rw [if_neg (by omega)]) (by rw [if_neg (by omega)])
    · rw [if_neg c1, jwn (x := (m : Int) + i) (n := m + i) (by omega) (by omega), sq_239 s r d (m + i) hr hd (by omega) h29, jbI_s, if_pos (by omega), Int.toNat_natCast, h30 (m + i) (by omega)]
      by_cases c2 : (m : Int) = i
      · rw [if_pos c2, if_pos (by omega)]
        exact hs _ 1 (by rw [if_pos (by omega)]) (by rw [if_pos (by omega)])
      · rw [if_neg c2, if_pos (by omega)]
        exact hs _ 0 (by rw [if_pos (by omega)]) (by rw [if_neg (by omega)])
theorem sj_240d (r d e i : Nat) (v : Int) (fd : Int) (he : e ≤ 6) : ∀ (c m : Nat) (s : jM), m + c = e + 1 → ∃ t, je 240 142 [some (.inr (11, 0)), some (.inl (r : Int)), some (.inl (e : Int)), some (.inl (d : Int)), some (.inl fd), some (.inl v), some (.inl (m : Int))] [] s = je 240 55 [some (.inr (11, 0)), some (.inl (r : Int)), some (.inl (e : Int)), some (.inl (d : Int)), some (.inl fd), some (.inl (jw (v + (-1)))), some (.inl ((e + 1 : Nat) : Int))] [] t ∧ (∀ q a b, q ≠ 53 → t q a b = s q a b) ∧ ∀ j, t 53 0 j = if m ≤ j ∧ j < e + 1 then s 52 0 j else s 53 0 j
  | 0, m, s, hm => by
    have hm : m = e + 1 := hm
    refine ⟨s, by rw [be_240_142, if_pos (by omega), hm], fun _ _ _ _ => rfl, fun j => by rw [if_neg (by omega)]⟩
  | c + 1, m, s, hm => by
    obtain ⟨t, t1, t2, t3⟩ := sj_240d r d e i v fd he c (m + 1) (jup s 53 0 m (s 52 0 m)) (by omega)
    refine ⟨t, ?_, fun q a b z => by rw [t2 q a b z, jup_n _ _ _ _ _ _ _ _ (by omega)], fun j => ?_⟩
    · rw [be_240_142, if_neg (by omega), if_pos (by omega), if_pos (by omega), Int.toNat_natCast, jwn (x := (m : Int) + 1) (n := m + 1) (by omega) (by omega)]
      exact t1
    · rw [t3 j, jup_n s 53 _ _ _ 52 _ _ (by omega)]
      by_cases c1 : m + 1 ≤ j ∧ j < e + 1
      · rw [if_pos c1, if_pos (by omega)]
      · rw [if_neg c1]
        by_cases c2 : j = m
        · rw [c2, jup_e, if_pos (by omega)]
        · rw [jup_n _ _ _ _ _ _ _ _ (by omega), if_neg (by omega)]
/-- what has been found among the first c columns -/
def HK (A : Nat → Nat → Int) (n w e c : Nat) (fd : Int) (q : Nat → Int) : Prop := (fd = 0 ∧ ∀ p, p < c → ¬ Fr A n w p) ∨ (fd = 1 ∧ ∃ p, p < c ∧ (∀ j, p < j → j < c → ¬ Fr A n w j) ∧ Sol A n w p (fun j => q (e - j)))
def TK (s t : jM) : Prop := ∀ k i j, ¬ (48 ≤ k ∧ k ≤ 53 ∨ k = 11 ∧ j = 23) → t k i j = s k i j
theorem TK_t {s t u : jM} (h : TK s t) (h2 : TK t u) : TK s u := fun k i j z => (h2 k i j z).trans (h k i j z)
theorem sj_240 (r d e : Nat) (f : Nat → Int) (hr : r < 4) (hd : d ≤ 5) (he : e ≤ d) (hf : ∀ j, j < d + 1 → g101 (f j)) : ∀ (c p b : Nat) (s : jM) (fd : Int) (o6 : Option jV), p + c = e + 1 → s 29 0 r = (d : Int) → (∀ j, j < d + 1 → s 30 0 (21 * r + pl j 0) = f j) → RefI (dA f e) (d + 1 - e) (e + 1) (fun p => e - p) (ldc (dA f e) (d + 1 - e) (e + 1)) p b s → HK (dA f e) (d + 1 - e) (e + 1) e p fd (s 53 0) → ∃ t fd', je 240 55 [some (.inr (11, 0)), some (.inl (r : Int)), some (.inl (e : Int)), some (.inl (d : Int)), some (.inl fd), some (.inl ((e : Int) - p)), o6] [] s = some (some (.inl fd'), t) ∧ TK s t ∧ HK (dA f e) (d + 1 - e) (e + 1) e (e + 1) fd' (t 53 0)
  | 0, p, b, s, fd, o6, hp, h29, h30, hI, hH => by
    have hp : p = e + 1 := hp
    subst hp
    refine ⟨s, fd, ?_, fun _ _ _ _ => rfl, hH⟩
    rw [be_240_55, if_pos (by omega), if_pos (by rcases hH with ⟨z, -⟩ | ⟨z, -⟩ <;> omega)]
  | c + 1, p, b, s, fd, o6, hp, h29, h30, hI, hH => by
    obtain ⟨u, u1, u2, u3⟩ := sj_240c r d e (e - p) f fd hr hd he (by omega) 21 0 s (by omega) h29 h30
    have u1 : je 240 63 [some (.inr (11, 0)), some (.inl (r : Int)), some (.inl (e : Int)), some (.inl (d : Int)), some (.inl fd), some (.inl ((e - p : Nat) : Int)), some (.inl 0)] [] s = je 240 63 [some (.inr (11, 0)), some (.inl (r : Int)), some (.inl (e : Int)), some (.inl (d : Int)), some (.inl fd), some (.inl ((e - p : Nat) : Int)), some (.inl 21)] [] u := u1
    have hI2 := RefI_cg (t := u) (fun k i j z => u2 k i j (by omega) (by omega)) hI
    obtain ⟨t, x, t1, t2, t3, t4⟩ := ref_step (s := u) (by omega) (by omega) (fun q _ => ldc_ok _ _ _ q) (fun q hq => by omega) (show p < e + 1 by omega) hI2 (fun m hm => by
      have := (u3 m (by omega)).1
      rw [if_pos (by omega), if_pos hm] at this
      rw [this]
      exact ⟨rfl, hf _ (by omega)⟩) (fun q hq => by
      have := (u3 (e - q) (by omega)).2
      rw [if_pos (by omega)] at this
      rw [this]
      by_cases z : q = p
      · rw [if_pos z, if_pos (by omega)]
      · rw [if_neg z, if_neg (by omega)]) (fun j hj => by
      rw [(u3 j hj).2, if_pos (by omega)]
      split
      · exact ⟨by decide, by decide⟩
      · exact ⟨by decide, by decide⟩)
    have en : ((e - p : Nat) : Int) = (e : Int) - p := by omega
    have e1 : jw ((e : Int) - p + (-1)) = (e : Int) - ((p + 1 : Nat) : Int) := by rw [jwi (by omega) (by omega)]; omega
    have hn : jw (jw ((d : Int) - e) + 1) = ((d + 1 - e : Nat) : Int) := by rw [jwi (x := (d : Int) - e) (by omega) (by omega), jwi (by omega) (by omega)]; omega
    rw [en] at u1
    have hst : TK s t := fun k i j z => by rw [t2 k i j (by omega), u2 k i j (by omega) (by omega)]
    rw [be_240_55, if_neg (by omega), u1, be_240_63, if_neg (by omega), hn, t1, jbI_s]
    rcases t4 with ⟨x0, hl, hI3, hy1, hy2, hy3, hy4⟩ | ⟨x1, hl, hI3⟩
    · obtain ⟨w, w1, w2, w3⟩ := sj_240d r d e (e - p) ((e : Int) - p) 1 (by omega) (e + 1) 0 t (by omega)
      have w1 : je 240 142 [some (.inr (11, 0)), some (.inl (r : Int)), some (.inl (e : Int)), some (.inl (d : Int)), some (.inl 1), some (.inl ((e : Int) - p)), some (.inl 0)] [] t = _ := w1
      rw [e1] at w1
      have hF := (ldc_ok _ _ _ p).mp hl
      obtain ⟨v, fd', v1, v2, v3⟩ := sj_240 r d e f hr hd he hf c (p + 1) b w 1 (some (.inl ((e + 1 : Nat) : Int))) (by omega) (by rw [w2 _ _ _ (by omega), hst _ _ _ (by omega)]; exact h29) (fun j hj => by rw [w2 _ _ _ (by omega), hst _ _ _ (by omega)]; exact h30 j hj) (RefI_cg (fun k i j z => w2 _ _ _ (by omega)) hI3) (Or.inr ⟨rfl, p, by omega, fun j h2 h3 => absurd h3 (by omega), by
        have hw : ∀ j, j < e + 1 → w 53 0 (e - j) = t 52 0 (e - j) := fun j hj => by rw [w3, if_pos (by omega)]
        refine ⟨Rel_lin 1 0 hy1 hy1 (fun j hj => by show (101 : Int) ∣ w 53 0 (e - j) - (1 * t 52 0 (e - j) + 0 * t 52 0 (e - j)); rw [hw j hj]; omega), ?_, fun j h2 h3 => ?_, fun j h2 h3 => ?_, fun j hj => ?_⟩
        · show w 53 0 (e - p) = 1
          rw [hw p (by omega)]; exact hy2
        · show w 53 0 (e - j) = 0
          rw [hw j h3]; exact hy3 j h2 h3
        · show w 53 0 (e - j) = 0
          rw [hw j (by omega)]; exact hy4 j h2 ((ldc_ok _ _ _ j).mpr h3)
        · show g101 (w 53 0 (e - j))
          rw [hw j hj]; exact t3 _ (by omega)⟩)
      refine ⟨v, fd', ?_, TK_t (TK_t hst (fun k i j z => w2 k i j (by omega))) v2, v3⟩
      rw [if_pos x0, w1]
      exact v1
    · have hF : ¬ Fr (dA f e) (d + 1 - e) (e + 1) p := fun z => hl ((ldc_ok _ _ _ p).mpr z)
      have e53 : t 53 0 = s 53 0 := funext fun j => by rw [t2 _ _ _ (by omega), u2 _ _ _ (by omega) (by omega)]
      obtain ⟨v, fd', v1, v2, v3⟩ := sj_240 r d e f hr hd he hf c (p + 1) (b + 1) t fd (some (.inl (21 : Int))) (by omega) (by rw [hst _ _ _ (by omega)]; exact h29) (fun j hj => by rw [hst _ _ _ (by omega)]; exact h30 j hj) hI3 (by
        rw [e53]
        rcases hH with ⟨a1, a2⟩ | ⟨a1, q, a2, a3, a4⟩
        · refine Or.inl ⟨a1, fun j hj => ?_⟩
          by_cases z : j = p
          · rw [z]; exact hF
          · exact a2 j (by omega)
        · refine Or.inr ⟨a1, q, by omega, fun j h2 h3 => ?_, a4⟩
          by_cases z : j = p
          · rw [z]; exact hF
          · exact a3 j h2 (by omega))
      refine ⟨v, fd', ?_, TK_t hst v2, v3⟩
      rw [if_neg (by omega), e1]
      exact v1
theorem sj_240z (r d e : Nat) (he : e ≤ 6) (o5 o6 : Option jV) : ∀ (c m : Nat) (s : jM), m + c = e + 1 → 1 ≤ m → ∃ t, je 240 15 [some (.inr (11, 0)), some (.inl (r : Int)), some (.inl (e : Int)), some (.inl (d : Int)), some (.inl (m : Int)), o5, o6] [] s = some (some (.inl 1), t) ∧ (∀ q a b, q ≠ 53 → t q a b = s q a b) ∧ t 53 0 0 = 1 ∧ ∀ j, 1 ≤ j → j < e + 1 → t 53 0 j = if m ≤ j then 0 else s 53 0 j
  | 0, m, s, hm, h1 => by
    refine ⟨jup s 53 0 0 1, by rw [be_240_15, if_pos (by omega)]; rfl, fun q a b z => jup_n _ _ _ _ _ _ _ _ (by omega), jup_e _ _ _ _ _, fun j h2 h3 => by rw [if_neg (by omega), jup_n _ _ _ _ _ _ _ _ (by omega)]⟩
  | c + 1, m, s, hm, h1 => by
    obtain ⟨t, t1, t2, t3, t4⟩ := sj_240z r d e he o5 o6 c (m + 1) (jup s 53 0 m 0) (by omega) (by omega)
    refine ⟨t, ?_, fun q a b z => by rw [t2 q a b z, jup_n _ _ _ _ _ _ _ _ (by omega)], t3, fun j h2 h3 => ?_⟩
    · rw [be_240_15, if_neg (by omega), if_pos (by omega), Int.toNat_natCast, jwn (x := (m : Int) + 1) (n := m + 1) (by omega) (by omega)]
      exact t1
    · rw [t4 j h2 h3]
      by_cases c1 : m + 1 ≤ j
      · rw [if_pos c1, if_pos (by omega)]
      · rw [if_neg c1]
        by_cases c2 : j = m
        · rw [c2, jup_e, if_pos (Nat.le_refl m)]
        · rw [jup_n _ _ _ _ _ _ _ _ (by omega), if_neg (by omega)]
/-- the reference finds how deep -/
theorem sj_242w (r d : Nat) (f : Nat → Int) (hr : r < 4) (hd : d ≤ 5) (hf : ∀ j, j < d + 1 → g101 (f j)) (o2 o3 o4 : Option jV) : ∀ (c e : Nat) (s : jM), e + c = d + 1 → s 11 0 29 = (e : Int) → s 29 0 r = (d : Int) → (∀ j, j < d + 1 → s 30 0 (21 * r + pl j 0) = f j) → (∀ e', e' < e → ∀ p, p < e' + 1 → ¬ Fr (dA f e') (d + 1 - e') (e' + 1) p) → ∃ t E, je 242 5 [some (.inr (11, 0)), some (.inl (r : Int)), o2, o3, o4] [] s = je 242 37 [some (.inr (11, 0)), some (.inl (r : Int)), some (.inl 0), o3, o4] [] (jup t 11 0 31 0) ∧ Kp s t ∧ t 11 0 29 = ((E : Nat) : Int) ∧ DR f d E (t 53 0) := by
  intro c
  induction c with
  | zero =>
    intro e s he hE h29 h30 hno
    have he : e = d + 1 := he
    obtain ⟨t, t1, t2, t3, t4⟩ := sj_240z r d e (by omega) none none e 1 s (by omega) (Nat.le_refl 1)
    have t1 : je 240 15 [some (.inr (11, 0)), some (.inl (r : Int)), some (.inl (e : Int)), some (.inl (d : Int)), some (.inl 1), none, none] [] s = some (some (.inl 1), t) := t1
    refine ⟨t, e, ?_, fun k i j z => ?_, by rw [t2 _ _ _ (by omega)]; exact hE, by omega, hno, e, by omega, fun j h2 h3 => absurd h3 (by omega), ?_⟩
    · rw [be_242_5, hE, bq_240, if_pos (by omega), Int.toNat_natCast, h29, if_pos (by omega), t1, jbI_s, if_neg (by decide)]
    · unfold Scr at z
      exact t2 _ _ _ (by omega)
    · have hy : ∀ j, j < e → t 53 0 (e - j) = 0 := fun j hj => by rw [t4 (e - j) (by omega) (by omega), if_pos (by omega)]
      have hye : t 53 0 (e - e) = 1 := by rw [Nat.sub_self]; exact t3
      refine ⟨fun i hi => absurd hi (by omega), hye, fun j h2 h3 => absurd h3 (by omega), fun j h2 _ => hy j h2, fun j hj => ?_⟩
      show g101 (t 53 0 (e - j))
      by_cases z : j = e
      · rw [z, hye]; exact ⟨by decide, by decide⟩
      · rw [hy j (by omega)]; exact ⟨by decide, by decide⟩
  | succ c ih =>
    intro e s he hE h29 h30 hno
    obtain ⟨t, fd, t1, t2, t3⟩ := sj_240 r d e f hr hd (by omega) hf (e + 1) 0 0 (jup s 11 0 23 0) 0 none (by omega) (by rw [jup_n _ _ _ _ _ _ _ _ (by omega)]; exact h29) (fun j hj => by rw [jup_n _ _ _ _ _ _ _ _ (by omega)]; exact h30 j hj) (RefI_0 _ _ _ _ _ _ (jup_e _ _ _ _ _)) (Or.inl ⟨rfl, fun p hp => absurd hp (by omega)⟩)
    have e0 : (e : Int) - ((0 : Nat) : Int) = (e : Int) := by omega
    rw [e0] at t1
    -- the third of the locals is what it was
    have hst : ∀ k i j, ¬ (48 ≤ k ∧ k ≤ 53 ∨ k = 11 ∧ j = 23) → t k i j = s k i j := fun k i j z => by rw [t2 k i j z, jup_n _ _ _ _ _ _ _ _ (by omega)]
    have h240 : jq 240 [.inr (11, 0), .inl (r : Int), .inl (e : Int)] s = some (some (.inl fd), t) := by
      rw [bq_240, if_pos (by omega), Int.toNat_natCast, h29, if_neg (by omega)]
      exact t1
    rcases t3 with ⟨f0, z⟩ | ⟨f1, p, p1, p2, p3⟩
    · obtain ⟨w, E, w1, w2, w3, w4⟩ := ih (e + 1) (jup t 11 0 29 ((e + 1 : Nat) : Int)) (by omega) (jup_e _ _ _ _ _) (by rw [jup_n _ _ _ _ _ _ _ _ (by omega), hst _ _ _ (by omega)]; exact h29) (fun j hj => by rw [jup_n _ _ _ _ _ _ _ _ (by omega), hst _ _ _ (by omega)]; exact h30 j hj) (fun e' he' p hp hF => by
        by_cases c1 : e' = e
        · subst c1
          exact z p hp hF
        · exact hno e' (by omega) p hp hF)
      refine ⟨w, E, ?_, Kp_t (fun k i j z => ?_) w2, w3, w4⟩
      · rw [be_242_5, hE, h240, jbI_s, if_pos f0, hst _ _ _ (by omega), hE, jwn (x := (e : Int) + 1) (n := e + 1) (by omega) (by omega)]
        exact w1
      · unfold Scr at z
        rw [jup_n _ _ _ _ _ _ _ _ (by omega), hst _ _ _ (by omega)]
    · refine ⟨t, e, ?_, fun k i j z => ?_, by rw [hst _ _ _ (by omega)]; exact hE, by omega, hno, p, p1, p2, p3⟩
      · rw [be_242_5, hE, h240, jbI_s, if_neg (by omega)]
      · unfold Scr at z
        exact hst _ _ _ (by omega)
/-- the reference's deep and roots -/
theorem sq_242 (r d : Nat) (f : Nat → Int) (hr : r < 4) (hd : d ≤ 5) (hf : ∀ j, j < d + 1 → g101 (f j)) (s : jM) (h29 : s 29 0 r = (d : Int)) (h30 : ∀ j, j < d + 1 → s 30 0 (21 * r + pl j 0) = f j) : ∃ t E, jq 242 [.inr (11, 0), .inl (r : Int)] s = some (none, t) ∧ Kp s t ∧ t 11 0 29 = ((E : Nat) : Int) ∧ DR f d E (t 53 0) ∧ t 11 0 31 = (nrt (t 53 0) E : Int) ∧ ∀ k, k < nrt (t 53 0) E → t 54 0 k = rtk (t 53 0) E k := by
  obtain ⟨u, E, u1, u2, u3, u4⟩ := sj_242w r d f hr hd hf none none none (d + 1) 0 (jup s 11 0 29 0) (by omega) (jup_e _ _ _ _ _) (by rw [jup_n _ _ _ _ _ _ _ _ (by omega)]; exact h29) (fun j hj => by rw [jup_n _ _ _ _ _ _ _ _ (by omega)]; exact h30 j hj) (fun e' he' => absurd he' (by omega))
  obtain ⟨t, t1, t2, t3, t4⟩ := ref_roots E r u none none hd u3 u4
  have e53 : t 53 0 = u 53 0 := funext fun j => t2 _ _ _ (by omega)
  refine ⟨t, E, ?_, Kp_t (fun k i j z => ?_) (Kp_t u2 (fun k i j z => ?_)), by rw [t2 _ _ _ (by omega)]; exact u3, by rw [e53]; exact u4, by rw [e53]; exact t3, by rw [e53]; exact t4⟩
  · rw [bq_242, u1, t1]
  · unfold Scr at z
    exact jup_n _ _ _ _ _ _ _ _ (by omega)
  · unfold Scr at z
    exact t2 _ _ _ (by omega)
theorem sq_241 (s : jM) (r d : Nat) (hr : r < 4) (hd : d ≤ 5) (h29 : s 29 0 r = (d : Int)) (g : Nat → Int) (hg : ∀ j, j < 21 → s 30 0 (21 * r + j) = g j) (P : Prop) (hP : P ↔ two g (mnN d) ∧ cntN g 0 (mnN d) ≠ mnN d) : (¬ P ∧ jq 241 [.inr (11, 0), .inl (r : Int)] s = some (some (.inl 0), s)) ∨ (P ∧ jq 241 [.inr (11, 0), .inl (r : Int)] s = some (some (.inl 1), s)) := by
  have em := mnN_le d hd
  obtain ⟨x, q1, q2, q3⟩ := sq_220 s r d hr hd h29
  have q221 := sq_221 s r d hr hd h29
  have ec : cntN (fun m => s 30 0 (21 * r + m)) 0 (mnN d) = cntN g 0 (mnN d) := cntN_c 0 _ (fun j hj => hg j (by omega))
  have et := two_c (g := fun m => s 30 0 (21 * r + m)) (h := g) (n := mnN d) (fun j hj => hg j (by omega))
  have hc := cntN_le g 0 (mnN d)
  rw [ec] at q221
  rw [bq_241, q1, jbI_s]
  by_cases c0 : x = 0
  · exact Or.inl ⟨fun z => by have := q3.mpr (et.mpr (hP.mp z).1); omega, by rw [if_pos c0]⟩
  · rw [if_neg c0, q221, jbI_s]
    by_cases c1 : cntN g 0 (mnN d) = mnN d
    · exact Or.inl ⟨fun z => (hP.mp z).2 c1, by rw [if_neg (by omega)]⟩
    · exact Or.inr ⟨hP.mpr ⟨et.mp (q3.mp (by omega)), c1⟩, by rw [if_pos (by omega)]⟩
