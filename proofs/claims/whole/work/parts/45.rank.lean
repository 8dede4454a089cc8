/-! RANK AND KILLERS -/
/-- the table of contractions: row i, column j -/
def Qp (i j : Nat) : Nat := pl (py i + py j) (pz i + pz j)
theorem Qp_ok {d e i j : Nat} (hd : d ≤ 5) (he : e ≤ d) (hi : i < mnN (d - e)) (hj : j < mnN e) : Qp i j < 21 ∧ Qp i j < mnN d ∧ py (Qp i j) = py i + py j ∧ pz (Qp i j) = pz i + pz j ∧ py i + py j ≤ 5 ∧ pz i + pz j ≤ 5 ∧ plev i ≤ d - e ∧ plev j ≤ e := by
  have h1 := (mnN_le (d - e) (by omega)).2
  have h2 := (mnN_le e (by omega)).2
  have l1 := (mn_lev (d - e) (by omega) i (by omega)).mp hi
  have l2 := (mn_lev e (by omega) j (by omega)).mp hj
  have u1 : plev i = py i + pz i := rfl
  have u2 : plev j = py j + pz j := rfl
  obtain ⟨a, b, c⟩ := pl_lt (py i + py j) (by omega) (pz i + pz j) (by omega) (by omega)
  have := pl_mn (py i + py j) (pz i + pz j) d (by omega) (by omega) (by omega) hd
  exact ⟨a, this, b, c, by omega, by omega, l1, l2⟩
theorem sj_125b (r d e i : Nat) (hd : d ≤ 5) (he : e ≤ d) (hi : i < mnN (d - e)) : ∀ (c j : Nat) (s : jM) (o6 : Option jV), j + c = mnN e → TI s → s 7 0 2 = (mnN (d - e) : Int) → s 7 0 3 = (mnN e : Int) → ∃ t o', je 125 34 [some (.inr (7, 0)), some (.inr (1, r)), some (.inl (e : Int)), some (.inl ((d : Int) - e)), some (.inl (i : Int)), some (.inl (j : Int)), o6] [] s = je 125 22 [some (.inr (7, 0)), some (.inr (1, r)), some (.inl (e : Int)), some (.inl ((d : Int) - e)), some (.inl ((i + 1 : Nat) : Int)), some (.inl (mnN e : Int)), o'] [] t ∧ T5 s t ∧ ∀ a, a < 21 → ∀ b, LA t a b = if a = i ∧ j ≤ b ∧ b < mnN e then s 16 r (Qp i b) else LA s a b
  | 0, j, s, o6, hj, hT, e2, e3 => by
    have h1 := (mnN_le (d - e) (by omega)).2
    refine ⟨s, o6, ?_, T5_r s, fun a ha b => ?_⟩
    · rw [be_125_34, e3, if_neg (by omega), jwn (x := (i : Int) + 1) (n := i + 1) (by omega) (by omega), show j = mnN e by omega]
    · rw [if_neg (by omega)]
  | c + 1, j, s, o6, hj, hT, e2, e3 => by
    have h1 := (mnN_le (d - e) (by omega)).2
    have h2 := (mnN_le e (by omega)).2
    obtain ⟨q1, q2, q3, q4, q5, q6, q7, q8⟩ := Qp_ok hd he hi (show j < mnN e by omega)
    obtain ⟨y1, y2, y3, y4, -⟩ := jyp_py i (by omega)
    obtain ⟨z1, z2, z3, z4, -⟩ := jyp_py j (by omega)
    have T1 := T5_up s ((s 24 0 i).toNat % 21) j (s 16 r (Qp i j))
    have hL := LA_up hT i j (by omega) (s 16 r (Qp i j))
    obtain ⟨t, o', t1, t2, t3⟩ := sj_125b r d e i hd he hi c (j + 1) (jup s 25 ((s 24 0 i).toNat % 21) j (s 16 r (Qp i j))) (some (.inl (Qp i j : Int))) (by omega) (T5_ti T1 hT) (by rw [T1 _ _ _ (by omega)]; exact e2) (by rw [T1 _ _ _ (by omega)]; exact e3)
    refine ⟨t, o', ?_, T5_t T1 t2, fun a ha b => ?_⟩
    · rw [be_125_34, e3, if_pos (by omega), if_pos (by omega), if_pos (by omega), if_pos (by omega), if_pos (by omega), Int.toNat_natCast, Int.toNat_natCast, y1, y2, z1, z2, jwn (x := (py i : Int) + py j) (n := py i + py j) (by omega) (by omega), jwn (x := (pz i : Int) + pz j) (n := pz i + pz j) (by omega) (by omega), sq_46 _ _ q5 q6, jbI_s, show pl (py i + py j) (pz i + pz j) = Qp i j from rfl, sq_62 r _ q1, jbI_s, sq_124 s (mnN (d - e)) (mnN e) i j _ h1 h2 e2 e3 hi (by omega), jbV_s, jwn (x := (j : Int) + 1) (n := j + 1) (by omega) (by omega)]
      exact t1
    · rw [t3 a ha b, hL a b ha, T1 16 _ _ (by omega)]
      by_cases c1 : a = i ∧ j + 1 ≤ b ∧ b < mnN e
      · rw [if_pos c1, if_pos (by omega)]
      · rw [if_neg c1]
        by_cases c2 : a = i ∧ b = j
        · rw [if_pos c2, if_pos (by omega), c2.2]
        · rw [if_neg c2, if_neg (by omega)]
theorem sj_125a (r d e : Nat) (hd : d ≤ 5) (he : e ≤ d) : ∀ (c i : Nat) (s : jM) (o5 o6 : Option jV), i + c = mnN (d - e) → TI s → s 7 0 2 = (mnN (d - e) : Int) → s 7 0 3 = (mnN e : Int) → ∃ t, je 125 22 [some (.inr (7, 0)), some (.inr (1, r)), some (.inl (e : Int)), some (.inl ((d : Int) - e)), some (.inl (i : Int)), o5, o6] [] s = some (none, t) ∧ T5 s t ∧ ∀ a, a < 21 → ∀ b, LA t a b = if i ≤ a ∧ a < mnN (d - e) ∧ b < mnN e then s 16 r (Qp a b) else LA s a b
  | 0, i, s, o5, o6, hi, hT, e2, e3 => by
    refine ⟨s, ?_, T5_r s, fun a ha b => ?_⟩
    · rw [be_125_22, e2, if_neg (by omega)]
    · rw [if_neg (by omega)]
  | c + 1, i, s, o5, o6, hi, hT, e2, e3 => by
    obtain ⟨u, o', u1, u2, u3⟩ := sj_125b r d e i hd he (by omega) (mnN e) 0 s o6 (by omega) hT e2 e3
    obtain ⟨t, t1, t2, t3⟩ := sj_125a r d e hd he c (i + 1) u (some (.inl (mnN e : Int))) o' (by omega) (T5_ti u2 hT) (by rw [u2 _ _ _ (by omega)]; exact e2) (by rw [u2 _ _ _ (by omega)]; exact e3)
    refine ⟨t, ?_, T5_t u2 t2, fun a ha b => ?_⟩
    · rw [be_125_22, e2, if_pos (by omega)]
      exact u1.trans t1
    · rw [t3 a ha b, u3 a ha b, u2 16 _ _ (by omega)]
      by_cases c1 : i + 1 ≤ a ∧ a < mnN (d - e) ∧ b < mnN e
      · rw [if_pos c1, if_pos (by omega)]
      · rw [if_neg c1]
        by_cases c2 : a = i ∧ 0 ≤ b ∧ b < mnN e
        · rw [if_pos c2, if_pos (by omega), c2.1]
        · rw [if_neg c2, if_neg (by omega)]
theorem RedI_a {A A' B : Nat → Nat → Int} {h w c : Nat} {ld : Nat → Int} {rk : Nat} (hA : ∀ i, i < h → ∀ j, j < w → A' i j = A i j) (hR : RedI A B h w c ld rk) : RedI A' B h w c ld rk := by
  obtain ⟨h1, h2⟩ := hR
  refine ⟨fun x => Iff.trans ⟨fun z => Rel_sub (fun a ha => ⟨a, a, 1, 0, ha, ha, fun b hb => by rw [hA a ha b hb]; omega⟩) z, fun z => Rel_sub (fun a ha => ⟨a, a, 1, 0, ha, ha, fun b hb => by rw [hA a ha b hb]; omega⟩) z⟩ (h1 x), h2⟩
/-- the table of a form's contractions, reduced -/
theorem take_red (s : jM) (r d e : Nat) (hd : d ≤ 5) (he : e ≤ d) (hT : TI s) (h1 : s 1 r 1 = (d : Int)) (hg : ∀ j, j < 21 → g101 (s 16 r j)) : ∃ u t rk, jq 125 [.inr (7, 0), .inr (1, r), .inl (e : Int)] s = some (none, u) ∧ jq 127 [.inr (7, 0)] u = some (some (.inl ((rk : Nat) : Int)), t) ∧ TI t ∧ Kt s t ∧ t 7 0 3 = (mnN e : Int) ∧ RedI (fun i j => s 16 r (Qp i j)) (LA t) (mnN (d - e)) (mnN e) (mnN e) (t 26 0) rk := by
  have m1 := mnN_le (d - e) (by omega)
  have m2 := mnN_le e (by omega)
  obtain ⟨v, v1, v2, v3, v4, v5, v6⟩ := sq_123 s (mnN (d - e)) (mnN e) m1.2 m2.2 hT
  obtain ⟨u, u1, u2, u3⟩ := sj_125a r d e hd he (mnN (d - e)) 0 v none none (by omega) v4 v2 v3
  have ue2 : u 7 0 2 = (mnN (d - e) : Int) := by rw [u2 _ _ _ (by omega)]; exact v2
  have ue3 : u 7 0 3 = (mnN e : Int) := by rw [u2 _ _ _ (by omega)]; exact v3
  have hLA : ∀ i, i < mnN (d - e) → ∀ j, j < mnN e → LA u i j = s 16 r (Qp i j) := fun i hi j hj => by
    rw [u3 i (by omega) j, if_pos (by omega), v5 16 _ _ (by omega) (by omega)]
  obtain ⟨t, rk, t1, t2, t3, t4⟩ := sq_127 u (mnN (d - e)) (mnN e) m1.2 m2.2 (T5_ti u2 v4) ue2 ue3 (fun a ha b hb => by
    rw [hLA a ha b hb]
    exact hg _ (Qp_ok hd he ha hb).1)
  refine ⟨u, t, rk, ?_, t1, t2, fun k i j z1 z2 => ?_, by rw [t3 _ _ _ (by omega) (by omega) (by omega)]; exact ue3, RedI_a (fun i hi j hj => (hLA i hi j hj).symm) t4⟩
  · rw [bq_125, h1, jwi (x := (d : Int) - e) (by omega) (by omega), show (.inl ((d : Int) - e) : jV) = .inl ((d - e : Nat) : Int) by congr 1; omega, sq_45 _ (by omega), jbI_s, sq_45 e (by omega), jbI_s, v1, jbV_s, show ((d - e : Nat) : Int) = (d : Int) - e by omega]
    exact u1
  · unfold Scr at z2
    rw [t3 k i j z1 (by omega) (by omega), u2 _ _ _ (by omega), v5 _ _ _ (by omega) (by omega)]
theorem ap13_no {s : jM} (hI : Inv s) (r : Nat) (hr : r < 4) : ∃ d : Nat, d ≤ 5 ∧ s 1 r 1 = (d : Int) ∧ s 29 0 r = (d : Int) := by
  obtain ⟨d, a, b, c, -⟩ := inv_reg hI r hr
  exact ⟨d, a, b, c⟩
/-- the reference lays a row -/
theorem sj_236a (v1 v2 : Int) (p : Nat) (v4 : Int) (hp : p < 21) (o6 o7 : Option jV) : ∀ (c j : Nat) (s : jM), j + c = 21 → ∃ t, je 236 11 [some (.inr (11, 0)), some (.inl v1), some (.inl v2), some (.inl (p : Int)), some (.inl v4), some (.inl (j : Int)), o6, o7] [] s = je 236 53 [some (.inr (11, 0)), some (.inl v1), some (.inl v2), some (.inl (p : Int)), some (.inl v4), some (.inl 0), o6, o7] [] t ∧ TR s t ∧ ∀ m, m < 21 → (t 51 0 m = if j ≤ m then 0 else s 51 0 m) ∧ (t 52 0 m = if j ≤ m then (if m = p then 1 else 0) else s 52 0 m)
  | 0, j, s, hj => by
    refine ⟨s, by rw [be_236_11, if_neg (by omega)], TR_r s, fun m hm => ⟨by rw [if_neg (by omega)], by rw [if_neg (by omega)]⟩⟩
  | c + 1, j, s, hj => by
    have hs : ∀ V : Int, (V = if j = p then 1 else 0) → ∃ t, je 236 11 [some (.inr (11, 0)), some (.inl v1), some (.inl v2), some (.inl (p : Int)), some (.inl v4), some (.inl ((j + 1 : Nat) : Int)), o6, o7] [] (jup (jup s 51 0 j 0) 52 0 j V) = je 236 53 [some (.inr (11, 0)), some (.inl v1), some (.inl v2), some (.inl (p : Int)), some (.inl v4), some (.inl 0), o6, o7] [] t ∧ TR s t ∧ ∀ m, m < 21 → (t 51 0 m = if j ≤ m then 0 else s 51 0 m) ∧ (t 52 0 m = if j ≤ m then (if m = p then 1 else 0) else s 52 0 m) := fun V hV => by
      obtain ⟨t, t1, t2, t3⟩ := sj_236a v1 v2 p v4 hp o6 o7 c (j + 1) (jup (jup s 51 0 j 0) 52 0 j V) (by omega)
      refine ⟨t, t1, fun k a b z z2 => by rw [t2 k a b z z2, jup_n _ _ _ _ _ _ _ _ (by omega), jup_n _ _ _ _ _ _ _ _ (by omega)], fun m hm => ?_⟩
      obtain ⟨y1, y2⟩ := t3 m hm
      rw [y1, y2]
      by_cases e : m = j
      · rw [e, if_neg (by omega), if_pos (by omega), if_neg (by omega), if_pos (by omega), jup_e, jup_n _ _ _ _ _ _ _ _ (by omega), jup_e, hV]
        exact ⟨rfl, rfl⟩
      · rw [jup_n _ _ _ _ _ 51 _ _ (by omega), jup_n _ _ _ _ _ 51 _ _ (by omega), jup_n _ _ _ _ _ 52 _ _ (by omega), jup_n _ _ _ _ _ 52 _ _ (by omega)]
        by_cases e2 : j + 1 ≤ m
        · rw [if_pos e2, if_pos (show j ≤ m by omega), if_pos e2, if_pos (show j ≤ m by omega)]
          exact ⟨rfl, rfl⟩
        · rw [if_neg e2, if_neg (show ¬ j ≤ m by omega), if_neg e2, if_neg (show ¬ j ≤ m by omega)]
          exact ⟨rfl, rfl⟩
    rw [be_236_11, if_pos (by omega), if_pos (by omega), Int.toNat_natCast, jwn (x := (j : Int) + 1) (n := j + 1) (by omega) (by omega)]
    by_cases e : (j : Int) = p
    · rw [if_pos e, if_pos (by omega)]
      exact hs 1 (by rw [if_pos (by omega)])
    · rw [if_neg e, if_pos (by omega)]
      exact hs 0 (by rw [if_neg (by omega)])
theorem sj_236b (r d e p : Nat) (hr : r < 4) (hd : d ≤ 5) (he : e ≤ d) (hp : p < mnN e) : ∀ (c q : Nat) (s : jM) (o6 o7 : Option jV), q + c = mnN d → (∀ m, m < mnN (d - e) → s 51 0 m = if Qp m p < q then s 30 0 (21 * r + Qp m p) else 0) → ∃ t, je 236 53 [some (.inr (11, 0)), some (.inl (r : Int)), some (.inl (e : Int)), some (.inl (p : Int)), some (.inl (d : Int)), some (.inl (q : Int)), o6, o7] [] s = some (none, t) ∧ (∀ k i j, k ≠ 51 → t k i j = s k i j) ∧ ∀ m, m < mnN (d - e) → t 51 0 m = s 30 0 (21 * r + Qp m p)
  | 0, q, s, o6, o7, hq, hR => by
    refine ⟨s, by rw [be_236_53, sq_203 d hd, jbI_s, if_neg (by omega)], fun _ _ _ _ => rfl, fun m hm => ?_⟩
    rw [hR m hm, if_pos (by have := (Qp_ok hd he hm hp).2.1; omega)]
  | c + 1, q, s, o6, o7, hq, hR => by
    have m1 := (mnN_le d hd).2
    have m2 := (mnN_le e (by omega)).2
    have lq := (mn_lev d hd q (by omega)).mp (by omega)
    have lp := (mn_lev e (by omega) p (by omega)).mp hp
    have uq : plev q = py q + pz q := rfl
    have up : plev p = py p + pz p := rfl
    obtain ⟨-, -, -, -, -, jq6⟩ := jyp_py q (by omega)
    have hrec := fun (s' : jM) o6 o7 h => sj_236b r d e p hr hd he hp c (q + 1) s' o6 o7 (by omega) h
    have hno : (¬ (py p ≤ py q ∧ pz p ≤ pz q ∧ plev q - plev p ≤ d - e ∧ plev p ≤ plev q)) → ∀ m, m < mnN (d - e) → Qp m p ≠ q := fun h m hm z => by
      obtain ⟨q1, q2, q3, q4, q5, q6, q7, q8⟩ := Qp_ok hd he hm hp
      rw [z] at q3 q4
      have um : plev m = py m + pz m := rfl
      exact h ⟨by omega, by omega, by omega, by omega⟩
    have hskip : (∀ m, m < mnN (d - e) → Qp m p ≠ q) → ∀ m, m < mnN (d - e) → s 51 0 m = if Qp m p < q + 1 then s 30 0 (21 * r + Qp m p) else 0 := fun h m hm => by
      rw [hR m hm]
      have := h m hm
      by_cases z : Qp m p < q
      · rw [if_pos z, if_pos (by omega)]
      · rw [if_neg z, if_neg (by omega)]
    rw [be_236_53, sq_203 d hd, jbI_s, if_pos (by omega), sq_205 d q hd (by omega), jbI_s, sq_205 e p (by omega) hp, jbI_s, sq_206 d q hd (by omega), jbI_s, sq_206 e p (by omega) hp, jbI_s, jwi (x := ((d : Int) - plev q) - ((e : Int) - plev p)) (by omega) (by omega), jwi (x := (py q : Int) - py p) (by omega) (by omega), jwn (x := (q : Int) + 1) (n := q + 1) (by omega) (by omega), jwi (x := (d : Int) - e) (by omega) (by omega), jwi (x := ((d : Int) - plev q) - ((e : Int) - plev p) + ((py q : Int) - py p)) (by omega) (by omega)]
    by_cases c1 : ((d : Int) - plev q) - ((e : Int) - plev p) < 0
    · rw [if_pos c1]
      exact hrec s _ _ (hskip (hno (by omega)))
    · rw [if_neg c1]
      by_cases c2 : (py q : Int) - py p < 0
      · rw [if_pos c2]
        exact hrec s _ _ (hskip (hno (by omega)))
      · rw [if_neg c2]
        by_cases c3 : (d : Int) - e < ((d : Int) - plev q) - ((e : Int) - plev p) + ((py q : Int) - py p)
        · rw [if_pos c3]
          exact hrec s _ _ (hskip (hno (by omega)))
        · have ea : (.inl (((d : Int) - plev q) - ((e : Int) - plev p)) : jV) = .inl (((d - plev q) - (e - plev p) : Nat) : Int) := by congr 1; omega
          have eb : (.inl ((py q : Int) - py p) : jV) = .inl ((py q - py p : Nat) : Int) := by congr 1; omega
          have ed : (.inl ((d : Int) - e) : jV) = .inl ((d - e : Nat) : Int) := by congr 1; omega
          have hpl := pl_lt (py q - py p) (by omega) (pz q - pz p) (by omega) (by omega)
          have h204 := sq_204 (d - e) ((d - plev q) - (e - plev p)) (py q - py p) (by omega) (by omega)
          rw [show d - e - ((d - plev q) - (e - plev p)) - (py q - py p) = pz q - pz p by omega] at h204
          rw [if_neg c3, ea, eb, ed, h204, jbI_s, jwi (x := 21 * (r : Int)) (by omega) (by omega), jwi (x := 21 * (r : Int) + q) (by omega) (by omega), if_pos (by omega), if_pos (by omega), Int.toNat_natCast, show (21 * (r : Int) + q).toNat = 21 * r + q by omega]
          obtain ⟨t, t1, t2, t3⟩ := hrec (jup s 51 0 (pl (py q - py p) (pz q - pz p)) (s 30 0 (21 * r + q))) _ _ (fun m hm => by
            obtain ⟨q1, q2, q3, q4, q5, q6, q7, q8⟩ := Qp_ok hd he hm hp
            rw [jup_n s 51 _ _ _ 30 _ _ (by omega)]
            by_cases z : m = pl (py q - py p) (pz q - pz p)
            · have hQ : Qp m p = q := by
                unfold Qp
                rw [z, hpl.2.1, hpl.2.2, show py q - py p + py p = py q by omega, show pz q - pz p + pz p = pz q by omega]
                exact jq6
              rw [hQ, if_pos (by omega), z, jup_e]
            · have hQ : Qp m p ≠ q := fun y => by
                rw [y] at q3 q4
                have := (jyp_py m (by have := (mnN_le (d - e) (by omega)).2; omega)).2.2.2.2.2
                apply z
                rw [← this, show py q - py p = py m by omega, show pz q - pz p = pz m by omega]
              rw [jup_n _ _ _ _ _ _ _ _ (by omega)]
              rw [hR m hm]
              by_cases y : Qp m p < q
              · rw [if_pos y, if_pos (by omega)]
              · rw [if_neg y, if_neg (by omega)])
          refine ⟨t, t1, fun k i j z => by rw [t2 k i j z, jup_n _ _ _ _ _ _ _ _ (by omega)], fun m hm => by rw [t3 m hm, jup_n _ _ _ _ _ _ _ _ (by omega)]⟩
theorem sq_236 (s : jM) (r d e p : Nat) (hr : r < 4) (hd : d ≤ 5) (he : e ≤ d) (hp : p < mnN e) (h29 : s 29 0 r = (d : Int)) : ∃ t, jq 236 [.inr (11, 0), .inl (r : Int), .inl (e : Int), .inl (p : Int)] s = some (none, t) ∧ TR s t ∧ (∀ m, m < mnN (d - e) → t 51 0 m = s 30 0 (21 * r + Qp m p)) ∧ ∀ j, j < 21 → t 52 0 j = if j = p then 1 else 0 := by
  have m2 := (mnN_le e (by omega)).2
  have m3 := (mnN_le (d - e) (by omega)).2
  obtain ⟨u, u1, u2, u3⟩ := sj_236a r e p d (by omega) none none 21 0 s (by omega)
  obtain ⟨t, t1, t2, t3⟩ := sj_236b r d e p hr hd he hp (mnN d) 0 u none none (by omega) (fun m hm => by rw [if_neg (by omega), (u3 m (by omega)).1, if_pos (by omega)])
  refine ⟨t, ?_, fun k i j z z2 => by rw [t2 k i j z, u2 k i j z z2], fun m hm => by rw [t3 m hm, u2 _ _ _ (by omega) (by omega)], fun j hj => by rw [t2 _ _ _ (by omega), (u3 j hj).2, if_pos (by omega)]⟩
  rw [bq_236, if_pos (by omega), Int.toNat_natCast, h29]
  exact u1.trans t1
