/-! LEAD, TALLY, RACKS -/
theorem ahead_c {g h : Nat → Int} (m : Nat) (hm : g m = h m) : ∀ n, (∀ j, j < n → g j = h j) → ahead g m n = ahead h m n
  | 0, _ => rfl
  | n + 1, e => by unfold ahead; rw [ahead_c m hm n (fun j hj => e j (by omega)), e n (by omega), hm]
theorem leadN_c {g h : Nat → Int} (k : Int) (n : Nat) (e : ∀ j, j < n → g j = h j) : ∀ c m, m + c = n → leadN g k n c m = leadN h k n c m
  | 0, _, _ => rfl
  | c + 1, m, hm => by unfold leadN; rw [leadN_c k n e c (m + 1) (by omega), e m (by omega), ahead_c m (e m (by omega)) n e]
theorem sj_251b (s : jM) (r d m : Nat) (k w : Int) (h : Nat → Int) (hr : r < 4) (hd : d ≤ 5) (hm : m < mnN d) (hn : ∀ j, j < 21 → s 30 0 (21 * r + j) = h j) : ∀ c j, j + c = mnN d → ∀ o9, ∃ o', je 251 63 [some (.inr (11, 0)), some (.inl (r : Int)), some (.inl k), some (.inl w), some (.inl (d : Int)), some (.inl (m : Int)), some (.inl (h m)), some (.inl (ahead h m j : Int)), some (.inl (j : Int)), o9] [] s = je 251 63 [some (.inr (11, 0)), some (.inl (r : Int)), some (.inl k), some (.inl w), some (.inl (d : Int)), some (.inl (m : Int)), some (.inl (h m)), some (.inl (ahead h m (mnN d) : Int)), some (.inl (mnN d : Int)), o'] [] s
  | 0, j, hj, o9 => by
    have hj : j = mnN d := hj
    subst hj
    exact ⟨o9, rfl⟩
  | c + 1, j, hj, o9 => by
    have em := mnN_le d hd
    have hl := ahead_le h m j
    obtain ⟨o', ih⟩ := sj_251b s r d m k w h hr hd hm hn c (j + 1) (by omega) (some (.inl (h j)))
    refine ⟨o', Eq.trans ?_ ih⟩
    have e := hn j (by omega)
    rw [be_251_63, sq_203 d hd, jbI_s, if_pos (by omega), jwi (x := 21 * (r : Int)) (by omega) (by omega), jwi (x := 21 * (r : Int) + j) (by omega) (by omega), if_pos (by omega), show (21 * (r : Int) + j).toNat = 21 * r + j by omega, e, jwn (x := (j : Int) + 1) (n := j + 1) (by omega) (by omega), jwi (x := (ahead h m j : Int) + 0) (by omega) (by omega), Int.add_zero]
    by_cases c1 : h m < h j
    · rw [if_pos c1, jwn (x := (ahead h m j : Int) + 1) (n := ahead h m (j + 1)) (by rw [ahead_yes (Or.inl c1)]; omega) (by rw [ahead_yes (Or.inl c1)]; omega)]
    · rw [if_neg c1]
      by_cases c2 : h j = h m
      · rw [if_pos c2]
        by_cases c3 : (j : Int) < m
        · have y : h m < h j ∨ (h j = h m ∧ j < m) := Or.inr ⟨c2, by omega⟩
          rw [if_pos c3, jwn (x := (ahead h m j : Int) + 1) (n := ahead h m (j + 1)) (by rw [ahead_yes y]; omega) (by rw [ahead_yes y]; omega)]
        · rw [if_neg c3, ahead_no (fun z => z.elim c1 (fun z2 => c3 (by omega)))]
      · rw [if_neg c2, ahead_no (fun z => z.elim c1 (fun z2 => c2 z2.1))]
theorem sj_251 (s : jM) (r d : Nat) (k w : Int) (h : Nat → Int) (hr : r < 4) (hd : d ≤ 5) (hk : 0 ≤ k) (hn : ∀ j, j < 21 → s 30 0 (21 * r + j) = h j) : ∀ c m, m + c = mnN d → ∀ o6 o7 o8 o9, je 251 33 [some (.inr (11, 0)), some (.inl (r : Int)), some (.inl k), some (.inl w), some (.inl (d : Int)), some (.inl (m : Int)), o6, o7, o8, o9] [] s = some (some (.inl (if leadN h k (mnN d) c m < mnN d then (if w = 0 then 10 * ((d : Int) - plev (leadN h k (mnN d) c m)) + py (leadN h k (mnN d) c m) else h (leadN h k (mnN d) c m)) else -2)), s)
  | 0, m, hm, o6, o7, o8, o9 => by
    rw [be_251_33, sq_203 d hd, jbI_s, if_neg (by omega), leadN, if_neg (by omega)]
  | c + 1, m, hm, o6, o7, o8, o9 => by
    have em := mnN_le d hd
    have hl := ahead_le h m (mnN d)
    have e := hn m (by omega)
    obtain ⟨o', ih⟩ := sj_251b s r d m k w h hr hd (by omega) hn (mnN d) 0 (by omega) o9
    have ih : je 251 63 [some (.inr (11, 0)), some (.inl (r : Int)), some (.inl k), some (.inl w), some (.inl (d : Int)), some (.inl (m : Int)), some (.inl (h m)), some (.inl 0), some (.inl 0), o9] [] s = _ := ih
    have hlev := (mn_lev d hd m (by omega)).mp (by omega)
    rw [be_251_33, sq_203 d hd, jbI_s, if_pos (by omega), jwi (x := 21 * (r : Int)) (by omega) (by omega), jwi (x := 21 * (r : Int) + m) (by omega) (by omega), if_pos (by omega), show (21 * (r : Int) + m).toNat = 21 * r + m by omega, e, ih, be_251_63, sq_203 d hd, jbI_s, if_neg (by omega), jwn (x := (m : Int) + 1) (n := m + 1) (by omega) (by omega)]
    by_cases c0 : h m = 0
    · have hL : leadN h k (mnN d) (c + 1) m = leadN h k (mnN d) c (m + 1) := by rw [leadN, if_neg (fun z => z.1 c0)]
      rw [if_pos c0, sj_251 s r d k w h hr hd hk hn c (m + 1) (by omega), hL]
    · rw [if_neg c0]
      by_cases c1 : (ahead h m (mnN d) : Int) = k
      · have hL : leadN h k (mnN d) (c + 1) m = m := by rw [leadN, if_pos ⟨c0, c1⟩]
        have hp := (jyp_py m (by omega)).2.2.1
        rw [if_pos c1, hL, if_pos (show m < mnN d by omega), sq_205 d m hd (by omega), jbI_s, sq_206 d m hd (by omega), jbI_s]
        by_cases cw : w = 0
        · rw [if_pos cw, if_pos cw, jwi (x := 10 * ((d : Int) - plev m)) (by omega) (by omega), jwi (by omega) (by omega)]
        · rw [if_neg cw, if_neg cw]
      · have hL : leadN h k (mnN d) (c + 1) m = leadN h k (mnN d) c (m + 1) := by rw [leadN, if_neg (fun z => c1 z.2)]
        rw [if_neg c1, sj_251 s r d k w h hr hd hk hn c (m + 1) (by omega), hL]
theorem ap_20 (s : jM) (hI : Inv s) (v1 v2 v3 : Int) : Go s 20 251 [.inl v1, .inl v2, .inl v3] := by
  by_cases h1 : 0 ≤ v1 ∧ v1 < 4
  rotate_left
  · exact go_no (-1) hI (by rw [bq_20]; repeat (first | rw [jbI_s] | rw [jbV_s] | rw [bI_t (by omega)] | rw [bI_f (by omega)] | rw [if_pos (by omega)] | rw [if_neg (by omega)] | rw [sq_39])) (by rw [bq_251]; repeat (first | rw [jbI_s] | rw [jbV_s] | rw [bI_t (by omega)] | rw [bI_f (by omega)] | rw [if_pos (by omega)] | rw [if_neg (by omega)] | rw [sq_201]))
  by_cases h2 : 0 ≤ v2
  rotate_left
  · exact go_no (-1) hI (by rw [bq_20]; repeat (first | rw [jbI_s] | rw [jbV_s] | rw [bI_t (by omega)] | rw [bI_f (by omega)] | rw [if_pos (by omega)] | rw [if_neg (by omega)] | rw [sq_39])) (by rw [bq_251]; repeat (first | rw [jbI_s] | rw [jbV_s] | rw [bI_t (by omega)] | rw [bI_f (by omega)] | rw [if_pos (by omega)] | rw [if_neg (by omega)] | rw [sq_201]))
  by_cases h3 : 0 ≤ v3 ∧ v3 < 2
  rotate_left
  · exact go_no (-1) hI (by rw [bq_20]; repeat (first | rw [jbI_s] | rw [jbV_s] | rw [bI_t (by omega)] | rw [bI_f (by omega)] | rw [if_pos (by omega)] | rw [if_neg (by omega)] | rw [sq_39] | rw [sq_38])) (by rw [bq_251]; repeat (first | rw [jbI_s] | rw [jbV_s] | rw [bI_t (by omega)] | rw [bI_f (by omega)] | rw [if_pos (by omega)] | rw [if_neg (by omega)] | rw [sq_201] | rw [sq_200]))
  obtain ⟨r, rfl⟩ := nat_of v1 h1.1
  obtain ⟨d, hd, r1, r2, r3, r4, r5, r6, r7⟩ := inv_reg hI r (by omega)
  have em := mnN_le d hd
  have b20 := bq_20 r v2 v3 s
  have q77 := sq_77 s r d v2 r1 hd
  have q251 := sj_251 s r d v2 v3 (s 16 r) (by omega) hd h2 (fun j hj => (r4 j hj).symm) (mnN d) 0 (by omega) none none none none
  generalize hL : leadN (s 16 r) v2 (mnN d) (mnN d) 0 = L at *
  refine go_no (if L < mnN d then (if v3 = 0 then 10 * ((d : Int) - plev L) + py L else s 16 r L) else -2) hI ?_ ?_
  · rw [b20]
    repeat (first | rw [jbI_s] | rw [jbV_s] | rw [bI_t (by omega)] | rw [bI_f (by omega)] | rw [if_pos (by omega)] | rw [if_neg (by omega)] | rw [sq_39] | rw [sq_38] | rw [Nat.mul_zero] | rw [Nat.zero_add] | rw [Int.toNat_natCast] | rw [q77])
    by_cases c : L < mnN d
    · have hp := jyp_py L (by omega)
      have hlev := (mn_lev d hd L (by omega)).mp c
      rw [if_pos c, if_pos c, if_neg (by omega)]
      by_cases cw : v3 = 0
      · rw [if_pos cw, if_pos cw, r1, sq_47 d L hd (by omega), jbI_s, if_pos (by omega), Int.toNat_natCast, hp.1, jwi (x := 10 * ((d : Int) - plev L)) (by omega) (by omega), jwi (x := 10 * ((d : Int) - plev L) + py L) (by omega) (by omega)]
      · rw [if_neg cw, if_neg cw, sq_62 r L (by omega), jbI_s]
    · rw [if_neg c, if_neg c, if_pos (by omega)]
  · rw [bq_251]
    repeat (first | rw [jbI_s] | rw [jbV_s] | rw [bI_t (by omega)] | rw [bI_f (by omega)] | rw [if_pos (by omega)] | rw [if_neg (by omega)] | rw [sq_201] | rw [sq_200] | rw [Int.toNat_natCast] | rw [r2])
    exact q251
/-- tally -/
def tal (g : Nat → Int) (n : Nat) (k w : Int) : Nat → Int → Int
  | 0, a => if k = -1 then a else -2
  | v + 1, a => if 0 < cntN g v n then (if a = k then (if w = 0 then (v : Int) else (cntN g v n : Int)) else tal g n k w v (a + 1)) else tal g n k w v a
theorem sj_21 (s : jM) (f d : Nat) (k w z : Int) (h : s 1 f 1 = (d : Int)) (hd : d ≤ 5) : ∀ (v : Nat) (a : Int) o7, 0 ≤ a → a + v ≤ 101 → je 21 44 [some (.inr (10, 0)), some (.inl z), some (.inl k), some (.inl w), some (.inr (1, f)), some (.inl a), some (.inl ((v : Int) - 1)), o7] [] s = some (some (.inl (tal (s 16 f) (mnN d) k w v a)), s)
  | 0, a, o7, ha, hb => by
    rw [be_21_44, if_pos (by omega), tal]
    by_cases c : k = -1
    · rw [if_pos c, if_pos c]
    · rw [if_neg c, if_neg c]
  | v + 1, a, o7, ha, hb => by
    have ih := fun a o7 h1 h2 => sj_21 s f d k w z h hd v a o7 h1 h2
    have e : ((v + 1 : Nat) : Int) - 1 = (v : Int) := by omega
    have e2 : jw ((v : Int) + (-1)) = (v : Int) - 1 := by rw [jwi (by omega) (by omega)]; omega
    rw [be_21_44, e, if_neg (by omega), sq_68 s f d v h hd, jbI_s, jwi (x := a + 1) (by omega) (by omega), e2, tal]
    by_cases c : 0 < cntN (s 16 f) v (mnN d)
    · have c2 : (0 : Int) < cntN (s 16 f) v (mnN d) := by omega
      rw [if_pos c, if_pos c2, if_pos c2]
      by_cases ca : a = k
      · rw [if_pos ca, if_pos ca]
        by_cases cw : w = 0
        · rw [if_pos cw, if_pos cw]
        · rw [if_neg cw, if_neg cw]
      · rw [if_neg ca, if_neg ca]
        exact ih _ _ (by omega) (by omega)
    · have c2 : ¬ (0 : Int) < cntN (s 16 f) v (mnN d) := by omega
      rw [if_neg c, if_neg c2, if_neg c2]
      exact ih _ _ (by omega) (by omega)
theorem sj_252b (s : jM) (r d : Nat) (k w a v : Int) (g : Nat → Int) (hr : r < 4) (hd : d ≤ 5) (h : s 29 0 r = (d : Int)) (hn : ∀ j, j < 21 → s 30 0 (21 * r + j) = g j) : je 252 45 [some (.inr (11, 0)), some (.inl (r : Int)), some (.inl k), some (.inl w), some (.inl a), some (.inl v), some (.inl 0), some (.inl 0)] [] s = je 252 45 [some (.inr (11, 0)), some (.inl (r : Int)), some (.inl k), some (.inl w), some (.inl a), some (.inl v), some (.inl (cntN g v (mnN d) : Int)), some (.inl (mnN d : Int))] [] s := by
  have em := mnN_le d hd
  refine loopI (P := fun j => je 252 45 [some (.inr (11, 0)), some (.inl (r : Int)), some (.inl k), some (.inl w), some (.inl a), some (.inl v), some (.inl (cntN g v j : Int)), some (.inl (j : Int))] [] s) (n := mnN d) (fun j hj => ?_) rfl
  show je 252 45 _ [] _ = _
  have hl := cntN_le g v j
  have e := hn j (by omega)
  rw [be_252_45, if_pos (by omega), Int.toNat_natCast, h, sq_203 d hd, jbI_s, if_pos (by omega), jwi (x := 21 * (r : Int)) (by omega) (by omega), jwi (x := 21 * (r : Int) + j) (by omega) (by omega), if_pos (by omega), show (21 * (r : Int) + j).toNat = 21 * r + j by omega, e, jwn (x := (j : Int) + 1) (n := j + 1) (by omega) (by omega), jwi (x := (cntN g v j : Int) + 0) (by omega) (by omega), Int.add_zero]
  by_cases c : g j = v
  · rw [if_pos c, jwn (x := (cntN g v j : Int) + 1) (n := cntN g v (j + 1)) (by rw [cntN_yes c]; omega) (by rw [cntN_yes c]; omega)]
  · rw [if_neg c, cntN_no c]
theorem sj_252 (s : jM) (r d : Nat) (k w : Int) (g : Nat → Int) (hr : r < 4) (hd : d ≤ 5) (h : s 29 0 r = (d : Int)) (hn : ∀ j, j < 21 → s 30 0 (21 * r + j) = g j) : ∀ (v : Nat) (a : Int) o6 o7, 0 ≤ a → a + v ≤ 101 → je 252 34 [some (.inr (11, 0)), some (.inl (r : Int)), some (.inl k), some (.inl w), some (.inl a), some (.inl ((v : Int) - 1)), o6, o7] [] s = some (some (.inl (tal g (mnN d) k w v a)), s)
  | 0, a, o6, o7, ha, hb => by
    rw [be_252_34, if_pos (by omega), tal]
    by_cases c : k = -1
    · rw [if_pos c, if_pos c]
    · rw [if_neg c, if_neg c]
  | v + 1, a, o6, o7, ha, hb => by
    have ih := fun a o6 o7 h1 h2 => sj_252 s r d k w g hr hd h hn v a o6 o7 h1 h2
    have e : ((v + 1 : Nat) : Int) - 1 = (v : Int) := by omega
    have e2 : jw ((v : Int) + (-1)) = (v : Int) - 1 := by rw [jwi (by omega) (by omega)]; omega
    rw [be_252_34, e, if_neg (by omega), sj_252b s r d k w a v g hr hd h hn, be_252_45, if_pos (by omega), Int.toNat_natCast, h, sq_203 d hd, jbI_s, if_neg (by omega), jwi (x := a + 1) (by omega) (by omega), e2, tal]
    by_cases c : 0 < cntN g v (mnN d)
    · have c2 : (0 : Int) < cntN g v (mnN d) := by omega
      rw [if_pos c, if_pos c2]
      by_cases ca : a = k
      · rw [if_pos ca, if_pos ca]
        by_cases cw : w = 0
        · rw [if_pos cw, if_pos cw]
        · rw [if_neg cw, if_neg cw]
      · rw [if_neg ca, if_neg ca]
        exact ih _ _ _ (by omega) (by omega)
    · have c2 : ¬ (0 : Int) < cntN g v (mnN d) := by omega
      rw [if_neg c, if_neg c2]
      exact ih _ _ _ (by omega) (by omega)
theorem ap_21 (s : jM) (hI : Inv s) (v1 v2 v3 : Int) : Go s 21 252 [.inl v1, .inl v2, .inl v3] := by
  by_cases h1 : 0 ≤ v1 ∧ v1 < 4
  rotate_left
  · exact go_no (-1) hI (by rw [bq_21]; repeat (first | rw [jbI_s] | rw [jbV_s] | rw [bI_t (by omega)] | rw [bI_f (by omega)] | rw [if_pos (by omega)] | rw [if_neg (by omega)] | rw [sq_39])) (by rw [bq_252]; repeat (first | rw [jbI_s] | rw [jbV_s] | rw [bI_t (by omega)] | rw [bI_f (by omega)] | rw [if_pos (by omega)] | rw [if_neg (by omega)] | rw [sq_201]))
  by_cases h2 : -1 ≤ v2
  rotate_left
  · exact go_no (-1) hI (by rw [bq_21]; repeat (first | rw [jbI_s] | rw [jbV_s] | rw [bI_t (by omega)] | rw [bI_f (by omega)] | rw [if_pos (by omega)] | rw [if_neg (by omega)] | rw [sq_39])) (by rw [bq_252]; repeat (first | rw [jbI_s] | rw [jbV_s] | rw [bI_t (by omega)] | rw [bI_f (by omega)] | rw [if_pos (by omega)] | rw [if_neg (by omega)] | rw [sq_201]))
  obtain ⟨r, rfl⟩ := nat_of v1 h1.1
  obtain ⟨d, hd, r1, r2, r3, r4, r5, r6, r7⟩ := inv_reg hI r (by omega)
  have b21 := bq_21 r v2 v3 s
  have q21 := sj_21 s r d v2 v3 r r1 hd 101 0 none (by omega) (by omega)
  have q252 := sj_252 s r d v2 v3 (s 16 r) (by omega) hd r2 (fun j hj => (r4 j hj).symm) 101 0 none none (by omega) (by omega)
  rw [show ((101 : Nat) : Int) - 1 = 100 from rfl] at q21 q252
  by_cases c : v2 < 0
  · refine go_no (tal (s 16 r) (mnN d) v2 v3 101 0) hI ?_ ?_
    · rw [b21]
      repeat (first | rw [jbI_s] | rw [jbV_s] | rw [bI_t (by omega)] | rw [bI_f (by omega)] | rw [if_pos (by omega)] | rw [if_neg (by omega)] | rw [sq_39] | rw [Nat.mul_zero] | rw [Nat.zero_add] | rw [Int.toNat_natCast] | rw [q21])
    · rw [bq_252]
      repeat (first | rw [jbI_s] | rw [jbV_s] | rw [bI_t (by omega)] | rw [bI_f (by omega)] | rw [if_pos (by omega)] | rw [if_neg (by omega)] | rw [sq_201] | rw [q252])
  by_cases h3 : 0 ≤ v3 ∧ v3 < 2
  rotate_left
  · exact go_no (-1) hI (by rw [bq_21]; repeat (first | rw [jbI_s] | rw [jbV_s] | rw [bI_t (by omega)] | rw [bI_f (by omega)] | rw [if_pos (by omega)] | rw [if_neg (by omega)] | rw [sq_39] | rw [sq_38])) (by rw [bq_252]; repeat (first | rw [jbI_s] | rw [jbV_s] | rw [bI_t (by omega)] | rw [bI_f (by omega)] | rw [if_pos (by omega)] | rw [if_neg (by omega)] | rw [sq_201] | rw [sq_200]))
  · refine go_no (tal (s 16 r) (mnN d) v2 v3 101 0) hI ?_ ?_
    · rw [b21]
      repeat (first | rw [jbI_s] | rw [jbV_s] | rw [bI_t (by omega)] | rw [bI_f (by omega)] | rw [if_pos (by omega)] | rw [if_neg (by omega)] | rw [sq_39] | rw [sq_38] | rw [Nat.mul_zero] | rw [Nat.zero_add] | rw [Int.toNat_natCast] | rw [q21])
    · rw [bq_252]
      repeat (first | rw [jbI_s] | rw [jbV_s] | rw [bI_t (by omega)] | rw [bI_f (by omega)] | rw [if_pos (by omega)] | rw [if_neg (by omega)] | rw [sq_201] | rw [sq_200] | rw [q252])
