/-! SAY -/
def CW (s : jM) (L : List Int) : Prop := s 9 0 1 = (L.length : Int) ∧ ∀ i, i < L.length → L[i]? = some (s 28 0 i)
def TW (s t : jM) : Prop := ∀ k i j, k ≠ 9 → k ≠ 28 → t k i j = s k i j
theorem TW_t {s t u : jM} (h : TW s t) (h2 : TW t u) : TW s u := fun k i j z z2 => (h2 k i j z z2).trans (h k i j z z2)
def MW (s : jM) (a : Int) (L : List Int) : Prop := s 11 0 33 = (L.length : Int) ∧ s 11 0 34 = a ∧ s 11 0 35 = if 0 ≤ a then (L[a.toNat]?).getD (-2) else -2
def TV (s t : jM) : Prop := ∀ k i j, ¬ (k = 11 ∧ (j = 33 ∨ j = 35)) → t k i j = s k i j
theorem TV_t {s t u : jM} (h : TV s t) (h2 : TV t u) : TV s u := fun k i j z => (h2 k i j z).trans (h k i j z)
theorem sq_142 (s : jM) (L : List Int) (v : Int) (h : CW s L) (hl : L.length < 200) : ∃ t, jq 142 [.inr (9, 0), .inl v] s = some (none, t) ∧ CW t (L ++ [v]) ∧ TW s t := by
  obtain ⟨h1, h2⟩ := h
  refine ⟨jup (jup s 28 0 L.length v) 9 0 1 ((L.length + 1 : Nat) : Int), ?_, ⟨?_, fun i hi => ?_⟩, fun k i j z z2 => by rw [jup_n _ _ _ _ _ _ _ _ (by omega), jup_n _ _ _ _ _ _ _ _ (by omega)]⟩
  · rw [bq_142, h1, if_pos (by omega), if_pos (by omega), Int.toNat_natCast, jwn (x := (L.length : Int) + 1) (n := L.length + 1) (by omega) (by omega)]
  · rw [jup_e, List.length_append]; rfl
  · rw [List.length_append] at hi
    have hi : i < L.length + 1 := hi
    rw [jup_n _ _ _ _ _ _ _ _ (by omega)]
    by_cases c : i = L.length
    · rw [c, jup_e, List.getElem?_concat_length]
    · rw [jup_n _ _ _ _ _ _ _ _ (by omega), List.getElem?_append_left (by omega)]
      exact h2 i (by omega)
theorem sq_261 (s : jM) (a : Int) (L : List Int) (v : Int) (h : MW s a L) (hl : L.length < 1000) : ∃ t, jq 261 [.inr (11, 0), .inl v] s = some (none, t) ∧ MW t a (L ++ [v]) ∧ TV s t := by
  obtain ⟨h1, h2, h3⟩ := h
  rw [bq_261, h1, h2, jwn (x := (L.length : Int) + 1) (n := L.length + 1) (by omega) (by omega)]
  by_cases c : (L.length : Int) = a
  · rw [if_pos c]
    refine ⟨_, rfl, ⟨by rw [jup_e, List.length_append]; rfl, by rw [jup_n _ _ _ _ _ _ _ _ (by omega), jup_n _ _ _ _ _ _ _ _ (by omega)]; exact h2, ?_⟩, fun k i j z => by rw [jup_n _ _ _ _ _ _ _ _ (by omega), jup_n _ _ _ _ _ _ _ _ (by omega)]⟩
    rw [jup_n _ _ _ _ _ _ _ _ (by omega), jup_e, if_pos (by omega), ← c, Int.toNat_natCast, List.getElem?_concat_length]
    rfl
  · rw [if_neg c]
    refine ⟨_, rfl, ⟨by rw [jup_e, List.length_append]; rfl, by rw [jup_n _ _ _ _ _ _ _ _ (by omega), jup_n _ _ _ _ _ _ _ _ (by omega)]; exact h2, ?_⟩, fun k i j z => by rw [jup_n _ _ _ _ _ _ _ _ (by omega), jup_n _ _ _ _ _ _ _ _ (by omega)]⟩
    rw [jup_n _ _ _ _ _ _ _ _ (by omega), jup_e, h3]
    by_cases c2 : 0 ≤ a
    · rw [if_pos c2, if_pos c2]
      by_cases c3 : a.toNat < L.length
      · rw [List.getElem?_append_left c3]
      · rw [List.getElem?_eq_none (by omega), List.getElem?_eq_none (by rw [List.length_append]; show L.length + 1 ≤ _; omega)]
    · rw [if_neg c2, if_neg c2]
def wnum (v : Int) : List Int := if v = 100 then [49, 48, 48] else if 9 < v then [48 + v / 10, 48 + v % 10] else [48 + v % 10]
def wpow (c : Int) (n : Nat) : List Int := if n = 0 then [] else if n = 1 then [c] else [c, 48 + (n : Int)]
theorem wnum_l (v : Int) : (wnum v).length ≤ 3 := by
  unfold wnum
  split
  · exact Nat.le_refl 3
  · split
    · show 2 ≤ 3; omega
    · show 1 ≤ 3; omega
theorem wpow_l (c : Int) (n : Nat) : (wpow c n).length ≤ n := by
  unfold wpow
  split
  · show 0 ≤ n; omega
  · split
    · show 1 ≤ n; omega
    · show 2 ≤ n; omega
theorem wpow_2 (c : Int) (n : Nat) : (wpow c n).length ≤ 2 := by
  unfold wpow
  split
  · show 0 ≤ 2; omega
  · split
    · show 1 ≤ 2; omega
    · show 2 ≤ 2; omega
theorem sq_141 (s : jM) (L : List Int) (v : Int) (hv : 0 ≤ v ∧ v ≤ 100) (h : CW s L) (hl : L.length + (wnum v).length ≤ 200) : ∃ t, jq 141 [.inr (9, 0), .inl v] s = some (none, t) ∧ CW t (L ++ wnum v) ∧ TW s t := by
  unfold wnum at hl ⊢
  by_cases c1 : v = 100
  · rw [if_pos c1] at hl
    have hl : L.length + 3 ≤ 200 := hl
    obtain ⟨t, t1, t2, t3⟩ := sq_142 s L 49 h (by omega)
    obtain ⟨u, u1, u2, u3⟩ := sq_142 t (L ++ [49]) 48 t2 (by rw [List.length_append]; show L.length + 1 < 200; omega)
    obtain ⟨w, w1, w2, w3⟩ := sq_142 u (L ++ [49] ++ [48]) 48 u2 (by rw [List.length_append, List.length_append]; show L.length + 1 + 1 < 200; omega)
    rw [if_pos c1]
    refine ⟨w, ?_, by rw [List.append_assoc, List.append_assoc] at w2; exact w2, TW_t t3 (TW_t u3 w3)⟩
    subst c1
    have e1 : jw (48 + jw (Int.tdiv 100 100)) = 49 := by decide +kernel
    have e2 : jw (48 + Int.tmod (jw (Int.tdiv 100 10)) 10) = 48 := by decide +kernel
    have e3 : jw (48 + Int.tmod 100 10) = 48 := by decide +kernel
    rw [bq_141, if_neg (by decide), e1, t1, jbV_s, be_141_17, if_neg (by decide), e2, u1, jbV_s, e3, w1, jbV_s]
  · rw [if_neg c1] at hl ⊢
    have e3 : jw (48 + Int.tmod v 10) = 48 + v % 10 := by rw [Int.tmod_eq_emod_of_nonneg hv.1, jwi (by omega) (by omega)]
    by_cases c2 : 9 < v
    · rw [if_pos c2] at hl
      have hl : L.length + 2 ≤ 200 := hl
      obtain ⟨t, t1, t2, t3⟩ := sq_142 s L (48 + v / 10) h (by omega)
      obtain ⟨u, u1, u2, u3⟩ := sq_142 t (L ++ [48 + v / 10]) (48 + v % 10) t2 (by rw [List.length_append]; show L.length + 1 < 200; omega)
      have e2 : jw (48 + Int.tmod (jw (Int.tdiv v 10)) 10) = 48 + v / 10 := by
        rw [Int.tdiv_eq_ediv_of_nonneg hv.1, jwi (x := v / 10) (by omega) (by omega), Int.tmod_eq_emod_of_nonneg (by omega), jwi (by omega) (by omega)]
        omega
      rw [if_pos c2]
      refine ⟨u, ?_, by rw [List.append_assoc] at u2; exact u2, TW_t t3 u3⟩
      rw [bq_141, if_pos (by omega), be_141_17, if_neg (by omega), e2, t1, jbV_s, e3, u1, jbV_s]
    · rw [if_neg c2] at hl
      have hl : L.length + 1 ≤ 200 := hl
      obtain ⟨t, t1, t2, t3⟩ := sq_142 s L (48 + v % 10) h (by omega)
      rw [if_neg c2]
      refine ⟨t, ?_, t2, t3⟩
      rw [bq_141, if_pos (by omega), be_141_17, if_pos (by omega), e3, t1, jbV_s]
theorem sq_140 (s : jM) (L : List Int) (c : Int) (n : Nat) (hn : n ≤ 5) (h : CW s L) (hl : L.length ≤ 198) : ∃ t, jq 140 [.inr (9, 0), .inl c, .inl (n : Int)] s = some (none, t) ∧ CW t (L ++ wpow c n) ∧ TW s t := by
  unfold wpow
  rw [bq_140]
  by_cases c0 : n = 0
  · rw [if_pos c0, if_neg (by omega), if_neg (by omega), List.append_nil]
    exact ⟨s, rfl, h, fun _ _ _ _ _ => rfl⟩
  · obtain ⟨t, t1, t2, t3⟩ := sq_142 s L c h (by omega)
    rw [if_neg c0, if_pos (by omega), t1, jbV_s]
    by_cases c1 : n = 1
    · rw [if_pos c1, if_neg (by omega)]
      exact ⟨t, rfl, t2, t3⟩
    · have e : wnum (n : Int) = [48 + (n : Int)] := by
        unfold wnum
        rw [if_neg (by omega), if_neg (by omega), show (n : Int) % 10 = n by omega]
      obtain ⟨u, u1, u2, u3⟩ := sq_141 t (L ++ [c]) (n : Int) (by omega) t2 (by rw [e, List.length_append]; show L.length + 1 + 1 ≤ 200; omega)
      rw [if_neg c1, if_pos (by omega), u1, jbV_s]
      refine ⟨u, rfl, ?_, TW_t t3 u3⟩
      rw [e, List.append_assoc] at u2
      exact u2
/-- a term behind n letters -/
def wtm (v : Int) (d m n : Nat) : List Int := (if 0 < n then [43] else []) ++ ((if v = 1 then (if d = 0 then wnum v else []) else wnum v) ++ (wpow 120 (d - plev m) ++ (wpow 121 (py m) ++ wpow 122 (pz m))))
theorem wtm_l (v : Int) (d m n : Nat) (hd : d ≤ 5) (hm : plev m ≤ d) : (wtm v d m n).length ≤ 9 := by
  unfold wtm
  have h1 := wpow_l 120 (d - plev m)
  have h2 := wpow_l 121 (py m)
  have h3 := wpow_l 122 (pz m)
  have h4 := wnum_l v
  have ul : plev m = py m + pz m := rfl
  simp only [List.length_append]
  have h5 : (if 0 < n then [43] else ([] : List Int)).length ≤ 1 := by split <;> simp
  have h6 : (if v = 1 then (if d = 0 then wnum v else []) else wnum v).length ≤ 3 := by
    split
    · split
      · exact h4
      · show 0 ≤ 3; omega
    · exact h4
  omega
theorem sq_139 (s : jM) (L : List Int) (r d m : Nat) (hd : d ≤ 5) (hm : m < mnN d) (h1 : s 1 r 1 = (d : Int)) (hg : g101 (s 16 r m)) (h : CW s L) (hl : L.length ≤ 190) : ∃ t, jq 139 [.inr (9, 0), .inr (1, r), .inl (m : Int)] s = some (none, t) ∧ CW t (L ++ wtm (s 16 r m) d m L.length) ∧ TW s t := by
  have em := mnN_le d hd
  have hlev := (mn_lev d hd m (by omega)).mp hm
  have ul : plev m = py m + pz m := rfl
  obtain ⟨y1, y2, y3, y4, -⟩ := jyp_py m (by omega)
  obtain ⟨g1, g2⟩ := hg
  -- behind the number
  have st38 : ∀ (u : jM) (M : List Int), CW u M → M.length ≤ 194 → u 1 r 1 = (d : Int) → ∃ t, je 139 38 [some (.inr (9, 0)), some (.inr (1, r)), some (.inl (m : Int))] [] u = some (none, t) ∧ CW t (M ++ (wpow 120 (d - plev m) ++ (wpow 121 (py m) ++ wpow 122 (pz m)))) ∧ TW u t := fun u M hu hM hu1 => by
    have p1 := wpow_2 120 (d - plev m)
    have p2 := wpow_2 121 (py m)
    obtain ⟨a, a1, a2, a3⟩ := sq_140 u M 120 (d - plev m) (by omega) hu (by omega)
    obtain ⟨b, b1, b2, b3⟩ := sq_140 a (M ++ wpow 120 (d - plev m)) 121 (py m) y3 a2 (by rw [List.length_append]; omega)
    obtain ⟨c, c1, c2, c3⟩ := sq_140 b (M ++ wpow 120 (d - plev m) ++ wpow 121 (py m)) 122 (pz m) y4 b2 (by rw [List.length_append, List.length_append]; omega)
    refine ⟨c, ?_, by rw [List.append_assoc, List.append_assoc] at c2; exact c2, TW_t a3 (TW_t b3 c3)⟩
    rw [be_139_38, hu1, sq_47n d m hd hm, jbI_s, a1, jbV_s, if_pos (by omega), Int.toNat_natCast, y1, b1, jbV_s, if_pos (by omega), y2, c1, jbV_s]
  -- behind the plus
  have st13 : ∀ (u : jM) (M : List Int), CW u M → M.length ≤ 191 → u 1 r 1 = (d : Int) → u 16 r m = s 16 r m → ∃ t, je 139 13 [some (.inr (9, 0)), some (.inr (1, r)), some (.inl (m : Int))] [] u = some (none, t) ∧ CW t (M ++ ((if s 16 r m = 1 then (if d = 0 then wnum (s 16 r m) else []) else wnum (s 16 r m)) ++ (wpow 120 (d - plev m) ++ (wpow 121 (py m) ++ wpow 122 (pz m))))) ∧ TW u t := fun u M hu hM hu1 hu16 => by
    have hnl := wnum_l (s 16 r m)
    have num : ∃ t, jq 141 [.inr (9, 0), .inl (s 16 r m)] u = some (none, t) ∧ CW t (M ++ wnum (s 16 r m)) ∧ TW u t := sq_141 u M (s 16 r m) (by omega) hu (by omega)
    obtain ⟨a, a1, a2, a3⟩ := num
    have hfin : ∀ (t : jM) (X : List Int), CW t (M ++ X) → X.length ≤ 3 → TW u t → ∃ t', je 139 38 [some (.inr (9, 0)), some (.inr (1, r)), some (.inl (m : Int))] [] t = some (none, t') ∧ CW t' (M ++ (X ++ (wpow 120 (d - plev m) ++ (wpow 121 (py m) ++ wpow 122 (pz m))))) ∧ TW u t' := fun t X ht hX htw => by
      obtain ⟨b, b1, b2, b3⟩ := st38 t (M ++ X) ht (by rw [List.length_append]; omega) (by rw [htw _ _ _ (by omega) (by omega)]; exact hu1)
      exact ⟨b, b1, by rw [List.append_assoc] at b2; exact b2, TW_t htw b3⟩
    rw [be_139_13, sq_62 r m (by omega), jbI_s, hu16]
    by_cases c1 : s 16 r m = 1
    · rw [if_pos c1, if_pos c1, hu1]
      by_cases c2 : d = 0
      · rw [if_pos (by omega), if_pos c2, sq_62 r m (by omega), jbI_s, hu16, a1, jbV_s]
        exact hfin a _ a2 hnl a3
      · rw [if_neg (by omega), if_neg c2]
        exact hfin u [] (by rw [List.append_nil]; exact hu) (by show 0 ≤ 3; omega) (fun _ _ _ _ _ => rfl)
    · rw [if_neg c1, if_neg c1, sq_62 r m (by omega), jbI_s, hu16, a1, jbV_s]
      exact hfin a _ a2 hnl a3
  unfold wtm
  rw [bq_139, h.1]
  by_cases c0 : 0 < L.length
  · obtain ⟨a, a1, a2, a3⟩ := sq_142 s L 43 h (by omega)
    obtain ⟨b, b1, b2, b3⟩ := st13 a (L ++ [43]) a2 (by rw [List.length_append]; show L.length + 1 ≤ 191; omega) (by rw [a3 _ _ _ (by omega) (by omega)]; exact h1) (a3 _ _ _ (by omega) (by omega))
    rw [if_pos (by omega), if_pos c0, a1, jbV_s]
    exact ⟨b, b1, by rw [List.append_assoc] at b2; exact b2, TW_t a3 b3⟩
  · rw [if_neg (by omega), if_neg c0, List.nil_append]
    exact st13 s L h (by omega) h1 rfl
/-- all terms from the m-th on, behind L -/
def wall (g : Nat → Int) (d : Nat) : Nat → Nat → List Int → List Int
  | 0, _, L => if L.length = 0 then L ++ [48] else L
  | c + 1, m, L => if g m = 0 then wall g d c (m + 1) L else wall g d c (m + 1) (L ++ wtm (g m) d m L.length)
theorem sj_138 (r d : Nat) (g : Nat → Int) (hd : d ≤ 5) (hg : ∀ j, j < 21 → g101 (g j)) : ∀ (c m : Nat) (s : jM) (L : List Int), m + c = mnN d → s 1 r 1 = (d : Int) → (∀ j, j < 21 → s 16 r j = g j) → CW s L → L.length ≤ 9 * m → ∃ t, je 138 7 [some (.inr (9, 0)), some (.inr (1, r)), some (.inl (m : Int))] [] s = some (some (.inl ((wall g d c m L).length : Int)), t) ∧ CW t (wall g d c m L) ∧ TW s t
  | 0, m, s, L, hm, h1, h16, h, hl => by
    rw [be_138_7, sq_61 s r d h1 hd, jbI_s, if_neg (by omega), h.1]
    unfold wall
    by_cases c0 : L.length = 0
    · obtain ⟨t, t1, t2, t3⟩ := sq_142 s L 48 h (by omega)
      rw [if_pos (by omega), if_pos c0, t1, jbV_s, t2.1]
      exact ⟨t, rfl, t2, t3⟩
    · rw [if_neg (by omega), if_neg c0]
      exact ⟨s, rfl, h, fun _ _ _ _ _ => rfl⟩
  | c + 1, m, s, L, hm, h1, h16, h, hl => by
    have em := mnN_le d hd
    have hlev := (mn_lev d hd m (by omega)).mp (by omega)
    rw [be_138_7, sq_61 s r d h1 hd, jbI_s, if_pos (by omega), sq_62 r m (by omega), jbI_s, h16 m (by omega), jwn (x := (m : Int) + 1) (n := m + 1) (by omega) (by omega)]
    unfold wall
    by_cases c0 : g m = 0
    · rw [if_pos c0, if_pos c0]
      exact sj_138 r d g hd hg c (m + 1) s L (by omega) h1 h16 h (by omega)
    · obtain ⟨t, t1, t2, t3⟩ := sq_139 s L r d m hd (by omega) h1 (by rw [h16 m (by omega)]; exact hg m (by omega)) h (by omega)
      rw [h16 m (by omega)] at t2
      have hw := wtm_l (g m) d m L.length hd hlev
      obtain ⟨u, u1, u2, u3⟩ := sj_138 r d g hd hg c (m + 1) t (L ++ wtm (g m) d m L.length) (by omega) (by rw [t3 _ _ _ (by omega) (by omega)]; exact h1) (fun j hj => by rw [t3 _ _ _ (by omega) (by omega)]; exact h16 j hj) t2 (by rw [List.length_append]; omega)
      rw [if_neg c0, if_neg c0, t1, jbV_s]
      exact ⟨u, u1, u2, TW_t t3 u3⟩
theorem wall_l (g : Nat → Int) (d : Nat) (hd : d ≤ 5) : ∀ (c m : Nat) (L : List Int), m + c = mnN d → L.length ≤ 9 * m → (wall g d c m L).length ≤ 190
  | 0, m, L, hm, hl => by
    have em := mnN_le d hd
    unfold wall
    split
    · rw [List.length_append]; show L.length + 1 ≤ 190; omega
    · omega
  | c + 1, m, L, hm, hl => by
    have em := mnN_le d hd
    have hlev := (mn_lev d hd m (by omega)).mp (by omega)
    have hw := wtm_l (g m) d m L.length hd hlev
    unfold wall
    split
    · exact wall_l g d hd c (m + 1) L (by omega) (by omega)
    · exact wall_l g d hd c (m + 1) _ (by omega) (by rw [List.length_append]; omega)
/-- the reference's writing -/
theorem sq_262 (s : jM) (a : Int) (L : List Int) (c : Int) (n : Nat) (hn : n ≤ 5) (h : MW s a L) (hl : L.length < 900) : ∃ t, jq 262 [.inr (11, 0), .inl c, .inl (n : Int)] s = some (none, t) ∧ MW t a (L ++ wpow c n) ∧ TV s t := by
  unfold wpow
  rw [bq_262]
  by_cases c0 : n = 0
  · rw [if_pos c0, if_neg (by omega), if_neg (by omega), List.append_nil]
    exact ⟨s, rfl, h, fun _ _ _ _ => rfl⟩
  · obtain ⟨t, t1, t2, t3⟩ := sq_261 s a L c h (by omega)
    rw [if_neg c0, if_pos (by omega), t1, jbV_s]
    by_cases c1 : n = 1
    · rw [if_pos c1, if_neg (by omega)]
      exact ⟨t, rfl, t2, t3⟩
    · obtain ⟨u, u1, u2, u3⟩ := sq_261 t a (L ++ [c]) (48 + (n : Int)) t2 (by rw [List.length_append]; show L.length + 1 < 1000; omega)
      rw [if_neg c1, if_pos (by omega), jwi (x := 48 + (n : Int)) (by omega) (by omega), u1, jbV_s]
      refine ⟨u, rfl, ?_, TV_t t3 u3⟩
      rw [List.append_assoc] at u2
      exact u2
theorem sj_263 (r d : Nat) (g : Nat → Int) (a : Int) (hr : r < 4) (hd : d ≤ 5) (hg : ∀ j, j < 21 → g101 (g j)) : ∀ (c m : Nat) (s : jM) (L : List Int) (o4 o5 o6 : Option jV), m + c = mnN d → (∀ j, j < 21 → s 30 0 (21 * r + j) = g j) → MW s a L → L.length ≤ 9 * m → ∃ t, je 263 14 [some (.inr (11, 0)), some (.inl (r : Int)), some (.inl (d : Int)), some (.inl (m : Int)), o4, o5, o6] [] s = some (none, t) ∧ MW t a (wall g d c m L) ∧ TV s t
  | 0, m, s, L, o4, o5, o6, hm, h30, h, hl => by
    have em := mnN_le d hd
    rw [be_263_14, sq_203 d hd, jbI_s, if_neg (by omega), h.1]
    unfold wall
    by_cases c0 : L.length = 0
    · obtain ⟨t, t1, t2, t3⟩ := sq_261 s a L 48 h (by omega)
      rw [if_pos (by omega), if_pos c0, t1, jbV_s]
      exact ⟨t, rfl, t2, t3⟩
    · rw [if_neg (by omega), if_neg c0]
      exact ⟨s, rfl, h, fun _ _ _ _ => rfl⟩
  | c + 1, m, s, L, o4, o5, o6, hm, h30, h, hl => by
    have em := mnN_le d hd
    have hmd : m < mnN d := by omega
    have hlev := (mn_lev d hd m (by omega)).mp hmd
    have ul : plev m = py m + pz m := rfl
    obtain ⟨y1, y2, y3, y4, -⟩ := jyp_py m (by omega)
    have hgm := hg m (by omega)
    obtain ⟨g1, g2⟩ := id hgm
    have hw := wtm_l (g m) d m L.length hd hlev
    rw [be_263_14, sq_203 d hd, jbI_s, if_pos (by omega), jwi (x := 21 * (r : Int)) (by omega) (by omega), jwi (x := 21 * (r : Int) + m) (by omega) (by omega), if_pos (by omega), show (21 * (r : Int) + m).toNat = 21 * r + m by omega, h30 m (by omega), jwn (x := (m : Int) + 1) (n := m + 1) (by omega) (by omega)]
    unfold wall
    by_cases c0 : g m = 0
    · rw [if_pos c0, if_pos c0]
      exact sj_263 r d g a hr hd hg c (m + 1) s L _ _ _ (by omega) h30 h (by omega)
    rw [if_neg c0, if_neg c0]
    -- behind the number
    have st122 : ∀ (u : jM) (M : List Int) (o5 o6 : Option jV), MW u a M → M.length ≤ 800 → ∃ (t : jM) (o5' o6' : Option jV), je 263 122 [some (.inr (11, 0)), some (.inl (r : Int)), some (.inl (d : Int)), some (.inl (m : Int)), some (.inl (g m)), o5, o6] [] u = je 263 14 [some (.inr (11, 0)), some (.inl (r : Int)), some (.inl (d : Int)), some (.inl ((m + 1 : Nat) : Int)), some (.inl (g m)), o5', o6'] [] t ∧ MW t a (M ++ (wpow 120 (d - plev m) ++ (wpow 121 (py m) ++ wpow 122 (pz m)))) ∧ TV u t := fun u M o5 o6 hu hM => by
      have p1 := wpow_2 120 (d - plev m)
      have p2 := wpow_2 121 (py m)
      obtain ⟨x, x1, x2, x3⟩ := sq_262 u a M 120 (d - plev m) (by omega) hu (by omega)
      obtain ⟨y, w1, w2, w3⟩ := sq_262 x a (M ++ wpow 120 (d - plev m)) 121 (py m) y3 x2 (by rw [List.length_append]; omega)
      obtain ⟨z, z1, z2, z3⟩ := sq_262 y a (M ++ wpow 120 (d - plev m) ++ wpow 121 (py m)) 122 (pz m) y4 w2 (by rw [List.length_append, List.length_append]; omega)
      have h205 := sq_205 d m hd hmd
      rw [show (d : Int) - plev m = ((d - plev m : Nat) : Int) by omega] at h205
      have eC : jw (jw ((d : Int) - ((d - plev m : Nat) : Int)) - (py m : Int)) = (pz m : Int) := by rw [jwi (x := (d : Int) - ((d - plev m : Nat) : Int)) (by omega) (by omega), jwi (by omega) (by omega)]; omega
      refine ⟨z, some (.inl ((d - plev m : Nat) : Int)), some (.inl (py m : Int)), ?_, by rw [List.append_assoc, List.append_assoc] at z2; exact z2, TV_t x3 (TV_t w3 z3)⟩
      rw [be_263_122, h205, jbI_s, sq_206 d m hd hmd, jbI_s, x1, jbV_s, w1, jbV_s, eC, z1, jbV_s, jwn (x := (m : Int) + 1) (n := m + 1) (by omega) (by omega)]
    -- behind the plus
    have st53 : ∀ (u : jM) (M : List Int) (o5 o6 : Option jV), MW u a M → M.length ≤ 700 → ∃ (t : jM) (o5' o6' : Option jV), je 263 53 [some (.inr (11, 0)), some (.inl (r : Int)), some (.inl (d : Int)), some (.inl (m : Int)), some (.inl (g m)), o5, o6] [] u = je 263 14 [some (.inr (11, 0)), some (.inl (r : Int)), some (.inl (d : Int)), some (.inl ((m + 1 : Nat) : Int)), some (.inl (g m)), o5', o6'] [] t ∧ MW t a (M ++ ((if g m = 1 then (if d = 0 then wnum (g m) else []) else wnum (g m)) ++ (wpow 120 (d - plev m) ++ (wpow 121 (py m) ++ wpow 122 (pz m))))) ∧ TV u t := fun u M o5 o6 hu hM => by
      have hfin : ∀ (t : jM) (X : List Int), MW t a (M ++ X) → X.length ≤ 3 → TV u t → ∃ (t' : jM) (o5' o6' : Option jV), je 263 122 [some (.inr (11, 0)), some (.inl (r : Int)), some (.inl (d : Int)), some (.inl (m : Int)), some (.inl (g m)), o5, o6] [] t = je 263 14 [some (.inr (11, 0)), some (.inl (r : Int)), some (.inl (d : Int)), some (.inl ((m + 1 : Nat) : Int)), some (.inl (g m)), o5', o6'] [] t' ∧ MW t' a (M ++ (X ++ (wpow 120 (d - plev m) ++ (wpow 121 (py m) ++ wpow 122 (pz m))))) ∧ TV u t' := fun t X ht hX htv => by
        obtain ⟨b, o5', o6', b1, b2, b3⟩ := st122 t (M ++ X) o5 o6 ht (by rw [List.length_append]; omega)
        exact ⟨b, o5', o6', b1, by rw [List.append_assoc] at b2; exact b2, TV_t htv b3⟩
      rw [be_263_53]
      by_cases c1 : g m = 100
      · obtain ⟨x, x1, x2, x3⟩ := sq_261 u a M 49 hu (by omega)
        obtain ⟨y, w1, w2, w3⟩ := sq_261 x a (M ++ [49]) 48 x2 (by rw [List.length_append]; show M.length + 1 < 1000; omega)
        obtain ⟨z, z1, z2, z3⟩ := sq_261 y a (M ++ [49] ++ [48]) 48 w2 (by rw [List.length_append, List.length_append]; show M.length + 1 + 1 < 1000; omega)
        have ew : wnum (g m) = [49, 48, 48] := by unfold wnum; rw [if_pos c1]
        rw [if_pos c1, x1, jbV_s, w1, jbV_s, z1, jbV_s, if_neg (show ¬ g m = 1 by omega), ew]
        rw [List.append_assoc, List.append_assoc] at z2
        exact hfin z [49, 48, 48] z2 (by show 3 ≤ 3; omega) (TV_t x3 (TV_t w3 z3))
      · rw [if_neg c1]
        have e3 : jw (48 + Int.tmod (g m) 10) = 48 + g m % 10 := by rw [Int.tmod_eq_emod_of_nonneg g1, jwi (by omega) (by omega)]
        have e2 : jw (48 + jw (Int.tdiv (g m) 10)) = 48 + g m / 10 := by
          rw [Int.tdiv_eq_ediv_of_nonneg g1, jwi (x := g m / 10) (by omega) (by omega), jwi (by omega) (by omega)]
        have h91 : ∃ (t : jM) (o5' o6' : Option jV), je 263 91 [some (.inr (11, 0)), some (.inl (r : Int)), some (.inl (d : Int)), some (.inl (m : Int)), some (.inl (g m)), o5, o6] [] u = je 263 14 [some (.inr (11, 0)), some (.inl (r : Int)), some (.inl (d : Int)), some (.inl ((m + 1 : Nat) : Int)), some (.inl (g m)), o5', o6'] [] t ∧ MW t a (M ++ (wnum (g m) ++ (wpow 120 (d - plev m) ++ (wpow 121 (py m) ++ wpow 122 (pz m))))) ∧ TV u t := by
          rw [be_263_91, e3]
          by_cases c2 : 9 < g m
          · obtain ⟨x, x1, x2, x3⟩ := sq_261 u a M (48 + g m / 10) hu (by omega)
            obtain ⟨y, w1, w2, w3⟩ := sq_261 x a (M ++ [48 + g m / 10]) (48 + g m % 10) x2 (by rw [List.length_append]; show M.length + 1 < 1000; omega)
            have ew : wnum (g m) = [48 + g m / 10, 48 + g m % 10] := by unfold wnum; rw [if_neg c1, if_pos c2]
            rw [if_pos c2, e2, x1, jbV_s, w1, jbV_s, ew]
            rw [List.append_assoc] at w2
            exact hfin y _ w2 (by show 2 ≤ 3; omega) (TV_t x3 w3)
          · obtain ⟨x, x1, x2, x3⟩ := sq_261 u a M (48 + g m % 10) hu (by omega)
            have ew : wnum (g m) = [48 + g m % 10] := by unfold wnum; rw [if_neg c1, if_neg c2]
            rw [if_neg c2, x1, jbV_s, ew]
            exact hfin x _ x2 (by show 1 ≤ 3; omega) x3
        by_cases c3 : 1 < g m
        · rw [if_pos c3, if_neg (show ¬ g m = 1 by omega)]
          exact h91
        · rw [if_neg c3, if_pos (show g m = 1 by omega)]
          by_cases c4 : d = 0
          · rw [if_pos (show (d : Int) = 0 by omega), if_pos c4]
            exact h91
          · rw [if_neg (show ¬ (d : Int) = 0 by omega), if_neg c4]
            exact hfin u [] (by rw [List.append_nil]; exact hu) (by show 0 ≤ 3; omega) (fun _ _ _ _ => rfl)
    have hend : ∀ (t : jM) (o5' o6' : Option jV), MW t a (L ++ wtm (g m) d m L.length) → TV s t → ∃ t', je 263 14 [some (.inr (11, 0)), some (.inl (r : Int)), some (.inl (d : Int)), some (.inl ((m + 1 : Nat) : Int)), some (.inl (g m)), o5', o6'] [] t = some (none, t') ∧ MW t' a (wall g d c (m + 1) (L ++ wtm (g m) d m L.length)) ∧ TV s t' := fun t o5' o6' ht htv => by
      obtain ⟨u, u1, u2, u3⟩ := sj_263 r d g a hr hd hg c (m + 1) t (L ++ wtm (g m) d m L.length) (some (.inl (g m))) o5' o6' (by omega) (fun j hj => by rw [htv _ _ _ (by omega)]; exact h30 j hj) ht (by rw [List.length_append]; omega)
      exact ⟨u, u1, u2, TV_t htv u3⟩
    unfold wtm at hend ⊢
    rw [h.1]
    by_cases c1 : 0 < L.length
    · obtain ⟨x, x1, x2, x3⟩ := sq_261 s a L 43 h (by omega)
      obtain ⟨t, o5', o6', t1, t2, t3⟩ := st53 x (L ++ [43]) o5 o6 x2 (by rw [List.length_append]; show L.length + 1 ≤ 700; omega)
      rw [if_pos (by omega), x1, jbV_s, t1]
      rw [if_pos c1] at hend ⊢
      rw [List.append_assoc] at t2
      exact hend t o5' o6' t2 (TV_t x3 t3)
    · obtain ⟨t, o5', o6', t1, t2, t3⟩ := st53 s L o5 o6 h (by omega)
      rw [if_neg (by omega), t1]
      rw [if_neg c1, List.nil_append] at hend ⊢
      exact hend t o5' o6' t2 t3
theorem ap_30 (s : jM) (hI : Inv s) (v1 v2 : Int) : Go s 30 264 [.inl v1, .inl v2] := by
  by_cases h1 : 0 ≤ v1 ∧ v1 < 4
  rotate_left
  · exact go_no (-1) hI (by rw [bq_30]; (repeat (first | rw [jbI_s] | rw [jbV_s] | rw [bI_t (by omega)] | rw [bI_f (by omega)] | rw [if_pos (by omega)] | rw [if_neg (by omega)] | rw [sq_39]))) (by rw [bq_264]; (repeat (first | rw [jbI_s] | rw [jbV_s] | rw [bI_t (by omega)] | rw [bI_f (by omega)] | rw [if_pos (by omega)] | rw [if_neg (by omega)] | rw [sq_201])))
  by_cases h2 : -1 ≤ v2
  rotate_left
  · exact go_no (-1) hI (by rw [bq_30]; (repeat (first | rw [jbI_s] | rw [jbV_s] | rw [bI_t (by omega)] | rw [bI_f (by omega)] | rw [if_pos (by omega)] | rw [if_neg (by omega)] | rw [sq_39]))) (by rw [bq_264]; (repeat (first | rw [jbI_s] | rw [jbV_s] | rw [bI_t (by omega)] | rw [bI_f (by omega)] | rw [if_pos (by omega)] | rw [if_neg (by omega)] | rw [sq_201])))
  obtain ⟨r, rfl⟩ := nat_of v1 h1.1
  obtain ⟨d, hd, r1, r2, r3, r4, r5, r6, r7⟩ := inv_reg hI r (by omega)
  have em := mnN_le d hd
  have b30 := bq_30 r v2 s
  have hl := wall_l (s 16 r) d hd (mnN d) 0 [] (by omega) (by show 0 ≤ _; omega)
  obtain ⟨t, t1, t2, t3⟩ := sj_138 r d (s 16 r) hd r5 (mnN d) 0 (jup s 9 0 1 0) [] (by omega) (by rw [jup_n _ _ _ _ _ _ _ _ (by omega)]; exact r1) (fun j hj => jup_n _ _ _ _ _ _ _ _ (by omega)) ⟨jup_e _ _ _ _ _, fun i hi => absurd hi (by show ¬ i < 0; omega)⟩ (by show 0 ≤ _; omega)
  have h138 : jq 138 [.inr (9, 0), .inr (1, r)] s = some (some (.inl ((wall (s 16 r) d (mnN d) 0 []).length : Int)), t) := by rw [bq_138]; exact t1
  have hst : TW s t := fun k i j z z2 => by rw [t3 k i j z z2, jup_n _ _ _ _ _ _ _ _ (by omega)]
  have hI2 : Inv t := Inv_kp (fun k i j z => by unfold Scr at z; exact hst k i j (by omega) (by omega)) hI
  obtain ⟨u, u1, u2, u3⟩ := sj_263 r d (s 16 r) v2 (by omega) hd r5 (mnN d) 0 (jup (jup (jup t 11 0 34 v2) 11 0 35 (-2)) 11 0 33 0) [] none none none (by omega) (fun j hj => by rw [jup_n _ _ _ _ _ _ _ _ (by omega), jup_n _ _ _ _ _ _ _ _ (by omega), jup_n _ _ _ _ _ _ _ _ (by omega), hst _ _ _ (by omega) (by omega)]; exact (r4 j hj).symm) ⟨jup_e _ _ _ _ _, by rw [jup_n _ _ _ _ _ _ _ _ (by omega), jup_n _ _ _ _ _ _ _ _ (by omega), jup_e], by rw [jup_n _ _ _ _ _ _ _ _ (by omega), jup_e]; split <;> rfl⟩ (by show 0 ≤ _; omega)
  have q29 : jup (jup t 11 0 34 v2) 11 0 35 (-2) 29 0 r = (d : Int) := by rw [jup_n _ _ _ _ _ _ _ _ (by omega), jup_n _ _ _ _ _ _ _ _ (by omega), hst _ _ _ (by omega) (by omega)]; exact r2
  have h263 : jq 263 [.inr (11, 0), .inl (r : Int)] (jup (jup t 11 0 34 v2) 11 0 35 (-2)) = some (none, u) := by
    rw [bq_263, if_pos (by omega), Int.toNat_natCast, q29]
    exact u1
  have hIu : Inv u := Inv_kp (fun k i j z => by
    unfold Scr at z
    rw [u3 _ _ _ (by omega), jup_n _ _ _ _ _ _ _ _ (by omega), jup_n _ _ _ _ _ _ _ _ (by omega), jup_n _ _ _ _ _ _ _ _ (by omega)]) hI2
  generalize wall (s 16 r) d (mnN d) 0 [] = W at *
  obtain ⟨w1, w2⟩ := t2
  obtain ⟨m1, m2, m3⟩ := u2
  by_cases c : v2 = -1
  · refine ⟨(W.length : Int), t, u, ?_, ?_, hIu⟩
    · rw [b30]; (repeat (first | rw [jbI_s] | rw [jbV_s] | rw [bI_t (by omega)] | rw [bI_f (by omega)] | rw [if_pos (by omega)] | rw [if_neg (by omega)] | rw [sq_39] | rw [Nat.mul_zero] | rw [Nat.zero_add] | rw [Int.toNat_natCast] | rw [h138]))
    · rw [bq_264]; (repeat (first | rw [jbI_s] | rw [jbV_s] | rw [bI_t (by omega)] | rw [bI_f (by omega)] | rw [if_pos (by omega)] | rw [if_neg (by omega)] | rw [sq_201] | rw [h263] | rw [m1]))
  obtain ⟨i, rfl⟩ := nat_of v2 (by omega)
  rw [if_pos (by omega), Int.toNat_natCast] at m3
  by_cases c2 : i < W.length
  · rw [w2 i c2] at m3
    have m3 : u 11 0 35 = t 28 0 i := m3
    refine ⟨t 28 0 i, t, u, ?_, ?_, hIu⟩
    · rw [b30]
      (repeat (first | rw [jbI_s] | rw [jbV_s] | rw [bI_t (by omega)] | rw [bI_f (by omega)] | rw [if_pos (by omega)] | rw [if_neg (by omega)] | rw [sq_39] | rw [Nat.mul_zero] | rw [Nat.zero_add] | rw [Int.toNat_natCast] | rw [h138]))
      rw [bq_137, w1]
      (repeat (first | rw [jbI_s] | rw [jbV_s] | rw [bI_t (by omega)] | rw [bI_f (by omega)] | rw [if_pos (by omega)] | rw [if_neg (by omega)] | rw [sq_38] | rw [Int.toNat_natCast]))
    · rw [bq_264]; (repeat (first | rw [jbI_s] | rw [jbV_s] | rw [bI_t (by omega)] | rw [bI_f (by omega)] | rw [if_pos (by omega)] | rw [if_neg (by omega)] | rw [sq_201] | rw [h263] | rw [m3]))
  · rw [List.getElem?_eq_none (by omega)] at m3
    have m3 : u 11 0 35 = -2 := m3
    refine ⟨-2, t, u, ?_, ?_, hIu⟩
    · rw [b30]; (repeat (first | rw [jbI_s] | rw [jbV_s] | rw [bI_t (by omega)] | rw [bI_f (by omega)] | rw [if_pos (by omega)] | rw [if_neg (by omega)] | rw [sq_39] | rw [Nat.mul_zero] | rw [Nat.zero_add] | rw [Int.toNat_natCast] | rw [h138]))
    · rw [bq_264]; (repeat (first | rw [jbI_s] | rw [jbV_s] | rw [bI_t (by omega)] | rw [bI_f (by omega)] | rw [if_pos (by omega)] | rw [if_neg (by omega)] | rw [sq_201] | rw [h263] | rw [m3]))
