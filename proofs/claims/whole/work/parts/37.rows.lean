/-! ROWS AND THE TAPE -/
theorem sq_113 (s : jM) (w : Nat) (hw : w < 3) : jq 113 [.inr (4, 0), .inl (w : Int)] s = some (some (.inl (s 22 0 w)), s) := by
  rw [bq_113]; (repeat (first | rw [jbI_s] | rw [jbV_s] | rw [bI_t (by omega)] | rw [bI_f (by omega)] | rw [if_pos (by omega)] | rw [if_neg (by omega)] | rw [sq_38] | rw [Int.toNat_natCast]))
theorem sq_112 (s : jM) (w : Nat) (hw : w < 3) : jq 112 [.inr (4, 0), .inl (w : Int)] s = some (some (.inl (bI (s 22 0 w < 0))), s) := by
  rw [bq_112, sq_113 s w hw, jbI_s]
  by_cases c : s 22 0 w < 0
  · rw [if_pos c, bI_t c]
  · rw [if_neg c, bI_f c]
theorem sq_116 (s : jM) (w : Nat) (v : Int) (hw : w < 3) : jq 116 [.inr (4, 0), .inl (w : Int), .inl v] s = some (some (.inl (if s 22 0 w < 0 then -11 else if 0 ≤ v ∧ v < s 22 0 w then 0 else -13)), s) := by
  rw [bq_116]
  (repeat (first | rw [jbI_s] | rw [jbV_s] | rw [bI_t (by omega)] | rw [bI_f (by omega)] | rw [if_pos (by omega)] | rw [if_neg (by omega)] | rw [sq_38] | rw [sq_112 s w hw] | rw [sq_113 s w hw]))
  by_cases c : s 22 0 w < 0
  · rw [bI_t c, if_neg (by decide), if_pos c]
  · rw [bI_f c, if_pos rfl, if_neg c]
    by_cases c2 : 0 ≤ v ∧ v < s 22 0 w
    · rw [bI_t c2, if_neg (by decide), if_pos c2]
    · rw [bI_f c2, if_pos rfl, if_neg c2]
theorem sq_117 (s : jM) (w i : Nat) (hw : w < 3) (h : (i : Int) < s 22 0 w) (h40 : s 22 0 w ≤ 40) : jq 117 [.inr (4, 0), .inl (w : Int), .inl (i : Int)] s = some (some (.inl (s 21 w i)), s) := by
  rw [bq_117, sq_116 s w i hw, jbI_s]
  (repeat (first | rw [jbI_s] | rw [jbV_s] | rw [bI_t (by omega)] | rw [bI_f (by omega)] | rw [if_pos (by omega)] | rw [if_neg (by omega)] | rw [Int.toNat_natCast]))
theorem sq_118 (s : jM) (w i : Nat) (v : Int) (hw : w < 3) (h : (i : Int) < s 22 0 w) (h40 : s 22 0 w ≤ 40) : jq 118 [.inr (4, 0), .inl (w : Int), .inl (i : Int), .inl v] s = some (none, jup s 21 w i v) := by
  rw [bq_118, sq_116 s w i hw, jbI_s]
  (repeat (first | rw [jbI_s] | rw [jbV_s] | rw [bI_t (by omega)] | rw [bI_f (by omega)] | rw [if_pos (by omega)] | rw [if_neg (by omega)] | rw [Int.toNat_natCast]))
theorem sq_114 (s : jM) (w : Nat) (hw : w < 3) : jq 114 [.inr (4, 0), .inl (w : Int)] s = some (none, jup s 22 0 w (-1)) := by
  rw [bq_114]; (repeat (first | rw [jbI_s] | rw [jbV_s] | rw [bI_t (by omega)] | rw [bI_f (by omega)] | rw [if_pos (by omega)] | rw [if_neg (by omega)] | rw [sq_38] | rw [Int.toNat_natCast]))
theorem sq_115 (s : jM) (w n : Nat) (hw : w < 3) (hn : n ≤ 40) : jq 115 [.inr (4, 0), .inl (w : Int), .inl (n : Int)] s = some (none, jfl (jup s 22 0 w (n : Int)) 21 w 0 n (fun _ => 0)) := by
  rw [bq_115]
  (repeat (first | rw [jbI_s] | rw [jbV_s] | rw [bI_t (by omega)] | rw [bI_f (by omega)] | rw [if_pos (by omega)] | rw [if_neg (by omega)] | rw [sq_38] | rw [Int.toNat_natCast]))
  generalize jup s 22 0 w (n : Int) = U
  refine Eq.trans (congrArg (fun z => je 115 26 [some (.inr (4, 0)), some (.inl (w : Int)), some (.inl (n : Int)), some (.inl 0)] [] z) (jfl_0 U 21 w 0 (fun _ => 0)).symm) ?_
  refine loopI (P := fun i => je 115 26 [some (.inr (4, 0)), some (.inl (w : Int)), some (.inl (n : Int)), some (.inl (i : Int))] [] (jfl U 21 w 0 i (fun _ => 0))) (n := n) (fun i hi => ?_) ?_
  · show je 115 26 _ [] _ = _
    rw [be_115_26, if_pos (by omega), if_pos (by omega), if_pos (by omega), Int.toNat_natCast, Int.toNat_natCast, jwn (x := (i : Int) + 1) (n := i + 1) (by omega) (by omega), jfl_up _ _ _ _ _ _ _ rfl _ (by omega)]
  · show je 115 26 _ [] _ = _
    rw [be_115_26, if_neg (by omega)]
theorem Inv_rr {s t : jM} (h : ∀ k i j, ¬ (k = 21 ∨ k = 22 ∨ k = 35 ∨ k = 36) → t k i j = s k i j) (hr : RR t) (hI : Inv s) : Inv t := by
  obtain ⟨a, b, c, d, e, ⟨n, nx, f⟩, g⟩ := hI
  exact ⟨RB_cg (fun k i j q => h k i j (by omega)) a, RK_cg (fun k i j q => h k i j (by omega)) b, hr, RT_cg (fun k i j q => h k i j (by omega)) d, RI_cg (fun k i j q => h k i j (by omega)) e, ⟨n, nx, RS_cg (fun k i j q => h k i j (by omega)) f⟩, TI_cg (fun j => h 24 0 j (by omega)) g⟩
theorem rr_put {s t : jM} (w : Nat) (n : Int) (hn : -1 ≤ n ∧ n ≤ 40) (h22 : ∀ u, t 22 0 u = if u = w then n else s 22 0 u) (h35 : ∀ u, t 35 0 u = if u = w then n else s 35 0 u) (h21 : ∀ u i, u ≠ w → t 21 u i = s 21 u i) (h36 : ∀ u i, u ≠ w → i < 40 → t 36 0 (40 * u + i) = s 36 0 (40 * u + i)) (he : ∀ i : Nat, (i : Int) < n → t 21 w i = t 36 0 (40 * w + i)) (hs : RR s) : RR t := by
  intro u hu
  rw [h22, h35]
  obtain ⟨a, b, c, d⟩ := hs u hu
  by_cases e : u = w
  · rw [if_pos e, if_pos e, e]
    exact ⟨rfl, hn.1, hn.2, he⟩
  · rw [if_neg e, if_neg e]
    exact ⟨a, b, c, fun i hi => by rw [h21 _ _ e, h36 _ _ e (by omega)]; exact d i hi⟩
theorem ap_25 (s : jM) (hI : Inv s) (v1 v2 : Int) : Go s 25 256 [.inl v1, .inl v2] := by
  by_cases h1 : 0 ≤ v1 ∧ v1 < 3
  rotate_left
  · exact go_no (-1) hI (by rw [bq_25]; (repeat (first | rw [jbI_s] | rw [jbV_s] | rw [bI_t (by omega)] | rw [bI_f (by omega)] | rw [if_pos (by omega)] | rw [if_neg (by omega)] | rw [sq_38]))) (by rw [bq_256]; (repeat (first | rw [jbI_s] | rw [jbV_s] | rw [bI_t (by omega)] | rw [bI_f (by omega)] | rw [if_pos (by omega)] | rw [if_neg (by omega)] | rw [sq_200])))
  by_cases h2 : v2 ≤ 40
  rotate_left
  · exact go_no (-1) hI (by rw [bq_25]; (repeat (first | rw [jbI_s] | rw [jbV_s] | rw [bI_t (by omega)] | rw [bI_f (by omega)] | rw [if_pos (by omega)] | rw [if_neg (by omega)] | rw [sq_38]))) (by rw [bq_256]; (repeat (first | rw [jbI_s] | rw [jbV_s] | rw [bI_t (by omega)] | rw [bI_f (by omega)] | rw [if_pos (by omega)] | rw [if_neg (by omega)] | rw [sq_200])))
  by_cases h3 : -1 ≤ v2
  rotate_left
  · exact go_no (-14) hI (by rw [bq_25]; (repeat (first | rw [jbI_s] | rw [jbV_s] | rw [bI_t (by omega)] | rw [bI_f (by omega)] | rw [if_pos (by omega)] | rw [if_neg (by omega)] | rw [sq_38]))) (by rw [bq_256]; (repeat (first | rw [jbI_s] | rw [jbV_s] | rw [bI_t (by omega)] | rw [bI_f (by omega)] | rw [if_pos (by omega)] | rw [if_neg (by omega)] | rw [sq_200])))
  obtain ⟨w, rfl⟩ := nat_of v1 h1.1
  have q114 := sq_114 s w (by omega)
  by_cases c : v2 < 0
  · have e : v2 = -1 := by omega
    subst e
    refine ⟨1, jup s 22 0 w (-1), jup (jup s 22 0 w (-1)) 35 0 w (-1), ?_, ?_, Inv_rr (fun k i j q => by rw [jup_n _ _ _ _ _ _ _ _ (by omega), jup_n _ _ _ _ _ _ _ _ (by omega)]) (rr_put w (-1) (by omega) (fun u => ?_) (fun u => ?_) (fun u i z => by rw [jup_n _ _ _ _ _ _ _ _ (by omega), jup_n _ _ _ _ _ _ _ _ (by omega)]) (fun u i z _ => by rw [jup_n _ _ _ _ _ _ _ _ (by omega), jup_n _ _ _ _ _ _ _ _ (by omega)]) (fun i hi => absurd hi (by omega)) hI.2.2.1) hI⟩
    · rw [bq_25]; (repeat (first | rw [jbI_s] | rw [jbV_s] | rw [bI_t (by omega)] | rw [bI_f (by omega)] | rw [if_pos (by omega)] | rw [if_neg (by omega)] | rw [sq_38] | rw [q114]))
    · rw [bq_256]; (repeat (first | rw [jbI_s] | rw [jbV_s] | rw [bI_t (by omega)] | rw [bI_f (by omega)] | rw [if_pos (by omega)] | rw [if_neg (by omega)] | rw [sq_200] | rw [be_256_34] | rw [Int.toNat_natCast]))
    · rw [jup_n _ _ _ _ _ _ _ _ (by omega)]
      by_cases e : u = w
      · rw [if_pos e, e, jup_e]
      · rw [if_neg e, jup_n _ _ _ _ _ _ _ _ (by omega)]
    · by_cases e : u = w
      · rw [if_pos e, e, jup_e]
      · rw [if_neg e, jup_n _ _ _ _ _ _ _ _ (by omega), jup_n _ _ _ _ _ _ _ _ (by omega)]
  · obtain ⟨n, rfl⟩ := nat_of v2 (by omega)
    have q115 := sq_115 (jup s 22 0 w (-1)) w n (by omega) (by omega)
    have hU : ∀ k i j, ¬ (k = 21 ∨ k = 22) → jfl (jup (jup s 22 0 w (-1)) 22 0 w (n : Int)) 21 w 0 n (fun _ => 0) k i j = s k i j := fun k i j q => by rw [jfl_ne _ _ _ _ _ _ _ _ _ (by omega), jup_n _ _ _ _ _ _ _ _ (by omega), jup_n _ _ _ _ _ _ _ _ (by omega)]
    have hU22 : ∀ u, jfl (jup (jup s 22 0 w (-1)) 22 0 w (n : Int)) 21 w 0 n (fun _ => 0) 22 0 u = if u = w then (n : Int) else s 22 0 u := fun u => by
      rw [jfl_ne _ _ _ _ _ _ _ _ _ (by omega)]
      by_cases e : u = w
      · rw [if_pos e, e, jup_e]
      · rw [if_neg e, jup_n _ _ _ _ _ _ _ _ (by omega), jup_n _ _ _ _ _ _ _ _ (by omega)]
    have hU21 : ∀ u i, u ≠ w → jfl (jup (jup s 22 0 w (-1)) 22 0 w (n : Int)) 21 w 0 n (fun _ => 0) 21 u i = s 21 u i := fun u i z => by rw [jfl_ne _ _ _ _ _ _ _ _ _ (by omega), jup_n _ _ _ _ _ _ _ _ (by omega), jup_n _ _ _ _ _ _ _ _ (by omega)]
    have hU21w : ∀ i, i < n → jfl (jup (jup s 22 0 w (-1)) 22 0 w (n : Int)) 21 w 0 n (fun _ => 0) 21 w i = 0 := fun i hi => by
      have := jfl_in (jup (jup s 22 0 w (-1)) 22 0 w (n : Int)) 21 w 0 n (fun _ => 0) i hi
      rwa [Nat.zero_add] at this
    generalize jfl (jup (jup s 22 0 w (-1)) 22 0 w (n : Int)) 21 w 0 n (fun _ => 0) = U at *
    have hloop : je 256 34 [some (.inr (11, 0)), some (.inl (w : Int)), some (.inl (n : Int)), some (.inl 0)] [] (jup U 35 0 w (n : Int)) = some (some (.inl 1), jfl (jup U 35 0 w (n : Int)) 36 0 (40 * w) n (fun _ => 0)) := by
      refine Eq.trans (congrArg (fun z => je 256 34 [some (.inr (11, 0)), some (.inl (w : Int)), some (.inl (n : Int)), some (.inl 0)] [] z) (jfl_0 (jup U 35 0 w (n : Int)) 36 0 (40 * w) (fun _ => 0)).symm) ?_
      refine loopI (P := fun i => je 256 34 [some (.inr (11, 0)), some (.inl (w : Int)), some (.inl (n : Int)), some (.inl (i : Int))] [] (jfl (jup U 35 0 w (n : Int)) 36 0 (40 * w) i (fun _ => 0))) (n := n) (fun i hi => ?_) ?_
      · show je 256 34 _ [] _ = _
        rw [be_256_34, if_pos (by omega), jwi (x := 40 * (w : Int)) (by omega) (by omega), jwi (x := 40 * (w : Int) + i) (by omega) (by omega), if_pos (by omega), show (40 * (w : Int) + i).toNat = 40 * w + i by omega, jwn (x := (i : Int) + 1) (n := i + 1) (by omega) (by omega), jfl_up _ _ _ _ _ _ _ rfl _ rfl]
      · show je 256 34 _ [] _ = _
        rw [be_256_34, if_neg (by omega)]
    refine ⟨1, U, jfl (jup U 35 0 w (n : Int)) 36 0 (40 * w) n (fun _ => 0), ?_, ?_, Inv_rr (fun k i j q => by rw [jfl_ne _ _ _ _ _ _ _ _ _ (by omega), jup_n _ _ _ _ _ _ _ _ (by omega), hU _ _ _ (by omega)]) (rr_put w n (by omega) (fun u => ?_) (fun u => ?_) (fun u i z => ?_) (fun u i z z2 => ?_) (fun i hi => ?_) hI.2.2.1) hI⟩
    · rw [bq_25]; (repeat (first | rw [jbI_s] | rw [jbV_s] | rw [bI_t (by omega)] | rw [bI_f (by omega)] | rw [if_pos (by omega)] | rw [if_neg (by omega)] | rw [sq_38] | rw [q114] | rw [q115]))
    · rw [bq_256]; (repeat (first | rw [jbI_s] | rw [jbV_s] | rw [bI_t (by omega)] | rw [bI_f (by omega)] | rw [if_pos (by omega)] | rw [if_neg (by omega)] | rw [sq_200] | rw [Int.toNat_natCast] | rw [hloop]))
    · rw [jfl_ne _ _ _ _ _ _ _ _ _ (by omega), jup_n _ _ _ _ _ _ _ _ (by omega), hU22]
    · rw [jfl_ne _ _ _ _ _ _ _ _ _ (by omega)]
      by_cases e : u = w
      · rw [if_pos e, e, jup_e]
      · rw [if_neg e, jup_n _ _ _ _ _ _ _ _ (by omega), hU _ _ _ (by omega)]
    · rw [jfl_ne _ _ _ _ _ _ _ _ _ (by omega), jup_n _ _ _ _ _ _ _ _ (by omega), hU21 _ _ z]
    · rw [jfl_ne _ _ _ _ _ _ _ _ _ (by omega), jup_n _ _ _ _ _ _ _ _ (by omega), hU _ _ _ (by omega)]
    · rw [jfl_in _ _ _ _ _ _ _ (by omega), jfl_ne _ _ _ _ _ _ _ _ _ (by omega), jup_n _ _ _ _ _ _ _ _ (by omega), hU21w i (by omega)]
/-- what the invariant says of a row -/
theorem inv_row {s : jM} (hI : Inv s) (w : Nat) (hw : w < 3) : s 35 0 w = s 22 0 w ∧ -1 ≤ s 22 0 w ∧ s 22 0 w ≤ 40 ∧ ∀ i : Nat, (i : Int) < s 22 0 w → s 36 0 (40 * w + i) = s 21 w i := by
  obtain ⟨a, b, c, d⟩ := hI.2.2.1 w hw
  exact ⟨a.symm, b, c, fun i hi => (d i hi).symm⟩
theorem ap_26 (s : jM) (hI : Inv s) (v1 v2 v3 : Int) : Go s 26 257 [.inl v1, .inl v2, .inl v3] := by
  by_cases h1 : 0 ≤ v1 ∧ v1 < 3
  rotate_left
  · exact go_no (-1) hI (by rw [bq_26, bq_116]; (repeat (first | rw [jbI_s] | rw [jbV_s] | rw [bI_t (by omega)] | rw [bI_f (by omega)] | rw [if_pos (by omega)] | rw [if_neg (by omega)] | rw [sq_38]))) (by rw [bq_257]; (repeat (first | rw [jbI_s] | rw [jbV_s] | rw [bI_t (by omega)] | rw [bI_f (by omega)] | rw [if_pos (by omega)] | rw [if_neg (by omega)] | rw [sq_200])))
  obtain ⟨w, rfl⟩ := nat_of v1 h1.1
  obtain ⟨a, b, c, d⟩ := inv_row hI w (by omega)
  have q116 := sq_116 s w v2 (by omega)
  have b26 := bq_26 w v2 v3 s
  have b257 := bq_257 w v2 v3 s
  rw [q116, jbI_s] at b26
  rw [sq_200, jbI_s, Int.toNat_natCast, a] at b257
  by_cases c1 : s 22 0 w < 0
  · refine go_no (-11) hI ?_ ?_
    · rw [b26]; (repeat (first | rw [jbI_s] | rw [jbV_s] | rw [bI_t (by omega)] | rw [bI_f (by omega)] | rw [if_pos (by omega)] | rw [if_neg (by omega)] | rw [sq_38]))
    · rw [b257]; (repeat (first | rw [jbI_s] | rw [jbV_s] | rw [bI_t (by omega)] | rw [bI_f (by omega)] | rw [if_pos (by omega)] | rw [if_neg (by omega)] | rw [sq_38]))
  by_cases c2 : 0 ≤ v2 ∧ v2 < s 22 0 w
  rotate_left
  · refine go_no (-13) hI ?_ ?_
    · rw [b26]; (repeat (first | rw [jbI_s] | rw [jbV_s] | rw [bI_t (by omega)] | rw [bI_f (by omega)] | rw [if_pos (by omega)] | rw [if_neg (by omega)] | rw [sq_38]))
    · rw [b257, jwi (x := s 22 0 w - 1) (by omega) (by omega)]; (repeat (first | rw [jbI_s] | rw [jbV_s] | rw [bI_t (by omega)] | rw [bI_f (by omega)] | rw [if_pos (by omega)] | rw [if_neg (by omega)] | rw [sq_200]))
  obtain ⟨i, rfl⟩ := nat_of v2 c2.1
  have q118 := sq_118 s w i v3 (by omega) (by omega) c
  refine ⟨1, jup s 21 w i v3, jup (jup s 21 w i v3) 36 0 (40 * w + i) v3, ?_, ?_, Inv_rr (fun k i j q => by rw [jup_n _ _ _ _ _ _ _ _ (by omega), jup_n _ _ _ _ _ _ _ _ (by omega)]) (fun u hu => ?_) hI⟩
  · rw [b26]; (repeat (first | rw [jbI_s] | rw [jbV_s] | rw [bI_t (by omega)] | rw [bI_f (by omega)] | rw [if_pos (by omega)] | rw [if_neg (by omega)] | rw [q118]))
  · have b257 := bq_257 w i v3 (jup s 21 w i v3)
    have e35 : jup s 21 w i v3 35 0 w = s 22 0 w := by rw [jup_n _ _ _ _ _ _ _ _ (by omega)]; exact a
    rw [sq_200, jbI_s, Int.toNat_natCast, e35, jwi (x := s 22 0 w - 1) (by omega) (by omega), jwi (x := 40 * (w : Int)) (by omega) (by omega), jwi (x := 40 * (w : Int) + i) (by omega) (by omega), show (40 * (w : Int) + i).toNat = 40 * w + i by omega] at b257
    rw [b257]
    (repeat (first | rw [jbI_s] | rw [jbV_s] | rw [bI_t (by omega)] | rw [bI_f (by omega)] | rw [if_pos (by omega)] | rw [if_neg (by omega)] | rw [sq_200]))
  · obtain ⟨e1, e2, e3, e4⟩ := hI.2.2.1 u hu
    refine ⟨?_, ?_, ?_, fun m hm => ?_⟩
    · rw [jup_n _ _ _ _ _ _ _ _ (by omega), jup_n _ _ _ _ _ _ _ _ (by omega), jup_n _ _ _ _ _ _ _ _ (by omega), jup_n _ _ _ _ _ _ _ _ (by omega)]; exact e1
    · rw [jup_n _ _ _ _ _ _ _ _ (by omega), jup_n _ _ _ _ _ _ _ _ (by omega)]; exact e2
    · rw [jup_n _ _ _ _ _ _ _ _ (by omega), jup_n _ _ _ _ _ _ _ _ (by omega)]; exact e3
    · rw [jup_n _ _ _ _ _ _ _ _ (by omega), jup_n _ _ _ _ _ _ _ _ (by omega)] at hm
      by_cases z : u = w ∧ m = i
      · rw [z.1, z.2, jup_n _ _ _ _ _ _ _ _ (by omega), jup_e, jup_e]
      · rw [jup_n _ _ _ _ _ _ _ _ (by omega), jup_n _ _ _ _ _ _ _ _ (by omega), jup_n _ _ _ _ _ _ _ _ (by omega), jup_n _ _ _ _ _ _ _ _ (by omega)]
        exact e4 m hm
theorem ap_27 (s : jM) (hI : Inv s) (v1 v2 : Int) : Go s 27 258 [.inl v1, .inl v2] := by
  by_cases h1 : 0 ≤ v1 ∧ v1 < 3
  rotate_left
  · exact go_no (-1) hI (by rw [bq_27, bq_116]; (repeat (first | rw [jbI_s] | rw [jbV_s] | rw [bI_t (by omega)] | rw [bI_f (by omega)] | rw [if_pos (by omega)] | rw [if_neg (by omega)] | rw [sq_38]))) (by rw [bq_258]; (repeat (first | rw [jbI_s] | rw [jbV_s] | rw [bI_t (by omega)] | rw [bI_f (by omega)] | rw [if_pos (by omega)] | rw [if_neg (by omega)] | rw [sq_200])))
  obtain ⟨w, rfl⟩ := nat_of v1 h1.1
  obtain ⟨a, b, c, d⟩ := inv_row hI w (by omega)
  have q116 := sq_116 s w v2 (by omega)
  have b27 := bq_27 w v2 s
  have b258 := bq_258 w v2 s
  rw [q116, jbI_s] at b27
  rw [sq_200, jbI_s, Int.toNat_natCast, a] at b258
  by_cases c1 : s 22 0 w < 0
  · refine go_no (-11) hI ?_ ?_
    · rw [b27]; (repeat (first | rw [jbI_s] | rw [jbV_s] | rw [bI_t (by omega)] | rw [bI_f (by omega)] | rw [if_pos (by omega)] | rw [if_neg (by omega)] | rw [sq_38]))
    · rw [b258]; (repeat (first | rw [jbI_s] | rw [jbV_s] | rw [bI_t (by omega)] | rw [bI_f (by omega)] | rw [if_pos (by omega)] | rw [if_neg (by omega)] | rw [sq_38]))
  rw [jwi (x := s 22 0 w - 1) (by omega) (by omega)] at b258
  by_cases c2 : 0 ≤ v2 ∧ v2 < s 22 0 w
  rotate_left
  · refine go_no (-13) hI ?_ ?_
    · rw [b27]; (repeat (first | rw [jbI_s] | rw [jbV_s] | rw [bI_t (by omega)] | rw [bI_f (by omega)] | rw [if_pos (by omega)] | rw [if_neg (by omega)] | rw [sq_38]))
    · rw [b258]; (repeat (first | rw [jbI_s] | rw [jbV_s] | rw [bI_t (by omega)] | rw [bI_f (by omega)] | rw [if_pos (by omega)] | rw [if_neg (by omega)] | rw [sq_200]))
  obtain ⟨i, rfl⟩ := nat_of v2 c2.1
  have q117 := sq_117 s w i (by omega) (by omega) c
  refine go_no (s 21 w i) hI ?_ ?_
  · rw [b27]; (repeat (first | rw [jbI_s] | rw [jbV_s] | rw [bI_t (by omega)] | rw [bI_f (by omega)] | rw [if_pos (by omega)] | rw [if_neg (by omega)] | rw [q117]))
  · rw [jwi (x := 40 * (w : Int)) (by omega) (by omega), jwi (x := 40 * (w : Int) + i) (by omega) (by omega), show (40 * (w : Int) + i).toNat = 40 * w + i by omega] at b258
    rw [b258]
    (repeat (first | rw [jbI_s] | rw [jbV_s] | rw [bI_t (by omega)] | rw [bI_f (by omega)] | rw [if_pos (by omega)] | rw [if_neg (by omega)] | rw [sq_200]))
    rw [d i c2.2]
theorem ap_28 (s : jM) (hI : Inv s) (v1 v2 : Int) : Go s 28 259 [.inl v1, .inl v2] := by
  by_cases h1 : 0 ≤ v1 ∧ v1 < 3
  rotate_left
  · exact go_no (-1) hI (by rw [bq_28]; (repeat (first | rw [jbI_s] | rw [jbV_s] | rw [bI_t (by omega)] | rw [bI_f (by omega)] | rw [if_pos (by omega)] | rw [if_neg (by omega)] | rw [sq_38]))) (by rw [bq_259]; (repeat (first | rw [jbI_s] | rw [jbV_s] | rw [bI_t (by omega)] | rw [bI_f (by omega)] | rw [if_pos (by omega)] | rw [if_neg (by omega)] | rw [sq_200])))
  by_cases h2 : 0 ≤ v2 ∧ v2 < 4
  rotate_left
  · exact go_no (-1) hI (by rw [bq_28]; (repeat (first | rw [jbI_s] | rw [jbV_s] | rw [bI_t (by omega)] | rw [bI_f (by omega)] | rw [if_pos (by omega)] | rw [if_neg (by omega)] | rw [sq_38] | rw [sq_39]))) (by rw [bq_259]; (repeat (first | rw [jbI_s] | rw [jbV_s] | rw [bI_t (by omega)] | rw [bI_f (by omega)] | rw [if_pos (by omega)] | rw [if_neg (by omega)] | rw [sq_200] | rw [sq_201])))
  obtain ⟨w, rfl⟩ := nat_of v1 h1.1
  obtain ⟨r, rfl⟩ := nat_of v2 h2.1
  obtain ⟨dg, hd, r1, r2, r3, r4, r5, r6, r7⟩ := inv_reg hI r (by omega)
  have em := mnN_le dg hd
  have q115 := sq_115 s w (mnN dg) (by omega) (by omega)
  have b28 := bq_28 w r s
  have hU : ∀ k i j, ¬ (k = 21 ∨ k = 22) → jfl (jup s 22 0 w (mnN dg : Int)) 21 w 0 (mnN dg) (fun _ => 0) k i j = s k i j := fun k i j q => by rw [jfl_ne _ _ _ _ _ _ _ _ _ (by omega), jup_n _ _ _ _ _ _ _ _ (by omega)]
  have hU22 : ∀ u, jfl (jup s 22 0 w (mnN dg : Int)) 21 w 0 (mnN dg) (fun _ => 0) 22 0 u = if u = w then (mnN dg : Int) else s 22 0 u := fun u => by
    rw [jfl_ne _ _ _ _ _ _ _ _ _ (by omega)]
    by_cases e : u = w
    · rw [if_pos e, e, jup_e]
    · rw [if_neg e, jup_n _ _ _ _ _ _ _ _ (by omega)]
  have hU21 : ∀ u i, u ≠ w → jfl (jup s 22 0 w (mnN dg : Int)) 21 w 0 (mnN dg) (fun _ => 0) 21 u i = s 21 u i := fun u i z => by rw [jfl_ne _ _ _ _ _ _ _ _ _ (by omega), jup_n _ _ _ _ _ _ _ _ (by omega)]
  generalize jfl (jup s 22 0 w (mnN dg : Int)) 21 w 0 (mnN dg) (fun _ => 0) = U at *
  have hloop : je 28 42 [some (.inr (10, 0)), some (.inl (w : Int)), some (.inl (r : Int)), some (.inr (1, r)), some (.inl 0)] [] U = some (some (.inl (mnN dg : Int)), jfl U 21 w 0 (mnN dg) (s 16 r)) := by
    refine Eq.trans (congrArg (fun z => je 28 42 [some (.inr (10, 0)), some (.inl (w : Int)), some (.inl (r : Int)), some (.inr (1, r)), some (.inl 0)] [] z) (jfl_0 U 21 w 0 (s 16 r)).symm) ?_
    refine loopI (P := fun i => je 28 42 [some (.inr (10, 0)), some (.inl (w : Int)), some (.inl (r : Int)), some (.inr (1, r)), some (.inl (i : Int))] [] (jfl U 21 w 0 i (s 16 r))) (n := mnN dg) (fun i hi => ?_) ?_
    · show je 28 42 _ [] _ = _
      have e1 : jfl U 21 w 0 i (s 16 r) 1 r 1 = (dg : Int) := by rw [jfl_ne _ _ _ _ _ _ _ _ _ (by omega), hU _ _ _ (by omega), r1]
      have e22 : jfl U 21 w 0 i (s 16 r) 22 0 w = (mnN dg : Int) := by rw [jfl_ne _ _ _ _ _ _ _ _ _ (by omega), hU22, if_pos rfl]
      have e16 : jfl U 21 w 0 i (s 16 r) 16 r i = s 16 r i := by rw [jfl_ne _ _ _ _ _ _ _ _ _ (by omega), hU _ _ _ (by omega)]
      rw [be_28_42, sq_61 _ r dg e1 hd, jbI_s, if_pos (by omega), sq_62 r i (by omega), jbI_s, e16, sq_118 _ w i _ (by omega) (by rw [e22]; omega) (by rw [e22]; omega), jbV_s, jwn (x := (i : Int) + 1) (n := i + 1) (by omega) (by omega), jfl_up _ _ _ _ _ _ _ rfl _ (by omega)]
    · show je 28 42 _ [] _ = _
      have e1 : jfl U 21 w 0 (mnN dg) (s 16 r) 1 r 1 = (dg : Int) := by rw [jfl_ne _ _ _ _ _ _ _ _ _ (by omega), hU _ _ _ (by omega), r1]
      rw [be_28_42, sq_61 _ r dg e1 hd, jbI_s, if_neg (by omega), sq_61 _ r dg e1 hd, jbI_s]
  have hV : ∀ k i j, ¬ (k = 21 ∨ k = 22) → jfl U 21 w 0 (mnN dg) (s 16 r) k i j = s k i j := fun k i j q => by rw [jfl_ne _ _ _ _ _ _ _ _ _ (by omega), hU _ _ _ q]
  have hV22 : ∀ u, jfl U 21 w 0 (mnN dg) (s 16 r) 22 0 u = if u = w then (mnN dg : Int) else s 22 0 u := fun u => by rw [jfl_ne _ _ _ _ _ _ _ _ _ (by omega), hU22]
  have hV21 : ∀ u i, u ≠ w → jfl U 21 w 0 (mnN dg) (s 16 r) 21 u i = s 21 u i := fun u i z => by rw [jfl_ne _ _ _ _ _ _ _ _ _ (by omega), hU21 _ _ z]
  have hV21w : ∀ i, i < mnN dg → jfl U 21 w 0 (mnN dg) (s 16 r) 21 w i = s 16 r i := fun i hi => by
    have := jfl_in U 21 w 0 (mnN dg) (s 16 r) i hi
    rwa [Nat.zero_add] at this
  generalize jfl U 21 w 0 (mnN dg) (s 16 r) = V at *
  have e29 : V 29 0 r = (dg : Int) := by rw [hV _ _ _ (by omega), r2]
  have hW35 : ∀ i, jfl (jup V 35 0 w (mnN dg : Int)) 36 0 (40 * w) i (s 16 r) 35 0 w = (mnN dg : Int) := fun i => by rw [jfl_ne _ _ _ _ _ _ _ _ _ (by omega), jup_e]
  have hl2 : je 259 35 [some (.inr (11, 0)), some (.inl (w : Int)), some (.inl (r : Int)), some (.inl 0)] [] (jup V 35 0 w (mnN dg : Int)) = some (some (.inl (mnN dg : Int)), jfl (jup V 35 0 w (mnN dg : Int)) 36 0 (40 * w) (mnN dg) (s 16 r)) := by
    refine Eq.trans (congrArg (fun z => je 259 35 [some (.inr (11, 0)), some (.inl (w : Int)), some (.inl (r : Int)), some (.inl 0)] [] z) (jfl_0 (jup V 35 0 w (mnN dg : Int)) 36 0 (40 * w) (s 16 r)).symm) ?_
    refine loopI (P := fun i => je 259 35 [some (.inr (11, 0)), some (.inl (w : Int)), some (.inl (r : Int)), some (.inl (i : Int))] [] (jfl (jup V 35 0 w (mnN dg : Int)) 36 0 (40 * w) i (s 16 r))) (n := mnN dg) (fun i hi => ?_) ?_
    · show je 259 35 _ [] _ = _
      have e30 : jfl (jup V 35 0 w (mnN dg : Int)) 36 0 (40 * w) i (s 16 r) 30 0 (21 * r + i) = s 16 r i := by rw [jfl_ne _ _ _ _ _ _ _ _ _ (by omega), jup_n _ _ _ _ _ _ _ _ (by omega), hV _ _ _ (by omega), r4 i (by omega)]
      rw [be_259_35, if_pos (by omega), Int.toNat_natCast, hW35, if_pos (by omega), jwi (x := 21 * (r : Int)) (by omega) (by omega), jwi (x := 21 * (r : Int) + i) (by omega) (by omega), if_pos (by omega), jwi (x := 40 * (w : Int)) (by omega) (by omega), jwi (x := 40 * (w : Int) + i) (by omega) (by omega), if_pos (by omega), show (40 * (w : Int) + i).toNat = 40 * w + i by omega, show (21 * (r : Int) + i).toNat = 21 * r + i by omega, e30, jwn (x := (i : Int) + 1) (n := i + 1) (by omega) (by omega), jfl_up _ _ _ _ _ _ _ rfl _ rfl]
    · show je 259 35 _ [] _ = _
      rw [be_259_35, if_pos (by omega), Int.toNat_natCast, hW35, if_neg (by omega), if_pos (by omega)]
  refine ⟨(mnN dg : Int), V, jfl (jup V 35 0 w (mnN dg : Int)) 36 0 (40 * w) (mnN dg) (s 16 r), ?_, ?_, Inv_rr (fun k i j q => by rw [jfl_ne _ _ _ _ _ _ _ _ _ (by omega), jup_n _ _ _ _ _ _ _ _ (by omega), hV _ _ _ (by omega)]) (rr_put w (mnN dg : Int) (by omega) (fun u => ?_) (fun u => ?_) (fun u i z => ?_) (fun u i z z2 => ?_) (fun i hi => ?_) hI.2.2.1) hI⟩
  · rw [b28]
    (repeat (first | rw [jbI_s] | rw [jbV_s] | rw [bI_t (by omega)] | rw [bI_f (by omega)] | rw [if_pos (by omega)] | rw [if_neg (by omega)] | rw [sq_38] | rw [sq_39] | rw [Nat.mul_zero] | rw [Nat.zero_add] | rw [Int.toNat_natCast] | rw [sq_61 s r dg r1 hd] | rw [q115] | rw [hloop]))
  · rw [bq_259]
    (repeat (first | rw [jbI_s] | rw [jbV_s] | rw [bI_t (by omega)] | rw [bI_f (by omega)] | rw [if_pos (by omega)] | rw [if_neg (by omega)] | rw [sq_200] | rw [sq_201] | rw [Int.toNat_natCast] | rw [e29] | rw [sq_203 dg hd] | rw [hl2]))
  · rw [jfl_ne _ _ _ _ _ _ _ _ _ (by omega), jup_n _ _ _ _ _ _ _ _ (by omega), hV22]
  · rw [jfl_ne _ _ _ _ _ _ _ _ _ (by omega)]
    by_cases e : u = w
    · rw [if_pos e, e, jup_e]
    · rw [if_neg e, jup_n _ _ _ _ _ _ _ _ (by omega), hV _ _ _ (by omega)]
  · rw [jfl_ne _ _ _ _ _ _ _ _ _ (by omega), jup_n _ _ _ _ _ _ _ _ (by omega), hV21 _ _ z]
  · rw [jfl_ne _ _ _ _ _ _ _ _ _ (by omega), jup_n _ _ _ _ _ _ _ _ (by omega), hV _ _ _ (by omega)]
  · rw [jfl_in _ _ _ _ _ _ _ (by omega), jfl_ne _ _ _ _ _ _ _ _ _ (by omega), jup_n _ _ _ _ _ _ _ _ (by omega), hV21w i (by omega)]
/-- judge -/
def jdg (t v : Nat → Int) (n : Int) : Nat → Nat → Int
  | 0, i => if (i : Int) < n then i else if n < 6 then 100 + n else -2
  | c + 1, i => if (i : Int) < n then (if t i = v i then jdg t v n c (i + 1) else i) else if n < 6 then 100 + n else -2
theorem sj_29 (s : jM) (w r d : Nat) (hw : w < 3) (hr : r < 4) (hd : d ≤ 5) (h0 : 0 ≤ s 22 0 w) (h40 : s 22 0 w ≤ 40) (v : Nat → Int) (hv : ∀ i, i < 6 → jq 74 [.inr (1, r), .inr (1, 4 + i)] s = some (some (.inl (v i)), s)) : ∀ (c i : Nat), i + c = 6 → je 29 43 [some (.inr (10, 0)), some (.inl (w : Int)), some (.inl (r : Int)), some (.inl (s 22 0 w)), some (.inl (i : Int))] [] s = some (some (.inl (jdg (s 21 w) v (s 22 0 w) c i)), s)
  | 0, i, hi => by
    rw [be_29_43, jdg]
    by_cases c : (i : Int) < s 22 0 w
    · rw [if_pos c, if_pos c, if_neg (by omega)]
    · rw [if_neg c, if_neg c]
      by_cases c2 : s 22 0 w < 6
      · rw [if_pos c2, if_pos c2, jwi (by omega) (by omega)]
      · rw [if_neg c2, if_neg c2]
  | e + 1, i, hi => by
    rw [be_29_43, jdg]
    by_cases c : (i : Int) < s 22 0 w
    · rw [if_pos c, if_pos c, if_pos (by omega), sq_117 s w i hw c h40, jbI_s, if_pos (by omega), if_pos (by omega), Int.toNat_natCast, Int.toNat_natCast, Nat.mul_zero, Nat.zero_add, Nat.zero_add, hv i (by omega), jbI_s, jwn (x := (i : Int) + 1) (n := i + 1) (by omega) (by omega)]
      by_cases c2 : s 21 w i = v i
      · rw [if_pos c2, if_pos c2]
        exact sj_29 s w r d hw hr hd h0 h40 v hv e (i + 1) (by omega)
      · rw [if_neg c2, if_neg c2]
    · rw [if_neg c, if_neg c]
      by_cases c2 : s 22 0 w < 6
      · rw [if_pos c2, if_pos c2, jwi (by omega) (by omega)]
      · rw [if_neg c2, if_neg c2]
theorem sj_260 (s : jM) (w r : Nat) (t v : Nat → Int) (n : Int) (hw : w < 3) (h : s 35 0 w = n) (h0 : 0 ≤ n) (h40 : n ≤ 40) (hn : ∀ i : Nat, (i : Int) < n → s 36 0 (40 * w + i) = t i) (hv : ∀ i : Nat, i < 6 → jq 232 [.inr (11, 0), .inl (r : Int), .inl (i : Int)] s = some (some (.inl (v i)), s)) : ∀ (c i : Nat), i + c = 6 → je 260 32 [some (.inr (11, 0)), some (.inl (w : Int)), some (.inl (r : Int)), some (.inl (i : Int))] [] s = some (some (.inl (jdg t v n c i)), s)
  | 0, i, hi => by
    rw [be_260_32, jdg, if_pos (by omega), Int.toNat_natCast, h]
    by_cases c : (i : Int) < n
    · rw [if_pos c, if_pos c, if_pos (by omega)]
    · rw [if_neg c, if_neg c, if_pos (by omega)]
      by_cases c2 : n < 6
      · rw [if_pos c2, if_pos c2, if_pos (by omega), jwi (by omega) (by omega)]
      · rw [if_neg c2, if_neg c2]
  | e + 1, i, hi => by
    rw [be_260_32, jdg, if_pos (by omega), Int.toNat_natCast, h]
    by_cases c : (i : Int) < n
    · rw [if_pos c, if_pos c, if_neg (by omega), jwi (x := 40 * (w : Int)) (by omega) (by omega), jwi (x := 40 * (w : Int) + i) (by omega) (by omega), if_pos (by omega), hv i (by omega), jbI_s, show (40 * (w : Int) + i).toNat = 40 * w + i by omega, hn i c, jwn (x := (i : Int) + 1) (n := i + 1) (by omega) (by omega)]
      by_cases c2 : t i = v i
      · rw [if_pos c2, if_pos c2]
        exact sj_260 s w r t v n hw h h0 h40 hn hv e (i + 1) (by omega)
      · rw [if_neg c2, if_neg c2]
    · rw [if_neg c, if_neg c, if_pos (by omega)]
      by_cases c2 : n < 6
      · rw [if_pos c2, if_pos c2, if_pos (by omega), jwi (by omega) (by omega)]
      · rw [if_neg c2, if_neg c2]
theorem ap_29 (s : jM) (hI : Inv s) (v1 v2 : Int) : Go s 29 260 [.inl v1, .inl v2] := by
  by_cases h1 : 0 ≤ v1 ∧ v1 < 3
  rotate_left
  · exact go_no (-1) hI (by rw [bq_29]; (repeat (first | rw [jbI_s] | rw [jbV_s] | rw [bI_t (by omega)] | rw [bI_f (by omega)] | rw [if_pos (by omega)] | rw [if_neg (by omega)] | rw [sq_38]))) (by rw [bq_260]; (repeat (first | rw [jbI_s] | rw [jbV_s] | rw [bI_t (by omega)] | rw [bI_f (by omega)] | rw [if_pos (by omega)] | rw [if_neg (by omega)] | rw [sq_200])))
  by_cases h2 : 0 ≤ v2 ∧ v2 < 4
  rotate_left
  · exact go_no (-1) hI (by rw [bq_29]; (repeat (first | rw [jbI_s] | rw [jbV_s] | rw [bI_t (by omega)] | rw [bI_f (by omega)] | rw [if_pos (by omega)] | rw [if_neg (by omega)] | rw [sq_38] | rw [sq_39]))) (by rw [bq_260]; (repeat (first | rw [jbI_s] | rw [jbV_s] | rw [bI_t (by omega)] | rw [bI_f (by omega)] | rw [if_pos (by omega)] | rw [if_neg (by omega)] | rw [sq_200] | rw [sq_201])))
  obtain ⟨w, rfl⟩ := nat_of v1 h1.1
  obtain ⟨r, rfl⟩ := nat_of v2 h2.1
  obtain ⟨d, hd, r1, r2, r3, r4, r5, r6, r7⟩ := inv_reg hI r (by omega)
  obtain ⟨a, b, c, e⟩ := inv_row hI w (by omega)
  have em := mnN_le d hd
  have b29 := bq_29 w r s
  have b260 := bq_260 w r s
  have q112 := sq_112 s w (by omega)
  have q113 := sq_113 s w (by omega)
  by_cases c1 : s 22 0 w < 0
  · refine go_no (-11) hI ?_ ?_
    · rw [b29]; (repeat (first | rw [jbI_s] | rw [jbV_s] | rw [bI_t (by omega)] | rw [bI_f (by omega)] | rw [if_pos (by omega)] | rw [if_neg (by omega)] | rw [sq_38] | rw [sq_39] | rw [q112]))
    · rw [b260]; (repeat (first | rw [jbI_s] | rw [jbV_s] | rw [bI_t (by omega)] | rw [bI_f (by omega)] | rw [if_pos (by omega)] | rw [if_neg (by omega)] | rw [sq_200] | rw [sq_201] | rw [Int.toNat_natCast] | rw [a]))
  have q29 := sj_29 s w r d (by omega) (by omega) hd (by omega) c (fun i => vsum (s 16 r) (mat s (4 + i) d) (mnN d)) (fun i hi => sq_74 s r (4 + i) d r1 hd r5 (inv_line hI i hi).2.2.2.1) 6 0 (by omega)
  have q260 := sj_260 s w r (s 21 w) (fun i => vsum (s 16 r) (mat s (4 + i) d) (mnN d)) (s 22 0 w) (by omega) a (by omega) c e (fun i hi => by
    obtain ⟨k1, k2, k3, k4, k5, k6⟩ := inv_line hI i hi
    have := sq_232 s r d i (by omega) hd hi r2 r6 k5
    rw [this, vsum_c (g := fun m => s 30 0 (21 * r + m)) (g' := s 16 r) (h := mmt s i d) (h' := mat s (4 + i) d) (n := mnN d) (fun j hj => (r4 j (by omega)).symm) (fun j _ => (k6 d j).symm)]) 6 0 (by omega)
  refine go_no (jdg (s 21 w) (fun i => vsum (s 16 r) (mat s (4 + i) d) (mnN d)) (s 22 0 w) 6 0) hI ?_ ?_
  · rw [b29]
    (repeat (first | rw [jbI_s] | rw [jbV_s] | rw [bI_t (by omega)] | rw [bI_f (by omega)] | rw [if_pos (by omega)] | rw [if_neg (by omega)] | rw [sq_38] | rw [sq_39] | rw [q112] | rw [q113]))
    exact q29
  · rw [b260]
    (repeat (first | rw [jbI_s] | rw [jbV_s] | rw [bI_t (by omega)] | rw [bI_f (by omega)] | rw [if_pos (by omega)] | rw [if_neg (by omega)] | rw [sq_200] | rw [sq_201] | rw [Int.toNat_natCast] | rw [a]))
    exact q260
/-- the tape -/
theorem Inv_rt {s t : jM} (h : ∀ k i j, ¬ (k = 8 ∨ k = 27 ∨ k = 37 ∨ k = 11 ∧ j = 8) → t k i j = s k i j) (hr : RT t) (hI : Inv s) : Inv t := by
  obtain ⟨a, b, c, d, e, ⟨n, nx, f⟩, g⟩ := hI
  exact ⟨RB_cg (fun k i j q => h k i j (by omega)) a, RK_cg (fun k i j q => h k i j (by omega)) b, RR_cg (fun k i j q => h k i j (by omega)) c, hr, RI_cg (fun k i j q => h k i j (by omega)) e, ⟨n, nx, RS_cg (fun k i j q => h k i j (by omega)) f⟩, TI_cg (fun j => h 24 0 j (by omega)) g⟩
theorem ap_32 (s : jM) (hI : Inv s) (v1 : Int) : Go s 32 266 [.inl v1] := by
  obtain ⟨a, b, c, d⟩ := hI.2.2.2.1
  have b266 := fun s => bq_266 v1 s
  simp only [sq_200, jbI_s] at b266
  by_cases h1 : 32 ≤ v1 ∧ v1 ≤ 126
  rotate_left
  · refine go_no (-1) hI ?_ (by rw [b266]; (repeat (first | rw [jbI_s] | rw [jbV_s] | rw [bI_t (by omega)] | rw [bI_f (by omega)] | rw [if_pos (by omega)] | rw [if_neg (by omega)] | rw [sq_38])))
    rw [bq_32]
    by_cases c1 : v1 < 32
    · (repeat (first | rw [jbI_s] | rw [jbV_s] | rw [bI_t (by omega)] | rw [bI_f (by omega)] | rw [if_pos (by omega)] | rw [if_neg (by omega)] | rw [sq_38]))
    · (repeat (first | rw [jbI_s] | rw [jbV_s] | rw [bI_t (by omega)] | rw [bI_f (by omega)] | rw [if_pos (by omega)] | rw [if_neg (by omega)] | rw [sq_38]))
  obtain ⟨n, hn⟩ := nat_of (s 8 0 1) b
  rw [hn] at a
  by_cases c80 : n = 80
  · refine go_no (-3) hI ?_ ?_
    · rw [bq_32, hn]; (repeat (first | rw [jbI_s] | rw [jbV_s] | rw [bI_t (by omega)] | rw [bI_f (by omega)] | rw [if_pos (by omega)] | rw [if_neg (by omega)] | rw [sq_38]))
    · rw [b266, ← a]; (repeat (first | rw [jbI_s] | rw [jbV_s] | rw [bI_t (by omega)] | rw [bI_f (by omega)] | rw [if_pos (by omega)] | rw [if_neg (by omega)] | rw [sq_38]))
  have q135 : jq 135 [.inr (8, 0), .inl v1] s = some (none, jup (jup s 27 0 n v1) 8 0 1 (n + 1 : Nat)) := by
    rw [bq_135, hn, if_pos (by omega), if_pos (by omega), Int.toNat_natCast, jwn (n := n + 1) (by omega) (by omega)]
  have e8 : jup (jup s 27 0 n v1) 8 0 1 (n + 1 : Nat) 8 0 1 = ((n + 1 : Nat) : Int) := jup_e _ _ _ _ _
  have eo : ∀ k i j, ¬ (k = 8 ∨ k = 27) → jup (jup s 27 0 n v1) 8 0 1 (n + 1 : Nat) k i j = s k i j := fun k i j q => by rw [jup_n _ _ _ _ _ _ _ _ (by omega), jup_n _ _ _ _ _ _ _ _ (by omega)]
  have e27 : ∀ j, jup (jup s 27 0 n v1) 8 0 1 (n + 1 : Nat) 27 0 j = if j = n then v1 else s 27 0 j := fun j => by
    rw [jup_n _ _ _ _ _ _ _ _ (by omega)]
    by_cases e : j = n
    · rw [if_pos e, e, jup_e]
    · rw [if_neg e, jup_n _ _ _ _ _ _ _ _ (by omega)]
  generalize jup (jup s 27 0 n v1) 8 0 1 (n + 1 : Nat) = U at *
  have u11 : U 11 0 8 = (n : Int) := by rw [eo _ _ _ (by omega)]; exact a.symm
  refine ⟨((n + 1 : Nat) : Int), U, jup (jup U 37 0 n v1) 11 0 8 ((n + 1 : Nat) : Int), ?_, ?_, Inv_rt (fun k i j q => by rw [jup_n _ _ _ _ _ _ _ _ (by omega), jup_n _ _ _ _ _ _ _ _ (by omega), eo _ _ _ (by omega)]) ?_ hI⟩
  · rw [bq_32]
    (repeat (first | rw [jbI_s] | rw [jbV_s] | rw [bI_t (by omega)] | rw [bI_f (by omega)] | rw [if_pos (by omega)] | rw [if_neg (by omega)] | rw [hn] | rw [q135] | rw [e8]))
  · rw [b266, u11, if_neg (by rw [bI_t h1]; decide), if_neg (by omega), if_pos (by omega), Int.toNat_natCast, jwn (x := (n : Int) + 1) (n := n + 1) (by omega) (by omega)]
  · refine ⟨?_, ?_, ?_, fun i hi => ?_⟩
    · rw [jup_e, jup_n _ _ _ _ _ _ _ _ (by omega), jup_n _ _ _ _ _ _ _ _ (by omega), e8]
    · rw [jup_n _ _ _ _ _ _ _ _ (by omega), jup_n _ _ _ _ _ _ _ _ (by omega), e8]; omega
    · rw [jup_n _ _ _ _ _ _ _ _ (by omega), jup_n _ _ _ _ _ _ _ _ (by omega), e8]; omega
    · rw [jup_n _ _ _ _ _ _ _ _ (by omega), jup_n _ _ _ _ _ _ _ _ (by omega), e8] at hi
      rw [jup_n _ _ _ _ _ _ _ _ (by omega), jup_n _ _ _ _ _ _ _ _ (by omega), jup_n _ _ _ _ _ _ _ _ (by omega), e27]
      by_cases e : i = n
      · rw [if_pos e, e, jup_e]
        exact ⟨rfl, h1.1, h1.2⟩
      · rw [if_neg e, jup_n _ _ _ _ _ _ _ _ (by omega), eo _ _ _ (by omega)]
        exact d i (by omega)
theorem ap_33 (s : jM) (hI : Inv s) : Go s 33 267 [] := by
  obtain ⟨a, b, c, d⟩ := hI.2.2.2.1
  refine ⟨s 8 0 1, jup s 8 0 1 0, jup (jup s 8 0 1 0) 11 0 8 0, bq_33 s, ?_, Inv_rt (fun k i j q => by rw [jup_n _ _ _ _ _ _ _ _ (by omega), jup_n _ _ _ _ _ _ _ _ (by omega)]) ⟨?_, ?_, ?_, fun i hi => ?_⟩ hI⟩
  · rw [bq_267, jup_n _ _ _ _ _ _ _ _ (by omega), a]
  · rw [jup_e, jup_n _ _ _ _ _ _ _ _ (by omega), jup_e]
  · rw [jup_n _ _ _ _ _ _ _ _ (by omega), jup_e]; omega
  · rw [jup_n _ _ _ _ _ _ _ _ (by omega), jup_e]; omega
  · rw [jup_n _ _ _ _ _ _ _ _ (by omega), jup_e] at hi; omega
