/-! RACKS -/
theorem sq_41a (k : Int) (s : jM) : jq 41 [.inl 0, .inl k] s = some (some (.inl (bI (0 ≤ k ∧ k < 4))), s) := by
  rw [bq_41, if_pos rfl, sq_39, jbI_s, if_pos (bI01 _)]
theorem sq_41b (k : Int) (s : jM) : jq 41 [.inl 1, .inl k] s = some (some (.inl (bI (0 ≤ k ∧ k < 6))), s) := by
  rw [bq_41, if_neg (by decide), sq_40, jbI_s, if_pos (bI01 _)]
theorem Inv_rk {s t : jM} (h : ∀ k i j, ¬ ((k = 1 ∨ k = 16) ∧ 10 ≤ i ∧ i < 22 ∨ k = 15 ∧ i = 0 ∨ k = 32 ∨ k = 33 ∨ k = 34) → t k i j = s k i j) (hk : RK t 0 0 32 33 34) (hI : Inv s) : Inv t := by
  obtain ⟨a, b, c, d, e, ⟨n, nx, f⟩, g⟩ := hI
  exact ⟨RB_cg (fun k i j q => h k i j (by omega)) a, hk, RR_cg (fun k i j q => h k i j (by omega)) c, RT_cg (fun k i j q => h k i j (by omega)) d, RI_cg (fun k i j q => h k i j (by omega)) e, ⟨n, nx, RS_cg (fun k i j q => h k i j (by omega)) f⟩, TI_cg (fun j => h 24 0 j (by omega)) g⟩
theorem rk_put {s t : jM} (p : Nat) (κ d : Int) (g : Nat → Int) (hκ : κ = 0 ∨ κ = 1 ∧ d = 1) (hF : FW d g)
    (h15 : ∀ j, t 15 0 j = if j = p then κ else s 15 0 j)
    (h32 : ∀ j, t 32 0 j = if j = p then κ else s 32 0 j)
    (h33 : ∀ j, t 33 0 j = if j = p then (if κ = 0 then d else 0) else s 33 0 j)
    (h1 : ∀ q, q < 12 → t 1 (10 + q) 1 = if q = p then d else s 1 (10 + q) 1)
    (h16 : ∀ q, q < 12 → ∀ j, j < 21 → t 16 (10 + q) j = if q = p then g j else s 16 (10 + q) j)
    (h34 : ∀ q, q < 12 → ∀ j, j < 21 → t 34 0 (21 * q + j) = if q = p then g j else s 34 0 (21 * q + j))
    (hs : RK s 0 0 32 33 34) : RK t 0 0 32 33 34 := by
  intro q hq
  rw [Nat.zero_add]
  by_cases c : q = p
  · right
    rw [h15, h32, h33, h1 q hq, if_pos c, if_pos c, if_pos c, if_pos c]
    refine ⟨?_, FW_c hF (fun j hj => by rw [h16 q hq j hj, if_pos c]), fun j hj => by rw [h16 q hq j hj, h34 q hq j hj, if_pos c, if_pos c]⟩
    rcases hκ with e | ⟨e, e2⟩
    · left; rw [if_pos e]; exact ⟨e, e, rfl⟩
    · right; exact ⟨e, e, e2⟩
  · rw [h15, h32, h33, h1 q hq, if_neg c, if_neg c, if_neg c, if_neg c]
    have := hs q hq
    rw [Nat.zero_add] at this
    rcases this with e | ⟨e1, e2, e3⟩
    · exact Or.inl e
    · exact Or.inr ⟨e1, FW_c e2 (fun j hj => by rw [h16 q hq j hj, if_neg c]), fun j hj => by rw [h16 q hq j hj, h34 q hq j hj, if_neg c, if_neg c]; exact e3 j hj⟩
theorem sq_56 (s : jM) (p i : Nat) (κ : Int) (k : Nat) (hp : p < 12) (hk : if κ = 0 then k < 4 else k < 6) (hi : i = if κ = 0 then k else 4 + k) : jq 56 [.inr (0, 0), .inl (p : Int), .inl κ, .inl (k : Int)] s = some (none, jup (fset s (10 + p) (s 1 i 1) (fun j => s 16 i j)) 15 0 p κ) := by
  have hi2 : (if κ = 0 then 22 * 0 + k else 22 * 0 + 4 + k) = i := by rw [hi, Nat.mul_zero, Nat.zero_add, Nat.zero_add]
  rw [bq_56, if_pos (by omega), sq_55 0 κ k s hk, jbR_s, hi2, Nat.mul_zero, Nat.zero_add, Int.toNat_natCast, sq_66, jbV_s, if_pos (by omega)]
/-- what the reference has behind store() -/
def rput (s : jM) (p : Nat) (κ D : Int) (g : Nat → Int) : jM := jfl (jup (jup s 32 0 p κ) 33 0 p D) 34 0 (21 * p) 21 g
theorem rput_o (s : jM) (p : Nat) (κ D : Int) (g : Nat → Int) (a b c : Nat) (h : a ≠ 32) (h2 : a ≠ 33) (h3 : a ≠ 34) : rput s p κ D g a b c = s a b c := by
  unfold rput
  rw [jfl_ne _ _ _ _ _ _ _ _ _ (by omega), jup_n _ _ _ _ _ _ _ _ (by omega), jup_n _ _ _ _ _ _ _ _ (by omega)]
theorem sj_253 (U : jM) (v1 v2 κ : Int) (k p : Nat) (D : Int) (hp : p < 12) (hk : κ = 0 ∧ k < 4 ∨ κ = 1 ∧ k < 6) : je 253 103 [some (.inr (11, 0)), some (.inl v1), some (.inl v2), some (.inl κ), some (.inl (k : Int)), some (.inl (p : Int)), some (.inl 0)] [] (jup (jup U 32 0 p κ) 33 0 p D) = some (some (.inl 1), rput U p κ D (fun j => if κ = 0 then U 30 0 (21 * k + j) else if j < 3 then U 31 0 (3 * k + j) else 0)) := by
  generalize hG : (fun j => if κ = 0 then U 30 0 (21 * k + j) else if j < 3 then U 31 0 (3 * k + j) else 0) = G
  have hGj : ∀ j, G j = if κ = 0 then U 30 0 (21 * k + j) else if j < 3 then U 31 0 (3 * k + j) else 0 := fun j => by rw [← hG]
  generalize hW : jup (jup U 32 0 p κ) 33 0 p D = W
  have h30 : ∀ j, W 30 0 j = U 30 0 j := fun j => by rw [← hW, jup_n _ _ _ _ _ _ _ _ (by omega), jup_n _ _ _ _ _ _ _ _ (by omega)]
  have h31 : ∀ j, W 31 0 j = U 31 0 j := fun j => by rw [← hW, jup_n _ _ _ _ _ _ _ _ (by omega), jup_n _ _ _ _ _ _ _ _ (by omega)]
  have h0 : W = jfl W 34 0 (21 * p) 0 G := (jfl_0 _ _ _ _ _).symm
  rw [show rput U p κ D G = jfl W 34 0 (21 * p) 21 G by unfold rput; rw [hW]]
  refine Eq.trans (congrArg (fun z => je 253 103 [some (.inr (11, 0)), some (.inl v1), some (.inl v2), some (.inl κ), some (.inl (k : Int)), some (.inl (p : Int)), some (.inl 0)] [] z) h0) ?_
  refine loopI (P := fun m => je 253 103 [some (.inr (11, 0)), some (.inl v1), some (.inl v2), some (.inl κ), some (.inl (k : Int)), some (.inl (p : Int)), some (.inl (m : Int))] [] (jfl W 34 0 (21 * p) m G)) (n := 21) (fun m hm => ?_) ?_
  · show je 253 103 _ [] _ = _
    have e30 : ∀ j, jfl W 34 0 (21 * p) m G 30 0 j = U 30 0 j := fun j => by rw [jfl_ne _ _ _ _ _ _ _ _ _ (by omega), h30]
    have e31 : ∀ j, jfl W 34 0 (21 * p) m G 31 0 j = U 31 0 j := fun j => by rw [jfl_ne _ _ _ _ _ _ _ _ _ (by omega), h31]
    rw [be_253_103, if_pos (by omega), jwi (x := 21 * (p : Int)) (by omega) (by omega), jwi (x := 21 * (p : Int) + m) (by omega) (by omega), show (21 * (p : Int) + m).toNat = 21 * p + m by omega, jwn (x := (m : Int) + 1) (n := m + 1) (by omega) (by omega)]
    rcases hk with ⟨e, k4⟩ | ⟨e, k6⟩
    · rw [if_pos e, jwi (x := 21 * (k : Int)) (by omega) (by omega), jwi (x := 21 * (k : Int) + m) (by omega) (by omega), if_pos (by omega), if_pos (by omega), show (21 * (k : Int) + m).toNat = 21 * k + m by omega, e30, jfl_up _ _ _ _ _ _ _ (by rw [hGj, if_pos e]) _ rfl]
    · have e0 : ¬ κ = 0 := by omega
      rw [if_neg e0, jwi (x := 3 * (k : Int)) (by omega) (by omega)]
      by_cases c : m < 3
      · rw [if_pos (show (m : Int) < 3 by omega), jwi (x := 3 * (k : Int) + m) (by omega) (by omega), if_pos (by omega), if_pos (by omega), show (3 * (k : Int) + m).toNat = 3 * k + m by omega, e31, jfl_up _ _ _ _ _ _ _ (by rw [hGj, if_neg e0, if_pos c]) _ rfl]
      · rw [if_neg (show ¬ (m : Int) < 3 by omega), if_pos (by omega), jfl_up _ _ _ _ _ _ _ (by rw [hGj, if_neg e0, if_neg c]) _ rfl]
  · show je 253 103 _ [] _ = _
    rw [be_253_103, if_neg (by omega)]
/-- both sides store the form i -/
theorem go_store {s : jM} (hI : Inv s) (p i : Nat) (κ d : Int) (g : Nat → Int) (hp : p < 12) (hκ : κ = 0 ∨ κ = 1 ∧ d = 1) (h1 : s 1 i 1 = d) (hF : FW d (s 16 i)) (hg : ∀ j, j < 21 → g j = s 16 i j) : Inv (rput (jup (fset s (10 + p) (s 1 i 1) (fun j => s 16 i j)) 15 0 p κ) p κ (if κ = 0 then d else 0) g) := by
  refine Inv_rk (fun k a b q => ?_) (rk_put p κ d (s 16 i) hκ hF (fun j => ?_) (fun j => ?_) (fun j => ?_) (fun q hq => ?_) (fun q hq j hj => ?_) (fun q hq j hj => ?_) hI.2.1) hI
  · rw [rput_o _ _ _ _ _ _ _ _ (by omega) (by omega) (by omega), jup_n _ _ _ _ _ _ _ _ (by omega), fset_o _ _ _ _ _ _ _ (by omega) (by omega)]
  · rw [rput_o _ _ _ _ _ _ _ _ (by omega) (by omega) (by omega)]
    by_cases c : j = p
    · rw [c, jup_e, if_pos rfl]
    · rw [if_neg c, jup_n _ _ _ _ _ _ _ _ (by omega), fset_o _ _ _ _ _ _ _ (by omega) (by omega)]
  · unfold rput
    rw [jfl_ne _ _ _ _ _ _ _ _ _ (by omega), jup_n _ _ _ _ _ _ _ _ (by omega)]
    by_cases c : j = p
    · rw [c, jup_e, if_pos rfl]
    · rw [if_neg c, jup_n _ _ _ _ _ _ _ _ (by omega), jup_n _ _ _ _ _ _ _ _ (by omega), fset_o _ _ _ _ _ _ _ (by omega) (by omega)]
  · unfold rput
    rw [jfl_ne _ _ _ _ _ _ _ _ _ (by omega)]
    by_cases c : j = p
    · rw [c, jup_e, if_pos rfl]
    · rw [if_neg c, jup_n _ _ _ _ _ _ _ _ (by omega), jup_n _ _ _ _ _ _ _ _ (by omega), jup_n _ _ _ _ _ _ _ _ (by omega), fset_o _ _ _ _ _ _ _ (by omega) (by omega)]
  · rw [rput_o _ _ _ _ _ _ _ _ (by omega) (by omega) (by omega), jup_n _ _ _ _ _ _ _ _ (by omega)]
    by_cases c : q = p
    · rw [c, fset_d, if_pos rfl, h1]
    · rw [if_neg c, fset_o _ _ _ _ _ _ _ (by omega) (by omega)]
  · rw [rput_o _ _ _ _ _ _ _ _ (by omega) (by omega) (by omega), jup_n _ _ _ _ _ _ _ _ (by omega)]
    by_cases c : q = p
    · rw [c, fset_n _ _ _ _ _ hj, if_pos rfl]
    · rw [if_neg c, fset_o _ _ _ _ _ _ _ (by omega) (by omega)]
  · unfold rput
    by_cases c : q = p
    · rw [if_pos c, c, jfl_in _ _ _ _ _ _ _ hj, hg j hj]
    · rw [if_neg c, jfl_ne _ _ _ _ _ _ _ _ _ (by omega), jup_n _ _ _ _ _ _ _ _ (by omega), jup_n _ _ _ _ _ _ _ _ (by omega), jup_n _ _ _ _ _ _ _ _ (by omega), fset_o _ _ _ _ _ _ _ (by omega) (by omega)]
theorem ap_22 (s : jM) (hI : Inv s) (v1 v2 v3 v4 : Int) : Go s 22 253 [.inl v1, .inl v2, .inl v3, .inl v4] := by
  by_cases h1 : 0 ≤ v1 ∧ v1 < 3
  rotate_left
  · exact go_no (-1) hI (by rw [bq_22]; repeat (first | rw [jbI_s] | rw [jbV_s] | rw [bI_t (by omega)] | rw [bI_f (by omega)] | rw [if_pos (by omega)] | rw [if_neg (by omega)] | rw [sq_38])) (by rw [bq_253]; repeat (first | rw [jbI_s] | rw [jbV_s] | rw [bI_t (by omega)] | rw [bI_f (by omega)] | rw [if_pos (by omega)] | rw [if_neg (by omega)] | rw [sq_200]))
  by_cases h3 : 0 ≤ v3 ∧ v3 < 2
  rotate_left
  · exact go_no (-1) hI (by rw [bq_22]; repeat (first | rw [jbI_s] | rw [jbV_s] | rw [bI_t (by omega)] | rw [bI_f (by omega)] | rw [if_pos (by omega)] | rw [if_neg (by omega)] | rw [sq_38])) (by rw [bq_253]; repeat (first | rw [jbI_s] | rw [jbV_s] | rw [bI_t (by omega)] | rw [bI_f (by omega)] | rw [if_pos (by omega)] | rw [if_neg (by omega)] | rw [sq_200]))
  by_cases c3 : v3 = 0
  · subst c3
    by_cases h4 : 0 ≤ v4 ∧ v4 < 4
    rotate_left
    · exact go_no (-1) hI (by rw [bq_22]; repeat (first | rw [jbI_s] | rw [jbV_s] | rw [bI_t (by omega)] | rw [bI_f (by omega)] | rw [if_pos (by omega)] | rw [if_neg (by omega)] | rw [sq_38] | rw [sq_41a])) (by rw [bq_253]; repeat (first | rw [jbI_s] | rw [jbV_s] | rw [bI_t (by omega)] | rw [bI_f (by omega)] | rw [if_pos (by omega)] | rw [if_neg (by omega)] | rw [sq_200]))
    by_cases h2 : 0 ≤ v2 ∧ v2 < 4
    rotate_left
    · exact go_no (-13) hI (by rw [bq_22]; repeat (first | rw [jbI_s] | rw [jbV_s] | rw [bI_t (by omega)] | rw [bI_f (by omega)] | rw [if_pos (by omega)] | rw [if_neg (by omega)] | rw [sq_38] | rw [sq_41a])) (by rw [bq_253]; repeat (first | rw [jbI_s] | rw [jbV_s] | rw [bI_t (by omega)] | rw [bI_f (by omega)] | rw [if_pos (by omega)] | rw [if_neg (by omega)] | rw [sq_200]))
    by_cases h5 : v1 = 1
    · exact go_no (-16) hI (by rw [bq_22]; repeat (first | rw [jbI_s] | rw [jbV_s] | rw [bI_t (by omega)] | rw [bI_f (by omega)] | rw [if_pos (by omega)] | rw [if_neg (by omega)] | rw [sq_38] | rw [sq_41a] | rw [be_22_46])) (by rw [bq_253]; repeat (first | rw [jbI_s] | rw [jbV_s] | rw [bI_t (by omega)] | rw [bI_f (by omega)] | rw [if_pos (by omega)] | rw [if_neg (by omega)] | rw [sq_200]))
    have c12 : v1 = 0 ∨ v1 = 2 := by omega
    obtain ⟨p, hp⟩ := nat_of (4 * v1 + v2) (by omega)
    obtain ⟨k, rfl⟩ := nat_of v4 h4.1
    obtain ⟨d, hd, r1, r2, r3, r4, r5, r6, r7⟩ := inv_reg hI k (by omega)
    have ec : jw (jw (v1 * 4) + v2) = (p : Int) := by rw [jwi (x := v1 * 4) (by omega) (by omega), jwi (by omega) (by omega)]; omega
    have em : jw (jw (4 * v1) + v2) = (p : Int) := by rw [jwi (x := 4 * v1) (by omega) (by omega), jwi (by omega) (by omega)]; omega
    have q56 := sq_56 s p k 0 k (by omega) (by rw [if_pos rfl]; omega) (by rw [if_pos rfl])
    have hG := go_store hI p k 0 (d : Int) (fun j => if (0 : Int) = 0 then jup (fset s (10 + p) (s 1 k 1) (fun j => s 16 k j)) 15 0 p 0 30 0 (21 * k + j) else if j < 3 then jup (fset s (10 + p) (s 1 k 1) (fun j => s 16 k j)) 15 0 p 0 31 0 (3 * k + j) else 0) (by omega) (Or.inl rfl) r1 r3 (fun j hj => by rw [if_pos rfl, jup_n _ _ _ _ _ _ _ _ (by omega), fset_o _ _ _ _ _ _ _ (by omega) (by omega), r4 j hj])
    rw [if_pos rfl] at hG
    have q253 := sj_253 (jup (fset s (10 + p) (s 1 k 1) (fun j => s 16 k j)) 15 0 p 0) v1 v2 0 k p (d : Int) (by omega) (Or.inl ⟨rfl, by omega⟩)
    have e29 : jup (fset s (10 + p) (s 1 k 1) (fun j => s 16 k j)) 15 0 p 0 29 0 k = (d : Int) := by rw [jup_n _ _ _ _ _ _ _ _ (by omega), fset_o _ _ _ _ _ _ _ (by omega) (by omega)]; exact r2
    generalize jup (fset s (10 + p) (s 1 k 1) (fun j => s 16 k j)) 15 0 p 0 = U at *
    have f253 : ∀ o5 o6, je 253 63 [some (.inr (11, 0)), some (.inl v1), some (.inl v2), some (.inl 0), some (.inl (k : Int)), o5, o6] [] U = some (some (.inl 1), _) := fun o5 o6 => by
      rw [be_253_63, em, Int.toNat_natCast, Int.toNat_natCast, if_pos (by omega), if_pos rfl, if_pos (by omega), if_pos (by omega), e29]
      exact q253
    refine ⟨1, U, _, ?_, ?_, hG⟩
    · rw [bq_22]
      rcases c12 with c | c
      · repeat (first | rw [jbI_s] | rw [jbV_s] | rw [bI_t (by omega)] | rw [bI_f (by omega)] | rw [if_pos (by omega)] | rw [if_neg (by omega)] | rw [sq_38] | rw [sq_41a] | rw [be_22_46] | rw [ec] | rw [q56])
      · repeat (first | rw [jbI_s] | rw [jbV_s] | rw [bI_t (by omega)] | rw [bI_f (by omega)] | rw [if_pos (by omega)] | rw [if_neg (by omega)] | rw [sq_38] | rw [sq_41a] | rw [be_22_46] | rw [ec] | rw [q56])
    · rw [bq_253]
      rcases c12 with c | c
      · repeat (first | rw [jbI_s] | rw [jbV_s] | rw [bI_t (by omega)] | rw [bI_f (by omega)] | rw [if_pos (by omega)] | rw [if_neg (by omega)] | rw [sq_200] | rw [f253])
      · repeat (first | rw [jbI_s] | rw [jbV_s] | rw [bI_t (by omega)] | rw [bI_f (by omega)] | rw [if_pos (by omega)] | rw [if_neg (by omega)] | rw [sq_200] | rw [f253])
  · have c4 : v3 = 1 := by omega
    subst c4
    by_cases h4 : 0 ≤ v4 ∧ v4 < 6
    rotate_left
    · exact go_no (-1) hI (by rw [bq_22]; repeat (first | rw [jbI_s] | rw [jbV_s] | rw [bI_t (by omega)] | rw [bI_f (by omega)] | rw [if_pos (by omega)] | rw [if_neg (by omega)] | rw [sq_38] | rw [sq_41b])) (by rw [bq_253]; repeat (first | rw [jbI_s] | rw [jbV_s] | rw [bI_t (by omega)] | rw [bI_f (by omega)] | rw [if_pos (by omega)] | rw [if_neg (by omega)] | rw [sq_200]))
    by_cases h2 : 0 ≤ v2 ∧ v2 < 4
    rotate_left
    · exact go_no (-13) hI (by rw [bq_22]; repeat (first | rw [jbI_s] | rw [jbV_s] | rw [bI_t (by omega)] | rw [bI_f (by omega)] | rw [if_pos (by omega)] | rw [if_neg (by omega)] | rw [sq_38] | rw [sq_41b])) (by rw [bq_253]; repeat (first | rw [jbI_s] | rw [jbV_s] | rw [bI_t (by omega)] | rw [bI_f (by omega)] | rw [if_pos (by omega)] | rw [if_neg (by omega)] | rw [sq_200]))
    by_cases h5 : v1 = 0
    · exact go_no (-16) hI (by rw [bq_22]; repeat (first | rw [jbI_s] | rw [jbV_s] | rw [bI_t (by omega)] | rw [bI_f (by omega)] | rw [if_pos (by omega)] | rw [if_neg (by omega)] | rw [sq_38] | rw [sq_41b])) (by rw [bq_253]; repeat (first | rw [jbI_s] | rw [jbV_s] | rw [bI_t (by omega)] | rw [bI_f (by omega)] | rw [if_pos (by omega)] | rw [if_neg (by omega)] | rw [sq_200]))
    have c12 : v1 = 1 ∨ v1 = 2 := by omega
    obtain ⟨p, hp⟩ := nat_of (4 * v1 + v2) (by omega)
    obtain ⟨k, rfl⟩ := nat_of v4 h4.1
    obtain ⟨k1, k2, k3, k4, k5, k6⟩ := inv_line hI k (by omega)
    have ec : jw (jw (v1 * 4) + v2) = (p : Int) := by rw [jwi (x := v1 * 4) (by omega) (by omega), jwi (by omega) (by omega)]; omega
    have em : jw (jw (4 * v1) + v2) = (p : Int) := by rw [jwi (x := 4 * v1) (by omega) (by omega), jwi (by omega) (by omega)]; omega
    have q56 := sq_56 s p (4 + k) 1 k (by omega) (by rw [if_neg (by decide)]; omega) (by rw [if_neg (by decide)])
    have hG := go_store hI p (4 + k) 1 1 (fun j => if (1 : Int) = 0 then jup (fset s (10 + p) (s 1 (4 + k) 1) (fun j => s 16 (4 + k) j)) 15 0 p 1 30 0 (21 * k + j) else if j < 3 then jup (fset s (10 + p) (s 1 (4 + k) 1) (fun j => s 16 (4 + k) j)) 15 0 p 1 31 0 (3 * k + j) else 0) (by omega) (Or.inr ⟨rfl, rfl⟩) k1 k2 (fun j hj => by
      rw [if_neg (by decide)]
      by_cases c : j < 3
      · rw [if_pos c, jup_n _ _ _ _ _ _ _ _ (by omega), fset_o _ _ _ _ _ _ _ (by omega) (by omega), k3 j c]
      · rw [if_neg c, k2.2.2.2 j (by show 3 ≤ j; omega) hj])
    rw [if_neg (by decide)] at hG
    have q253 := sj_253 (jup (fset s (10 + p) (s 1 (4 + k) 1) (fun j => s 16 (4 + k) j)) 15 0 p 1) v1 v2 1 k p 0 (by omega) (Or.inr ⟨rfl, by omega⟩)
    generalize jup (fset s (10 + p) (s 1 (4 + k) 1) (fun j => s 16 (4 + k) j)) 15 0 p 1 = U at *
    have f253 : ∀ o5 o6, je 253 63 [some (.inr (11, 0)), some (.inl v1), some (.inl v2), some (.inl 1), some (.inl (k : Int)), o5, o6] [] U = some (some (.inl 1), _) := fun o5 o6 => by
      rw [be_253_63, em, Int.toNat_natCast, if_pos (by omega), if_neg (by decide), if_pos (by omega)]
      exact q253
    refine ⟨1, U, _, ?_, ?_, hG⟩
    · rw [bq_22]
      rcases c12 with c | c
      · repeat (first | rw [jbI_s] | rw [jbV_s] | rw [bI_t (by omega)] | rw [bI_f (by omega)] | rw [if_pos (by omega)] | rw [if_neg (by omega)] | rw [sq_38] | rw [sq_41b] | rw [be_22_46] | rw [ec] | rw [q56])
      · repeat (first | rw [jbI_s] | rw [jbV_s] | rw [bI_t (by omega)] | rw [bI_f (by omega)] | rw [if_pos (by omega)] | rw [if_neg (by omega)] | rw [sq_38] | rw [sq_41b] | rw [be_22_46] | rw [ec] | rw [q56])
    · rw [bq_253]
      rcases c12 with c | c
      · repeat (first | rw [jbI_s] | rw [jbV_s] | rw [bI_t (by omega)] | rw [bI_f (by omega)] | rw [if_pos (by omega)] | rw [if_neg (by omega)] | rw [sq_200] | rw [f253])
      · repeat (first | rw [jbI_s] | rw [jbV_s] | rw [bI_t (by omega)] | rw [bI_f (by omega)] | rw [if_pos (by omega)] | rw [if_neg (by omega)] | rw [sq_200] | rw [f253])
/-- what the invariant says of a place of a rack -/
theorem inv_rack {s : jM} (hI : Inv s) (p : Nat) (hp : p < 12) : (s 15 0 p = -2 ∧ s 32 0 p = -1) ∨ ((s 15 0 p = 0 ∧ s 32 0 p = 0 ∧ s 1 (10 + p) 1 = s 33 0 p ∨ s 15 0 p = 1 ∧ s 32 0 p = 1 ∧ s 1 (10 + p) 1 = 1) ∧ FW (s 1 (10 + p) 1) (s 16 (10 + p)) ∧ ∀ j, j < 21 → s 16 (10 + p) j = s 34 0 (21 * p + j)) := by
  have := hI.2.1 p hp
  rwa [Nat.zero_add] at this
theorem sq_23 (s : jM) (v1 v2 : Int) (p : Nat) (h1 : 0 ≤ v1 ∧ v1 < 3) (h2 : 0 ≤ v2 ∧ v2 < 4) (hp : 4 * v1 + v2 = (p : Int)) : jq 23 [.inr (10, 0), .inl v1, .inl v2] s = some (some (.inl (s 15 0 p)), s) := by
  have ec : jw (jw (v1 * 4) + v2) = (p : Int) := by rw [jwi (x := v1 * 4) (by omega) (by omega), jwi (by omega) (by omega)]; omega
  rw [bq_23, ec, Int.toNat_natCast]
  by_cases c : s 15 0 p = -2
  · repeat (first | rw [jbI_s] | rw [jbV_s] | rw [bI_t (by omega)] | rw [bI_f (by omega)] | rw [if_pos (by omega)] | rw [if_neg (by omega)] | rw [sq_38] | rw [c])
  · repeat (first | rw [jbI_s] | rw [jbV_s] | rw [bI_t (by omega)] | rw [bI_f (by omega)] | rw [if_pos (by omega)] | rw [if_neg (by omega)] | rw [sq_38])
theorem ap_23 (s : jM) (hI : Inv s) (v1 v2 : Int) : Go s 23 254 [.inl v1, .inl v2] := by
  by_cases h1 : 0 ≤ v1 ∧ v1 < 3
  rotate_left
  · exact go_no (-1) hI (by rw [bq_23]; repeat (first | rw [jbI_s] | rw [jbV_s] | rw [bI_t (by omega)] | rw [bI_f (by omega)] | rw [if_pos (by omega)] | rw [if_neg (by omega)] | rw [sq_38])) (by rw [bq_254]; repeat (first | rw [jbI_s] | rw [jbV_s] | rw [bI_t (by omega)] | rw [bI_f (by omega)] | rw [if_pos (by omega)] | rw [if_neg (by omega)] | rw [sq_200]))
  by_cases h2 : 0 ≤ v2 ∧ v2 < 4
  rotate_left
  · exact go_no (-13) hI (by rw [bq_23]; repeat (first | rw [jbI_s] | rw [jbV_s] | rw [bI_t (by omega)] | rw [bI_f (by omega)] | rw [if_pos (by omega)] | rw [if_neg (by omega)] | rw [sq_38])) (by rw [bq_254]; repeat (first | rw [jbI_s] | rw [jbV_s] | rw [bI_t (by omega)] | rw [bI_f (by omega)] | rw [if_pos (by omega)] | rw [if_neg (by omega)] | rw [sq_200]))
  obtain ⟨p, hp⟩ := nat_of (4 * v1 + v2) (by omega)
  have em : jw (jw (4 * v1) + v2) = (p : Int) := by rw [jwi (x := 4 * v1) (by omega) (by omega), jwi (by omega) (by omega)]; omega
  refine go_no (s 15 0 p) hI (sq_23 s v1 v2 p h1 h2 hp) ?_
  rw [bq_254, em, Int.toNat_natCast]
  rcases inv_rack hI p (by omega) with ⟨a, b⟩ | ⟨⟨a, b, -⟩ | ⟨a, b, -⟩, -⟩
  · repeat (first | rw [jbI_s] | rw [jbV_s] | rw [bI_t (by omega)] | rw [bI_f (by omega)] | rw [if_pos (by omega)] | rw [if_neg (by omega)] | rw [sq_200] | rw [a] | rw [b])
  · repeat (first | rw [jbI_s] | rw [jbV_s] | rw [bI_t (by omega)] | rw [bI_f (by omega)] | rw [if_pos (by omega)] | rw [if_neg (by omega)] | rw [sq_200] | rw [a] | rw [b])
  · repeat (first | rw [jbI_s] | rw [jbV_s] | rw [bI_t (by omega)] | rw [bI_f (by omega)] | rw [if_pos (by omega)] | rw [if_neg (by omega)] | rw [sq_200] | rw [a] | rw [b])
theorem ap_24 (s : jM) (hI : Inv s) (v1 v2 v3 : Int) : Go s 24 255 [.inl v1, .inl v2, .inl v3] := by
  by_cases h1 : 0 ≤ v1 ∧ v1 < 3
  rotate_left
  · exact go_no (-1) hI (by rw [bq_24, bq_23]; repeat (first | rw [jbI_s] | rw [jbV_s] | rw [bI_t (by omega)] | rw [bI_f (by omega)] | rw [if_pos (by omega)] | rw [if_neg (by omega)] | rw [sq_38])) (by rw [bq_255]; repeat (first | rw [jbI_s] | rw [jbV_s] | rw [bI_t (by omega)] | rw [bI_f (by omega)] | rw [if_pos (by omega)] | rw [if_neg (by omega)] | rw [sq_200]))
  by_cases h2 : 0 ≤ v2 ∧ v2 < 4
  rotate_left
  · exact go_no (-13) hI (by rw [bq_24, bq_23]; repeat (first | rw [jbI_s] | rw [jbV_s] | rw [bI_t (by omega)] | rw [bI_f (by omega)] | rw [if_pos (by omega)] | rw [if_neg (by omega)] | rw [sq_38])) (by rw [bq_255]; repeat (first | rw [jbI_s] | rw [jbV_s] | rw [bI_t (by omega)] | rw [bI_f (by omega)] | rw [if_pos (by omega)] | rw [if_neg (by omega)] | rw [sq_200]))
  obtain ⟨p, hp⟩ := nat_of (4 * v1 + v2) (by omega)
  have ec : jw (jw (v1 * 4) + v2) = (p : Int) := by rw [jwi (x := v1 * 4) (by omega) (by omega), jwi (by omega) (by omega)]; omega
  have em : jw (jw (4 * v1) + v2) = (p : Int) := by rw [jwi (x := 4 * v1) (by omega) (by omega), jwi (by omega) (by omega)]; omega
  have q23 := sq_23 s v1 v2 p h1 h2 hp
  have b24 := bq_24 v1 v2 v3 s
  have b255 := fun s => bq_255 v1 v2 v3 s
  rw [q23, jbI_s] at b24
  rw [ec] at b24
  simp only [em, Int.toNat_natCast] at b255
  obtain ⟨n, nx, hS⟩ := hI.2.2.2.2.2.1
  rcases inv_rack hI p (by omega) with ⟨a, b⟩ | ⟨⟨a, b, c⟩ | ⟨a, b, c⟩, e, f⟩
  · rw [a] at b24
    refine go_no (-2) hI ?_ ?_
    · rw [b24]; repeat (first | rw [jbI_s] | rw [jbV_s] | rw [bI_t (by omega)] | rw [bI_f (by omega)] | rw [if_pos (by omega)] | rw [if_neg (by omega)] | rw [sq_38])
    · rw [b255]; repeat (first | rw [jbI_s] | rw [jbV_s] | rw [bI_t (by omega)] | rw [bI_f (by omega)] | rw [if_pos (by omega)] | rw [if_neg (by omega)] | rw [sq_200] | rw [b])
  · rw [a] at b24
    by_cases h3 : 0 ≤ v3 ∧ v3 < 4
    rotate_left
    · refine go_no (-1) hI ?_ ?_
      · rw [b24]; repeat (first | rw [jbI_s] | rw [jbV_s] | rw [bI_t (by omega)] | rw [bI_f (by omega)] | rw [if_pos (by omega)] | rw [if_neg (by omega)] | rw [sq_41a])
      · rw [b255]; repeat (first | rw [jbI_s] | rw [jbV_s] | rw [bI_t (by omega)] | rw [bI_f (by omega)] | rw [if_pos (by omega)] | rw [if_neg (by omega)] | rw [sq_200] | rw [b])
    obtain ⟨r, rfl⟩ := nat_of v3 h3.1
    obtain ⟨d, hd0⟩ := nat_of (s 33 0 p) (by rw [← c]; exact e.1)
    rw [hd0] at c
    rw [c] at e
    have hd : d ≤ 5 := by have := e.2.1; omega
    have em5 := mnN_le d hd
    have q51 := sq_51r hI r (10 + p) (by omega) (by omega)
    have qh := ref_hold 0 r r (10 + p) (by omega) hS
    have hF : FW (s 1 (10 + p) 1) (s 16 (10 + p)) := by rw [c]; exact e
    have hk : hK s 0 r r (10 + p) := Or.inl ⟨rfl, by omega, rfl⟩
    have ht := hT_lay (n := n) (r := r) (g := fun j => s 34 0 (21 * p + j)) (by omega) c (fun j hj => by
      by_cases z : j < mnN d
      · rw [if_pos z]; exact f j hj
      · rw [if_neg z]; exact e.2.2.2 j (by rw [Int.toNat_natCast]; omega) hj)
    have qs := ref_settle hI hS hk hF ht
    have ql := sq_215 (mset (mhold (cchg s 0 r r (10 + p)) n) d (fun j => s 34 0 (21 * p + j))) r d (by omega) hd (mset_d _ _ _)
    have u32 : cchg s 0 r r (10 + p) 32 0 p = 0 := by rw [cc_o _ _ _ _ _ (by omega) _ _ _ (by omega)]; exact b
    have w32 : mhold (cchg s 0 r r (10 + p)) n 32 0 p = 0 := by rw [mc_o _ _ _ _ _ _ (by omega) _ _ _ (by omega) (by omega) (by omega) (by omega)]; exact b
    have w33 : mhold (cchg s 0 r r (10 + p)) n 33 0 p = (d : Int) := by rw [mc_o _ _ _ _ _ _ (by omega) _ _ _ (by omega) (by omega) (by omega) (by omega)]; exact hd0
    have w34 : ∀ j, mhold (cchg s 0 r r (10 + p)) n 34 0 j = s 34 0 j := fun j => by rw [mc_o _ _ _ _ _ _ (by omega) _ _ _ (by omega) (by omega) (by omega) (by omega)]
    have z32 : msettle (mlay (mset (mhold (cchg s 0 r r (10 + p)) n) d (fun j => s 34 0 (21 * p + j))) r d) n 32 0 p = 0 := by
      rw [msettle_o _ _ _ _ _ (by omega) (by omega) (by omega) (by omega), mlay_o _ _ _ _ _ _ (by omega) (by omega), mset_o _ _ _ _ _ _ (by omega) (by omega), w32]
    refine ⟨0, cchg s 0 r r (10 + p), _, ?_, ?_, chg _ _ n nx 0 r r (10 + p) hI hS hk (by omega) hF ht⟩
    · rw [b24]
      repeat (first | rw [jbI_s] | rw [jbV_s] | rw [bI_t (by omega)] | rw [bI_f (by omega)] | rw [if_pos (by omega)] | rw [if_neg (by omega)] | rw [sq_41a] | rw [Nat.mul_zero] | rw [Nat.zero_add] | rw [Int.toNat_natCast] | rw [q51])
    · rw [b255]
      generalize mhold (cchg s 0 r r (10 + p)) n = W at *
      have hloop : je 255 96 [some (.inr (11, 0)), some (.inl v1), some (.inl v2), some (.inl (r : Int)), some (.inl (p : Int)), some (.inl 0)] [] (mset W d (fun _ => 0)) = je 255 96 [some (.inr (11, 0)), some (.inl v1), some (.inl v2), some (.inl (r : Int)), some (.inl (p : Int)), some (.inl 21)] [] (mset W d (fun j => s 34 0 (21 * p + j))) := by
        have := loopI (P := fun m => je 255 96 [some (.inr (11, 0)), some (.inl v1), some (.inl v2), some (.inl (r : Int)), some (.inl (p : Int)), some (.inl (m : Int))] [] (mset W d (fun j => if j < m then s 34 0 (21 * p + j) else 0))) (n := 21) (r := je 255 96 [some (.inr (11, 0)), some (.inl v1), some (.inl v2), some (.inl (r : Int)), some (.inl (p : Int)), some (.inl ((21 : Nat) : Int))] [] (mset W d (fun j => if j < 21 then s 34 0 (21 * p + j) else 0))) (fun m hm => ?_) rfl
        · refine Eq.trans ?_ (Eq.trans this ?_)
          · rfl
          · congr 1
            funext k i j
            by_cases z : k = 47 ∧ i = 0 ∧ j < 21
            · rw [z.1, z.2.1, mset_n _ _ _ _ z.2.2, mset_n _ _ _ _ z.2.2, if_pos z.2.2]
            · by_cases z2 : k = 11 ∧ i = 0 ∧ j = 21
              · rw [z2.1, z2.2.1, z2.2.2, mset_d, mset_d]
              · rw [mset_o _ _ _ _ _ _ z2 z, mset_o _ _ _ _ _ _ z2 z]
        · show je 255 96 _ [] _ = _
          rw [be_255_96, if_pos (by omega), jwi (x := 21 * (p : Int)) (by omega) (by omega), jwi (x := 21 * (p : Int) + m) (by omega) (by omega), if_pos (by omega), if_pos (by omega), show (21 * (p : Int) + m).toNat = 21 * p + m by omega, Int.toNat_natCast, jwn (x := (m : Int) + 1) (n := m + 1) (by omega) (by omega), mset_o _ _ _ _ _ _ (by omega) (by omega), w34, mset_up _ _ _ _ (by omega)]
          congr 2
          funext j
          by_cases z : j = m
          · rw [z, if_pos rfl, if_pos (by omega)]
          · rw [if_neg z]
            by_cases z2 : j < m
            · rw [if_pos z2, if_pos (by omega)]
            · rw [if_neg z2, if_neg (by omega)]
      repeat (first | rw [jbI_s] | rw [jbV_s] | rw [bI_t (by omega)] | rw [bI_f (by omega)] | rw [if_pos (by omega)] | rw [if_neg (by omega)] | rw [sq_200] | rw [u32] | rw [qh] | rw [w32] | rw [w33] | rw [sq_214] | rw [hloop] | rw [be_255_96] | rw [ql] | rw [qs] | rw [Int.toNat_natCast] | rw [z32])
  · rw [a] at b24
    by_cases h3 : 0 ≤ v3 ∧ v3 < 6
    rotate_left
    · refine go_no (-1) hI ?_ ?_
      · rw [b24]; repeat (first | rw [jbI_s] | rw [jbV_s] | rw [bI_t (by omega)] | rw [bI_f (by omega)] | rw [if_pos (by omega)] | rw [if_neg (by omega)] | rw [sq_41b])
      · rw [b255]; repeat (first | rw [jbI_s] | rw [jbV_s] | rw [bI_t (by omega)] | rw [bI_f (by omega)] | rw [if_pos (by omega)] | rw [if_neg (by omega)] | rw [sq_200] | rw [b])
    obtain ⟨k, rfl⟩ := nat_of v3 h3.1
    rw [c] at e
    have q51 := sq_51l hI k (10 + p) (by omega) (by omega)
    have qh := ref_hold 1 k (4 + k) (10 + p) (by omega) hS
    have hF : FW (s 1 (10 + p) 1) (s 16 (10 + p)) := by rw [c]; exact e
    have hk : hK s 1 k (4 + k) (10 + p) := Or.inr ⟨rfl, by omega, rfl, c⟩
    have u32 : cchg s 1 k (4 + k) (10 + p) 32 0 p = 1 := by rw [cc_o _ _ _ _ _ (by omega) _ _ _ (by omega)]; exact b
    have hw : ∀ a b c, (29 ≤ a ∧ a < 38) → mhold (cchg s 1 k (4 + k) (10 + p)) n a b c = s a b c := fun a b c z => by rw [mc_o _ _ _ _ _ _ (by omega) _ _ _ (by omega) (by omega) (by omega) (by omega)]
    have w32 : mhold (cchg s 1 k (4 + k) (10 + p)) n 32 0 p = 1 := by rw [hw _ _ _ (by omega)]; exact b
    have ht : hT s (jfl (mhold (cchg s 1 k (4 + k) (10 + p)) n) 31 0 (3 * k) 3 (fun j => s 34 0 (21 * p + j))) n 1 k (4 + k) (10 + p) := by
      refine hT_mk (by omega) (fun q a b z => jfl_ne _ _ _ _ _ _ _ _ _ (by omega)) (fun r' hr' => ?_) (fun r' hr' j hj => ?_) (fun m hm j hj => ?_)
      · rw [jfl_ne _ _ _ _ _ _ _ _ _ (by omega), hw _ _ _ (by omega), if_neg (fun y => absurd y.1 (by decide))]
      · rw [jfl_ne _ _ _ _ _ _ _ _ _ (by omega), hw _ _ _ (by omega), if_neg (fun y => absurd y.1 (by decide))]
      · by_cases z : m = k
        · rw [if_pos (show (1 : Int) = 1 ∧ m = k from ⟨rfl, z⟩), z, jfl_in _ _ _ _ _ _ _ hj, f j (by omega)]
        · rw [if_neg (fun y => z y.2), jfl_ne _ _ _ _ _ _ _ _ _ (by omega), hw _ _ _ (by omega)]
    have qs := ref_settle hI hS hk hF ht
    have z32 : msettle (jfl (mhold (cchg s 1 k (4 + k) (10 + p)) n) 31 0 (3 * k) 3 (fun j => s 34 0 (21 * p + j))) n 32 0 p = 1 := by
      rw [msettle_o _ _ _ _ _ (by omega) (by omega) (by omega) (by omega), jfl_ne _ _ _ _ _ _ _ _ _ (by omega), w32]
    refine ⟨1, cchg s 1 k (4 + k) (10 + p), _, ?_, ?_, chg _ _ n nx 1 k (4 + k) (10 + p) hI hS hk (by omega) hF ht⟩
    · rw [b24]
      repeat (first | rw [jbI_s] | rw [jbV_s] | rw [bI_t (by omega)] | rw [bI_f (by omega)] | rw [if_pos (by omega)] | rw [if_neg (by omega)] | rw [sq_41b] | rw [Nat.mul_zero] | rw [Nat.zero_add] | rw [Int.toNat_natCast] | rw [q51])
    · rw [b255]
      have w34 : ∀ j, mhold (cchg s 1 k (4 + k) (10 + p)) n 34 0 j = s 34 0 j := fun j => hw _ _ _ (by omega)
      generalize mhold (cchg s 1 k (4 + k) (10 + p)) n = W at *
      have hloop : je 255 140 [some (.inr (11, 0)), some (.inl v1), some (.inl v2), some (.inl (k : Int)), some (.inl (p : Int)), some (.inl 0)] [] W = je 255 140 [some (.inr (11, 0)), some (.inl v1), some (.inl v2), some (.inl (k : Int)), some (.inl (p : Int)), some (.inl 3)] [] (jfl W 31 0 (3 * k) 3 (fun j => s 34 0 (21 * p + j))) := by
        have := loopI (P := fun m => je 255 140 [some (.inr (11, 0)), some (.inl v1), some (.inl v2), some (.inl (k : Int)), some (.inl (p : Int)), some (.inl (m : Int))] [] (jfl W 31 0 (3 * k) m (fun j => s 34 0 (21 * p + j)))) (n := 3) (r := je 255 140 [some (.inr (11, 0)), some (.inl v1), some (.inl v2), some (.inl (k : Int)), some (.inl (p : Int)), some (.inl ((3 : Nat) : Int))] [] (jfl W 31 0 (3 * k) 3 (fun j => s 34 0 (21 * p + j)))) (fun m hm => ?_) rfl
        · refine Eq.trans ?_ this
          show _ = je 255 140 _ [] (jfl W 31 0 (3 * k) 0 (fun j => s 34 0 (21 * p + j)))
          rw [jfl_0]
          rfl
        · show je 255 140 _ [] _ = _
          rw [be_255_140, if_pos (by omega), jwi (x := 21 * (p : Int)) (by omega) (by omega), jwi (x := 21 * (p : Int) + m) (by omega) (by omega), if_pos (by omega), jwi (x := 3 * (k : Int)) (by omega) (by omega), jwi (x := 3 * (k : Int) + m) (by omega) (by omega), if_pos (by omega), show (21 * (p : Int) + m).toNat = 21 * p + m by omega, show (3 * (k : Int) + m).toNat = 3 * k + m by omega, jwn (x := (m : Int) + 1) (n := m + 1) (by omega) (by omega), jfl_ne _ _ _ _ _ _ _ _ _ (by omega), w34, jfl_up _ _ _ _ _ _ _ rfl _ rfl]
      repeat (first | rw [jbI_s] | rw [jbV_s] | rw [bI_t (by omega)] | rw [bI_f (by omega)] | rw [if_pos (by omega)] | rw [if_neg (by omega)] | rw [sq_200] | rw [u32] | rw [qh] | rw [w32] | rw [hloop] | rw [be_255_140] | rw [qs] | rw [Int.toNat_natCast] | rw [z32])
