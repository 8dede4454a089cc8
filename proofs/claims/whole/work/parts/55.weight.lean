/-! WEIGHT -/
/-- powers of the roots, the form behind them with its sign turned -/
def wA (f R : Nat → Int) (d e : Nat) (b k : Nat) : Int := if k = e then (101 - f b) % 101 else if R k = 101 then (if b = d then 1 else 0) else rd (R k) b
theorem wA_g (f R : Nat → Int) (d e b k : Nat) : g101 (wA f R d e b k) := by
  unfold wA
  split
  · exact em101 _
  · split
    · split
      · exact ⟨by decide, by decide⟩
      · exact ⟨by decide, by decide⟩
    · exact rd_g _ _
theorem rtk_ok {f : Nat → Int} {d e : Nat} {q : Nat → Int} (h : DR f d e q) : ∀ k, k < nrt q e → rtk q e k = 101 ∨ ∃ m : Nat, rtk q e k = (m : Int) ∧ m < 101 := fun k hk => by
  unfold rtk
  by_cases c : k < cntN (evq q e) 0 101
  · rw [if_pos c]
    obtain ⟨m, h1, h2, -⟩ := kroot_ok (evq q e) 101 k c
    exact Or.inr ⟨m, h1, h2⟩
  · rw [if_neg c]; exact Or.inl rfl
/-- where there are as many roots as deep, the form is made of their powers -/
theorem weight_fr {f : Nat → Int} {d e : Nat} {q : Nat → Int} (h : DR f d e q) (hn : nrt q e = e) (hed : e ≤ d) : Fr (wA f (rtk q e) d e) (d + 1) (e + 1) e := by
  obtain ⟨hq, hne⟩ := DR_q h
  obtain ⟨r1, r2, r3⟩ := root_le hq hne
  obtain ⟨-, -, p, -, -, hS⟩ := h
  have hrec : ∀ i, i < d + 1 - e → (101 : Int) ∣ dot q (fun j => f (i + j)) (e + 1) := fun i hi => by
    have h1 := hS.1 i hi
    have h2 := dot_rev e (fun j => f (i + j)) q
    have h3 : dot (dA f e i) (fun j => q (e - j)) (e + 1) = dot (fun p => (fun j => f (i + j)) (e - p)) (fun p => q (e - p)) (e + 1) := rfl
    rw [h3, h2, dot_comm] at h1
    exact h1
  have hroot : ∀ k, k < cntN (evq q e) 0 101 → (101 : Int) ∣ dot q (rd (kroot (evq q e) 101 k)) (e + 1) := fun k hk => by
    obtain ⟨m, h1, h2, h3, -⟩ := kroot_ok (evq q e) 101 k hk
    rw [h1]
    exact evq_0.mp h3
  have hfin : ∀ k, k < cntN (evq q e) 0 101 → ∃ m : Nat, kroot (evq q e) 101 k = (m : Int) ∧ m < 101 := fun k hk => by
    obtain ⟨m, h1, h2, -⟩ := kroot_ok (evq q e) 101 k hk
    exact ⟨m, h1, h2⟩
  obtain ⟨w, hw⟩ := vand (cntN (evq q e) 0 101) (kroot (evq q e) 101) f (fun k hk k' hk' => kroot_ne _ (Nat.le_refl _) hk hk')
  have hne' : ∀ x : Int, (∃ i, q i = x ∧ i < e + 1) → x ≠ 0 → ¬ (101 : Int) ∣ x := fun x ⟨i, hi, hi2⟩ hx hd => by
    rw [← hi] at hx hd
    exact hx (dv0 (hq i hi2) hd)
  have hF : ∀ i, (101 : Int) ∣ dot q (fun j => dot w (fun k => rd (kroot (evq q e) 101 k) (i + j)) (cntN (evq q e) 0 101)) (e + 1) := fun i => by
    rw [dot_swap q w (fun k j => rd (kroot (evq q e) 101 k) (i + j)) (cntN (evq q e) 0 101) (e + 1)]
    exact dot_0 _ (fun k hk => dvm2 (root_rec (hroot k hk) i))
  unfold nrt at hn
  by_cases c0 : q e = 0
  · have hcnt : cntN (evq q e) 0 101 + 1 = e := by rw [if_pos c0] at hn; exact hn
    have hq1 := r3 c0 hcnt
    have hqm : ¬ (101 : Int) ∣ q (cntN (evq q e) 0 101) := by
      rw [show cntN (evq q e) 0 101 = e - 1 by omega]
      exact hne' _ ⟨e - 1, rfl, by omega⟩ hq1
    have hRk : ∀ k, k < cntN (evq q e) 0 101 → rtk q e k = kroot (evq q e) 101 k := fun k hk => by unfold rtk; rw [if_pos hk]
    have hRm : rtk q e (cntN (evq q e) 0 101) = 101 := by unfold rtk; rw [if_neg (Nat.lt_irrefl _)]
    generalize kroot (evq q e) 101 = t at *
    generalize cntN (evq q e) 0 101 = m at *
    have hsame := rec_same (q := q) (f := f) (F := fun i => dot w (fun k => rd (t k) i) m) (m := m) (n := d) hqm (fun i hi => by
      have h1 := hrec i (by omega)
      rw [← hcnt, dot, hcnt, c0, Int.zero_mul, Int.add_zero] at h1
      rw [hcnt]; exact h1) (fun i hi => by
      have h1 := hF i
      rw [← hcnt, dot, hcnt, c0, Int.zero_mul, Int.add_zero] at h1
      rw [hcnt]; exact h1) hw
    have hx1 : ∀ b, dot (wA f (rtk q e) d e b) (fun k => if k = e then 1 else if k = m then f d - dot w (fun k => rd (t k) d) m else w k) (e + 1) = dot w (fun k => rd (t k) b) m + (if b = d then 1 else 0) * (f d - dot w (fun k => rd (t k) d) m) + (101 - f b) % 101 := fun b => by
      have e1 : dot (wA f (rtk q e) d e b) (fun k => if k = e then 1 else if k = m then f d - dot w (fun k => rd (t k) d) m else w k) m = dot w (fun k => rd (t k) b) m := by
        rw [dot_comm w (fun k => rd (t k) b)]
        refine dot_c m (fun k hk => ?_) (fun k hk => by rw [if_neg (by omega), if_neg (by omega)])
        unfold wA
        obtain ⟨x, hx, hx2⟩ := hfin k hk
        rw [if_neg (by omega), hRk k hk, if_neg (by omega)]
      have e2 : wA f (rtk q e) d e b m = if b = d then 1 else 0 := by
        unfold wA
        rw [if_neg (by omega), if_pos hRm]
      have e3 : wA f (rtk q e) d e b e = (101 - f b) % 101 := by unfold wA; rw [if_pos rfl]
      rw [dot, e3, if_pos rfl, Int.mul_one]
      have e4 : dot (wA f (rtk q e) d e b) (fun k => if k = e then 1 else if k = m then f d - dot w (fun k => rd (t k) d) m else w k) e = dot (wA f (rtk q e) d e b) (fun k => if k = e then 1 else if k = m then f d - dot w (fun k => rd (t k) d) m else w k) (m + 1) := by rw [hcnt]
      rw [e4, dot, e1, e2, if_neg (show ¬ m = e by omega), if_pos rfl]
    refine ⟨fun k => if k = e then 1 else if k = m then f d - dot w (fun k => rd (t k) d) m else w k, fun b hb => ?_, by show (101 : Int) ∣ (if e = e then 1 else _) - 1; rw [if_pos rfl]; exact ⟨0, rfl⟩, fun j h1 h2 => absurd h2 (by omega)⟩
    rw [hx1]
    by_cases c : b = d
    · rw [if_pos c, c, Int.one_mul]
      omega
    · have := hsame b (by omega)
      have this : (101 : Int) ∣ f b - dot w (fun k => rd (t k) b) m := this
      rw [if_neg c, Int.zero_mul]
      omega
  · have hcnt : cntN (evq q e) 0 101 = e := by rw [if_neg c0, Nat.add_zero] at hn; exact hn
    have hqm : ¬ (101 : Int) ∣ q e := hne' _ ⟨e, rfl, by omega⟩ c0
    have hRk : ∀ k, k < e → rtk q e k = kroot (evq q e) 101 k := fun k hk => by unfold rtk; rw [if_pos (by rw [hcnt]; exact hk)]
    rw [hcnt] at hw hfin hF
    generalize kroot (evq q e) 101 = t at *
    have hsame := rec_same (q := q) (f := f) (F := fun i => dot w (fun k => rd (t k) i) e) (m := e) (n := d + 1) hqm (fun i hi => hrec i (by omega)) (fun i hi => hF i) hw
    refine ⟨fun k => if k = e then 1 else w k, fun b hb => ?_, by show (101 : Int) ∣ (if e = e then 1 else _) - 1; rw [if_pos rfl]; exact ⟨0, rfl⟩, fun j h1 h2 => absurd h2 (by omega)⟩
    have e1 : dot (wA f (rtk q e) d e b) (fun k => if k = e then 1 else w k) e = dot w (fun k => rd (t k) b) e := by
      rw [dot_comm w (fun k => rd (t k) b)]
      refine dot_c e (fun k hk => ?_) (fun k hk => by rw [if_neg (by omega)])
      unfold wA
      obtain ⟨x, hx, hx2⟩ := hfin k hk
      rw [if_neg (by omega), hRk k hk, if_neg (by omega)]
    have e3 : wA f (rtk q e) d e b e = (101 - f b) % 101 := by unfold wA; rw [if_pos rfl]
    have hs : (101 : Int) ∣ f b - dot w (fun k => rd (t k) b) e := hsame b (by omega)
    rw [dot, e1, e3, if_pos rfl, Int.mul_one]
    omega
