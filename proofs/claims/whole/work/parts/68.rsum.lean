/-! THE TEXT: the sum of a form act in the reference -/
theorem XM_r (s : jM) : XM s s := fun _ _ _ _ => rfl
theorem XM_t {s t u : jM} (h : XM s t) (h2 : XM t u) : XM s u := fun k i j z => (h2 k i j z).trans (h k i j z)
theorem TQ_M {s t : jM} (h : TQ s t) : XM s t := fun k i j z => h k i j (by omega)
section
variable {T : Nat → Int} {n : Nat}
/-- the term at a -/
def tmr (T : Nat → Int) (n a : Nat) (sg : Int) : Int × Int × Int × Int × Int := (sg, (pn T n a).2, (ptx T n a).2, (pty T n a).2, (ptz T n a).2)
theorem tmr_ok (hT : okT T n) (a : Nat) (ha : a ≤ n) (sg : Int) (hs : sg = 1 ∨ sg = -1) : tok (tmr T n a sg) := by
  obtain ⟨p1, p2, p3, p4, p5, p6, p7⟩ := pt_ok hT a ha
  obtain ⟨n1, n2, n3, n4, n5⟩ := pn_ok hT a ha
  exact ⟨hs, ⟨n4, n5⟩, p5, p6, p7⟩
theorem tadd_g {g : Nat → Int} (hg : ∀ j, g101 (g j)) (x : Int × Int × Int × Int × Int) : ∀ j, g101 (tadd g x j) := fun j => by
  unfold tadd
  split
  · exact em101 _
  · exact hg j
theorem sj_280s (hT : okT T n) {s : jM} {a : Nat} {sg : Int} {g : Nat → Int} {D : Int} (v1 : Int) (o7 : Option jV) (ha : a ≤ n) (hs : sg = 1 ∨ sg = -1) (h : RP T n s (ptp T n a)) (hp : (ptp T n a).2 = 0) (hm : RTm T n s a) (h47 : ∀ j, j < 21 → s 47 0 j = g j) (hg : ∀ j, g101 (g j)) (hD : tdeg (tmr T n a sg) = D) (hD5 : D ≤ 5) : ∃ t o8, je 280 69 [some (.inr (11, 0)), some (.inl v1), some (.inl (n : Int)), some (.inl D), some (.inl 1), some (.inl (if sg = 1 then 0 else 1)), some (.inl D), o7] [] s = je 280 13 [some (.inr (11, 0)), some (.inl v1), some (.inl (n : Int)), some (.inl D), some (.inl (if nx T n (ptp T n a).1 = 43 ∨ nx T n (ptp T n a).1 = 45 then 1 else 0)), some (.inl (if nx T n (ptp T n a).1 = 45 then 1 else 0)), some (.inl D), o8] [] t ∧ RP T n t (if nx T n (ptp T n a).1 = 43 ∨ nx T n (ptp T n a).1 = 45 then (ptp T n a).1 + 1 else (ptp T n a).1, 0) ∧ (∀ j, j < 21 → t 47 0 j = tadd g (tmr T n a sg) j) ∧ XM s t ∧ t 11 0 21 = s 11 0 21 := by
  obtain ⟨m1, m2, m3, m4⟩ := hm
  obtain ⟨-, ⟨k1, k2⟩, ⟨k3, k4⟩, ⟨k5, k6⟩, k7, k8⟩ := tmr_ok hT a ha sg hs
  have k1 : 0 ≤ (pn T n a).2 := k1
  have k2 : (pn T n a).2 ≤ 999 := k2
  have k3 : 0 ≤ (ptx T n a).2 := k3
  have k4 : (ptx T n a).2 ≤ 5 := k4
  have k5 : 0 ≤ (pty T n a).2 := k5
  have k6 : (pty T n a).2 ≤ 5 := k6
  have k7 : 0 ≤ (ptz T n a).2 := k7
  have k8 : (ptz T n a).2 ≤ 5 := k8
  have hD : (ptx T n a).2 + (pty T n a).2 + (ptz T n a).2 = D := hD
  have hn := hT.1
  have hpz := pz0 hp
  have hP : (ptp T n a).1 ≤ n := h.2.2.2.2.2
  have h36 : s 11 0 36 = ((ptp T n a).1 : Int) := h.2.2.1
  -- the place of the monomial
  have q204 := sq_204 D.toNat (ptx T n a).2.toNat (pty T n a).2.toNat (by omega) (by omega) s
  have e1 : D.toNat - (ptx T n a).2.toNat - (pty T n a).2.toNat = (ptz T n a).2.toNat := by omega
  rw [e1, show ((D.toNat : Nat) : Int) = D by omega, show (((ptx T n a).2.toNat : Nat) : Int) = (ptx T n a).2 by omega, show (((pty T n a).2.toNat : Nat) : Int) = (pty T n a).2 by omega] at q204
  have hpl := (pl_lt (pty T n a).2.toNat (by omega) (ptz T n a).2.toNat (by omega) (by omega)).1
  have htm : ∀ j, tadd g (tmr T n a sg) j = if j = pl (pty T n a).2.toNat (ptz T n a).2.toNat then (g j + sg * (pn T n a).2) % 101 else g j := fun j => rfl
  generalize pl (pty T n a).2.toNat (ptz T n a).2.toNat = q at *
  have gq := hg q
  -- behind the term
  have fin : ∀ (u : jM) (w : Int), (∀ j, j < 21 → u 47 0 j = tadd g (tmr T n a sg) j) → RP T n u (ptp T n a) → XM s u → u 11 0 21 = s 11 0 21 → ∃ t o8, (if (u 11 0 36) < (n : Int) then jbI (jq 268 [.inr (11, 0)] u) fun x3 s3 => if x3 = 43 then je 280 144 [some (.inr (11, 0)), some (.inl v1), some (.inl (n : Int)), some (.inl D), some (.inl 1), some (.inl w), some (.inl D), some (.inl (q : Int))] [] s3 else jbI (jq 268 [.inr (11, 0)] s3) fun x4 s4 => if x4 = 45 then je 280 144 [some (.inr (11, 0)), some (.inl v1), some (.inl (n : Int)), some (.inl D), some (.inl 1), some (.inl w), some (.inl D), some (.inl (q : Int))] [] s4 else je 280 148 [some (.inr (11, 0)), some (.inl v1), some (.inl (n : Int)), some (.inl D), some (.inl 1), some (.inl w), some (.inl D), some (.inl (q : Int))] [] s4 else je 280 148 [some (.inr (11, 0)), some (.inl v1), some (.inl (n : Int)), some (.inl D), some (.inl 1), some (.inl w), some (.inl D), some (.inl (q : Int))] [] u) = je 280 13 [some (.inr (11, 0)), some (.inl v1), some (.inl (n : Int)), some (.inl D), some (.inl (if nx T n (ptp T n a).1 = 43 ∨ nx T n (ptp T n a).1 = 45 then 1 else 0)), some (.inl (if nx T n (ptp T n a).1 = 45 then 1 else 0)), some (.inl D), o8] [] t ∧ RP T n t (if nx T n (ptp T n a).1 = 43 ∨ nx T n (ptp T n a).1 = 45 then (ptp T n a).1 + 1 else (ptp T n a).1, 0) ∧ (∀ j, j < 21 → t 47 0 j = tadd g (tmr T n a sg) j) ∧ XM s t ∧ t 11 0 21 = s 11 0 21 := fun u w hu1 hu2 hu3 hu4 => by
    have u36 : u 11 0 36 = ((ptp T n a).1 : Int) := hu2.2.2.1
    have q268 := sq_268 hT hu2
    have hu2' : RP T n u ((ptp T n a).1, 0) := by rw [← hpz]; exact hu2
    have hx := nx_ok hT (ptp T n a).1
    generalize ptp T n a = p at *
    have stop : ∀ (hno : ¬ (nx T n p.1 = 43 ∨ nx T n p.1 = 45)), ∃ t o8, je 280 148 [some (.inr (11, 0)), some (.inl v1), some (.inl (n : Int)), some (.inl D), some (.inl 1), some (.inl w), some (.inl D), some (.inl (q : Int))] [] u = je 280 13 [some (.inr (11, 0)), some (.inl v1), some (.inl (n : Int)), some (.inl D), some (.inl (if nx T n p.1 = 43 ∨ nx T n p.1 = 45 then 1 else 0)), some (.inl (if nx T n p.1 = 45 then 1 else 0)), some (.inl D), o8] [] t ∧ RP T n t (if nx T n p.1 = 43 ∨ nx T n p.1 = 45 then p.1 + 1 else p.1, 0) ∧ (∀ j, j < 21 → t 47 0 j = tadd g (tmr T n a sg) j) ∧ XM s t ∧ t 11 0 21 = s 11 0 21 := fun hno => by
      have h45 : ¬ nx T n p.1 = 45 := fun z => hno (Or.inr z)
      rw [be_280_148, q268, jbI_s, if_neg h45, u36, Int.add_zero, jwn (x := (p.1 : Int)) (n := p.1) rfl (by omega), if_neg hno, if_neg h45, if_neg hno]
      exact ⟨_, _, rfl, RP_u hu2' p.1 hP, fun j hj => by rw [jup_n _ _ _ _ _ _ _ _ (by omega)]; exact hu1 j hj, XM_t hu3 (fun k i j z => jup_n _ _ _ _ _ _ _ _ (by omega)), by rw [jup_n _ _ _ _ _ _ _ _ (by omega)]; exact hu4⟩
    have go : ∀ (hyes : nx T n p.1 = 43 ∨ nx T n p.1 = 45), ∃ t o8, je 280 144 [some (.inr (11, 0)), some (.inl v1), some (.inl (n : Int)), some (.inl D), some (.inl 1), some (.inl w), some (.inl D), some (.inl (q : Int))] [] u = je 280 13 [some (.inr (11, 0)), some (.inl v1), some (.inl (n : Int)), some (.inl D), some (.inl (if nx T n p.1 = 43 ∨ nx T n p.1 = 45 then 1 else 0)), some (.inl (if nx T n p.1 = 45 then 1 else 0)), some (.inl D), o8] [] t ∧ RP T n t (if nx T n p.1 = 43 ∨ nx T n p.1 = 45 then p.1 + 1 else p.1, 0) ∧ (∀ j, j < 21 → t 47 0 j = tadd g (tmr T n a sg) j) ∧ XM s t ∧ t 11 0 21 = s 11 0 21 := fun hyes => by
      have hlt := hx.2.2.2 (by omega)
      have rest : RP T n (jup u 11 0 36 ((p.1 + 1 : Nat) : Int)) (p.1 + 1, 0) ∧ (∀ j, j < 21 → jup u 11 0 36 ((p.1 + 1 : Nat) : Int) 47 0 j = tadd g (tmr T n a sg) j) ∧ XM s (jup u 11 0 36 ((p.1 + 1 : Nat) : Int)) ∧ jup u 11 0 36 ((p.1 + 1 : Nat) : Int) 11 0 21 = s 11 0 21 := ⟨RP_u hu2' (p.1 + 1) hlt, fun j hj => by rw [jup_n _ _ _ _ _ _ _ _ (by omega)]; exact hu1 j hj, XM_t hu3 (fun k i j z => jup_n _ _ _ _ _ _ _ _ (by omega)), by rw [jup_n _ _ _ _ _ _ _ _ (by omega)]; exact hu4⟩
      rw [be_280_144, q268, jbI_s, u36, jwn (x := (p.1 : Int) + 1) (n := p.1 + 1) (by omega) (by omega), if_pos hyes, if_pos hyes]
      by_cases c45 : nx T n p.1 = 45
      · rw [if_pos c45, if_pos c45]
        exact ⟨_, _, rfl, rest⟩
      · rw [if_neg c45, if_neg c45]
        exact ⟨_, _, rfl, rest⟩
    rw [u36]
    by_cases c : p.1 < n
    · rw [if_pos (by omega), q268, jbI_s]
      by_cases c43 : nx T n p.1 = 43
      · rw [if_pos c43]; exact go (Or.inl c43)
      · rw [if_neg c43, q268, jbI_s]
        by_cases c45 : nx T n p.1 = 45
        · rw [if_pos c45]; exact go (Or.inr c45)
        · rw [if_neg c45]; exact stop (fun z => by rcases z with z | z; exact c43 z; exact c45 z)
    · have en : nx T n p.1 = -1 := by unfold nx; rw [if_neg c]
      rw [if_neg (by omega)]
      exact stop (by omega)
  have up : ∀ x : Int, x = (g q + sg * (pn T n a).2) % 101 → ∀ j, j < 21 → jup s 47 0 q x 47 0 j = tadd g (tmr T n a sg) j := fun x hx j hj => by
    rw [htm]
    by_cases e : j = q
    · rw [if_pos e, e, jup_e, hx]
    · rw [if_neg e, jup_n _ _ _ _ _ _ _ _ (by omega), h47 j hj]
  have fu := fun (x : Int) (hx : x = (g q + sg * (pn T n a).2) % 101) (w : Int) => fin (jup s 47 0 q x) w (up x hx) (RP_c h (fun k i j z => jup_n _ _ _ _ _ _ _ _ (by omega))) (fun k i j z => jup_n _ _ _ _ _ _ _ _ (by omega)) (jup_n _ _ _ _ _ _ _ _ (by omega))
  rw [be_280_69, m2, m3, q204, jbI_s, if_pos (by omega), Int.toNat_natCast, h47 q hpl, m1]
  rcases hs with hs | hs
  · subst hs
    have := fu ((g q + (pn T n a).2) % 101) (by omega) 0
    rw [if_pos rfl, if_pos rfl, jwi (x := g q + (pn T n a).2) (by have := gq.1; omega) (by have := gq.2; omega), sq_209 _ (by have := gq.1; omega) (by have := gq.2; omega), jbI_s, if_pos (by omega)]
    rw [jup_n _ _ _ _ _ _ _ _ (by omega)] at this
    exact this
  · subst hs
    have := fu ((g q + -(pn T n a).2) % 101) (by omega) 1
    rw [if_neg (show ¬ (-1 : Int) = 1 by decide), if_neg (show ¬ (1 : Int) = 0 by decide), jwi (x := -(pn T n a).2) (by omega) (by omega), jwi (x := g q + -(pn T n a).2) (by have := gq.1; omega) (by have := gq.2; omega), sq_209 _ (by have := gq.1; omega) (by have := gq.2; omega), jbI_s, if_pos (by omega)]
    rw [jup_n _ _ _ _ _ _ _ _ (by omega)] at this
    exact this
end
