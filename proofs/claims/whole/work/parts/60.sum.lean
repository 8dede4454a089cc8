/-! THE TEXT: sums -/
section
variable {T : Nat → Int} {n : Nat}
def cpx (T : Nat → Int) (n a : Nat) : (Nat × Int) × Int := pc T n 120 (pn T n a).1
def cpy (T : Nat → Int) (n a : Nat) : (Nat × Int) × Int := pc T n 121 (cpx T n a).1
def cpz (T : Nat → Int) (n a : Nat) : (Nat × Int) × Int := pc T n 122 (cpy T n a).1
def cpp (T : Nat → Int) (n a : Nat) : Nat × Int := if (cpz T n a).1.1 = a then (a, 1) else (cpz T n a).1
/-- the class reads a term as the reference does, but that it finds a wrong power behind it -/
theorem pt_pc (hT : okT T n) (a : Nat) (ha : a ≤ n) : ((ptp T n a).2 = 0 → cpp T n a = ptp T n a ∧ (cpx T n a).2 = (ptx T n a).2 ∧ (cpy T n a).2 = (pty T n a).2 ∧ (cpz T n a).2 = (ptz T n a).2) ∧ ((ptp T n a).2 ≠ 0 → cpp T n a = ptp T n a ∨ (cpp T n a = ((ptp T n a).1, 0) ∧ stuck T n (ptp T n a).1)) := by
  obtain ⟨n1, n2, n3, n4, n5⟩ := pn_ok hT a ha
  have ex : ptx T n a = pp T n 120 (pn T n a).1 := rfl
  have ey : pty T n a = pp T n 121 (ptx T n a).1 := rfl
  have ez : ptz T n a = pp T n 122 (pty T n a).1 := rfl
  have fx : cpx T n a = pc T n 120 (pn T n a).1 := rfl
  have fy : cpy T n a = pc T n 121 (cpx T n a).1 := rfl
  have fz : cpz T n a = pc T n 122 (cpy T n a).1 := rfl
  have hp : ptp T n a = if (ptz T n a).1.2 = 0 ∧ (ptz T n a).1.1 = a then (a, 1) else (ptz T n a).1 := rfl
  have hc : cpp T n a = if (cpz T n a).1.1 = a then (a, 1) else (cpz T n a).1 := rfl
  -- once a wrong power is met
  have fin : ∀ m, a < m → stuck T n m → (ptz T n a).1 = (m, 1) → (cpz T n a).1 = (m, 0) → ((ptp T n a).2 = 0 → cpp T n a = ptp T n a ∧ (cpx T n a).2 = (ptx T n a).2 ∧ (cpy T n a).2 = (pty T n a).2 ∧ (cpz T n a).2 = (ptz T n a).2) ∧ ((ptp T n a).2 ≠ 0 → cpp T n a = ptp T n a ∨ (cpp T n a = ((ptp T n a).1, 0) ∧ stuck T n (ptp T n a).1)) := fun m hm hs h1 h2 => by
    have q1 : ptp T n a = (m, 1) := by rw [hp, h1, if_neg (fun z => absurd z.1 (by show ¬ (1 : Int) = 0; decide))]
    have q2 : cpp T n a = (m, 0) := by rw [hc, h2, if_neg (show ¬ m = a by omega)]
    rw [q1, q2]
    exact ⟨fun z => absurd z (by show ¬ (1 : Int) = 0; decide), fun _ => Or.inr ⟨rfl, hs⟩⟩
  have hx := pp_pc (T := T) (n := n) 120 (pn T n a).1
  rw [← ex, ← fx] at hx
  rcases hx with hx | ⟨_, m, m1, m2, m3, m4⟩
  · have hy := pp_pc (T := T) (n := n) 121 (ptx T n a).1
    rw [← ey] at hy
    rcases hy with hy | ⟨g1, m, m1, m2, m3, m4⟩
    · have hy : cpy T n a = pty T n a := by rw [fy, ← hx, ← hy]
      have hz := pp_pc (T := T) (n := n) 122 (pty T n a).1
      rw [← ez] at hz
      rcases hz with hz | ⟨g1, m, m1, m2, m3, m4⟩
      · have hz : cpz T n a = ptz T n a := by rw [fz, hy, ← hz]
        have x6 := (pp_ok hT 120 (by decide) (pn T n a).1 (Or.inl n1) n3)
        rw [← ex] at x6
        have y6 := (pp_ok hT 121 (by decide) (ptx T n a).1 x6.2.2.1 x6.2.1)
        rw [← ey] at y6
        have z6 := (pp_ok hT 122 (by decide) (pty T n a).1 y6.2.2.1 y6.2.1)
        rw [← ez] at z6
        have hcp : cpp T n a = ptp T n a ∨ (ptz T n a).1.2 ≠ 0 := by
          by_cases c : (ptz T n a).1.2 = 0
          · left
            rw [hc, hp, hz]
            by_cases c2 : (ptz T n a).1.1 = a
            · rw [if_pos c2, if_pos ⟨c, c2⟩]
            · rw [if_neg c2, if_neg (fun z => c2 z.2)]
          · exact Or.inr c
        rcases hcp with e | e
        · exact ⟨fun _ => ⟨e, by rw [hx], by rw [hy], by rw [hz]⟩, fun _ => Or.inl e⟩
        · -- pc keeps a good place good
          exfalso
          have pg : ∀ c (p : Nat × Int), p.2 = 0 → (pc T n c p).1.2 = 0 := fun c p h => by
            unfold pc
            split
            · split
              · rfl
              · rfl
            · exact h
          have : (cpz T n a).1.2 = 0 := pg 122 _ (pg 121 _ (pg 120 _ n1))
          rw [hz] at this
          exact e this
      · rw [← hy, ← fz] at m2
        exact fin m (by have := (pp_ok hT 120 (by decide) (pn T n a).1 (Or.inl n1) n3); rw [← ex] at this; have y6 := (pp_ok hT 121 (by decide) (ptx T n a).1 this.2.2.1 this.2.1); rw [← ey] at y6; omega) m3 (by rw [m1]) (by rw [m2])
    · rw [hx, ← fy] at m2
      refine fin m (by have := (pp_ok hT 120 (by decide) (pn T n a).1 (Or.inl n1) n3); rw [← ex] at this; omega) m3 ?_ ?_
      · rw [ez, m1]; exact congrArg Prod.fst (pp_bad 122 m)
      · rw [fz, m2]; exact congrArg Prod.fst (pc_stuck m3 122 (by decide))
  · refine fin m (by omega) m3 ?_ ?_
    · rw [ez, ey, m1]
      have : pp T n 121 (m, 1) = ((m, 1), 0) := pp_bad 121 m
      show (pp T n 122 (pp T n 121 (m, 1)).1).1 = (m, 1)
      rw [this]; exact congrArg Prod.fst (pp_bad 122 m)
    · rw [fz, fy, m2]
      have : pc T n 121 (m, 0) = ((m, 0), 0) := pc_stuck m3 121 (by decide)
      show (pc T n 122 (pc T n 121 (m, 0)).1).1 = (m, 0)
      rw [this]; exact congrArg Prod.fst (pc_stuck m3 122 (by decide))
theorem pc_ok (hT : okT T n) (c : Int) (hc : 0 ≤ c) (p : Nat × Int) (hl : p.1 ≤ n) : p.1 ≤ (pc T n c p).1.1 ∧ (pc T n c p).1.1 ≤ n ∧ (pc T n c p).1.2 = p.2 ∧ 0 ≤ (pc T n c p).2 ∧ (pc T n c p).2 ≤ 5 := by
  unfold pc
  by_cases c0 : p.2 = 0 ∧ nx T n p.1 = c
  · have h1 := (nx_ok hT p.1).2.2.2 (by omega)
    rw [if_pos c0]
    by_cases c1 : 50 ≤ nx T n (p.1 + 1) ∧ nx T n (p.1 + 1) ≤ 53
    · have h2 := (nx_ok hT (p.1 + 1)).2.2.2 (by omega)
      rw [if_pos c1]
      exact ⟨by show p.1 ≤ p.1 + 2; omega, by show p.1 + 2 ≤ n; omega, c0.1.symm, by show 0 ≤ nx T n (p.1 + 1) - 48; omega, by show nx T n (p.1 + 1) - 48 ≤ 5; omega⟩
    · rw [if_neg c1]
      exact ⟨by show p.1 ≤ p.1 + 1; omega, by show p.1 + 1 ≤ n; omega, c0.1.symm, by show (0 : Int) ≤ 1; omega, by show (1 : Int) ≤ 5; omega⟩
  · rw [if_neg c0]
    exact ⟨Nat.le_refl _, hl, rfl, by show (0 : Int) ≤ 0; omega, by show (0 : Int) ≤ 5; omega⟩
/-- the term that the class reads -/
def ctm (T : Nat → Int) (n a : Nat) (sg : Int) : Int × Int × Int × Int × Int := (sg, (pn T n a).2, (cpx T n a).2, (cpy T n a).2, (cpz T n a).2)
theorem ctm_ok (hT : okT T n) (a : Nat) (ha : a ≤ n) (sg : Int) (hs : sg = 1 ∨ sg = -1) : tok (ctm T n a sg) := by
  obtain ⟨n1, n2, n3, n4, n5⟩ := pn_ok hT a ha
  have x := pc_ok hT 120 (by decide) (pn T n a).1 n3
  have y := pc_ok hT 121 (by decide) (cpx T n a).1 x.2.1
  have z := pc_ok hT 122 (by decide) (cpy T n a).1 y.2.1
  exact ⟨hs, ⟨n4, n5⟩, ⟨x.2.2.2.1, x.2.2.2.2⟩, ⟨y.2.2.2.1, y.2.2.2.2⟩, ⟨z.2.2.2.1, z.2.2.2.2⟩⟩
theorem sj_109 (s : jM) (sgc : Int) (v2 v3 x y z : Int) (hb : ¬ s 3 0 4 = -1) : je 109 65 [some (.inr (3, 0)), some (.inl sgc), some (.inl v2), some (.inl v3), some (.inl x), some (.inl y), some (.inl z)] [] s = some (none, s) := by
  rw [be_109_65, if_neg hb]
theorem sq_109 (hT : okT T n) {s : jM} {a : Nat} (sg : Int) (hs : sg = 1 ∨ sg = -1) (h : CP T n s (a, 0)) (L : List (Int × Int × Int × Int × Int)) (hL : ∀ y, y ∈ L → tok y) (hC : CS s L) : ∃ t, jq 109 [.inr (3, 0), .inl (if sg = 1 then 1 else 100)] s = some (none, t) ∧ CP T n t (cpp T n a) ∧ TS s t ∧ ((cpp T n a).2 = 0 → CS t (L ++ [ctm T n a sg])) := by
  have ha : a ≤ n := h.2.2.2.2.2
  obtain ⟨n1, n2, n3, n4, n5⟩ := pn_ok hT a ha
  have hok := ctm_ok hT a ha sg hs
  have h3 : s 3 0 3 = (a : Int) := h.2.2.1
  have h97 := sq_97 hT h 48 57 (by decide)
  -- behind the number
  have st : ∀ (u : jM), CP T n u (pn T n a).1 → T3 s u → ∃ t, (jbI (jq 110 [.inr (3, 0), .inl 120] u) fun x2 s2 => jbI (jq 110 [.inr (3, 0), .inl 121] s2) fun x3 s3 => jbI (jq 110 [.inr (3, 0), .inl 122] s3) fun x4 s4 => if (s4 3 0 3) = (s 3 0 3) then jbV (jq 95 [.inr (3, 0), .inl (s4 3 0 3)] s4) fun s5 => je 109 65 [some (.inr (3, 0)), some (.inl (if sg = 1 then 1 else 100)), some (.inl (s 3 0 3)), some (.inl (pn T n a).2), some (.inl x2), some (.inl x3), some (.inl x4)] [] s5 else je 109 65 [some (.inr (3, 0)), some (.inl (if sg = 1 then 1 else 100)), some (.inl (s 3 0 3)), some (.inl (pn T n a).2), some (.inl x2), some (.inl x3), some (.inl x4)] [] s4) = some (none, t) ∧ CP T n t (cpp T n a) ∧ TS s t ∧ ((cpp T n a).2 = 0 → CS t (L ++ [ctm T n a sg])) := fun u hu hsu => by
    obtain ⟨b, b1, b2, b3⟩ := sq_110 hT hu 120 (by decide)
    have b2 : CP T n b (cpx T n a).1 := b2
    obtain ⟨c, c1, c2, c3⟩ := sq_110 hT b2 121 (by decide)
    have c2 : CP T n c (cpy T n a).1 := c2
    obtain ⟨d, d1, d2, d3⟩ := sq_110 hT c2 122 (by decide)
    have d2 : CP T n d (cpz T n a).1 := d2
    have hx := pc_ok hT 120 (by decide) (pn T n a).1 n3
    have hy := pc_ok hT 121 (by decide) (cpx T n a).1 hx.2.1
    have hz := pc_ok hT 122 (by decide) (cpy T n a).1 hy.2.1
    have hz0 : (cpz T n a).1.2 = 0 := by
      have e1 : (cpz T n a).1.2 = (cpy T n a).1.2 := hz.2.2.1
      have e2 : (cpy T n a).1.2 = (cpx T n a).1.2 := hy.2.2.1
      have e3 : (cpx T n a).1.2 = (pn T n a).1.2 := hx.2.2.1
      rw [e1, e2, e3, n1]
    have hsd : T3 s d := T3_t hsu (T3_t b3 (T3_t c3 d3))
    have d3v := d2.2.2.1
    rw [b1, jbI_s, show (pc T n 120 (pn T n a).1).2 = (cpx T n a).2 from rfl, c1, jbI_s, show (pc T n 121 (cpx T n a).1).2 = (cpy T n a).2 from rfl, d1, jbI_s, show (pc T n 122 (cpy T n a).1).2 = (cpz T n a).2 from rfl, d3v, h3]
    unfold cpp
    by_cases e : (cpz T n a).1.1 = a
    · obtain ⟨g, g1, g2, g3⟩ := sq_95 d2
      have hb : ¬ g 3 0 4 = -1 := by
        have := g2.2.2.2.1
        rw [if_neg (show ¬ (1 : Int) = 0 by decide)] at this
        omega
      rw [if_pos (by omega), if_pos e, g1, jbV_s, sj_109 g _ _ _ _ _ _ hb]
      rw [e] at g2
      exact ⟨g, rfl, g2, T3_S (T3_t hsd g3), fun z => absurd z (by show ¬ (1 : Int) = 0; decide)⟩
    · rw [if_neg (by omega), if_neg e]
      have h4 : d 3 0 4 = -1 := by
        have := d2.2.2.2.1
        rw [if_pos hz0] at this
        exact this
      have hdeg : jw (jw ((cpx T n a).2 + (cpy T n a).2) + (cpz T n a).2) = tdeg (ctm T n a sg) := by
        obtain ⟨_, _, p1, p2, p3⟩ := hok
        have q1 : 0 ≤ (cpx T n a).2 ∧ (cpx T n a).2 ≤ 5 := p1
        have q2 : 0 ≤ (cpy T n a).2 ∧ (cpy T n a).2 ≤ 5 := p2
        have q3 : 0 ≤ (cpz T n a).2 ∧ (cpz T n a).2 ≤ 5 := p3
        rw [jwi (x := (cpx T n a).2 + (cpy T n a).2) (by omega) (by omega), jwi (by omega) (by omega)]
        rfl
      have hnum : Int.tmod (jw (Int.tmod (pn T n a).2 101 * (if sg = 1 then 1 else 100))) 101 = (pn T n a).2 % 101 * (if sg = 1 then 1 else 100) % 101 := by
        have hm := mul101 (em101 (pn T n a).2) (show g101 (if sg = 1 then 1 else 100) by split; exact ⟨by decide, by decide⟩; exact ⟨by decide, by decide⟩)
        rw [tm101 n4, jwi (by omega) (by omega), tm101 hm.1]
      have hpl : jq 46 [.inl (cpy T n a).2, .inl (cpz T n a).2] d = some (some (.inl (pl (cpy T n a).2.toNat (cpz T n a).2.toNat : Int)), d) := by
        obtain ⟨_, _, p1, p2, p3⟩ := hok
        have q2 : 0 ≤ (cpy T n a).2 ∧ (cpy T n a).2 ≤ 5 := p2
        have q3 : 0 ≤ (cpz T n a).2 ∧ (cpz T n a).2 ≤ 5 := p3
        have := sq_46 (cpy T n a).2.toNat (cpz T n a).2.toNat (by omega) (by omega) d
        rw [show (((cpy T n a).2.toNat : Nat) : Int) = (cpy T n a).2 by omega, show (((cpz T n a).2.toNat : Nat) : Int) = (cpz T n a).2 by omega] at this
        exact this
      rw [be_109_65, if_pos h4, hpl, jbI_s, hnum, hdeg]
      obtain ⟨g, g1, g2, g3⟩ := sq_111 d L (ctm T n a sg) hok hL (CS_c hC (fun k i j z => hsd k i j (by omega)))
      have g1 : jq 111 [.inr (3, 0), .inl ((pn T n a).2 % 101 * (if sg = 1 then 1 else 100) % 101), .inl (tdeg (ctm T n a sg)), .inl (pl (cpy T n a).2.toNat (cpz T n a).2.toNat : Int)] d = some (none, g) := g1
      rw [g1, jbV_s]
      exact ⟨g, rfl, CP_c d2 (fun k i j z => g3 k i j (by omega)), TS_t (T3_S hsd) (fun k i j z => g3 k i j (by omega)), fun _ => g2⟩
  rw [bq_109, h97, jbI_s]
  by_cases c0 : 48 ≤ nx T n a ∧ nx T n a ≤ 57
  · obtain ⟨u, u1, u2, u3⟩ := sq_104 hT h c0
    have e : pn T n a = pfs T n (a, 0) := if_pos c0
    rw [bI_t ⟨rfl, c0⟩, if_neg (show ¬ (1 : Int) = 0 by decide), u1, jbI_s, ← e]
    rw [← e] at u2
    exact st u u2 u3
  · have e : pn T n a = ((a, 0), 1) := if_neg c0
    rw [bI_f (fun z => c0 z.2), if_pos rfl]
    have := st s (by rw [e]; exact h) (T3_r s)
    rw [e] at this
    exact this
/-- a term behind a fault -/
theorem sq_109b (hT : okT T n) {s : jM} {a : Nat} (v1 : Int) (h : CP T n s (a, 1)) : ∃ t, jq 109 [.inr (3, 0), .inl v1] s = some (none, t) ∧ CP T n t (a, 1) ∧ T3 s t := by
  have h3 : s 3 0 3 = (a : Int) := h.2.2.1
  have h97 := sq_97 hT h 48 57 (by decide)
  have pcb : ∀ c, pc T n c (a, 1) = ((a, 1), 0) := fun c => by
    unfold pc
    rw [if_neg (fun z => absurd z.1 (by show ¬ (1 : Int) = 0; decide))]
  obtain ⟨b, b1, b2, b3⟩ := sq_110 hT h 120 (by decide)
  rw [pcb] at b1 b2
  obtain ⟨c, c1, c2, c3⟩ := sq_110 hT b2 121 (by decide)
  rw [pcb] at c1 c2
  obtain ⟨d, d1, d2, d3⟩ := sq_110 hT c2 122 (by decide)
  rw [pcb] at d1 d2
  obtain ⟨g, g1, g2, g3⟩ := sq_95 d2
  have d3v : d 3 0 3 = (a : Int) := d2.2.2.1
  have hb : ¬ g 3 0 4 = -1 := by
    have := g2.2.2.2.1
    rw [if_neg (show ¬ (1 : Int) = 0 by decide)] at this
    omega
  have g1 : jq 95 [.inr (3, 0), .inl (a : Int)] d = some (none, g) := g1
  refine ⟨g, ?_, g2, T3_t b3 (T3_t c3 (T3_t d3 g3))⟩
  rw [bq_109, h97, jbI_s, bI_f (fun z => absurd z.1 (by show ¬ (1 : Int) = 0; decide)), if_pos rfl, b1, jbI_s, c1, jbI_s, d1, jbI_s, d3v, h3, if_pos rfl, g1, jbV_s, sj_109 g _ _ _ _ _ _ hb]
/-- a sum, as the reference reads it: its terms and where it ends -/
def psm (T : Nat → Int) (n : Nat) : Nat → Nat → Int → List (Int × Int × Int × Int × Int) × (Nat × Int)
  | 0, a, _ => ([], (a, 1))
  | f + 1, a, sg => if (ptp T n a).2 = 0 then (if nx T n (ptp T n a).1 = 43 then ((sg, (pn T n a).2, (ptx T n a).2, (pty T n a).2, (ptz T n a).2) :: (psm T n f ((ptp T n a).1 + 1) 1).1, (psm T n f ((ptp T n a).1 + 1) 1).2) else if nx T n (ptp T n a).1 = 45 then ((sg, (pn T n a).2, (ptx T n a).2, (pty T n a).2, (ptz T n a).2) :: (psm T n f ((ptp T n a).1 + 1) (-1)).1, (psm T n f ((ptp T n a).1 + 1) (-1)).2) else ([(sg, (pn T n a).2, (ptx T n a).2, (pty T n a).2, (ptz T n a).2)], ptp T n a)) else ([], ptp T n a)
theorem psm_ok (hT : okT T n) : ∀ (f a : Nat) (sg : Int), n + 1 ≤ a + f → a ≤ n → (sg = 1 ∨ sg = -1) → a ≤ (psm T n f a sg).2.1 ∧ (psm T n f a sg).2.1 ≤ n ∧ ((psm T n f a sg).2.2 = 0 ∨ (psm T n f a sg).2.2 = 1) ∧ (∀ x, x ∈ (psm T n f a sg).1 → tok x) ∧ ((psm T n f a sg).2.2 = 0 → a < (psm T n f a sg).2.1 ∧ (psm T n f a sg).1 ≠ [])
  | 0, a, sg, hf, ha, hs => absurd hf (by omega)
  | f + 1, a, sg, hf, ha, hs => by
    obtain ⟨p1, p2, p3, p4, p5, p6, p7⟩ := pt_ok hT a ha
    obtain ⟨n1, n2, n3, n4, n5⟩ := pn_ok hT a ha
    have htk : tok (sg, (pn T n a).2, (ptx T n a).2, (pty T n a).2, (ptz T n a).2) := ⟨hs, ⟨n4, n5⟩, p5, p6, p7⟩
    unfold psm
    by_cases c0 : (ptp T n a).2 = 0
    · have p4 := p4 c0
      rw [if_pos c0]
      by_cases c1 : nx T n (ptp T n a).1 = 43
      · have h1 := (nx_ok hT (ptp T n a).1).2.2.2 (by omega)
        obtain ⟨q1, q2, q3, q4, q5⟩ := psm_ok hT f ((ptp T n a).1 + 1) 1 (by omega) (by omega) (Or.inl rfl)
        rw [if_pos c1]
        refine ⟨by show a ≤ (psm T n f ((ptp T n a).1 + 1) 1).2.1; omega, q2, q3, fun x hx => ?_, fun z => ⟨by show a < (psm T n f ((ptp T n a).1 + 1) 1).2.1; omega, by simp⟩⟩
        rcases List.mem_cons.mp hx with e | e
        · rw [e]; exact htk
        · exact q4 x e
      · rw [if_neg c1]
        by_cases c2 : nx T n (ptp T n a).1 = 45
        · have h1 := (nx_ok hT (ptp T n a).1).2.2.2 (by omega)
          obtain ⟨q1, q2, q3, q4, q5⟩ := psm_ok hT f ((ptp T n a).1 + 1) (-1) (by omega) (by omega) (Or.inr rfl)
          rw [if_pos c2]
          refine ⟨by show a ≤ (psm T n f ((ptp T n a).1 + 1) (-1)).2.1; omega, q2, q3, fun x hx => ?_, fun z => ⟨by show a < (psm T n f ((ptp T n a).1 + 1) (-1)).2.1; omega, by simp⟩⟩
          rcases List.mem_cons.mp hx with e | e
          · rw [e]; exact htk
          · exact q4 x e
        · rw [if_neg c2]
          refine ⟨p1, p2, p3, fun x hx => ?_, fun _ => ⟨p4, by simp⟩⟩
          rw [List.mem_singleton.mp hx]; exact htk
    · rw [if_neg c0]
      exact ⟨p1, p2, p3, fun x hx => absurd hx (by simp), fun z => absurd z c0⟩
/-- where the class stands behind a sum that ends at p: there, or, at a wrong power, without a fault yet -/
def CE (T : Nat → Int) (n : Nat) (s : jM) (p : Nat × Int) : Prop := CP T n s p ∨ (p.2 ≠ 0 ∧ CP T n s (p.1, 0) ∧ stuck T n p.1)
theorem sj_108 (hT : okT T n) : ∀ (f a : Nat) (sg : Int) (m : Nat) (s : jM) (o2 : Option jV) (L : List (Int × Int × Int × Int × Int)), n + 1 ≤ a + f → m ≤ a → (sg = 1 ∨ sg = -1) → CP T n s (a, 0) → (∀ y, y ∈ L → tok y) → CS s L → ∃ t, (jbV (jq 109 [.inr (3, 0), .inl (if sg = 1 then 1 else 100)] s) fun s3 => je 108 26 [some (.inr (3, 0)), some (.inl (m : Int)), o2] [] s3) = some (none, t) ∧ TS s t ∧ CE T n t (psm T n f a sg).2 ∧ ((psm T n f a sg).2.2 = 0 → CS t (L ++ (psm T n f a sg).1))
  | 0, a, sg, m, s, o2, L, hf, hm, hs, h, hL, hC => absurd hf (by have := h.2.2.2.2.2; have : a ≤ n := this; omega)
  | f + 1, a, sg, m, s, o2, L, hf, hm, hs, h, hL, hC => by
    have ha : a ≤ n := h.2.2.2.2.2
    obtain ⟨t, t1, t2, t3, t4⟩ := sq_109 hT sg hs h L hL hC
    obtain ⟨e1, e2⟩ := pt_pc hT a ha
    obtain ⟨p1, p2, p3, p4, p5, p6, p7⟩ := pt_ok hT a ha
    have htk := ctm_ok hT a ha sg hs
    have hn := hT.1
    rw [t1, jbV_s]
    unfold psm
    by_cases c0 : (ptp T n a).2 = 0
    · obtain ⟨e3, e4, e5, e6⟩ := e1 c0
      have p4 := p4 c0
      rw [e3] at t2 t4
      have t4 := t4 c0
      have ectm : ctm T n a sg = (sg, (pn T n a).2, (ptx T n a).2, (pty T n a).2, (ptz T n a).2) := by unfold ctm; rw [e4, e5, e6]
      rw [ectm] at t4 htk
      have hpz := pz0 c0
      have t2' : CP T n t ((ptp T n a).1, 0) := by rw [← hpz]; exact t2
      have q43 := sq_96 hT t2' 43 (by decide)
      have q45 := sq_96 hT t2' 45 (by decide)
      have ht3 : t 3 0 3 = ((ptp T n a).1 : Int) := t2.2.2.1
      have hL2 : ∀ y, y ∈ L ++ [(sg, (pn T n a).2, (ptx T n a).2, (pty T n a).2, (ptz T n a).2)] → tok y := fun y hy => by
        rw [List.mem_append, List.mem_singleton] at hy
        rcases hy with z | z
        · exact hL y z
        · rw [z]; exact htk
      rw [if_pos c0]
      by_cases c1 : nx T n (ptp T n a).1 = 43
      · have h1 := (nx_ok hT (ptp T n a).1).2.2.2 (by omega)
        have hup := CP_up t2' h1
        obtain ⟨u, u1, u2, u3, u4⟩ := sj_108 hT f ((ptp T n a).1 + 1) 1 (m + 1) (jup t 3 0 3 (((ptp T n a).1 + 1 : Nat) : Int)) (some (.inl 1)) (L ++ [(sg, (pn T n a).2, (ptx T n a).2, (pty T n a).2, (ptz T n a).2)]) (by omega) (by omega) (Or.inl rfl) hup hL2 (CS_c t4 (fun k i j z => jup_n _ _ _ _ _ _ _ _ (by omega)))
        have u1 : (jbV (jq 109 [.inr (3, 0), .inl 1] (jup t 3 0 3 (((ptp T n a).1 + 1 : Nat) : Int))) fun s3 => je 108 26 [some (.inr (3, 0)), some (.inl ((m + 1 : Nat) : Int)), some (.inl 1)] [] s3) = some (none, u) := u1
        rw [if_pos c1]
        refine ⟨u, ?_, TS_t t3 (fun k i j z => by rw [u2 k i j z, jup_n _ _ _ _ _ _ _ _ (by omega)]), u3, fun z => by rw [List.append_assoc] at u4; exact u4 z⟩
        rw [be_108_26, if_pos (by omega), q43, jbI_s, bI_t ⟨rfl, c1⟩, if_neg (show ¬ (1 : Int) = 0 by decide), be_108_50, q43, jbI_s, bI_t ⟨rfl, c1⟩, if_neg (show ¬ (1 : Int) = 0 by decide), ht3, jwn (x := ((ptp T n a).1 : Int) + 1) (n := (ptp T n a).1 + 1) (by omega) (by omega), jwn (x := (m : Int) + 1) (n := m + 1) (by omega) (by omega)]
        exact u1
      · rw [if_neg c1]
        by_cases c2 : nx T n (ptp T n a).1 = 45
        · have h1 := (nx_ok hT (ptp T n a).1).2.2.2 (by omega)
          have hup := CP_up t2' h1
          obtain ⟨u, u1, u2, u3, u4⟩ := sj_108 hT f ((ptp T n a).1 + 1) (-1) (m + 1) (jup t 3 0 3 (((ptp T n a).1 + 1 : Nat) : Int)) (some (.inl 100)) (L ++ [(sg, (pn T n a).2, (ptx T n a).2, (pty T n a).2, (ptz T n a).2)]) (by omega) (by omega) (Or.inr rfl) hup hL2 (CS_c t4 (fun k i j z => jup_n _ _ _ _ _ _ _ _ (by omega)))
          have u1 : (jbV (jq 109 [.inr (3, 0), .inl 100] (jup t 3 0 3 (((ptp T n a).1 + 1 : Nat) : Int))) fun s3 => je 108 26 [some (.inr (3, 0)), some (.inl ((m + 1 : Nat) : Int)), some (.inl 100)] [] s3) = some (none, u) := u1
          rw [if_pos c2]
          refine ⟨u, ?_, TS_t t3 (fun k i j z => by rw [u2 k i j z, jup_n _ _ _ _ _ _ _ _ (by omega)]), u3, fun z => by rw [List.append_assoc] at u4; exact u4 z⟩
          rw [be_108_26, if_pos (by omega), q43, jbI_s, bI_f (fun z => c1 z.2), if_pos rfl, q45, jbI_s, bI_t ⟨rfl, c2⟩, if_neg (show ¬ (1 : Int) = 0 by decide), be_108_50, q43, jbI_s, bI_f (fun z => c1 z.2), if_pos rfl, ht3, jwn (x := ((ptp T n a).1 : Int) + 1) (n := (ptp T n a).1 + 1) (by omega) (by omega), jwn (x := (m : Int) + 1) (n := m + 1) (by omega) (by omega)]
          exact u1
        · rw [if_neg c2]
          refine ⟨t, ?_, t3, Or.inl t2, fun _ => t4⟩
          rw [be_108_26]
          by_cases c3 : (m : Int) < 80
          · rw [if_pos c3, q43, jbI_s, bI_f (fun z => c1 z.2), if_pos rfl, q45, jbI_s, bI_f (fun z => c2 z.2), if_pos rfl]
          · rw [if_neg c3]
    · rw [if_neg c0]
      have hend : ∀ p : Nat × Int, CP T n t p → (p.2 ≠ 0 ∨ stuck T n p.1) → je 108 26 [some (.inr (3, 0)), some (.inl (m : Int)), o2] [] t = some (none, t) := fun p hp hq => by
        have q43 := sq_96 hT hp 43 (by decide)
        have q45 := sq_96 hT hp 45 (by decide)
        unfold stuck at hq
        rw [be_108_26]
        by_cases c3 : (m : Int) < 80
        · rw [if_pos c3, q43, jbI_s, bI_f (fun z => by rcases hq with y | y; exact y z.1; omega), if_pos rfl, q45, jbI_s, bI_f (fun z => by rcases hq with y | y; exact y z.1; omega), if_pos rfl]
        · rw [if_neg c3]
      rcases e2 c0 with e | ⟨e, e'⟩
      · rw [e] at t2
        exact ⟨t, hend _ t2 (Or.inl c0), t3, Or.inl t2, fun z => absurd z c0⟩
      · rw [e] at t2
        exact ⟨t, hend _ t2 (Or.inr e'), t3, Or.inr ⟨c0, t2, e'⟩, fun z => absurd z c0⟩
end
