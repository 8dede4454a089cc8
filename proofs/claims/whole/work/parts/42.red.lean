/-! THE CLASS' REDUCTION -/
theorem Rel_sub {B C : Nat → Nat → Int} {h w : Nat} (H : ∀ a, a < h → ∃ a' r : Nat, ∃ c e : Int, a' < h ∧ r < h ∧ ∀ b, b < w → (101 : Int) ∣ C a b - (c * B a' b + e * B r b)) {x : Nat → Int} (hx : Rel B h w x) : Rel C h w x := by
  intro a ha
  obtain ⟨a', r, c, e, h1, h2, h3⟩ := H a ha
  have q1 := dot_lin (x := x) c e w h3
  have q2 : (101 : Int) ∣ c * dot (B a') x w := dvm2 (hx a' h1)
  have q3 : (101 : Int) ∣ e * dot (B r) x w := dvm2 (hx r h2)
  omega
theorem RedI_cg {A B C : Nat → Nat → Int} {h w c : Nat} {ld l2 : Nat → Int} {rk : Nat} (hc : c ≤ w) (hrk : rk ≤ h) (hB : ∀ i, i < h → ∀ j, j < w → C i j = B i j) (hl : ∀ j, j < c → l2 j = ld j) (hR : RedI A B h w c ld rk) : RedI A C h w c l2 rk := by
  obtain ⟨h1, h2, h3, h4, h5, h6, h7⟩ := hR
  refine ⟨fun x => (h1 x).trans ⟨fun z => Rel_sub (fun a ha => ⟨a, a, 1, 0, ha, ha, fun b hb => by rw [hB a ha b hb]; omega⟩) z, fun z => Rel_sub (fun a ha => ⟨a, a, 1, 0, ha, ha, fun b hb => by rw [hB a ha b hb]; omega⟩) z⟩, fun i hi j hj => by rw [hB i hi j hj]; exact h2 i hi j hj, fun j hj => ?_, fun i h8 h9 j hj => by rw [hB i h9 j (by omega)]; exact h4 i h8 h9 j hj, fun i hi => ?_, h6, ?_⟩
  · rw [hl j hj]
    rcases h3 j hj with e | ⟨r, e1, e2, e3, e4, e5⟩
    · exact Or.inl e
    · exact Or.inr ⟨r, e1, e2, by rw [hB r (by omega) j (by omega)]; exact e3, fun i hi hne => by rw [hB i hi j (by omega)]; exact e4 i hi hne, fun m hm => by rw [hB r (by omega) m (by omega)]; exact e5 m hm⟩
  · obtain ⟨j, hj, e⟩ := h5 i hi
    exact ⟨j, hj, by rw [hl j hj]; exact e⟩
  · rw [cntN_c (-1) c hl]; exact h7
/-- the column c is free -/
theorem red_no {A B : Nat → Nat → Int} {h w c : Nat} {ld l2 : Nat → Int} {rk : Nat} (hR : RedI A B h w c ld rk) (hl : ∀ j, j < c → l2 j = ld j) (hl2 : l2 c = -1) (hz : ∀ i, rk ≤ i → i < h → B i c = 0) : RedI A B h w (c + 1) l2 rk := by
  obtain ⟨h1, h2, h3, h4, h5, h6, h7⟩ := hR
  refine ⟨h1, h2, fun j hj => ?_, fun i h8 h9 j hj => ?_, fun i hi => ?_, h6, ?_⟩
  · by_cases e : j = c
    · rw [e]; exact Or.inl hl2
    · rw [hl j (by omega)]; exact h3 j (by omega)
  · by_cases e : j = c
    · rw [e]; exact hz i h8 h9
    · exact h4 i h8 h9 j (by omega)
  · obtain ⟨j, hj, e⟩ := h5 i hi
    exact ⟨j, by omega, by rw [hl j hj]; exact e⟩
  · rw [cntN_yes hl2, cntN_c (-1) c hl]; omega
/-- the row i leads the column c: swapped to rk, scaled, the column cleared -/
theorem red_yes {A B B1 B2 B3 : Nat → Nat → Int} {h w c : Nat} {ld l2 : Nat → Int} {rk i : Nat} (hR : RedI A B h w c ld rk) (hc : c < w) (hl : ∀ j, j < c → l2 j = ld j) (hl2 : l2 c = (rk : Int)) (hi : rk ≤ i) (hih : i < h) (hn : B i c ≠ 0)
    (hB1 : ∀ a, a < h → ∀ b, B1 a b = if a = rk then B i b else if a = i then B rk b else B a b)
    (hB2 : ∀ a, a < h → ∀ b, B2 a b = if a = rk ∧ c ≤ b ∧ b < w then B1 a b * rd (B1 rk c) 99 % 101 else B1 a b)
    (hB3 : ∀ a, a < h → ∀ b, B3 a b = if a ≠ rk ∧ a < h ∧ c ≤ b ∧ b < w then clrA B2 rk c a b else B2 a b) : RedI A B3 h w (c + 1) l2 (rk + 1) := by
  obtain ⟨h1, h2, h3, h4, h5, h6, h7⟩ := hR
  have hrk : rk < h := by omega
  have g1 : ∀ a, a < h → ∀ b, b < w → g101 (B1 a b) := fun a ha b hb => by
    rw [hB1 a ha b]
    split
    · exact h2 i hih b hb
    · split
      · exact h2 rk hrk b hb
      · exact h2 a ha b hb
  have z1 : ∀ a, rk ≤ a → a < h → ∀ b, b < c → B1 a b = 0 := fun a h8 ha b hb => by
    rw [hB1 a ha b]
    split
    · exact h4 i hi hih b hb
    · split
      · exact h4 rk (Nat.le_refl _) hrk b hb
      · exact h4 a h8 ha b hb
  have hn1 : B1 rk c ≠ 0 := by rw [hB1 rk hrk c, if_pos rfl]; exact hn
  obtain ⟨m, hm⟩ := nat_of (B1 rk c) (g1 rk hrk c hc).1
  have hinv := inv101 m (by have := (g1 rk hrk c hc).2; omega) (by omega)
  have hinv2 : B1 rk c * rd (B1 rk c) 99 % 101 = 1 := by rw [hm, Int.mul_comm]; exact hinv
  have g2 : ∀ a, a < h → ∀ b, b < w → g101 (B2 a b) := fun a ha b hb => by
    rw [hB2 a ha b]
    split
    · exact em101 _
    · exact g1 a ha b hb
  have z2 : ∀ a, rk ≤ a → a < h → ∀ b, b < c → B2 a b = 0 := fun a h8 ha b hb => by
    rw [hB2 a ha b, if_neg (by omega)]
    exact z1 a h8 ha b hb
  have o2 : B2 rk c = 1 := by rw [hB2 rk hrk c, if_pos (by omega)]; exact hinv2
  have g3 : ∀ a, a < h → ∀ b, b < w → g101 (B3 a b) := fun a ha b hb => by
    rw [hB3 a ha b]
    unfold clrA
    split
    · split
      · exact g2 a ha b hb
      · exact em101 _
    · exact g2 a ha b hb
  have r3 : ∀ b, B3 rk b = B2 rk b := fun b => by rw [hB3 rk hrk b, if_neg (by omega)]
  have s3 : ∀ a, a < h → ∀ b, b < c → B3 a b = B2 a b := fun a ha b hb => by rw [hB3 a ha b, if_neg (by omega)]
  have c3 : ∀ a, a < h → a ≠ rk → B3 a c = 0 := fun a ha hne => by
    have := g2 a ha c hc
    obtain ⟨p1, p2⟩ := this
    rw [hB3 a ha c, if_pos (by omega)]
    unfold clrA
    by_cases e : B2 a c = 0
    · rw [if_pos e]; exact e
    · rw [if_neg e, o2, Int.mul_one]; omega
  -- rows ahead of rk keep what they have ahead of c
  have k3 : ∀ a, a < rk → ∀ b, b < c → B3 a b = B a b := fun a ha b hb => by
    rw [s3 a (by omega) b hb, hB2 a (by omega) b, if_neg (by omega), hB1 a (by omega) b, if_neg (by omega), if_neg (by omega)]
  have z3 : ∀ a, rk ≤ a → a < h → ∀ b, b < c → B3 a b = 0 := fun a h8 ha b hb => by rw [s3 a ha b hb]; exact z2 a h8 ha b hb
  refine ⟨fun x => (h1 x).trans ⟨fun z => ?_, fun z => ?_⟩, g3, fun j hj => ?_, fun a h8 h9 j hj => ?_, fun a ha => ?_, by omega, ?_⟩
  · have y1 : Rel B1 h w x := Rel_sub (fun a ha => by
      by_cases e : a = rk
      · exact ⟨i, i, 1, 0, hih, hih, fun b _ => by rw [hB1 a ha b, if_pos e]; omega⟩
      · by_cases e2 : a = i
        · exact ⟨rk, rk, 1, 0, hrk, hrk, fun b _ => by rw [hB1 a ha b, if_neg e, if_pos e2]; omega⟩
        · exact ⟨a, a, 1, 0, ha, ha, fun b _ => by rw [hB1 a ha b, if_neg e, if_neg e2]; omega⟩) z
    have y2 : Rel B2 h w x := Rel_sub (fun a ha => by
      by_cases e : a = rk
      · refine ⟨a, a, rd (B1 rk c) 99, 0, ha, ha, fun b hb => ?_⟩
        rw [hB2 a ha b, Int.zero_mul, Int.add_zero]
        by_cases e2 : c ≤ b
        · rw [if_pos (by omega), Int.mul_comm (rd (B1 rk c) 99)]; omega
        · rw [if_neg (by omega), e, z1 rk (by omega) hrk b (by omega), Int.mul_zero]; exact ⟨0, rfl⟩
      · exact ⟨a, a, 1, 0, ha, ha, fun b _ => by rw [hB2 a ha b, if_neg (by omega)]; omega⟩) y1
    exact Rel_sub (fun a ha => by
      by_cases e : a = rk
      · exact ⟨a, a, 1, 0, ha, ha, fun b _ => by rw [e, r3 b]; omega⟩
      · refine ⟨a, rk, 1, (101 - B2 a c) % 101, ha, hrk, fun b hb => ?_⟩
        by_cases e2 : c ≤ b
        · rw [hB3 a ha b, if_pos (by omega)]
          unfold clrA
          by_cases e3 : B2 a c = 0
          · rw [if_pos e3, e3, show (101 - (0 : Int)) % 101 = 0 from rfl, Int.zero_mul]; omega
          · rw [if_neg e3]; omega
        · rw [s3 a ha b (by omega), z2 rk (by omega) hrk b (by omega), Int.mul_zero]; omega) y2
  · have y2 : Rel B2 h w x := Rel_sub (fun a ha => by
      by_cases e : a = rk
      · exact ⟨a, a, 1, 0, ha, ha, fun b _ => by rw [e, r3 b]; omega⟩
      · refine ⟨a, rk, 1, B2 a c, ha, hrk, fun b hb => ?_⟩
        by_cases e2 : c ≤ b
        · rw [hB3 a ha b, if_pos (by omega), r3]
          unfold clrA
          by_cases e3 : B2 a c = 0
          · rw [if_pos e3, e3, Int.zero_mul]; omega
          · obtain ⟨p1, p2⟩ := g2 a ha c hc
            have e4 : (101 - B2 a c) % 101 = 101 - B2 a c := by omega
            rw [if_neg e3, e4, Int.sub_mul]
            omega
        · rw [s3 a ha b (by omega), r3, z2 rk (by omega) hrk b (by omega), Int.mul_zero]; omega) z
    have y1 : Rel B1 h w x := Rel_sub (fun a ha => by
      by_cases e : a = rk
      · refine ⟨a, a, B1 rk c, 0, ha, ha, fun b hb => ?_⟩
        rw [hB2 a ha b, Int.zero_mul, Int.add_zero]
        by_cases e2 : c ≤ b
        · rw [if_pos (by omega), e]
          have q1 : (101 : Int) ∣ B1 rk b * rd (B1 rk c) 99 % 101 - B1 rk b * rd (B1 rk c) 99 := by omega
          have q2 : (101 : Int) ∣ B1 rk c * (B1 rk b * rd (B1 rk c) 99 % 101 - B1 rk b * rd (B1 rk c) 99) := dvm2 q1
          have q3 : (101 : Int) ∣ (B1 rk c * rd (B1 rk c) 99 - 1) * B1 rk b := dvm (by omega)
          have q4 : B1 rk b - B1 rk c * (B1 rk b * rd (B1 rk c) 99 % 101) = -(B1 rk c * (B1 rk b * rd (B1 rk c) 99 % 101 - B1 rk b * rd (B1 rk c) 99)) - (B1 rk c * rd (B1 rk c) 99 - 1) * B1 rk b := by grind
          rw [q4]
          omega
        · rw [if_neg (by omega), e, z1 rk (by omega) hrk b (by omega), Int.mul_zero]; exact ⟨0, rfl⟩
      · exact ⟨a, a, 1, 0, ha, ha, fun b _ => by rw [hB2 a ha b, if_neg (by omega)]; omega⟩) y2
    exact Rel_sub (fun a ha => by
      by_cases e : a = i
      · exact ⟨rk, rk, 1, 0, hrk, hrk, fun b _ => by rw [hB1 rk hrk b, if_pos rfl, e]; omega⟩
      · by_cases e2 : a = rk
        · exact ⟨i, i, 1, 0, hih, hih, fun b _ => by rw [hB1 i hih b, if_neg (by omega), if_pos rfl, e2]; omega⟩
        · exact ⟨a, a, 1, 0, ha, ha, fun b _ => by rw [hB1 a ha b, if_neg e2, if_neg e]; omega⟩) y1
  · by_cases e : j = c
    · rw [e]
      refine Or.inr ⟨rk, by omega, hl2, by rw [r3]; exact o2, fun a ha hne => c3 a ha hne, fun m hm => z3 rk (by omega) hrk m hm⟩
    · rw [hl j (by omega)]
      rcases h3 j (by omega) with f | ⟨r, f1, f2, f3, f4, f5⟩
      · exact Or.inl f
      · refine Or.inr ⟨r, by omega, f2, by rw [k3 r f1 j (by omega)]; exact f3, fun a ha hne => ?_, fun m hm => by rw [k3 r f1 m (by omega)]; exact f5 m hm⟩
        by_cases e2 : a < rk
        · rw [k3 a e2 j (by omega)]; exact f4 a ha hne
        · exact z3 a (by omega) ha j (by omega)
  · by_cases e : j = c
    · rw [e]; exact c3 a h9 (by omega)
    · exact z3 a (by omega) h9 j (by omega)
  · by_cases e : a = rk
    · exact ⟨c, by omega, by rw [e]; exact hl2⟩
    · obtain ⟨j, hj, f⟩ := h5 a (by omega)
      exact ⟨j, by omega, by rw [hl j hj]; exact f⟩
  · rw [cntN_no (by rw [hl2]; omega), cntN_c (-1) c hl]; omega
theorem sj_127 (A : Nat → Nat → Int) (h w : Nat) (hh : h ≤ 21) (hw : w ≤ 21) : ∀ (c j : Nat) (s : jM) (r : Nat) (o3 : Option jV), j + c = w → TI s → s 7 0 2 = (h : Int) → s 7 0 3 = (w : Int) → RedI A (LA s) h w j (s 26 0) r → ∃ t rk, je 127 4 [some (.inr (7, 0)), some (.inl (r : Int)), some (.inl (j : Int)), o3] [] s = some (some (.inl ((rk : Nat) : Int)), t) ∧ TI t ∧ T4 s t ∧ RedI A (LA t) h w w (t 26 0) rk
  | 0, j, s, r, o3, hj, hT, e2, e3, hR => by
    have hj : j = w := hj
    subst hj
    exact ⟨s, r, by rw [be_127_4, e3, if_neg (by omega)], hT, fun _ _ _ _ _ _ => rfl, hR⟩
  | c + 1, j, s, r, o3, hj, hT, e2, e3, hR => by
    have hrh : r ≤ h := hR.2.2.2.2.2.1
    have hcnt := hR.2.2.2.2.2.2
    have hg := hR.2.1
    obtain ⟨x, hx, hcase⟩ := sq_128 s h j r hh (by omega) hrh e2
    rw [be_127_4, e3, if_pos (by omega), hx, jbI_s, Int.toNat_natCast, jwn (x := (j : Int) + 1) (n := j + 1) (by omega) (by omega)]
    rcases hcase with ⟨ex, hz⟩ | ⟨i, ex, hi1, hi2, hi3⟩
    · rw [if_pos ex, if_pos (by omega), if_pos ex]
      have hl : ∀ m, m < j → jup s 26 0 j (-1) 26 0 m = s 26 0 m := fun m hm => jup_n _ _ _ _ _ _ _ _ (by omega)
      have hLA : ∀ a b, LA (jup s 26 0 j (-1)) a b = LA s a b := fun a b => by unfold LA; rw [jup_n _ _ _ _ _ _ _ _ (by omega), jup_n _ _ _ _ _ _ _ _ (by omega)]
      have hR2 : RedI A (LA (jup s 26 0 j (-1))) h w (j + 1) (jup s 26 0 j (-1) 26 0) r := by
        have : LA (jup s 26 0 j (-1)) = LA s := funext fun a => funext fun b => hLA a b
        rw [this]
        exact red_no hR hl (jup_e _ _ _ _ _) hz
      obtain ⟨t, rk, t1, t2, t3, t4⟩ := sj_127 A h w hh hw c (j + 1) (jup s 26 0 j (-1)) r (some (.inl x)) (by omega) (TI_cg (fun m => jup_n _ _ _ _ _ _ _ _ (by omega)) hT) (by rw [jup_n _ _ _ _ _ _ _ _ (by omega)]; exact e2) (by rw [jup_n _ _ _ _ _ _ _ _ (by omega)]; exact e3) hR2
      exact ⟨t, rk, t1, t2, fun k a b z1 z2 z3 => by rw [t3 k a b z1 z2 z3, jup_n _ _ _ _ _ _ _ _ (by omega)], t4⟩
    · have hxn : ¬ x = -1 := by omega
      rw [if_neg hxn, if_pos (by omega), if_neg hxn, ex]
      have hLA : ∀ a b, LA (jup s 26 0 j (r : Int)) a b = LA s a b := fun a b => by unfold LA; rw [jup_n _ _ _ _ _ _ _ _ (by omega), jup_n _ _ _ _ _ _ _ _ (by omega)]
      have hTU : TI (jup s 26 0 j (r : Int)) := TI_cg (fun m => jup_n _ _ _ _ _ _ _ _ (by omega)) hT
      obtain ⟨u, u1, u2, u3, u4⟩ := sq_129 (jup s 26 0 j (r : Int)) i r (by omega) (by omega) hTU
      have hB1 : ∀ a, a < h → ∀ b, LA u a b = if a = r then LA s i b else if a = i then LA s r b else LA s a b := fun a ha b => by
        rw [u4 a (by omega) b, hLA, hLA, hLA]
      have hg1 : ∀ a, a < h → ∀ b, b < w → g101 (LA u a b) := fun a ha b hb => by
        rw [hB1 a ha b]
        split
        · exact hg i hi2 b hb
        · split
          · exact hg r (by omega) b hb
          · exact hg a ha b hb
      have ue3 : u 7 0 3 = (w : Int) := by rw [u3 _ _ _ (by omega), jup_n _ _ _ _ _ _ _ _ (by omega)]; exact e3
      have ue2 : u 7 0 2 = (h : Int) := by rw [u3 _ _ _ (by omega), jup_n _ _ _ _ _ _ _ _ (by omega)]; exact e2
      obtain ⟨v, v1, v2, v3⟩ := sq_130 u w r j (by omega) (by omega) hw u2 ue3 (fun b hb => hg1 r (by omega) b hb)
      have ve3 : v 7 0 3 = (w : Int) := by rw [v2 _ _ _ (by omega)]; exact ue3
      have ve2 : v 7 0 2 = (h : Int) := by rw [v2 _ _ _ (by omega)]; exact ue2
      have hTv := T5_ti v2 u2
      have hg2 : ∀ a, a < h → ∀ b, b < w → g101 (LA v a b) := fun a ha b hb => by
        rw [v3 a (by omega) b]
        split
        · exact em101 _
        · exact hg1 a ha b hb
      obtain ⟨y, y1, y2, y3⟩ := sq_131 v h w r j (by omega) (by omega) hh hw hTv ve2 ve3 hg2
      have hy26 : ∀ m, y 26 0 m = jup s 26 0 j (r : Int) 26 0 m := fun m => by rw [y2 _ _ _ (by omega), v2 _ _ _ (by omega), u3 _ _ _ (by omega)]
      have hR2 : RedI A (LA y) h w (j + 1) (y 26 0) (r + 1) := red_yes (B1 := LA u) (B2 := LA v) hR (by omega) (fun m hm => by rw [hy26]; exact jup_n _ _ _ _ _ _ _ _ (by omega)) (by rw [hy26]; exact jup_e _ _ _ _ _) hi1 hi2 hi3 hB1 (fun a ha b => v3 a (by omega) b) (fun a ha b => y3 a (by omega) b)
      rw [u1, jbV_s, v1, jbV_s, y1, jbV_s, jwn (x := (r : Int) + 1) (n := r + 1) (by omega) (by omega)]
      obtain ⟨t, rk, t1, t2, t3, t4⟩ := sj_127 A h w hh hw c (j + 1) y (r + 1) (some (.inl (i : Int))) (by omega) (T5_ti y2 hTv) (by rw [y2 _ _ _ (by omega)]; exact ve2) (by rw [y2 _ _ _ (by omega)]; exact ve3) hR2
      exact ⟨t, rk, t1, t2, fun k a b z1 z2 z3 => by rw [t3 k a b z1 z2 z3, y2 _ _ _ z2, v2 _ _ _ z2, u3 _ _ _ z1, jup_n _ _ _ _ _ _ _ _ (by omega)], t4⟩
theorem sq_127 (s : jM) (h w : Nat) (hh : h ≤ 21) (hw : w ≤ 21) (hT : TI s) (e2 : s 7 0 2 = (h : Int)) (e3 : s 7 0 3 = (w : Int)) (hg : ∀ a, a < h → ∀ b, b < w → g101 (LA s a b)) : ∃ t rk, jq 127 [.inr (7, 0)] s = some (some (.inl ((rk : Nat) : Int)), t) ∧ TI t ∧ T4 s t ∧ RedI (LA s) (LA t) h w w (t 26 0) rk := by
  rw [bq_127]
  exact sj_127 (LA s) h w hh hw w 0 s 0 none (by omega) hT e2 e3 ⟨fun _ => Iff.rfl, hg, fun j hj => absurd hj (by omega), fun i _ _ j hj => absurd hj (by omega), fun i hi => absurd hi (by omega), by omega, rfl⟩
/-- the free columns, counted and told -/
def freeK (ld : Nat → Int) (w : Nat) (k : Int) : Nat → Nat → Int → Int
  | 0, _, _ => -1
  | c + 1, j, a => if ld j = -1 then (if a = k then (j : Int) else freeK ld w k c (j + 1) (a + 1)) else freeK ld w k c (j + 1) a
theorem sq_132 (s : jM) (w : Nat) (k : Int) (hw : w ≤ 21) (e3 : s 7 0 3 = (w : Int)) : jq 132 [.inr (7, 0), .inl k] s = some (some (.inl (freeK (s 26 0) w k w 0 0)), s) := by
  rw [bq_132]
  have key : ∀ c (j : Nat) (a : Int), j + c = w → 0 ≤ a → a ≤ j → je 132 4 [some (.inr (7, 0)), some (.inl k), some (.inl a), some (.inl (j : Int))] [] s = some (some (.inl (freeK (s 26 0) w k c j a)), s) := by
    intro c
    induction c with
    | zero => intro j a hj h1 h2; rw [be_132_4, e3, if_neg (by omega)]; rfl
    | succ c ih =>
      intro j a hj h1 h2
      rw [be_132_4, e3, if_pos (by omega), if_pos (by omega), Int.toNat_natCast, jwn (x := (j : Int) + 1) (n := j + 1) (by omega) (by omega), jwi (x := a + 1) (by omega) (by omega), freeK]
      by_cases c0 : s 26 0 j = -1
      · simp only [if_pos c0]
        by_cases c1 : a = k
        · simp only [if_pos c1]
        · rw [if_neg c1, if_neg c1, if_pos (by omega)]
          exact ih (j + 1) (a + 1) (by omega) (by omega) (by omega)
      · rw [if_neg c0, if_neg c0, if_pos (by omega), if_neg c0]
        exact ih (j + 1) a (by omega) (by omega) (by omega)
  exact key w 0 0 (by omega) (by omega) (by omega)
theorem sq_133 (s : jM) (w : Nat) (hw : w ≤ 21) (e3 : s 7 0 3 = (w : Int)) : ∃ x, jq 133 [.inr (7, 0)] s = some (some (.inl x), s) ∧ ((x = -1 ∧ ∀ j, j < w → s 26 0 j ≠ -1) ∨ ∃ p : Nat, x = (p : Int) ∧ p < w ∧ s 26 0 p = -1 ∧ ∀ j, p < j → j < w → s 26 0 j ≠ -1) := by
  rw [bq_133, e3, jwi (by omega) (by omega)]
  have key : ∀ c, c ≤ w → (∀ j, c ≤ j → j < w → s 26 0 j ≠ -1) → ∃ x, je 133 7 [some (.inr (7, 0)), some (.inl ((c : Int) - 1))] [] s = some (some (.inl x), s) ∧ ((x = -1 ∧ ∀ j, j < w → s 26 0 j ≠ -1) ∨ ∃ p : Nat, x = (p : Int) ∧ p < w ∧ s 26 0 p = -1 ∧ ∀ j, p < j → j < w → s 26 0 j ≠ -1) := by
    intro c
    induction c with
    | zero =>
      intro hc hj
      exact ⟨-1, by rw [be_133_7, if_pos (by omega)], Or.inl ⟨rfl, fun j h => hj j (by omega) h⟩⟩
    | succ c ih =>
      intro hc hj
      have e : ((c + 1 : Nat) : Int) - 1 = (c : Int) := by omega
      have e2 : jw ((c : Int) + (-1)) = (c : Int) - 1 := by rw [jwi (by omega) (by omega)]; omega
      rw [be_133_7, e, if_neg (by omega), if_pos (by omega), Int.toNat_natCast, e2]
      by_cases c0 : s 26 0 c = -1
      · rw [if_pos c0]
        exact ⟨(c : Int), rfl, Or.inr ⟨c, rfl, by omega, c0, fun j h1 h2 => hj j (by omega) h2⟩⟩
      · rw [if_neg c0]
        refine ih (by omega) (fun j h1 h2 => ?_)
        by_cases c1 : j = c
        · rw [c1]; exact c0
        · exact hj j (by omega) h2
  exact key w (Nat.le_refl w) (fun j h1 h2 => absurd h2 (by omega))
theorem sq_134 {A : Nat → Nat → Int} (s : jM) (h w rk p j : Nat) (hh : h ≤ 21) (hw : w ≤ 21) (e3 : s 7 0 3 = (w : Int)) (hR : RedI A (LA s) h w w (s 26 0) rk) (hp : p < w) (hj : j < w) : jq 134 [.inr (7, 0), .inl (p : Int), .inl (j : Int)] s = some (some (.inl (rsol (LA s) (s 26 0) p j)), s) := by
  obtain ⟨h1, h2, h3, h4, h5, h6, h7⟩ := hR
  rw [bq_134, e3, sq_38, jbI_s, bI_t (by omega), if_neg (by decide), e3, sq_38, jbI_s, bI_t (by omega), if_neg (by decide), if_pos (by omega), Int.toNat_natCast, Int.toNat_natCast]
  unfold rsol
  by_cases c0 : s 26 0 j = -1
  · rw [if_pos c0, if_pos c0]
    by_cases c1 : j = p
    · rw [if_pos (by omega), if_pos c1]
    · rw [if_neg (by omega), if_neg c1]
  · rw [if_neg c0, if_neg c0]
    rcases h3 j hj with e | ⟨r, f1, f2, -⟩
    · exact absurd e c0
    · have e : s 25 ((s 24 0 r).toNat % 21) p = LA s r p := rfl
      rw [f2, if_pos (by omega), if_pos (by omega), if_pos (by omega), Int.toNat_natCast, e, sq_49 _ (h2 r (by omega) p hp), jbI_s]
