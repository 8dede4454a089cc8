/-! THE TEXT in the reference -/
/-- the places that the reference's reader may write -/
def TQ (s t : jM) : Prop := ∀ k i j, ¬ (k = 11 ∧ (j = 36 ∨ j = 37 ∨ j = 42 ∨ j = 43 ∨ j = 44 ∨ j = 45)) → t k i j = s k i j
theorem TQ_r (s : jM) : TQ s s := fun _ _ _ _ => rfl
theorem TQ_t {s t u : jM} (h : TQ s t) (h2 : TQ t u) : TQ s u := fun k i j z => (h2 k i j z).trans (h k i j z)
/-- the places alone -/
def TP (s t : jM) : Prop := ∀ k i j, ¬ (k = 11 ∧ (j = 36 ∨ j = 37)) → t k i j = s k i j
theorem TP_r (s : jM) : TP s s := fun _ _ _ _ => rfl
theorem TP_t {s t u : jM} (h : TP s t) (h2 : TP t u) : TP s u := fun k i j z => (h2 k i j z).trans (h k i j z)
theorem TP_Q {s t : jM} (h : TP s t) : TQ s t := fun k i j z => h k i j (by omega)
section
variable {T : Nat → Int} {n : Nat}
theorem RP_c {s t : jM} {p : Nat × Int} (h : RP T n s p) (ht : ∀ k i j, k = 11 ∧ (j = 8 ∨ j = 36 ∨ j = 37) ∨ k = 37 → t k i j = s k i j) : RP T n t p := by
  obtain ⟨h1, h2, h3, h4, h5, h6⟩ := h
  exact ⟨by rw [ht _ _ _ (by omega)]; exact h1, fun i hi => by rw [ht _ _ _ (by omega)]; exact h2 i hi, by rw [ht _ _ _ (by omega)]; exact h3, by rw [ht _ _ _ (by omega)]; exact h4, h5, h6⟩
/-- the place and the fault set anew -/
theorem RP_s {s : jM} {p q : Nat × Int} (h : RP T n s p) (hq : q.1 ≤ n) (hb : q.2 = 0 ∨ q.2 = 1) : RP T n (jup (jup s 11 0 37 q.2) 11 0 36 (q.1 : Int)) q := by
  obtain ⟨h1, h2, h3, h4, h5, h6⟩ := h
  exact ⟨by rw [jup_n _ _ _ _ _ _ _ _ (by omega), jup_n _ _ _ _ _ _ _ _ (by omega)]; exact h1, fun i hi => by rw [jup_n _ _ _ _ _ _ _ _ (by omega), jup_n _ _ _ _ _ _ _ _ (by omega)]; exact h2 i hi, jup_e _ _ _ _ _, by rw [jup_n _ _ _ _ _ _ _ _ (by omega), jup_e], hb, hq⟩
theorem RP_u {s : jM} {a : Nat} {b : Int} (h : RP T n s (a, b)) (c : Nat) (hc : c ≤ n) : RP T n (jup s 11 0 36 (c : Int)) (c, b) := by
  obtain ⟨h1, h2, h3, h4, h5, h6⟩ := h
  exact ⟨by rw [jup_n _ _ _ _ _ _ _ _ (by omega)]; exact h1, fun i hi => by rw [jup_n _ _ _ _ _ _ _ _ (by omega)]; exact h2 i hi, jup_e _ _ _ _ _, by rw [jup_n _ _ _ _ _ _ _ _ (by omega)]; exact h4, h5, hc⟩
theorem sq_268 (hT : okT T n) {s : jM} {p : Nat × Int} (h : RP T n s p) : jq 268 [.inr (11, 0)] s = some (some (.inl (nx T n p.1)), s) := by
  obtain ⟨h1, h2, h3, h4, h5, h6⟩ := h
  have hn := hT.1
  rw [bq_268, h3, h1]
  unfold nx
  by_cases c : p.1 < n
  · rw [if_pos (by omega), if_pos (by omega), Int.toNat_natCast, h2 _ c, if_pos c]
  · rw [if_neg (by omega), if_neg c]
theorem sq_269 (hT : okT T n) {s : jM} {p : Nat × Int} (h : RP T n s p) : jq 269 [.inr (11, 0)] s = some (some (.inl (bI (48 ≤ nx T n p.1 ∧ nx T n p.1 ≤ 57))), s) := by
  rw [bq_269, sq_268 hT h, jbI_s, sq_200, jbI_s, if_pos (bI01 _)]
theorem RP_bad {s : jM} {p : Nat × Int} (h : RP T n s p) (hp : ¬ p.2 = 0) : p = (p.1, 1) := Prod.ext rfl (h.2.2.2.2.1.resolve_left hp)
theorem sq_270 (hT : okT T n) {s : jM} {p : Nat × Int} (h : RP T n s p) (c : Int) (hc : 0 ≤ c) : ∃ t, jq 270 [.inr (11, 0), .inl c] s = some (none, t) ∧ RP T n t (pw T n c p) ∧ TP s t := by
  have h3 := h.2.2.1
  have hn := hT.1
  have hl := h.2.2.2.2.2
  rw [bq_270, h.2.2.2.1]
  unfold pw
  by_cases c0 : p.2 = 0
  · rw [if_pos c0, if_pos c0, sq_268 hT h, jbI_s, h3]
    by_cases c1 : nx T n p.1 = c
    · have ha := (nx_ok hT p.1).2.2.2 (by omega)
      rw [if_pos c1, if_pos c1, jwn (x := (p.1 : Int) + 1) (n := p.1 + 1) (by omega) (by omega)]
      exact ⟨_, rfl, RP_s (q := (p.1 + 1, 0)) h ha (Or.inl rfl), fun k i j z => by rw [jup_n _ _ _ _ _ _ _ _ (by omega), jup_n _ _ _ _ _ _ _ _ (by omega)]⟩
    · rw [if_neg c1, if_neg c1, jwn (x := (p.1 : Int) + 0) (n := p.1) (by omega) (by omega)]
      exact ⟨_, rfl, RP_s (q := (p.1, 1)) h hl (Or.inr rfl), fun k i j z => by rw [jup_n _ _ _ _ _ _ _ _ (by omega), jup_n _ _ _ _ _ _ _ _ (by omega)]⟩
  · rw [if_neg c0, if_neg c0]
    exact ⟨s, rfl, h, TP_r s⟩
theorem sq_271 (hT : okT T n) {s : jM} {p : Nat × Int} (h : RP T n s p) : ∃ t, jq 271 [.inr (11, 0)] s = some (some (.inl (pf T n p).2), t) ∧ RP T n t (pf T n p).1 ∧ TP s t := by
  have h3 := h.2.2.1
  have hn := hT.1
  have hl := h.2.2.2.2.2
  rw [bq_271, h.2.2.2.1]
  unfold pf
  by_cases c0 : p.2 = 0
  · rw [if_pos c0, sq_269 hT h, jbI_s]
    by_cases c1 : 48 ≤ nx T n p.1 ∧ nx T n p.1 ≤ 57
    · have ha := (nx_ok hT p.1).2.2.2 (by omega)
      have hr : RP T n (jup s 11 0 37 0) (p.1, 0) := by
        obtain ⟨a1, a2, a3, a4, a5, a6⟩ := h
        exact ⟨by rw [jup_n _ _ _ _ _ _ _ _ (by omega)]; exact a1, fun i hi => by rw [jup_n _ _ _ _ _ _ _ _ (by omega)]; exact a2 i hi, by rw [jup_n _ _ _ _ _ _ _ _ (by omega)]; exact a3, jup_e _ _ _ _ _, Or.inl rfl, a6⟩
      rw [bI_t c1, if_neg (show ¬ (1 : Int) = 0 by decide), if_pos ⟨c0, c1⟩, sq_268 hT hr, jbI_s, jup_e, if_pos rfl, jup_n s 11 0 37 _ 11 _ _ (by omega), h3, jwn (x := (p.1 : Int) + 1) (n := p.1 + 1) (by omega) (by omega), jwi (x := nx T n (p.1, (0 : Int)).1 - 48) (by show -2147483648 ≤ nx T n p.1 - 48; omega) (by show nx T n p.1 - 48 < 2147483648; omega)]
      exact ⟨_, rfl, RP_u hr (p.1 + 1) ha, fun k i j z => by rw [jup_n _ _ _ _ _ _ _ _ (by omega), jup_n _ _ _ _ _ _ _ _ (by omega)]⟩
    · rw [bI_f c1, if_pos rfl, if_neg (fun z => c1 z.2), h3, jwn (x := (p.1 : Int) + 0) (n := p.1) (by omega) (by omega)]
      exact ⟨_, rfl, RP_s (q := (p.1, 1)) h hl (Or.inr rfl), fun k i j z => by rw [jup_n _ _ _ _ _ _ _ _ (by omega), jup_n _ _ _ _ _ _ _ _ (by omega)]⟩
  · rw [if_neg c0, if_neg (fun z => c0 z.1), h3, jwn (x := (p.1 : Int) + 0) (n := p.1) (by omega) (by omega)]
    exact ⟨_, rfl, RP_s (q := (p.1, 1)) h hl (Or.inr rfl), fun k i j z => by rw [jup_n _ _ _ _ _ _ _ _ (by omega), jup_n _ _ _ _ _ _ _ _ (by omega)]⟩
theorem sj_272 (hT : okT T n) : ∀ (k a : Nat) (v : Int) (s : jM), k ≤ 2 → 0 ≤ v → ((k = 2 → v ≤ 9) ∧ (k = 1 → v ≤ 99)) → RP T n s (a, 0) → ∃ t, je 272 7 [some (.inr (11, 0)), some (.inl v), some (.inl ((3 : Int) - k))] [] s = some (some (.inl (pfl T n k a v).2), t) ∧ RP T n t ((pfl T n k a v).1, 0) ∧ TP s t
  | 0, a, v, s, hk, h0, hb, h => ⟨s, by rw [be_272_7, if_neg (by omega)]; rfl, h, TP_r s⟩
  | k + 1, a, v, s, hk, h0, hb, h => by
    rw [be_272_7, if_pos (by omega), h.2.2.2.1, if_pos rfl, sq_269 hT h, jbI_s]
    unfold pfl
    by_cases c0 : 48 ≤ nx T n a ∧ nx T n a ≤ 57
    · obtain ⟨u, u1, u2, u3⟩ := sq_271 hT h
      have e : pf T n (a, 0) = ((a + 1, 0), nx T n a - 48) := if_pos ⟨rfl, c0⟩
      rw [e] at u1 u2
      rw [bI_t c0, if_neg (show ¬ (1 : Int) = 0 by decide), if_pos c0, u1, jbI_s]
      show ∃ t, je 272 7 [some (.inr (11, 0)), some (.inl (jw (jw (10 * v) + (nx T n a - 48)))), some (.inl (jw ((3 : Int) - ((k + 1 : Nat) : Int) + 1)))] [] u = _ ∧ _ ∧ _
      rw [jwi (x := 10 * v) (by omega) (by omega), jwi (x := 10 * v + (nx T n a - 48)) (by omega) (by omega), jwi (x := (3 : Int) - ((k + 1 : Nat) : Int) + 1) (by omega) (by omega), show (3 : Int) - ((k + 1 : Nat) : Int) + 1 = 3 - (k : Int) by omega]
      obtain ⟨t, t1, t2, t3⟩ := sj_272 hT k (a + 1) (10 * v + (nx T n a - 48)) u (by omega) (by omega) ⟨by omega, by omega⟩ u2
      exact ⟨t, t1, t2, TP_t u3 t3⟩
    · rw [bI_f c0, if_pos rfl, if_neg c0]
      exact ⟨s, rfl, h, TP_r s⟩
theorem sq_272 (hT : okT T n) {s : jM} {p : Nat × Int} (h : RP T n s p) : ∃ t, jq 272 [.inr (11, 0)] s = some (some (.inl (pfs T n p).2), t) ∧ RP T n t (pfs T n p).1 ∧ TP s t := by
  obtain ⟨u, u1, u2, u3⟩ := sq_271 hT h
  rw [bq_272, u1, jbI_s]
  by_cases c0 : p.2 = 0 ∧ 48 ≤ nx T n p.1 ∧ nx T n p.1 ≤ 57
  · have e : pf T n p = ((p.1 + 1, 0), nx T n p.1 - 48) := if_pos c0
    have e2 : pfs T n p = (((pfl T n 2 (p.1 + 1) (nx T n p.1 - 48)).1, 0), (pfl T n 2 (p.1 + 1) (nx T n p.1 - 48)).2) := if_pos c0
    rw [e] at u2 ⊢
    rw [e2]
    obtain ⟨t, t1, t2, t3⟩ := sj_272 hT 2 (p.1 + 1) (nx T n p.1 - 48) u (by omega) (by omega) ⟨by omega, by omega⟩ u2
    exact ⟨t, t1, t2, TP_t u3 t3⟩
  · have e : pf T n p = ((p.1, 1), 0) := if_neg c0
    have e2 : pfs T n p = ((p.1, 1), 0) := if_neg c0
    rw [e] at u2 ⊢
    rw [e2]
    refine ⟨u, ?_, u2, u3⟩
    rw [be_272_7, if_pos (by decide), u2.2.2.2.1, if_neg (by show ¬ (1 : Int) = 0; decide)]
theorem sq_275 (hT : okT T n) {s : jM} {p : Nat × Int} (h : RP T n s p) (c : Int) (hc : 0 ≤ c) : ∃ t, jq 275 [.inr (11, 0), .inl c] s = some (some (.inl (pp T n c p).2), t) ∧ RP T n t (pp T n c p).1 ∧ TP s t := by
  have h3 := h.2.2.1
  have hn := hT.1
  rw [bq_275, h.2.2.2.1]
  unfold pp
  by_cases c0 : p.2 = 0
  · rw [if_pos c0, sq_268 hT h, jbI_s]
    by_cases c1 : nx T n p.1 = c
    · have ha := (nx_ok hT p.1).2.2.2 (by omega)
      have hr : RP T n (jup s 11 0 36 ((p.1 + 1 : Nat) : Int)) (p.1 + 1, 0) := RP_u (a := p.1) (by rw [← pz0 c0]; exact h) (p.1 + 1) ha
      have hs : TP s (jup s 11 0 36 ((p.1 + 1 : Nat) : Int)) := fun k i j z => jup_n _ _ _ _ _ _ _ _ (by omega)
      rw [if_pos c1, if_pos ⟨c0, c1⟩, h3, jwn (x := (p.1 : Int) + 1) (n := p.1 + 1) (by omega) (by omega), sq_269 hT hr, jbI_s]
      generalize jup s 11 0 36 ((p.1 + 1 : Nat) : Int) = u at *
      by_cases c2 : 48 ≤ nx T n (p.1 + 1) ∧ nx T n (p.1 + 1) ≤ 57
      · rw [bI_t c2, if_neg (show ¬ (1 : Int) = 0 by decide), if_pos c2, sq_268 hT hr, jbI_s, sq_200, jbI_s]
        by_cases c3 : 50 ≤ nx T n (p.1 + 1) ∧ nx T n (p.1 + 1) ≤ 53
        · have hr2 : RP T n (jup u 11 0 37 0) (p.1 + 1, 0) := by
            obtain ⟨a1, a2, a3, a4, a5, a6⟩ := hr
            exact ⟨by rw [jup_n _ _ _ _ _ _ _ _ (by omega)]; exact a1, fun i hi => by rw [jup_n _ _ _ _ _ _ _ _ (by omega)]; exact a2 i hi, by rw [jup_n _ _ _ _ _ _ _ _ (by omega)]; exact a3, jup_e _ _ _ _ _, Or.inl rfl, a6⟩
          obtain ⟨t, t1, t2, t3⟩ := sq_271 hT hr2
          have e : pf T n (p.1 + 1, 0) = ((p.1 + 1 + 1, 0), nx T n (p.1 + 1) - 48) := if_pos ⟨rfl, c2⟩
          rw [e] at t1 t2
          rw [bI_t c3, if_neg (show ¬ (1 : Int) = 0 by decide), if_pos c3, t1, jbI_s]
          exact ⟨t, rfl, t2, TP_t hs (TP_t (fun k i j z => jup_n _ _ _ _ _ _ _ _ (by omega)) t3)⟩
        · have hr2 : RP T n (jup u 11 0 37 1) (p.1 + 1, 1) := by
            obtain ⟨a1, a2, a3, a4, a5, a6⟩ := hr
            exact ⟨by rw [jup_n _ _ _ _ _ _ _ _ (by omega)]; exact a1, fun i hi => by rw [jup_n _ _ _ _ _ _ _ _ (by omega)]; exact a2 i hi, by rw [jup_n _ _ _ _ _ _ _ _ (by omega)]; exact a3, jup_e _ _ _ _ _, Or.inr rfl, a6⟩
          obtain ⟨t, t1, t2, t3⟩ := sq_271 hT hr2
          have e : pf T n (p.1 + 1, 1) = ((p.1 + 1, 1), 0) := if_neg (fun z => absurd z.1 (by show ¬ (1 : Int) = 0; decide))
          rw [e] at t1 t2
          rw [bI_f c3, if_pos rfl, if_neg c3, t1, jbI_s]
          exact ⟨t, rfl, t2, TP_t hs (TP_t (fun k i j z => jup_n _ _ _ _ _ _ _ _ (by omega)) t3)⟩
      · rw [bI_f c2, if_pos rfl, if_neg c2]
        exact ⟨u, rfl, hr, hs⟩
    · rw [if_neg c1, if_neg (fun z => c1 z.2)]
      exact ⟨s, rfl, h, TP_r s⟩
  · rw [if_neg c0, if_neg (fun z => c0 z.1)]
    exact ⟨s, rfl, h, TP_r s⟩
/-- what a term has told -/
def RTm (T : Nat → Int) (n : Nat) (t : jM) (a : Nat) : Prop := t 11 0 42 = (pn T n a).2 ∧ t 11 0 43 = (ptx T n a).2 ∧ t 11 0 44 = (pty T n a).2 ∧ t 11 0 45 = (ptz T n a).2
theorem sq_276 (hT : okT T n) {s : jM} {a : Nat} (h : RP T n s (a, 0)) : ∃ t, jq 276 [.inr (11, 0)] s = some (none, t) ∧ RP T n t (ptp T n a) ∧ TQ s t ∧ RTm T n t a := by
  have h3 : s 11 0 36 = (a : Int) := h.2.2.1
  -- behind the number
  have st : ∀ u : jM, RP T n u (pn T n a).1 → TP s u → ∃ t, (jbI (jq 275 [.inr (11, 0), .inl 120] (jup u 11 0 42 (pn T n a).2)) fun x2 s2 => jbI (jq 275 [.inr (11, 0), .inl 121] (jup s2 11 0 43 x2)) fun x3 s3 => jbI (jq 275 [.inr (11, 0), .inl 122] (jup s3 11 0 44 x3)) fun x4 s4 => if (s4 11 0 37) = 0 then if (s4 11 0 36) = (s 11 0 36) then some (none, (jup (jup s4 11 0 45 x4) 11 0 37 1)) else some (none, (jup (jup s4 11 0 45 x4) 11 0 37 0)) else some (none, (jup (jup s4 11 0 45 x4) 11 0 37 1))) = some (none, t) ∧ RP T n t (ptp T n a) ∧ TQ s t ∧ RTm T n t a := fun u hu hsu => by
    obtain ⟨b, b1, b2, b3⟩ := sq_275 hT (s := jup u 11 0 42 (pn T n a).2) (RP_c hu (fun k i j z => jup_n _ _ _ _ _ _ _ _ (by omega))) 120 (by decide)
    have b2 : RP T n b (ptx T n a).1 := b2
    obtain ⟨c, c1, c2, c3⟩ := sq_275 hT (s := jup b 11 0 43 (ptx T n a).2) (RP_c b2 (fun k i j z => jup_n _ _ _ _ _ _ _ _ (by omega))) 121 (by decide)
    have c2 : RP T n c (pty T n a).1 := c2
    obtain ⟨d, d1, d2, d3⟩ := sq_275 hT (s := jup c 11 0 44 (pty T n a).2) (RP_c c2 (fun k i j z => jup_n _ _ _ _ _ _ _ _ (by omega))) 122 (by decide)
    have d2 : RP T n d (ptz T n a).1 := d2
    have d36 := d2.2.2.1
    have d37 := d2.2.2.2.1
    have hz01 := d2.2.2.2.2.1
    have hzn := d2.2.2.2.2.2
    have e42 : d 11 0 42 = (pn T n a).2 := by rw [d3 _ _ _ (by omega), jup_n _ _ _ _ _ _ _ _ (by omega), c3 _ _ _ (by omega), jup_n _ _ _ _ _ _ _ _ (by omega), b3 _ _ _ (by omega), jup_e]
    have e43 : d 11 0 43 = (ptx T n a).2 := by rw [d3 _ _ _ (by omega), jup_n _ _ _ _ _ _ _ _ (by omega), c3 _ _ _ (by omega), jup_e]
    have e44 : d 11 0 44 = (pty T n a).2 := by rw [d3 _ _ _ (by omega), jup_e]
    have hsd : TQ s d := fun k i j z => by rw [d3 _ _ _ (by omega), jup_n _ _ _ _ _ _ _ _ (by omega), c3 _ _ _ (by omega), jup_n _ _ _ _ _ _ _ _ (by omega), b3 _ _ _ (by omega), jup_n _ _ _ _ _ _ _ _ (by omega), hsu _ _ _ (by omega)]
    -- the fault told anew
    have fin : ∀ v : Int, (v = 0 ∨ v = 1) → RP T n (jup (jup d 11 0 45 (ptz T n a).2) 11 0 37 v) ((ptz T n a).1.1, v) ∧ TQ s (jup (jup d 11 0 45 (ptz T n a).2) 11 0 37 v) ∧ RTm T n (jup (jup d 11 0 45 (ptz T n a).2) 11 0 37 v) a := fun v hv => by
      obtain ⟨a1, a2, a3, a4, a5, a6⟩ := d2
      refine ⟨⟨by rw [jup_n _ _ _ _ _ _ _ _ (by omega), jup_n _ _ _ _ _ _ _ _ (by omega)]; exact a1, fun i hi => by rw [jup_n _ _ _ _ _ _ _ _ (by omega), jup_n _ _ _ _ _ _ _ _ (by omega)]; exact a2 i hi, by rw [jup_n _ _ _ _ _ _ _ _ (by omega), jup_n _ _ _ _ _ _ _ _ (by omega)]; exact a3, jup_e _ _ _ _ _, hv, a6⟩, fun k i j z => by rw [jup_n _ _ _ _ _ _ _ _ (by omega), jup_n _ _ _ _ _ _ _ _ (by omega)]; exact hsd k i j z, ?_, ?_, ?_, ?_⟩
      · rw [jup_n _ _ _ _ _ _ _ _ (by omega), jup_n _ _ _ _ _ _ _ _ (by omega)]; exact e42
      · rw [jup_n _ _ _ _ _ _ _ _ (by omega), jup_n _ _ _ _ _ _ _ _ (by omega)]; exact e43
      · rw [jup_n _ _ _ _ _ _ _ _ (by omega), jup_n _ _ _ _ _ _ _ _ (by omega)]; exact e44
      · rw [jup_n _ _ _ _ _ _ _ _ (by omega), jup_e]
    rw [b1, jbI_s]
    show ∃ t, (jbI (jq 275 [.inr (11, 0), .inl 121] (jup b 11 0 43 (ptx T n a).2)) fun x3 s3 => jbI (jq 275 [.inr (11, 0), .inl 122] (jup s3 11 0 44 x3)) fun x4 s4 => _) = _ ∧ _ ∧ _ ∧ _
    rw [c1, jbI_s]
    show ∃ t, (jbI (jq 275 [.inr (11, 0), .inl 122] (jup c 11 0 44 (pty T n a).2)) fun x4 s4 => _) = _ ∧ _ ∧ _ ∧ _
    rw [d1, jbI_s, d37, d36, h3]
    unfold ptp
    by_cases c0 : (ptz T n a).1.2 = 0
    · rw [if_pos c0]
      by_cases c4 : (ptz T n a).1.1 = a
      · have f := fin 1 (Or.inr rfl)
        rw [if_pos (by omega), if_pos ⟨c0, c4⟩]
        rw [c4] at f
        exact ⟨_, rfl, f⟩
      · have f := fin 0 (Or.inl rfl)
        rw [if_neg (by omega), if_neg (fun z => c4 z.2)]
        rw [← pz0 c0] at f
        exact ⟨_, rfl, f⟩
    · have f := fin 1 (Or.inr rfl)
      rw [if_neg c0, if_neg (fun z => c0 z.1)]
      rw [← RP_bad d2 c0] at f
      exact ⟨_, rfl, f⟩
  rw [bq_276, sq_269 hT h, jbI_s]
  by_cases c0 : 48 ≤ nx T n a ∧ nx T n a ≤ 57
  · have e : pn T n a = pfs T n (a, 0) := if_pos c0
    obtain ⟨u, u1, u2, u3⟩ := sq_272 hT h
    rw [← e] at u1 u2
    rw [bI_t c0, if_neg (show ¬ (1 : Int) = 0 by decide), u1, jbI_s]
    exact st u u2 u3
  · have e : pn T n a = ((a, 0), 1) := if_neg c0
    rw [bI_f c0, if_pos rfl]
    have := st s (by rw [e]; exact h) (TP_r s)
    rw [e] at this
    exact this
/-- a sum told -/
theorem sj_277 (hT : okT T n) : ∀ (f a : Nat) (sg : Int) (s : jM), n + 1 ≤ a + f → RP T n s (a, 0) → ∃ t, (jbV (jq 276 [.inr (11, 0)] s) fun s1 => je 277 4 [some (.inr (11, 0))] [] s1) = some (none, t) ∧ RP T n t (psm T n f a sg).2 ∧ TQ s t
  | 0, a, sg, s, hf, h => absurd hf (by have : a ≤ n := h.2.2.2.2.2; omega)
  | f + 1, a, sg, s, hf, h => by
    have ha : a ≤ n := h.2.2.2.2.2
    have hn := hT.1
    obtain ⟨t, t1, t2, t3, -⟩ := sq_276 hT h
    obtain ⟨p1, p2, p3, p4, -⟩ := pt_ok hT a ha
    rw [t1, jbV_s, be_277_4, t2.2.2.2.1]
    unfold psm
    by_cases c0 : (ptp T n a).2 = 0
    · have p4 := p4 c0
      have t36 : t 11 0 36 = ((ptp T n a).1 : Int) := t2.2.2.1
      rw [if_pos c0, if_pos c0, sq_268 hT t2, jbI_s]
      have hup := RP_u (a := (ptp T n a).1) (b := 0) (by rw [← pz0 c0]; exact t2) ((ptp T n a).1 + 1)
      by_cases c1 : nx T n (ptp T n a).1 = 43
      · have h1 := (nx_ok hT (ptp T n a).1).2.2.2 (by omega)
        obtain ⟨u, u1, u2, u3⟩ := sj_277 hT f ((ptp T n a).1 + 1) 1 (jup t 11 0 36 (((ptp T n a).1 + 1 : Nat) : Int)) (by omega) (hup h1)
        rw [if_pos c1, if_pos c1, t36, jwn (x := ((ptp T n a).1 : Int) + 1) (n := (ptp T n a).1 + 1) (by omega) (by omega)]
        exact ⟨u, u1, u2, TQ_t t3 (TQ_t (fun k i j z => jup_n _ _ _ _ _ _ _ _ (by omega)) u3)⟩
      · rw [if_neg c1, if_neg c1, sq_268 hT t2, jbI_s]
        by_cases c2 : nx T n (ptp T n a).1 = 45
        · have h1 := (nx_ok hT (ptp T n a).1).2.2.2 (by omega)
          obtain ⟨u, u1, u2, u3⟩ := sj_277 hT f ((ptp T n a).1 + 1) (-1) (jup t 11 0 36 (((ptp T n a).1 + 1 : Nat) : Int)) (by omega) (hup h1)
          rw [if_pos c2, if_pos c2, t36, jwn (x := ((ptp T n a).1 : Int) + 1) (n := (ptp T n a).1 + 1) (by omega) (by omega)]
          exact ⟨u, u1, u2, TQ_t t3 (TQ_t (fun k i j z => jup_n _ _ _ _ _ _ _ _ (by omega)) u3)⟩
        · rw [if_neg c2, if_neg c2]
          exact ⟨t, rfl, t2, t3⟩
    · rw [if_neg c0, if_neg c0]
      exact ⟨t, rfl, t2, t3⟩
/-- a word -/
theorem sj_273 (hT : okT T n) {s : jM} {e : Nat} (h : RP T n s (e, 0)) (a k : Nat) (hk : k < 4) (he : e = a + jsl k) : ∀ c i, i + c = jsl k → je 273 22 [some (.inr (11, 0)), some (.inl (a : Int)), some (.inr (73, k)), some (.inl 1), some (.inl (i : Int))] [] s = some (some (.inl (mwd T n k a c i)), s)
  | 0, i, hi => by rw [be_273_22, sq_301 k hk, jbI_s, if_neg (by omega), if_pos (Or.inr rfl)]; rfl
  | c + 1, i, hi => by
    have hn := hT.1
    have hl := jsl_4 k hk
    have hen : e ≤ n := h.2.2.2.2.2
    have en : nx T n (a + i) = T (a + i) := by unfold nx; rw [if_pos (by omega)]
    rw [be_273_22, sq_301 k hk, jbI_s, if_pos (by omega), if_neg (by decide), jwn (x := (a : Int) + i) (n := a + i) (by omega) (by omega), if_pos (by omega), sq_302 k i hk (by omega), jbI_s, Int.toNat_natCast, h.2.1 (a + i) (by omega), jwn (x := (i : Int) + 1) (n := i + 1) (by omega) (by omega)]
    unfold mwd
    rw [en]
    by_cases c1 : T (a + i) = jsb k i
    · rw [if_pos c1, if_pos c1]
      exact sj_273 hT h a k hk he c (i + 1) (by omega)
    · rw [if_neg c1, if_neg c1, be_273_22, sq_301 k hk, jbI_s]
      by_cases c2 : ((i + 1 : Nat) : Int) < (jsl k : Int)
      · rw [if_pos c2, if_pos rfl, if_pos (Or.inl rfl)]
      · rw [if_neg c2, if_pos (Or.inl rfl)]
theorem sq_273 (hT : okT T n) {s : jM} {a e : Nat} (h : RP T n s (e, 0)) (k : Nat) (hk : k < 4) (hae : a ≤ e) : jq 273 [.inr (11, 0), .inl (a : Int), .inr (73, k)] s = some (some (.inl (wis T n k a e)), s) := by
  have h3 : s 11 0 36 = (e : Int) := h.2.2.1
  have hn := hT.1
  have hl := jsl_4 k hk
  have hen : e ≤ n := h.2.2.2.2.2
  rw [bq_273, sq_301 k hk, jbI_s, h3, jwi (x := (e : Int) - a) (by omega) (by omega)]
  unfold wis
  by_cases c : e = a + jsl k
  · rw [if_pos (by omega), if_pos c]
    exact sj_273 hT h a k hk c (jsl k) 0 (by omega)
  · rw [if_neg (by omega), if_neg c, be_273_22, sq_301 k hk, jbI_s, if_pos (by omega), if_pos rfl, if_pos (Or.inl rfl)]
theorem sj_274 (hT : okT T n) (a : Nat) : ∀ (f e : Nat) (s : jM) (o2 : Option jV), a ≤ e → n ≤ e + f → RP T n s (e, 0) → ∃ t, je 274 5 [some (.inr (11, 0)), some (.inl (a : Int)), o2] [] s = some (some (.inl (wrd T n a (wen T n f e))), t) ∧ TP s t ∧ RP T n t (if wrd T n a (wen T n f e) = -1 then (a, 1) else (wen T n f e, 0))
  | f, e, s, o2, hae, hf, h => by
    have hn := hT.1
    have hen : e ≤ n := h.2.2.2.2.2
    rw [be_274_5, sq_268 hT h, jbI_s, sq_200, jbI_s]
    by_cases c0 : 97 ≤ nx T n e ∧ nx T n e ≤ 122
    · have h1 := (nx_ok hT e).2.2.2 (by omega)
      obtain ⟨g, rfl⟩ : ∃ g, f = g + 1 := ⟨f - 1, by omega⟩
      have ew : wen T n (g + 1) e = wen T n g (e + 1) := if_pos c0
      have h36 : s 11 0 36 = (e : Int) := h.2.2.1
      obtain ⟨t, t1, t2, t3⟩ := sj_274 hT a g (e + 1) (jup s 11 0 36 ((e + 1 : Nat) : Int)) o2 (by omega) (by omega) (RP_u h (e + 1) h1)
      rw [bI_t c0, if_neg (show ¬ (1 : Int) = 0 by decide), h36, jwn (x := (e : Int) + 1) (n := e + 1) (by omega) (by omega), ew]
      exact ⟨t, t1, TP_t (fun k i j z => jup_n _ _ _ _ _ _ _ _ (by omega)) t2, t3⟩
    · have ew : wen T n f e = e := by
        cases f with
        | zero => rfl
        | succ g => exact if_neg c0
      rw [bI_f c0, if_pos rfl, ew]
      unfold wrd
      rw [sq_273 hT h 0 (by omega) hae, jbI_s]
      by_cases d0 : wis T n 0 a e = 0
      · rw [if_pos d0, if_neg (fun z => z d0), sq_273 hT h 1 (by omega) hae, jbI_s]
        by_cases d1 : wis T n 1 a e = 0
        · rw [if_pos d1, if_neg (fun z => z d1), sq_273 hT h 2 (by omega) hae, jbI_s]
          by_cases d2 : wis T n 2 a e = 0
          · rw [if_pos d2, if_neg (fun z => z d2), sq_273 hT h 3 (by omega) hae, jbI_s]
            by_cases d3 : wis T n 3 a e = 0
            · rw [if_pos d3, if_neg (fun z => z d3), if_pos rfl]
              refine ⟨_, rfl, fun k i j z => by rw [jup_n _ _ _ _ _ _ _ _ (by omega), jup_n _ _ _ _ _ _ _ _ (by omega)], ?_⟩
              obtain ⟨a1, a2, a3, a4, a5, a6⟩ := h
              exact ⟨by rw [jup_n _ _ _ _ _ _ _ _ (by omega), jup_n _ _ _ _ _ _ _ _ (by omega)]; exact a1, fun i hi => by rw [jup_n _ _ _ _ _ _ _ _ (by omega), jup_n _ _ _ _ _ _ _ _ (by omega)]; exact a2 i hi, by rw [jup_n _ _ _ _ _ _ _ _ (by omega), jup_e], jup_e _ _ _ _ _, Or.inr rfl, by show a ≤ n; omega⟩
            · rw [if_neg d3, if_pos d3]
              exact ⟨s, rfl, TP_r s, by rw [if_neg (by decide)]; exact h⟩
          · rw [if_neg d2, if_pos d2]
            exact ⟨s, rfl, TP_r s, by rw [if_neg (by decide)]; exact h⟩
        · rw [if_neg d1, if_pos d1]
          exact ⟨s, rfl, TP_r s, by rw [if_neg (by decide)]; exact h⟩
      · rw [if_neg d0, if_pos d0]
        exact ⟨s, rfl, TP_r s, by rw [if_neg (by decide)]; exact h⟩
theorem sq_274 (hT : okT T n) {s : jM} {a : Nat} (h : RP T n s (a, 0)) : ∃ t, jq 274 [.inr (11, 0)] s = some (some (.inl (ww T n a)), t) ∧ TP s t ∧ RP T n t (if ww T n a = -1 then (a, 1) else (we T n a, 0)) := by
  have h3 : s 11 0 36 = (a : Int) := h.2.2.1
  have hn := hT.1
  obtain ⟨t, t1, t2, t3⟩ := sj_274 hT a 80 a s none (Nat.le_refl a) (by omega) h
  exact ⟨t, by rw [bq_274, h3]; exact t1, t2, t3⟩
end
