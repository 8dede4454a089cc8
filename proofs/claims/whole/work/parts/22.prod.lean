/-! contraction, product, lead -/
theorem fold_s {α : Type} (f : Nat → α → α) (a : α) (n : Nat) : fold f a (n + 1) = f n (fold f a n) := rfl
def cst (go gf : Nat → Int) (d e p q : Nat) (h : Nat → Int) : Nat → Int :=
  if ((e : Int) - plev p ≤ (d : Int) - plev q ∧ py p ≤ py q) ∧ pz p ≤ pz q then (fun j => if j = pl (py q - py p) (pz q - pz p) then (h (pl (py q - py p) (pz q - pz p)) + go p * gf q) % 101 else h j) else h
def con (go gf : Nat → Int) (d e : Nat) : Nat → (Nat → Int) := fold (fun p h => fold (fun q h => cst go gf d e p q h) h (mnN d)) (fun _ => 0)
def g21 (h : Nat → Int) : Prop := ∀ j, j < 21 → g101 (h j)
theorem g21_0 : g21 (fun _ => 0) := fun _ _ => ⟨(by decide : (0 : Int) ≤ 0), (by decide : (0 : Int) < 101)⟩
theorem cst_g {go gf : Nat → Int} {d e p q : Nat} {h : Nat → Int} (hh : g21 h) : g21 (cst go gf d e p q h) := by
  unfold cst
  split
  · intro j hj
    show g101 (if j = _ then _ else _)
    split
    · exact em101 _
    · exact hh j hj
  · exact hh
theorem fold_g {α : Type} {P : α → Prop} {f : Nat → α → α} {a : α} (ha : P a) (hf : ∀ n b, P b → P (f n b)) : ∀ n, P (fold f a n)
  | 0 => ha
  | n + 1 => hf _ _ (fold_g ha hf n)
theorem con_g (go gf : Nat → Int) (d e n : Nat) : g21 (con go gf d e n) := fold_g g21_0 (fun p b hb => fold_g hb (fun q c hc => cst_g hc) _) n
theorem sq_75 (s : jM) (f o t d e : Nat) (hd : d ≤ 5) (he : e ≤ d) (hof : o ≠ f) (htf : t ≠ f) (ho : s 1 o 1 = (e : Int)) (ht : s 1 t 1 = (d : Int)) (hgo : g21 (s 16 o)) (hgt : g21 (s 16 t)) : jq 75 [.inr (1, f), .inr (1, o), .inr (1, t)] s = some (none, fset s f ((d : Int) - e) (con (s 16 o) (s 16 t) d e (mnN e))) := by
  have h21 := (mnN_le d hd).2
  have h21e := (mnN_le e (by omega)).2
  rw [bq_75, ho, ht, jwi (x := (d : Int) - e) (by omega) (by omega), sq_65, jbV_s]
  have outer : ∀ k p o4 o5 o6 o7, p + k = mnN e → je 75 15 [some (.inr (1, f)), some (.inr (1, o)), some (.inr (1, t)), some (.inl (p : Int)), o4, o5, o6, o7] [] (fset s f ((d : Int) - e) (con (s 16 o) (s 16 t) d e p)) = some (none, fset s f ((d : Int) - e) (con (s 16 o) (s 16 t) d e (mnN e))) := by
    intro k
    induction k with
    | zero =>
      intro p o4 o5 o6 o7 hp
      have hp : p = mnN e := hp
      subst hp
      rw [be_75_15, sq_61 _ o e (by rw [fset_o _ _ _ _ _ _ _ (by omega) (by omega)]; exact ho) (by omega), jbI_s, if_neg (by omega)]
    | succ k ih =>
      intro p o4 o5 o6 o7 hp
      rw [be_75_15, sq_61 _ o e (by rw [fset_o _ _ _ _ _ _ _ (by omega) (by omega)]; exact ho) (by omega), jbI_s, if_pos (by omega)]
      have inner : ∀ k2 q o5 o6 o7, q + k2 = mnN d → je 75 26 [some (.inr (1, f)), some (.inr (1, o)), some (.inr (1, t)), some (.inl (p : Int)), some (.inl (q : Int)), o5, o6, o7] [] (fset s f ((d : Int) - e) (fold (fun q h => cst (s 16 o) (s 16 t) d e p q h) (con (s 16 o) (s 16 t) d e p) q)) = some (none, fset s f ((d : Int) - e) (con (s 16 o) (s 16 t) d e (mnN e))) := by
        intro k2
        induction k2 with
        | zero =>
          intro q o5 o6 o7 hq
          have hq : q = mnN d := hq
          subst hq
          rw [be_75_26, sq_61 _ t d (by rw [fset_o _ _ _ _ _ _ _ (by omega) (by omega)]; exact ht) hd, jbI_s, if_neg (by omega), jwn (x := (p : Int) + 1) (n := p + 1) (by omega) (by omega)]
          exact ih (p + 1) _ _ _ _ (by omega)
        | succ k2 ih2 =>
          intro q o5 o6 o7 hq
          have hh : g21 (fold (fun q h => cst (s 16 o) (s 16 t) d e p q h) (con (s 16 o) (s 16 t) d e p) q) := fold_g (con_g _ _ _ _ _) (fun q c hc => cst_g hc) q
          have hnext := fun a b c => ih2 (q + 1) a b c (by omega)
          rw [fold_s] at hnext
          generalize hF : fold (fun q h => cst (s 16 o) (s 16 t) d e p q h) (con (s 16 o) (s 16 t) d e p) q = F at hh hnext ⊢
          obtain ⟨q1, q2, q3, q4, q5, -⟩ := jyp_py q (by omega)
          obtain ⟨p1, p2, p3, p4, p5, -⟩ := jyp_py p (by omega)
          have hlq := (mn_lev d hd q (by omega)).mp (by omega)
          have hlp := (mn_lev e (by omega) p (by omega)).mp (by omega)
          generalize hS : fset s f ((d : Int) - e) F = S
          have hSt : S 1 t 1 = (d : Int) := by rw [← hS, fset_o _ _ _ _ _ _ _ (by omega) (by omega)]; exact ht
          have hSo : S 1 o 1 = (e : Int) := by rw [← hS, fset_o _ _ _ _ _ _ _ (by omega) (by omega)]; exact ho
          rw [be_75_26, sq_61 _ t d hSt hd, jbI_s, if_pos (by omega), hSt, sq_47 d q hd (by omega), jbI_s, hSo, sq_47 e p (by omega) (by omega), jbI_s, if_pos (by omega), if_pos (by omega), if_pos (by omega), if_pos (by omega), Int.toNat_natCast, Int.toNat_natCast, q1, q2, p1, p2,
            jwi (x := (d : Int) - plev q - ((e : Int) - plev p)) (by omega) (by omega), jwi (x := (py q : Int) - py p) (by omega) (by omega), jwi (x := (pz q : Int) - pz p) (by omega) (by omega), jwn (x := (q : Int) + 1) (n := q + 1) (by omega) (by omega)]
          by_cases c1 : (d : Int) - plev q - ((e : Int) - plev p) < 0
          · rw [if_pos c1]
            have : cst (s 16 o) (s 16 t) d e p q F = F := by unfold cst; exact if_neg (fun z => by omega)
            rw [this] at hnext
            rw [← hS]
            exact hnext _ _ _
          · rw [if_neg c1]
            by_cases c2 : (py q : Int) - py p < 0
            · rw [if_pos c2]
              have : cst (s 16 o) (s 16 t) d e p q F = F := by unfold cst; exact if_neg (fun z => by omega)
              rw [this] at hnext
              rw [← hS]
              exact hnext _ _ _
            · rw [if_neg c2]
              by_cases c3 : (pz q : Int) - pz p < 0
              · rw [if_pos c3]
                have : cst (s 16 o) (s 16 t) d e p q F = F := by unfold cst; exact if_neg (fun z => by omega)
                rw [this] at hnext
                rw [← hS]
                exact hnext _ _ _
              · rw [if_neg c3]
                have hy : py q - py p + (pz q - pz p) ≤ 5 := by unfold plev at hlq hlp; omega
                obtain ⟨hpl, -, -⟩ := pl_lt (py q - py p) (by omega) (pz q - pz p) (by omega) hy
                have hm := mul101 (hgo p (by omega)) (hgt q (by omega))
                rw [show (.inl ((py q : Int) - py p) : jV) = .inl ((py q - py p : Nat) : Int) by congr 1; omega, show (.inl ((pz q : Int) - pz p) : jV) = .inl ((pz q - pz p : Nat) : Int) by congr 1; omega, sq_46 _ _ (by omega) (by omega), jbI_s, sq_62 o p (by omega), jbI_s, sq_62 t q (by omega), jbI_s]
                have e1 : S 16 o p = s 16 o p := by rw [← hS, fset_o _ _ _ _ _ _ _ (by omega) (by omega)]
                have e2 : S 16 t q = s 16 t q := by rw [← hS, fset_o _ _ _ _ _ _ _ (by omega) (by omega)]
                have e3 : S 16 f (pl (py q - py p) (pz q - pz p)) = F (pl (py q - py p) (pz q - pz p)) := by rw [← hS, fset_n _ _ _ _ _ hpl]
                rw [e1, e2, jwi (x := s 16 o p * s 16 t q) (by omega) (by omega), sq_64 _ f _ hpl _ (by rw [e3]; exact hh _ hpl) hm, jbV_s, e3, ← hS, fset_up _ _ _ _ _ hpl]
                have : cst (s 16 o) (s 16 t) d e p q F = (fun j => if j = pl (py q - py p) (pz q - pz p) then (F (pl (py q - py p) (pz q - pz p)) + s 16 o p * s 16 t q) % 101 else F j) := by unfold cst; exact if_pos (by omega)
                rw [this] at hnext
                exact hnext _ _ _
      exact inner (mnN d) 0 o5 o6 o7 (by omega)
  exact outer (mnN e) 0 none none none none (by omega)
def pst (g1 g2 : Nat → Int) (p q : Nat) (h : Nat → Int) : Nat → Int := fun j => if j = pl (py p + py q) (pz p + pz q) then (h (pl (py p + py q) (pz p + pz q)) + g1 p * g2 q) % 101 else h j
def prd (g1 g2 : Nat → Int) (d2 : Nat) : Nat → (Nat → Int) := fold (fun p h => fold (fun q h => pst g1 g2 p q h) h (mnN d2)) (fun _ => 0)
theorem pst_g {g1 g2 : Nat → Int} {p q : Nat} {h : Nat → Int} (hh : g21 h) : g21 (pst g1 g2 p q h) := by
  intro j hj
  unfold pst
  split
  · exact em101 _
  · exact hh j hj
theorem prd_g (g1 g2 : Nat → Int) (d2 n : Nat) : g21 (prd g1 g2 d2 n) := fold_g g21_0 (fun p b hb => fold_g hb (fun q c hc => pst_g hc) _) n
theorem sq_76 (s : jM) (f o t d1 d2 : Nat) (hd : d1 + d2 ≤ 5) (hof : o ≠ f) (htf : t ≠ f) (ho : s 1 o 1 = (d1 : Int)) (ht : s 1 t 1 = (d2 : Int)) (hgo : g21 (s 16 o)) (hgt : g21 (s 16 t)) : jq 76 [.inr (1, f), .inr (1, o), .inr (1, t)] s = some (none, fset s f ((d1 : Int) + d2) (prd (s 16 o) (s 16 t) d2 (mnN d1))) := by
  have h21 := (mnN_le d2 (by omega)).2
  have h21e := (mnN_le d1 (by omega)).2
  rw [bq_76, ho, ht, jwi (x := (d1 : Int) + d2) (by omega) (by omega), sq_65, jbV_s]
  have outer : ∀ k p o4 o5, p + k = mnN d1 → je 76 15 [some (.inr (1, f)), some (.inr (1, o)), some (.inr (1, t)), some (.inl (p : Int)), o4, o5] [] (fset s f ((d1 : Int) + d2) (prd (s 16 o) (s 16 t) d2 p)) = some (none, fset s f ((d1 : Int) + d2) (prd (s 16 o) (s 16 t) d2 (mnN d1))) := by
    intro k
    induction k with
    | zero =>
      intro p o4 o5 hp
      have hp : p = mnN d1 := hp
      subst hp
      rw [be_76_15, sq_61 _ o d1 (by rw [fset_o _ _ _ _ _ _ _ (by omega) (by omega)]; exact ho) (by omega), jbI_s, if_neg (by omega)]
    | succ k ih =>
      intro p o4 o5 hp
      rw [be_76_15, sq_61 _ o d1 (by rw [fset_o _ _ _ _ _ _ _ (by omega) (by omega)]; exact ho) (by omega), jbI_s, if_pos (by omega)]
      have inner : ∀ k2 q o5, q + k2 = mnN d2 → je 76 26 [some (.inr (1, f)), some (.inr (1, o)), some (.inr (1, t)), some (.inl (p : Int)), some (.inl (q : Int)), o5] [] (fset s f ((d1 : Int) + d2) (fold (fun q h => pst (s 16 o) (s 16 t) p q h) (prd (s 16 o) (s 16 t) d2 p) q)) = some (none, fset s f ((d1 : Int) + d2) (prd (s 16 o) (s 16 t) d2 (mnN d1))) := by
        intro k2
        induction k2 with
        | zero =>
          intro q o5 hq
          have hq : q = mnN d2 := hq
          subst hq
          rw [be_76_26, sq_61 _ t d2 (by rw [fset_o _ _ _ _ _ _ _ (by omega) (by omega)]; exact ht) (by omega), jbI_s, if_neg (by omega), jwn (x := (p : Int) + 1) (n := p + 1) (by omega) (by omega)]
          exact ih (p + 1) _ _ (by omega)
        | succ k2 ih2 =>
          intro q o5 hq
          have hh : g21 (fold (fun q h => pst (s 16 o) (s 16 t) p q h) (prd (s 16 o) (s 16 t) d2 p) q) := fold_g (prd_g _ _ _ _) (fun q c hc => pst_g hc) q
          have hnext := fun a => ih2 (q + 1) a (by omega)
          rw [fold_s] at hnext
          generalize hF : fold (fun q h => pst (s 16 o) (s 16 t) p q h) (prd (s 16 o) (s 16 t) d2 p) q = F at hh hnext ⊢
          obtain ⟨q1, q2, q3, q4, q5, -⟩ := jyp_py q (by omega)
          obtain ⟨p1, p2, p3, p4, p5, -⟩ := jyp_py p (by omega)
          have hlq := (mn_lev d2 (by omega) q (by omega)).mp (by omega)
          have hlp := (mn_lev d1 (by omega) p (by omega)).mp (by omega)
          generalize hS : fset s f ((d1 : Int) + d2) F = S
          have hSt : S 1 t 1 = (d2 : Int) := by rw [← hS, fset_o _ _ _ _ _ _ _ (by omega) (by omega)]; exact ht
          have hy : (py p + py q) + (pz p + pz q) ≤ 5 := by unfold plev at hlq hlp; omega
          obtain ⟨hpl, -, -⟩ := pl_lt (py p + py q) (by omega) (pz p + pz q) (by omega) hy
          have hm := mul101 (hgo p (by omega)) (hgt q (by omega))
          rw [be_76_26, sq_61 _ t d2 hSt (by omega), jbI_s, if_pos (by omega), if_pos (by omega), if_pos (by omega), if_pos (by omega), if_pos (by omega), Int.toNat_natCast, Int.toNat_natCast, q1, q2, p1, p2, jwn (x := (py p : Int) + py q) (n := py p + py q) (by omega) (by omega), jwn (x := (pz p : Int) + pz q) (n := pz p + pz q) (by omega) (by omega), sq_46 _ _ (by omega) (by omega), jbI_s, sq_62 o p (by omega), jbI_s, sq_62 t q (by omega), jbI_s]
          have e1 : S 16 o p = s 16 o p := by rw [← hS, fset_o _ _ _ _ _ _ _ (by omega) (by omega)]
          have e2 : S 16 t q = s 16 t q := by rw [← hS, fset_o _ _ _ _ _ _ _ (by omega) (by omega)]
          have e3 : S 16 f (pl (py p + py q) (pz p + pz q)) = F (pl (py p + py q) (pz p + pz q)) := by rw [← hS, fset_n _ _ _ _ _ hpl]
          rw [e1, e2, jwi (x := s 16 o p * s 16 t q) (by omega) (by omega), sq_64 _ f _ hpl _ (by rw [e3]; exact hh _ hpl) hm, jbV_s, e3, ← hS, fset_up _ _ _ _ _ hpl, jwn (x := (q : Int) + 1) (n := q + 1) (by omega) (by omega)]
          exact hnext _
      exact inner (mnN d2) 0 o5 (by omega)
  exact outer (mnN d1) 0 none none (by omega)
/-- how many stand ahead of a place by size -/
def ahead (g : Nat → Int) (m : Nat) : Nat → Nat
  | 0 => 0
  | n + 1 => ahead g m n + if g m < g n ∨ (g n = g m ∧ n < m) then 1 else 0
theorem ahead_le (g : Nat → Int) (m : Nat) : ∀ n, ahead g m n ≤ n
  | 0 => Nat.le_refl 0
  | n + 1 => by
    have := ahead_le g m n
    unfold ahead
    split <;> omega
theorem ahead_yes {g : Nat → Int} {m i : Nat} (h : g m < g i ∨ (g i = g m ∧ i < m)) : ahead g m (i + 1) = ahead g m i + 1 := by rw [ahead, if_pos h]
theorem ahead_no {g : Nat → Int} {m i : Nat} (h : ¬ (g m < g i ∨ (g i = g m ∧ i < m))) : ahead g m (i + 1) = ahead g m i := by rw [ahead, if_neg h]; rfl
theorem sq_78 (s : jM) (f d m : Nat) (h : s 1 f 1 = (d : Int)) (hd : d ≤ 5) (hm : m < 21) : jq 78 [.inr (1, f), .inl (m : Int)] s = some (some (.inl (ahead (s 16 f) m (mnN d) : Int)), s) := by
  have h21 := (mnN_le d hd).2
  rw [bq_78]
  refine loopI (P := fun i => je 78 4 [some (.inr (1, f)), some (.inl (m : Int)), some (.inl (ahead (s 16 f) m i : Int)), some (.inl (i : Int))] [] s) (n := mnN d) (fun i hi => ?_) ?_
  · have hc := ahead_le (s 16 f) m i
    show je 78 4 _ [] s = _
    rw [be_78_4, sq_61 s f d h hd, jbI_s, if_pos (by omega), sq_62 f i (by omega), jbI_s, sq_62 f m hm, jbI_s, jwn (x := (i : Int) + 1) (n := i + 1) (by omega) (by omega)]
    by_cases e : s 16 f m < s 16 f i
    · rw [if_pos e, jwn (x := (ahead (s 16 f) m i : Int) + 1) (n := ahead (s 16 f) m (i + 1)) (by rw [ahead_yes (Or.inl e)]; omega) (by rw [ahead_yes (Or.inl e)]; omega)]
    · rw [if_neg e, sq_62 f i (by omega), jbI_s, sq_62 f m hm, jbI_s]
      by_cases e2 : s 16 f i = s 16 f m
      · rw [if_pos e2]
        by_cases e3 : (i : Int) < m
        · rw [if_pos e3, jwn (x := (ahead (s 16 f) m i : Int) + 1) (n := ahead (s 16 f) m (i + 1)) (by rw [ahead_yes (Or.inr ⟨e2, by omega⟩)]; omega) (by rw [ahead_yes (Or.inr ⟨e2, by omega⟩)]; omega)]
        · rw [if_neg e3, ahead_no (fun z => by rcases z with z | z <;> omega)]
      · rw [if_neg e2, ahead_no (fun z => by rcases z with z | z; exact e z; exact e2 z.1)]
  · show je 78 4 _ [] s = _
    rw [be_78_4, sq_61 s f d h hd, jbI_s, if_neg (by omega)]
/-- the first place with a number, with k ahead of it; n: none -/
def leadN (g : Nat → Int) (k : Int) (n : Nat) : Nat → Nat → Nat
  | 0, m => m
  | c + 1, m => if g m ≠ 0 ∧ (ahead g m n : Int) = k then m else leadN g k n c (m + 1)
theorem leadN_le (g : Nat → Int) (k : Int) (n : Nat) : ∀ c m, m ≤ leadN g k n c m ∧ leadN g k n c m ≤ m + c
  | 0, m => ⟨Nat.le_refl _, Nat.le_refl _⟩
  | c + 1, m => by
    have := leadN_le g k n c (m + 1)
    unfold leadN
    split <;> omega
theorem sq_77 (s : jM) (f d : Nat) (k : Int) (h : s 1 f 1 = (d : Int)) (hd : d ≤ 5) : jq 77 [.inr (1, f), .inl k] s = some (some (.inl (if leadN (s 16 f) k (mnN d) (mnN d) 0 < mnN d then (leadN (s 16 f) k (mnN d) (mnN d) 0 : Int) else -1)), s) := by
  have h21 := (mnN_le d hd).2
  rw [bq_77]
  have key : ∀ c m, m + c = mnN d → je 77 2 [some (.inr (1, f)), some (.inl k), some (.inl (m : Int))] [] s = some (some (.inl (if leadN (s 16 f) k (mnN d) c m < mnN d then (leadN (s 16 f) k (mnN d) c m : Int) else -1)), s) := by
    intro c
    induction c with
    | zero =>
      intro m hm
      rw [be_77_2, sq_61 s f d h hd, jbI_s, if_neg (by omega), leadN, if_neg (by omega)]
    | succ c ih =>
      intro m hm
      rw [be_77_2, sq_61 s f d h hd, jbI_s, if_pos (by omega), sq_62 f m (by omega), jbI_s, jwn (x := (m : Int) + 1) (n := m + 1) (by omega) (by omega)]
      by_cases e : s 16 f m = 0
      · have hl : leadN (s 16 f) k (mnN d) (c + 1) m = leadN (s 16 f) k (mnN d) c (m + 1) := by rw [leadN, if_neg (fun z => z.1 e)]
        rw [if_pos e, ih (m + 1) (by omega), hl]
      · rw [if_neg e, sq_78 s f d m h hd (by omega), jbI_s]
        by_cases e2 : (ahead (s 16 f) m (mnN d) : Int) = k
        · have hl : leadN (s 16 f) k (mnN d) (c + 1) m = m := by rw [leadN, if_pos ⟨e, e2⟩]
          rw [if_pos e2, hl, if_pos (by omega)]
        · have hl : leadN (s 16 f) k (mnN d) (c + 1) m = leadN (s 16 f) k (mnN d) c (m + 1) := by rw [leadN, if_neg (fun z => e2 z.2)]
          rw [if_neg e2, ih (m + 1) (by omega), hl]
  exact key (mnN d) 0 (by omega)
