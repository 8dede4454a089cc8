/-! THE TEXT: the sum of a form act in the reference, whole -/
section
variable {T : Nat → Int} {n : Nat}
/-- the answer of the sum from a on: its terms have the degree D or not -/
def SumGo (T : Nat → Int) (n f a : Nat) (sg D : Int) (g : Nat → Int) (s : jM) (o : Option jR) : Prop := ∃ (ok : Int) (t : jM), o = some (some (.inl ok), t) ∧ XM s t ∧ ((ok = 1 ∧ (∀ x, x ∈ (psm T n f a sg).1 → tdeg x = D) ∧ t 11 0 21 = D ∧ t 11 0 37 = 0 ∧ ∀ j, j < 21 → t 47 0 j = (psm T n f a sg).1.foldl tadd g j) ∨ (ok = 0 ∧ ¬ ∀ x, x ∈ (psm T n f a sg).1 → tdeg x = D))
theorem psm_eq (f a : Nat) (sg : Int) : psm T n (f + 1) a sg = if (ptp T n a).2 = 0 then (if nx T n (ptp T n a).1 = 43 then (tmr T n a sg :: (psm T n f ((ptp T n a).1 + 1) 1).1, (psm T n f ((ptp T n a).1 + 1) 1).2) else if nx T n (ptp T n a).1 = 45 then (tmr T n a sg :: (psm T n f ((ptp T n a).1 + 1) (-1)).1, (psm T n f ((ptp T n a).1 + 1) (-1)).2) else ([tmr T n a sg], ptp T n a)) else ([], ptp T n a) := rfl
/-- behind a good term of the degree D: the rest -/
theorem sj_280n (hT : okT T n) (f a : Nat) (sg : Int) (g : Nat → Int) (D : Int) (s t : jM) (v1 : Int) (o8 : Option jV) (hf : n + 1 ≤ a + (f + 1)) (ha : a ≤ n) (hst : XM s t) (hp : (ptp T n a).2 = 0) (hgood : (psm T n (f + 1) a sg).2.2 = 0) (hdeg : tdeg (tmr T n a sg) = D) (t2 : RP T n t (if nx T n (ptp T n a).1 = 43 ∨ nx T n (ptp T n a).1 = 45 then (ptp T n a).1 + 1 else (ptp T n a).1, 0)) (t3 : ∀ j, j < 21 → t 47 0 j = tadd g (tmr T n a sg) j) (t5 : t 11 0 21 = D) (ih : ∀ (a' : Nat) (sg' : Int) (u : jM) (o7 : Option jV), a < a' → n + 1 ≤ a' + f → RP T n u (a', 0) → (sg' = 1 ∨ sg' = -1) → (psm T n f a' sg').2.2 = 0 → u 11 0 21 = D → (∀ j, j < 21 → u 47 0 j = tadd g (tmr T n a sg) j) → SumGo T n f a' sg' D (tadd g (tmr T n a sg)) u (je 280 13 [some (.inr (11, 0)), some (.inl v1), some (.inl (n : Int)), some (.inl D), some (.inl 1), some (.inl (if sg' = 1 then 0 else 1)), some (.inl D), o7] [] u)) : SumGo T n (f + 1) a sg D g s (je 280 13 [some (.inr (11, 0)), some (.inl v1), some (.inl (n : Int)), some (.inl D), some (.inl (if nx T n (ptp T n a).1 = 43 ∨ nx T n (ptp T n a).1 = 45 then 1 else 0)), some (.inl (if nx T n (ptp T n a).1 = 45 then 1 else 0)), some (.inl D), o8] [] t) := by
  have hpo := (pt_ok hT a ha).2.2.2.1 hp
  have e := psm_eq (T := T) (n := n) f a sg
  rw [if_pos hp] at e
  unfold SumGo
  rw [e] at hgood ⊢
  -- one more
  have more : ∀ sg' : Int, (sg' = 1 ∨ sg' = -1) → (psm T n f ((ptp T n a).1 + 1) sg').2.2 = 0 → RP T n t ((ptp T n a).1 + 1, 0) → ∃ (ok : Int) (v : jM), je 280 13 [some (.inr (11, 0)), some (.inl v1), some (.inl (n : Int)), some (.inl D), some (.inl 1), some (.inl (if sg' = 1 then 0 else 1)), some (.inl D), o8] [] t = some (some (.inl ok), v) ∧ XM s v ∧ ((ok = 1 ∧ (∀ x, x ∈ tmr T n a sg :: (psm T n f ((ptp T n a).1 + 1) sg').1 → tdeg x = D) ∧ v 11 0 21 = D ∧ v 11 0 37 = 0 ∧ ∀ j, j < 21 → v 47 0 j = (tmr T n a sg :: (psm T n f ((ptp T n a).1 + 1) sg').1).foldl tadd g j) ∨ (ok = 0 ∧ ¬ ∀ x, x ∈ tmr T n a sg :: (psm T n f ((ptp T n a).1 + 1) sg').1 → tdeg x = D)) := fun sg' hs' hg' ht' => by
    obtain ⟨ok, v, w1, w2, w3⟩ := ih ((ptp T n a).1 + 1) sg' t o8 (by omega) (by omega) ht' hs' hg' t5 t3
    refine ⟨ok, v, w1, XM_t hst w2, ?_⟩
    rcases w3 with ⟨x1, x2, x3, x4, x5⟩ | ⟨x1, x2⟩
    · refine Or.inl ⟨x1, fun x hx => ?_, x3, x4, fun j hj => x5 j hj⟩
      rcases List.mem_cons.mp hx with z | z
      · rw [z]; exact hdeg
      · exact x2 x z
    · exact Or.inr ⟨x1, fun y => x2 (fun x hx => y x (List.mem_cons_of_mem _ hx))⟩
  by_cases c43 : nx T n (ptp T n a).1 = 43
  · have c45 : ¬ nx T n (ptp T n a).1 = 45 := by omega
    rw [if_pos c43] at hgood ⊢
    rw [if_pos (Or.inl c43)] at t2 ⊢
    rw [if_neg c45]
    exact more 1 (Or.inl rfl) hgood t2
  · rw [if_neg c43] at hgood ⊢
    by_cases c45 : nx T n (ptp T n a).1 = 45
    · rw [if_pos c45] at hgood ⊢
      rw [if_pos (Or.inr c45)] at t2 ⊢
      rw [if_pos c45]
      exact more (-1) (Or.inr rfl) hgood t2
    · have hno : ¬ (nx T n (ptp T n a).1 = 43 ∨ nx T n (ptp T n a).1 = 45) := fun z => by rcases z with z | z; exact c43 z; exact c45 z
      rw [if_neg c45] at hgood ⊢
      rw [if_neg hno] at t2 ⊢
      rw [if_neg c45, be_280_13, if_pos rfl]
      refine ⟨1, t, rfl, hst, Or.inl ⟨rfl, fun x hx => ?_, t5, t2.2.2.2.1, fun j hj => t3 j hj⟩⟩
      rw [List.mem_singleton.mp hx]; exact hdeg
theorem sj_280r (hT : okT T n) : ∀ (f a : Nat) (sg : Int) (g : Nat → Int) (D : Int) (s : jM) (v1 : Int) (o6 o7 : Option jV), n + 1 ≤ a + f → RP T n s (a, 0) → (sg = 1 ∨ sg = -1) → (psm T n f a sg).2.2 = 0 → 0 ≤ D → D ≤ 5 → s 11 0 21 = D → (∀ j, j < 21 → s 47 0 j = g j) → (∀ j, g101 (g j)) → SumGo T n f a sg D g s (je 280 13 [some (.inr (11, 0)), some (.inl v1), some (.inl (n : Int)), some (.inl D), some (.inl 1), some (.inl (if sg = 1 then 0 else 1)), o6, o7] [] s)
  | 0, a, sg, g, D, s, v1, o6, o7, hf, h, hs, hgood, h0, h5, h21, h47, hg => absurd hf (by have : a ≤ n := h.2.2.2.2.2; omega)
  | f + 1, a, sg, g, D, s, v1, o6, o7, hf, h, hs, hgood, h0, h5, h21, h47, hg => by
    have ha : a ≤ n := h.2.2.2.2.2
    obtain ⟨u, u1, u2, u3, u4⟩ := sq_276 hT h
    have e := psm_eq (T := T) (n := n) f a sg
    by_cases hp : (ptp T n a).2 = 0
    · obtain ⟨-, -, ⟨k3, k4⟩, ⟨k5, k6⟩, k7, k8⟩ := tmr_ok hT a ha sg hs
      have k3 : 0 ≤ (ptx T n a).2 := k3
      have k4 : (ptx T n a).2 ≤ 5 := k4
      have k5 : 0 ≤ (pty T n a).2 := k5
      have k6 : (pty T n a).2 ≤ 5 := k6
      have k7 : 0 ≤ (ptz T n a).2 := k7
      have k8 : (ptz T n a).2 ≤ 5 := k8
      obtain ⟨-, m2, m3, m4⟩ := id u4
      have ed : jw (jw (u 11 0 43 + u 11 0 44) + u 11 0 45) = tdeg (tmr T n a sg) := by
        rw [m2, m3, m4, jwi (x := (ptx T n a).2 + (pty T n a).2) (by omega) (by omega), jwi (by omega) (by omega)]
        rfl
      rw [be_280_13, if_neg (show ¬ (1 : Int) = 0 by decide), u1, jbV_s, if_neg (show ¬ D < 0 by omega), ed]
      by_cases cd : tdeg (tmr T n a sg) = D
      · obtain ⟨t, o8, t1, t2, t3, t4, t5⟩ := sj_280s hT v1 o7 ha hs u2 hp u4 (fun j hj => by rw [u3 _ _ _ (by omega)]; exact h47 j hj) hg cd h5
        rw [if_pos cd, cd, if_neg (show ¬ 5 < D by omega), if_neg (show ¬ D < 0 by omega), t1]
        exact sj_280n hT f a sg g D s t v1 o8 hf ha (XM_t (TQ_M u3) t4) hp hgood cd t2 t3 (by rw [t5, u3 _ _ _ (by omega)]; exact h21) (fun a' sg' w o7 _ hf' hw hs' hg' h21' h47' => sj_280r hT f a' sg' _ D w v1 _ o7 hf' hw hs' hg' h0 h5 h21' h47' (tadd_g hg _))
      · rw [if_neg cd]
        refine ⟨0, u, rfl, TQ_M u3, Or.inr ⟨rfl, fun y => cd (y _ ?_)⟩⟩
        rw [e, if_pos hp]
        split
        · exact List.mem_cons_self
        · split
          · exact List.mem_cons_self
          · exact List.mem_cons_self
    · rw [e, if_neg hp] at hgood
      exact absurd hgood hp
/-- whether the sum from a on has one degree, at most five -/
def sumok (L : List (Int × Int × Int × Int × Int)) : Prop := match L with
  | [] => False
  | hd :: tl => tdeg hd ≤ 5 ∧ ∀ x, x ∈ tl → tdeg x = tdeg hd
theorem sq_280 (hT : okT T n) {s : jM} {a : Nat} {b : Int} (h8 : s 11 0 8 = (n : Int)) (h37 : ∀ i, i < n → s 37 0 i = T i) (hb : s 11 0 37 = 0) (ha : a ≤ n) (hgood : (psm T n 81 a 1).2.2 = 0) : ∃ (ok : Int) (t : jM), jq 280 [.inr (11, 0), .inl (a : Int), .inl (n : Int)] s = some (some (.inl ok), t) ∧ XM s t ∧ ((ok = 1 ∧ sumok (psm T n 81 a 1).1 ∧ (∃ hd tl, (psm T n 81 a 1).1 = hd :: tl ∧ t 11 0 21 = tdeg hd) ∧ t 11 0 37 = 0 ∧ ∀ j, j < 21 → t 47 0 j = tall (psm T n 81 a 1).1 j) ∨ (ok = 0 ∧ ¬ sumok (psm T n 81 a 1).1)) := by
  have hn := hT.1
  have h : RP T n (jup s 11 0 36 (a : Int)) (a, 0) := ⟨by rw [jup_n _ _ _ _ _ _ _ _ (by omega)]; exact h8, fun i hi => by rw [jup_n _ _ _ _ _ _ _ _ (by omega)]; exact h37 i hi, jup_e _ _ _ _ _, by rw [jup_n _ _ _ _ _ _ _ _ (by omega)]; exact hb, Or.inl rfl, ha⟩
  have h0 : XM s (jup s 11 0 36 (a : Int)) := fun k i j z => jup_n _ _ _ _ _ _ _ _ (by omega)
  rw [bq_280]
  generalize jup s 11 0 36 (a : Int) = w at *
  obtain ⟨u, u1, u2, u3, u4⟩ := sq_276 hT h
  have e := psm_eq (T := T) (n := n) 80 a 1
  by_cases hp : (ptp T n a).2 = 0
  · obtain ⟨-, -, ⟨k3, k4⟩, ⟨k5, k6⟩, k7, k8⟩ := tmr_ok hT a ha 1 (Or.inl rfl)
    have k3 : 0 ≤ (ptx T n a).2 := k3
    have k4 : (ptx T n a).2 ≤ 5 := k4
    have k5 : 0 ≤ (pty T n a).2 := k5
    have k6 : (pty T n a).2 ≤ 5 := k6
    have k7 : 0 ≤ (ptz T n a).2 := k7
    have k8 : (ptz T n a).2 ≤ 5 := k8
    obtain ⟨-, m2, m3, m4⟩ := id u4
    have ed : jw (jw (u 11 0 43 + u 11 0 44) + u 11 0 45) = tdeg (tmr T n a 1) := by
      rw [m2, m3, m4, jwi (x := (ptx T n a).2 + (pty T n a).2) (by omega) (by omega), jwi (by omega) (by omega)]
      rfl
    have hd0 : 0 ≤ tdeg (tmr T n a 1) := by
      show 0 ≤ (ptx T n a).2 + (pty T n a).2 + (ptz T n a).2
      omega
    -- the list has the first term at its head
    obtain ⟨tl, htl⟩ : ∃ tl, (psm T n 81 a 1).1 = tmr T n a 1 :: tl := by
      rw [e, if_pos hp]
      split
      · exact ⟨_, rfl⟩
      · split
        · exact ⟨_, rfl⟩
        · exact ⟨_, rfl⟩
    rw [be_280_13, if_neg (show ¬ (1 : Int) = 0 by decide), u1, jbV_s, if_pos (show (-1 : Int) < 0 by decide), ed]
    by_cases c5 : 5 < tdeg (tmr T n a 1)
    · rw [if_pos c5]
      refine ⟨0, u, rfl, XM_t h0 (TQ_M u3), Or.inr ⟨rfl, fun y => ?_⟩⟩
      rw [htl] at y
      have := y.1
      omega
    · have v2 : RP T n (mset u (tdeg (tmr T n a 1)) (fun _ => 0)) (ptp T n a) := RP_c u2 (fun k i j z => mset_o _ _ _ _ _ _ (by omega) (by omega))
      have v3 : XM u (mset u (tdeg (tmr T n a 1)) (fun _ => 0)) := fun k i j z => mset_o _ _ _ _ _ _ (by omega) (by omega)
      have v4 : RTm T n (mset u (tdeg (tmr T n a 1)) (fun _ => 0)) a := by
        unfold RTm
        rw [mset_o _ _ _ _ _ _ (by omega) (by omega), mset_o _ _ _ _ _ _ (by omega) (by omega), mset_o _ _ _ _ _ _ (by omega) (by omega), mset_o _ _ _ _ _ _ (by omega) (by omega)]
        exact u4
      have v5 := mset_d u (tdeg (tmr T n a 1)) (fun _ => 0)
      have v6 : ∀ j, j < 21 → mset u (tdeg (tmr T n a 1)) (fun _ => 0) 47 0 j = 0 := fun j hj => mset_n _ _ _ _ hj
      rw [if_neg c5, if_pos (show (-1 : Int) < 0 by decide), sq_214, jbV_s]
      generalize mset u (tdeg (tmr T n a 1)) (fun _ => 0) = v at *
      obtain ⟨t, o8, t1, t2, t3, t4, t5⟩ := sj_280s hT (g := fun _ => 0) (D := tdeg (tmr T n a 1)) (a : Int) none ha (Or.inl rfl) v2 hp v4 v6 (fun _ => ⟨by decide, by decide⟩) rfl (by omega)
      rw [if_pos rfl] at t1
      have hgo := sj_280n hT 80 a 1 (fun _ => 0) (tdeg (tmr T n a 1)) s t (a : Int) o8 (by omega) ha (XM_t h0 (XM_t (TQ_M u3) (XM_t v3 t4))) hp hgood rfl t2 t3 (by rw [t5]; exact v5) (fun a' sg' w o7 _ hf' hw hs' hg' h21' h47' => sj_280r hT 80 a' sg' _ _ w (a : Int) _ o7 hf' hw hs' hg' hd0 (by omega) h21' h47' (tadd_g (fun _ => ⟨by decide, by decide⟩) _))
      rw [t1]
      obtain ⟨ok, x, x1, x2, x3⟩ := hgo
      refine ⟨ok, x, x1, x2, ?_⟩
      rcases x3 with ⟨y1, y2, y3, y4, y5⟩ | ⟨y1, y2⟩
      · refine Or.inl ⟨y1, ?_, ⟨_, tl, htl, y3⟩, y4, fun j hj => y5 j hj⟩
        rw [htl] at y2 ⊢
        exact ⟨by omega, fun x hx => y2 x (List.mem_cons_of_mem _ hx)⟩
      · refine Or.inr ⟨y1, fun z => y2 ?_⟩
        rw [htl] at z ⊢
        intro x hx
        rcases List.mem_cons.mp hx with q | q
        · rw [q]
        · exact z.2 x q
  · rw [e, if_neg hp] at hgood
    exact absurd hgood hp
end
