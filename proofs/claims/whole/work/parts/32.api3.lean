/-- the reference's product -/
theorem ref_mul (U : jM) (r o t d1 d2 : Nat) (go gt : Nat → Int) (w : Option jR) (hr : r < 4) (ho : o < 4) (ht : t < 4) (hd : d1 + d2 ≤ 5) (h1 : ∀ j, j < 21 → U 30 0 (21 * o + j) = go j) (h2 : ∀ j, j < 21 → U 30 0 (21 * t + j) = gt j) (g1 : g21 go) (g2 : g21 gt)
    (hw : ∀ v6 o7 o8, mnN d1 = v6 → je 226 67 [some (.inr (11, 0)), some (.inl (r : Int)), some (.inl (o : Int)), some (.inl (t : Int)), some (.inl (d1 : Int)), some (.inl (d2 : Int)), some (.inl ((v6 : Nat) : Int)), o7, o8] [] (mset U ((d1 + d2 : Nat) : Int) (prd go gt d2 (mnN d1))) = w) :
    je 226 67 [some (.inr (11, 0)), some (.inl (r : Int)), some (.inl (o : Int)), some (.inl (t : Int)), some (.inl (d1 : Int)), some (.inl (d2 : Int)), some (.inl 0), none, none] [] (mset U ((d1 + d2 : Nat) : Int) (fun _ => 0)) = w := by
  have n1 := (mnN_le d1 (by omega)).2
  have n2 := (mnN_le d2 (by omega)).2
  have outer : ∀ k p o7 o8, p + k = mnN d1 → je 226 67 [some (.inr (11, 0)), some (.inl (r : Int)), some (.inl (o : Int)), some (.inl (t : Int)), some (.inl (d1 : Int)), some (.inl (d2 : Int)), some (.inl (p : Int)), o7, o8] [] (mset U ((d1 + d2 : Nat) : Int) (prd go gt d2 p)) = w := by
    intro k
    induction k with
    | zero =>
      intro p o7 o8 hp
      have hp : p = mnN d1 := hp
      subst hp
      exact hw _ _ _ rfl
    | succ k ih =>
      intro p o7 o8 hp
      rw [be_226_67, sq_203 d1 (by omega), jbI_s, if_pos (by omega)]
      have inner : ∀ k2 q o8, q + k2 = mnN d2 → je 226 80 [some (.inr (11, 0)), some (.inl (r : Int)), some (.inl (o : Int)), some (.inl (t : Int)), some (.inl (d1 : Int)), some (.inl (d2 : Int)), some (.inl (p : Int)), some (.inl (q : Int)), o8] [] (mset U ((d1 + d2 : Nat) : Int) (fold (fun q h => pst go gt p q h) (prd go gt d2 p) q)) = w := by
        intro k2
        induction k2 with
        | zero =>
          intro q o8 hq
          have hq : q = mnN d2 := hq
          subst hq
          rw [be_226_80, sq_203 d2 (by omega), jbI_s, if_neg (by omega), jwi (by omega) (by omega), ca1]
          exact ih (p + 1) _ _ (by omega)
        | succ k2 ih2 =>
          intro q o8 hq
          have hh : g21 (fold (fun q h => pst go gt p q h) (prd go gt d2 p) q) := fold_g (prd_g _ _ _ _) (fun q c hc => pst_g hc) q
          have hnext := fun a => ih2 (q + 1) a (by omega)
          rw [fold_s] at hnext
          generalize hF : fold (fun q h => pst go gt p q h) (prd go gt d2 p) q = F at hh hnext ⊢
          have hlq := (mn_lev d2 (by omega) q (by omega)).mp (by omega)
          have hlp := (mn_lev d1 (by omega) p (by omega)).mp (by omega)
          obtain ⟨q1, q2, q3, q4, q5, -⟩ := jyp_py q (by omega)
          obtain ⟨p1, p2, p3, p4, p5, -⟩ := jyp_py p (by omega)
          have hq6 : plev q = py q + pz q := rfl
          have hp6 : plev p = py p + pz p := rfl
          obtain ⟨hpl, -, -⟩ := pl_lt (py p + py q) (by omega) (pz p + pz q) (by omega) (by omega)
          have m204 := fun s => sq_204 (d2 + d1) ((d2 - plev q) + (d1 - plev p)) (py q + py p) (by omega) (by omega) s
          rw [show d2 + d1 - (d2 - plev q + (d1 - plev p)) - (py q + py p) = pz p + pz q by omega, show pl (py q + py p) (pz p + pz q) = pl (py p + py q) (pz p + pz q) by rw [Nat.add_comm (py q)], show (((d2 - plev q) + (d1 - plev p) : Nat) : Int) = (d2 : Int) - plev q + ((d1 : Int) - plev p) by omega] at m204
          have hm := mul101 (g1 p (by omega)) (g2 q (by omega))
          have e1 : mset U ((d1 + d2 : Nat) : Int) F 30 0 (21 * o + p) = go p := by rw [mset_o _ _ _ _ _ _ (by omega) (by omega)]; exact h1 p (by omega)
          have e2 : mset U ((d1 + d2 : Nat) : Int) F 30 0 (21 * t + q) = gt q := by rw [mset_o _ _ _ _ _ _ (by omega) (by omega)]; exact h2 q (by omega)
          have e3 : mset U ((d1 + d2 : Nat) : Int) F 47 0 (pl (py p + py q) (pz p + pz q)) = F (pl (py p + py q) (pz p + pz q)) := mset_n _ _ _ _ hpl
          obtain ⟨f1, f2⟩ := hh _ hpl
          have hx : pst go gt p q F = fun j => if j = pl (py p + py q) (pz p + pz q) then (F (pl (py p + py q) (pz p + pz q)) + go p * gt q) % 101 else F j := rfl
          rw [hx, ← mset_up _ _ _ _ hpl] at hnext
          generalize pl (py p + py q) (pz p + pz q) = z at *
          rw [be_226_80, sq_203 d2 (by omega), jbI_s, if_pos (by omega), sq_205 d2 q (by omega) (by omega), jbI_s, sq_205 d1 p (by omega) (by omega), jbI_s, sq_206 d2 q (by omega) (by omega), jbI_s, sq_206 d1 p (by omega) (by omega), jbI_s, jwi (x := (d2 : Int) + d1) (by omega) (by omega), jwi (x := (d2 : Int) - plev q + _) (by omega) (by omega), jwi (x := (py q : Int) + py p) (by omega) (by omega), ca d2 d1, ca (py q) (py p), m204, jbI_s, if_pos (by omega)]
          simp (disch := omega) only [e1, e2, e3, iteT, or_true, true_or, jbI_s, jbV_s, jbR_s, bI_t, bI_f, if_pos, if_neg, jwi, tm101, Int.toNat_natCast, ca1, ca2, cm3, cm4, cm18, cm21, cm40, cm84, ca, Nat.mul_zero, Nat.zero_add]
          exact hnext _
      exact inner (mnN d2) 0 o8 (by omega)
  exact outer (mnN d1) 0 none none (by omega)
/-- multiply -/
theorem ap_6 (s : jM) (hI : Inv s) (v1 v2 v3 : Int) : Go s 6 226 [.inl v1, .inl v2, .inl v3] := by
  by_cases h1 : 0 ≤ v1 ∧ v1 < 4
  rotate_left
  · exact go_no (-1) hI (by rw [bq_6]; repeat (first | rw [jbI_s] | rw [jbV_s] | rw [bI_t (by omega)] | rw [bI_f (by omega)] | rw [if_pos (by omega)] | rw [if_neg (by omega)] | rw [sq_39])) (by rw [bq_226]; repeat (first | rw [jbI_s] | rw [jbV_s] | rw [bI_t (by omega)] | rw [bI_f (by omega)] | rw [if_pos (by omega)] | rw [if_neg (by omega)] | rw [sq_201]))
  by_cases h2 : 0 ≤ v2 ∧ v2 < 4
  rotate_left
  · exact go_no (-1) hI (by rw [bq_6]; repeat (first | rw [jbI_s] | rw [jbV_s] | rw [bI_t (by omega)] | rw [bI_f (by omega)] | rw [if_pos (by omega)] | rw [if_neg (by omega)] | rw [sq_39])) (by rw [bq_226]; repeat (first | rw [jbI_s] | rw [jbV_s] | rw [bI_t (by omega)] | rw [bI_f (by omega)] | rw [if_pos (by omega)] | rw [if_neg (by omega)] | rw [sq_201]))
  by_cases h3 : 0 ≤ v3 ∧ v3 < 4
  rotate_left
  · exact go_no (-1) hI (by rw [bq_6]; repeat (first | rw [jbI_s] | rw [jbV_s] | rw [bI_t (by omega)] | rw [bI_f (by omega)] | rw [if_pos (by omega)] | rw [if_neg (by omega)] | rw [sq_39])) (by rw [bq_226]; repeat (first | rw [jbI_s] | rw [jbV_s] | rw [bI_t (by omega)] | rw [bI_f (by omega)] | rw [if_pos (by omega)] | rw [if_neg (by omega)] | rw [sq_201]))
  obtain ⟨r, rfl⟩ := nat_of v1 h1.1
  obtain ⟨o, rfl⟩ := nat_of v2 h2.1
  obtain ⟨t, rfl⟩ := nat_of v3 h3.1
  obtain ⟨e, he, o1, o2, o3, o4, o5, o6, o7⟩ := inv_reg hI o (by omega)
  obtain ⟨d, hd, t1, t2, t3, t4, t5, t6, t7⟩ := inv_reg hI t (by omega)
  have b6 := bq_6 r o t s
  have b226 := bq_226 r o t
  by_cases hde : e + d ≤ 5
  rotate_left
  · refine go_no (-5) hI ?_ ?_
    · rw [b6]
      simp (disch := omega) only [sq_39, o1, t1, iteT, or_true, true_or, jbI_s, jbV_s, jbR_s, bI_t, bI_f, if_pos, if_neg, jwi, tm101, Int.toNat_natCast, ca1, ca2, cm3, cm4, cm18, cm21, cm40, cm84, ca, Nat.mul_zero, Nat.zero_add]
    · rw [b226]
      simp (disch := omega) only [sq_201, o2, t2, iteT, or_true, true_or, jbI_s, jbV_s, jbR_s, bI_t, bI_f, if_pos, if_neg, jwi, tm101, Int.toNat_natCast, ca1, ca2, cm3, cm4, cm18, cm21, cm40, cm84, ca, Nat.mul_zero, Nat.zero_add]
  have em := mnN_le (e + d) (by omega)
  have em2 := mnN_le e (by omega)
  obtain ⟨n, nx, hS⟩ := hI.2.2.2.2.2.1
  have q76 := sq_76 s 44 o t e d hde (by omega) (by omega) o1 t1 o5 t5
  have hcon : prd (s 16 o) (s 16 t) d (mnN e) = prd (fun j => s 30 0 (21 * o + j)) (fun j => s 30 0 (21 * t + j)) d (mnN e) := prd_c hd em2.2 o4 t4
  have hz := prd_z (fun j => s 30 0 (21 * o + j)) (fun j => s 30 0 (21 * t + j)) hde
  have hg := prd_g (fun j => s 30 0 (21 * o + j)) (fun j => s 30 0 (21 * t + j)) d (mnN e)
  have qm := fun U w a b => ref_mul U r o t e d (fun j => s 30 0 (21 * o + j)) (fun j => s 30 0 (21 * t + j)) w (by omega) (by omega) (by omega) hde a b o6 t6
  rw [hcon] at q76
  rw [ca e d] at q76
  have hI' := Inv_fs hI 44 (Or.inl rfl) ((e + d : Nat) : Int) (prd (fun j => s 30 0 (21 * o + j)) (fun j => s 30 0 (21 * t + j)) d (mnN e))
  have hS' : RS (fset s 44 ((e + d : Nat) : Int) (prd (fun j => s 30 0 (21 * o + j)) (fun j => s 30 0 (21 * t + j)) d (mnN e))) n nx := RS_cg (fun k i j q => fset_o _ _ _ _ _ _ _ (by omega) (by omega)) hS
  have hfd := fset_d s 44 ((e + d : Nat) : Int) (prd (fun j => s 30 0 (21 * o + j)) (fun j => s 30 0 (21 * t + j)) d (mnN e))
  have hfn := fset_n s 44 ((e + d : Nat) : Int) (prd (fun j => s 30 0 (21 * o + j)) (fun j => s 30 0 (21 * t + j)) d (mnN e))
  have hfo : ∀ q b c, 29 ≤ q → fset s 44 ((e + d : Nat) : Int) (prd (fun j => s 30 0 (21 * o + j)) (fun j => s 30 0 (21 * t + j)) d (mnN e)) q b c = s q b c := fun q b c z => fset_o _ _ _ _ _ _ _ (by omega) (by omega)
  generalize fset s 44 ((e + d : Nat) : Int) (prd (fun j => s 30 0 (21 * o + j)) (fun j => s 30 0 (21 * t + j)) d (mnN e)) = s' at *
  have q51 := sq_51r hI' r 44 (by omega) (by omega)
  have qh := ref_hold 0 r r 44 (by omega) hS'
  have hu : ∀ a b c, (29 ≤ a ∧ a < 38) → mhold (cchg s' 0 r r 44) n a b c = s a b c := fun a b c z => by rw [mc_o _ _ _ _ _ _ (by omega) _ _ _ (by omega) (by omega) (by omega) (by omega), hfo _ _ _ (by omega)]
  have e1o : cchg s' 0 r r 44 29 0 o = (e : Int) := by rw [cc_o _ _ _ _ _ (by omega) _ _ _ (by omega), hfo _ _ _ (by omega)]; exact o2
  have e1t : cchg s' 0 r r 44 29 0 t = (d : Int) := by rw [cc_o _ _ _ _ _ (by omega) _ _ _ (by omega), hfo _ _ _ (by omega)]; exact t2
  have qm2 := fun w => qm (mhold (cchg s' 0 r r 44) n) w (fun j hj => hu _ _ _ (by omega)) (fun j hj => hu _ _ _ (by omega))
  generalize prd (fun j => s 30 0 (21 * o + j)) (fun j => s 30 0 (21 * t + j)) d (mnN e) = g at *
  refine go_lay (s' := s') (r := r) (d := e + d) (n := n) (nx := nx) (g := g) ((e + d : Nat) : Int) hI' hS' (by omega) (by omega) hfd (fun j _ hj => hg j hj) (fun j hj => ?_) ?_ (fun qs ql qd => ?_)
  · rw [hfn j hj]
    by_cases c : j < mnN (e + d)
    · rw [if_pos c]
    · rw [if_neg c, hz j (by omega)]
  · have e44 : cchg s' 0 r r 44 1 44 1 = ((e + d : Nat) : Int) := by rw [cchg_o _ _ _ _ _ _ _ _ (by omega), hfd]
    rw [b6]
    simp (disch := omega) only [sq_39, o1, t1, q76, q51, e44, iteT, or_true, true_or, jbI_s, jbV_s, jbR_s, bI_t, bI_f, if_pos, if_neg, jwi, tm101, Int.toNat_natCast, ca1, ca2, cm3, cm4, cm18, cm21, cm40, cm84, ca, Nat.mul_zero, Nat.zero_add]
  · rw [b226]
    repeat (first | rw [jbI_s] | rw [jbV_s] | rw [bI_t (by omega)] | rw [bI_f (by omega)] | rw [if_pos (by omega)] | rw [if_neg (by omega)] | rw [sq_201] | rw [Int.toNat_natCast] | rw [e1o] | rw [e1t] | rw [qh] | rw [jwi (by omega) (by omega)])
    rw [sq_214, jbV_s, Int.add_comm (d : Int) e, ca e d]
    refine qm2 _ (fun v6 o7 o8 hv => ?_)
    subst hv
    rw [be_226_67]
    simp (disch := omega) only [sq_203, ql, qs, qd, iteT, or_true, true_or, jbI_s, jbV_s, jbR_s, bI_t, bI_f, if_pos, if_neg, jwi, tm101, Int.toNat_natCast, ca1, ca2, cm3, cm4, cm18, cm21, cm40, cm84, ca, Nat.mul_zero, Nat.zero_add]
/-- line -/
theorem ap_7 (s : jM) (hI : Inv s) (v1 v2 v3 v4 : Int) : Go s 7 227 [.inl v1, .inl v2, .inl v3, .inl v4] := by
  by_cases h1 : 0 ≤ v1 ∧ v1 < 6
  rotate_left
  · exact go_no (-1) hI (by rw [bq_7]; repeat (first | rw [jbI_s] | rw [jbV_s] | rw [bI_t (by omega)] | rw [bI_f (by omega)] | rw [if_pos (by omega)] | rw [if_neg (by omega)] | rw [sq_40])) (by rw [bq_227]; repeat (first | rw [jbI_s] | rw [jbV_s] | rw [bI_t (by omega)] | rw [bI_f (by omega)] | rw [if_pos (by omega)] | rw [if_neg (by omega)] | rw [sq_202]))
  by_cases h2 : 0 ≤ v2 ∧ v2 < 101
  rotate_left
  · exact go_no (-1) hI (by rw [bq_7]; repeat (first | rw [jbI_s] | rw [jbV_s] | rw [bI_t (by omega)] | rw [bI_f (by omega)] | rw [if_pos (by omega)] | rw [if_neg (by omega)] | rw [sq_40] | rw [sq_43])) (by rw [bq_227]; repeat (first | rw [jbI_s] | rw [jbV_s] | rw [bI_t (by omega)] | rw [bI_f (by omega)] | rw [if_pos (by omega)] | rw [if_neg (by omega)] | rw [sq_202] | rw [sq_200]))
  by_cases h3 : 0 ≤ v3 ∧ v3 < 101
  rotate_left
  · exact go_no (-1) hI (by rw [bq_7]; repeat (first | rw [jbI_s] | rw [jbV_s] | rw [bI_t (by omega)] | rw [bI_f (by omega)] | rw [if_pos (by omega)] | rw [if_neg (by omega)] | rw [sq_40] | rw [sq_43])) (by rw [bq_227]; repeat (first | rw [jbI_s] | rw [jbV_s] | rw [bI_t (by omega)] | rw [bI_f (by omega)] | rw [if_pos (by omega)] | rw [if_neg (by omega)] | rw [sq_202] | rw [sq_200]))
  by_cases h4 : 0 ≤ v4 ∧ v4 < 101
  rotate_left
  · exact go_no (-1) hI (by rw [bq_7]; repeat (first | rw [jbI_s] | rw [jbV_s] | rw [bI_t (by omega)] | rw [bI_f (by omega)] | rw [if_pos (by omega)] | rw [if_neg (by omega)] | rw [sq_40] | rw [sq_43])) (by rw [bq_227]; repeat (first | rw [jbI_s] | rw [jbV_s] | rw [bI_t (by omega)] | rw [bI_f (by omega)] | rw [if_pos (by omega)] | rw [if_neg (by omega)] | rw [sq_202] | rw [sq_200]))
  obtain ⟨k, rfl⟩ := nat_of v1 h1.1
  obtain ⟨n, nx, hS⟩ := hI.2.2.2.2.2.1
  have q71 := sq_71 s 44 v2 v3 v4
  have hI' := Inv_fs hI 44 (Or.inl rfl) 1 (fun j => if j = 2 then v4 else if j = 1 then v3 else if j = 0 then v2 else 0)
  have hS' : RS (fset s 44 1 (fun j => if j = 2 then v4 else if j = 1 then v3 else if j = 0 then v2 else 0)) n nx := RS_cg (fun k i j q => fset_o _ _ _ _ _ _ _ (by omega) (by omega)) hS
  have hfd := fset_d s 44 1 (fun j => if j = 2 then v4 else if j = 1 then v3 else if j = 0 then v2 else 0)
  have hfn := fset_n s 44 1 (fun j => if j = 2 then v4 else if j = 1 then v3 else if j = 0 then v2 else 0)
  generalize fset s 44 1 (fun j => if j = 2 then v4 else if j = 1 then v3 else if j = 0 then v2 else 0) = s' at *
  have q51 := sq_51l hI' k 44 (by omega) (by omega)
  have qh := ref_hold 1 k (4 + k) 44 (by omega) hS'
  have hF : FW (s' 1 44 1) (s' 16 44) := by
    rw [hfd]
    refine ⟨by omega, by omega, fun j hj => ?_, fun j h5 hj => ?_⟩
    · rw [hfn j hj]
      split
      · exact h4
      · split
        · exact h3
        · split
          · exact h2
          · exact g21_0 j hj
    · have h5 : 3 ≤ j := h5
      rw [hfn j hj, if_neg (by omega), if_neg (by omega), if_neg (by omega)]
  have hk : hK s' 1 k (4 + k) 44 := Or.inr ⟨rfl, by omega, rfl, hfd⟩
  have hu : ∀ a b c, (29 ≤ a ∧ a < 38) → mhold (cchg s' 1 k (4 + k) 44) n a b c = s' a b c := fun a b c z => by rw [mc_o _ _ _ _ _ _ (by omega) _ _ _ (by omega) (by omega) (by omega) (by omega)]
  have ht : hT s' (jup (jup (jup (mhold (cchg s' 1 k (4 + k) 44) n) 31 0 (3 * k) v2) 31 0 (3 * k + 1) v3) 31 0 (3 * k + 2) v4) n 1 k (4 + k) 44 := by
    have ho : ∀ q a b, q ≠ 31 → jup (jup (jup (mhold (cchg s' 1 k (4 + k) 44) n) 31 0 (3 * k) v2) 31 0 (3 * k + 1) v3) 31 0 (3 * k + 2) v4 q a b = mhold (cchg s' 1 k (4 + k) 44) n q a b := fun q a b z => by rw [jup_n _ _ _ _ _ _ _ _ (by omega), jup_n _ _ _ _ _ _ _ _ (by omega), jup_n _ _ _ _ _ _ _ _ (by omega)]
    refine hT_mk (by omega) (fun q a b z => ho _ _ _ (by omega)) (fun r' hr' => ?_) (fun r' hr' j hj => ?_) (fun m hm j hj => ?_)
    · rw [ho _ _ _ (by omega), hu _ _ _ (by omega), if_neg (fun y => absurd y.1 (by decide))]
    · rw [ho _ _ _ (by omega), hu _ _ _ (by omega), if_neg (fun y => absurd y.1 (by decide))]
    · by_cases e : m = k
      · rw [if_pos (show (1 : Int) = 1 ∧ m = k from ⟨rfl, e⟩), hfn j (by omega), e]
        by_cases e0 : j = 0
        · rw [e0, show 3 * k + 0 = 3 * k from rfl, jup_n _ _ _ _ _ _ _ _ (by omega), jup_n _ _ _ _ _ _ _ _ (by omega), jup_e, if_neg (by omega), if_neg (by omega), if_pos rfl]
        · by_cases e1 : j = 1
          · rw [e1, jup_n _ _ _ _ _ _ _ _ (by omega), jup_e, if_neg (by omega), if_pos rfl]
          · have e2 : j = 2 := by omega
            rw [e2, jup_e, if_pos rfl]
      · rw [if_neg (fun y => e y.2), jup_n _ _ _ _ _ _ _ _ (by omega), jup_n _ _ _ _ _ _ _ _ (by omega), jup_n _ _ _ _ _ _ _ _ (by omega), hu _ _ _ (by omega)]
  have qs := ref_settle hI' hS' hk hF ht
  refine ⟨1, cchg s' 1 k (4 + k) 44, _, ?_, ?_, chg _ _ n nx 1 k (4 + k) 44 hI' hS' hk (by omega) hF ht⟩
  · rw [bq_7]
    repeat (first | rw [jbI_s] | rw [jbV_s] | rw [bI_t (by omega)] | rw [bI_f (by omega)] | rw [if_pos (by omega)] | rw [if_neg (by omega)] | rw [sq_40] | rw [sq_43] | rw [q71] | rw [q51])
  · rw [bq_227]
    repeat (first | rw [jbI_s] | rw [jbV_s] | rw [bI_t (by omega)] | rw [bI_f (by omega)] | rw [if_pos (by omega)] | rw [if_neg (by omega)] | rw [sq_202] | rw [sq_200] | rw [qh])
    simp (disch := omega) only [qs, iteT, or_true, true_or, jbI_s, jbV_s, jbR_s, bI_t, bI_f, if_pos, if_neg, jwi, tm101, Int.toNat_natCast, ca1, ca2, cm3, cm4, cm18, cm21, cm40, cm84, ca, Nat.mul_zero, Nat.zero_add]
