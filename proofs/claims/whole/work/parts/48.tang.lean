/-! TANGENT: the calls -/
def tgT (d l m : Nat) : Nat := if l = 0 then d - plev m else if l = 1 then py m else pz m
/-- a number of a tangent row -/
def tgE (u v w : Int) (d l m : Nat) : Int := (tgT d l m : Int) * mal u v w (d - plev m - (if l = 0 then 1 else 0)) (py m - (if l = 1 then 1 else 0)) (pz m - (if l = 2 then 1 else 0)) % 101
theorem tgE_g (u v w : Int) (d l m : Nat) : g101 (tgE u v w d l m) := em101 _
theorem tgE_0 {u v w : Int} {d l m : Nat} (h : tgT d l m = 0) : tgE u v w d l m = 0 := by unfold tgE; rw [h]; show (0 : Int) * _ % 101 = 0; rw [Int.zero_mul]; rfl
theorem tg_eq (t x y z : Int) : t * x % 101 * y % 101 * z % 101 = t * (x * y % 101 * z % 101) % 101 := by
  rw [mmod, Int.mul_assoc, mmod, mmod2, show t * (x * y % 101 * z) = x * y % 101 * (t * z) by grind, mmod]
  congr 1
  grind
theorem sq_47n (d m : Nat) (hd : d ≤ 5) (hm : m < mnN d) (s : jM) : jq 47 [.inl (d : Int), .inl (m : Int)] s = some (some (.inl ((d - plev m : Nat) : Int)), s) := by
  have h21 := (mnN_le d hd).2
  have hl := (mn_lev d hd m (by omega)).mp hm
  rw [sq_47 d m hd (by omega), show (d : Int) - plev m = ((d - plev m : Nat) : Int) by omega]
theorem sj_126 (k d : Nat) (u v w : Int) (hk : k < 6) (hd : d ≤ 5) (hu : g101 u) (hv : g101 v) (hw : g101 w) : ∀ (c j : Nat) (s : jM) (o5 o6 o7 : Option jV), j + c = mnN d → TI s → s 7 0 2 = 18 → s 7 0 3 = (mnN d : Int) → s 16 (4 + k) 0 = u → s 16 (4 + k) 1 = v → s 16 (4 + k) 2 = w → ∃ t, je 126 3 [some (.inr (7, 0)), some (.inl ((3 * k : Nat) : Int)), some (.inr (1, 4 + k)), some (.inl (d : Int)), some (.inl (j : Int)), o5, o6, o7] [] s = some (none, t) ∧ T5 s t ∧ ∀ a, a < 21 → ∀ b, LA t a b = if (3 * k ≤ a ∧ a < 3 * k + 3 ∧ j ≤ b ∧ b < mnN d) ∧ 0 < tgT d (a - 3 * k) b then tgE u v w d (a - 3 * k) b else LA s a b
  | 0, j, s, o5, o6, o7, hj, hT, e2, e3, eu, ev, ew => by
    refine ⟨s, ?_, T5_r s, fun a ha b => ?_⟩
    · rw [be_126_3, e3, if_neg (by omega)]
    · rw [if_neg (by omega)]
  | c + 1, j, s, o5, o6, o7, hj, hT, e2, e3, eu, ev, ew => by
    have h21 := (mnN_le d hd).2
    have hjm : j < mnN d := by omega
    have hl := (mn_lev d hd j (by omega)).mp hjm
    have ul : plev j = py j + pz j := rfl
    obtain ⟨y1, y2, y3, y4, -⟩ := jyp_py j (by omega)
    have h47 := sq_47n d j hd hjm
    -- x
    have st1 : ∃ s1, je 126 3 [some (.inr (7, 0)), some (.inl ((3 * k : Nat) : Int)), some (.inr (1, 4 + k)), some (.inl (d : Int)), some (.inl (j : Int)), o5, o6, o7] [] s = je 126 66 [some (.inr (7, 0)), some (.inl ((3 * k : Nat) : Int)), some (.inr (1, 4 + k)), some (.inl (d : Int)), some (.inl (j : Int)), some (.inl ((d - plev j : Nat) : Int)), some (.inl (py j : Int)), some (.inl (pz j : Int))] [] s1 ∧ T5 s s1 ∧ ∀ a, a < 21 → ∀ b, LA s1 a b = if a = 3 * k ∧ b = j ∧ 0 < d - plev j then tgE u v w d 0 j else LA s a b := by
      rw [be_126_3, e3, if_pos (by omega), h47, jbI_s, if_pos (by omega), if_pos (by omega), Int.toNat_natCast, y1, y2]
      by_cases c0 : 0 < d - plev j
      · have hm := mul101 (show g101 ((d - plev j : Nat) : Int) from ⟨by omega, by omega⟩) (mal_g u v w (d - plev j - 1) (py j) (pz j))
        refine ⟨_, by rw [if_pos (by omega), jwn (x := ((d - plev j : Nat) : Int) - 1) (n := d - plev j - 1) (by omega) (by omega), sq_50 s (4 + k) (by rw [eu]; exact hu) (by rw [ev]; exact hv) (by rw [ew]; exact hw) _ _ _ (by omega) (by omega) (by omega), jbI_s, eu, ev, ew, jwi (by omega) (by omega), tm101 hm.1, sq_124 s 18 (mnN d) (3 * k) j _ (by omega) h21 e2 e3 (by omega) hjm, jbV_s], T5_up _ _ _ _, fun a ha b => ?_⟩
        rw [LA_up hT (3 * k) j (by omega) _ a b ha]
        have ee : ((d - plev j : Nat) : Int) * mal u v w (d - plev j - 1) (py j) (pz j) % 101 = tgE u v w d 0 j := rfl
        rw [ee]
        by_cases c1 : a = 3 * k ∧ b = j
        · rw [if_pos c1, if_pos ⟨c1.1, c1.2, c0⟩]
        · rw [if_neg c1, if_neg (fun z => c1 ⟨z.1, z.2.1⟩)]
      · refine ⟨s, by rw [if_neg (by omega)], T5_r s, fun a ha b => ?_⟩
        rw [if_neg (fun z => c0 z.2.2)]
    obtain ⟨s1, a1, a2, a3⟩ := st1
    have hT1 := T5_ti a2 hT
    have f2 : s1 7 0 2 = 18 := by rw [a2 _ _ _ (by omega)]; exact e2
    have f3 : s1 7 0 3 = (mnN d : Int) := by rw [a2 _ _ _ (by omega)]; exact e3
    have fu : s1 16 (4 + k) 0 = u := by rw [a2 _ _ _ (by omega)]; exact eu
    have fv : s1 16 (4 + k) 1 = v := by rw [a2 _ _ _ (by omega)]; exact ev
    have fw : s1 16 (4 + k) 2 = w := by rw [a2 _ _ _ (by omega)]; exact ew
    have st2 : ∃ s2, je 126 66 [some (.inr (7, 0)), some (.inl ((3 * k : Nat) : Int)), some (.inr (1, 4 + k)), some (.inl (d : Int)), some (.inl (j : Int)), some (.inl ((d - plev j : Nat) : Int)), some (.inl (py j : Int)), some (.inl (pz j : Int))] [] s1 = je 126 98 [some (.inr (7, 0)), some (.inl ((3 * k : Nat) : Int)), some (.inr (1, 4 + k)), some (.inl (d : Int)), some (.inl (j : Int)), some (.inl ((d - plev j : Nat) : Int)), some (.inl (py j : Int)), some (.inl (pz j : Int))] [] s2 ∧ T5 s1 s2 ∧ ∀ a, a < 21 → ∀ b, LA s2 a b = if a = 3 * k + 1 ∧ b = j ∧ 0 < py j then tgE u v w d 1 j else LA s1 a b := by
      rw [be_126_66]
      by_cases c0 : 0 < py j
      · have hm := mul101 (show g101 (py j : Int) from ⟨by omega, by omega⟩) (mal_g u v w (d - plev j) (py j - 1) (pz j))
        refine ⟨_, by rw [if_pos (by omega), jwn (x := (py j : Int) - 1) (n := py j - 1) (by omega) (by omega), sq_50 s1 (4 + k) (by rw [fu]; exact hu) (by rw [fv]; exact hv) (by rw [fw]; exact hw) _ _ _ (by omega) (by omega) (by omega), jbI_s, fu, fv, fw, jwi (x := (py j : Int) * mal u v w (d - plev j) (py j - 1) (pz j)) (by omega) (by omega), tm101 hm.1, jwn (x := ((3 * k : Nat) : Int) + 1) (n := 3 * k + 1) (by omega) (by omega), sq_124 s1 18 (mnN d) (3 * k + 1) j _ (by omega) h21 f2 f3 (by omega) hjm, jbV_s], T5_up _ _ _ _, fun a ha b => ?_⟩
        rw [LA_up hT1 (3 * k + 1) j (by omega) _ a b ha]
        have ee : (py j : Int) * mal u v w (d - plev j) (py j - 1) (pz j) % 101 = tgE u v w d 1 j := rfl
        rw [ee]
        by_cases c1 : a = 3 * k + 1 ∧ b = j
        · rw [if_pos c1, if_pos ⟨c1.1, c1.2, c0⟩]
        · rw [if_neg c1, if_neg (fun z => c1 ⟨z.1, z.2.1⟩)]
      · refine ⟨s1, by rw [if_neg (by omega)], T5_r s1, fun a ha b => ?_⟩
        rw [if_neg (fun z => c0 z.2.2)]
    obtain ⟨s2, b1, b2, b3⟩ := st2
    have hT2 := T5_ti b2 hT1
    have g2 : s2 7 0 2 = 18 := by rw [b2 _ _ _ (by omega)]; exact f2
    have g3 : s2 7 0 3 = (mnN d : Int) := by rw [b2 _ _ _ (by omega)]; exact f3
    have gu : s2 16 (4 + k) 0 = u := by rw [b2 _ _ _ (by omega)]; exact fu
    have gv : s2 16 (4 + k) 1 = v := by rw [b2 _ _ _ (by omega)]; exact fv
    have gw : s2 16 (4 + k) 2 = w := by rw [b2 _ _ _ (by omega)]; exact fw
    have st3 : ∃ s3, je 126 98 [some (.inr (7, 0)), some (.inl ((3 * k : Nat) : Int)), some (.inr (1, 4 + k)), some (.inl (d : Int)), some (.inl (j : Int)), some (.inl ((d - plev j : Nat) : Int)), some (.inl (py j : Int)), some (.inl (pz j : Int))] [] s2 = je 126 3 [some (.inr (7, 0)), some (.inl ((3 * k : Nat) : Int)), some (.inr (1, 4 + k)), some (.inl (d : Int)), some (.inl ((j + 1 : Nat) : Int)), some (.inl ((d - plev j : Nat) : Int)), some (.inl (py j : Int)), some (.inl (pz j : Int))] [] s3 ∧ T5 s2 s3 ∧ ∀ a, a < 21 → ∀ b, LA s3 a b = if a = 3 * k + 2 ∧ b = j ∧ 0 < pz j then tgE u v w d 2 j else LA s2 a b := by
      rw [be_126_98, jwn (x := (j : Int) + 1) (n := j + 1) (by omega) (by omega)]
      by_cases c0 : 0 < pz j
      · have hm := mul101 (show g101 (pz j : Int) from ⟨by omega, by omega⟩) (mal_g u v w (d - plev j) (py j) (pz j - 1))
        refine ⟨_, by rw [if_pos (by omega), jwn (x := (pz j : Int) - 1) (n := pz j - 1) (by omega) (by omega), sq_50 s2 (4 + k) (by rw [gu]; exact hu) (by rw [gv]; exact hv) (by rw [gw]; exact hw) _ _ _ (by omega) (by omega) (by omega), jbI_s, gu, gv, gw, jwi (x := (pz j : Int) * mal u v w (d - plev j) (py j) (pz j - 1)) (by omega) (by omega), tm101 hm.1, jwn (x := ((3 * k : Nat) : Int) + 2) (n := 3 * k + 2) (by omega) (by omega), sq_124 s2 18 (mnN d) (3 * k + 2) j _ (by omega) h21 g2 g3 (by omega) hjm, jbV_s], T5_up _ _ _ _, fun a ha b => ?_⟩
        rw [LA_up hT2 (3 * k + 2) j (by omega) _ a b ha]
        have ee : (pz j : Int) * mal u v w (d - plev j) (py j) (pz j - 1) % 101 = tgE u v w d 2 j := rfl
        rw [ee]
        by_cases c1 : a = 3 * k + 2 ∧ b = j
        · rw [if_pos c1, if_pos ⟨c1.1, c1.2, c0⟩]
        · rw [if_neg c1, if_neg (fun z => c1 ⟨z.1, z.2.1⟩)]
      · refine ⟨s2, by rw [if_neg (by omega)], T5_r s2, fun a ha b => ?_⟩
        rw [if_neg (fun z => c0 z.2.2)]
    obtain ⟨s3, c1, c2, c3⟩ := st3
    have t123 := T5_t a2 (T5_t b2 c2)
    obtain ⟨t, t1, t2, t3⟩ := sj_126 k d u v w hk hd hu hv hw c (j + 1) s3 _ _ _ (by omega) (T5_ti c2 hT2) (by rw [c2 _ _ _ (by omega)]; exact g2) (by rw [c2 _ _ _ (by omega)]; exact g3) (by rw [c2 _ _ _ (by omega)]; exact gu) (by rw [c2 _ _ _ (by omega)]; exact gv) (by rw [c2 _ _ _ (by omega)]; exact gw)
    refine ⟨t, a1.trans (b1.trans (c1.trans t1)), T5_t t123 t2, fun a ha b => ?_⟩
    rw [t3 a ha b, c3 a ha b, b3 a ha b, a3 a ha b]
    by_cases h3 : 3 * k ≤ a ∧ a < 3 * k + 3
    · by_cases hb : b = j
      · subst hb
        rw [if_neg (by omega)]
        have hcase : a = 3 * k ∨ a = 3 * k + 1 ∨ a = 3 * k + 2 := by omega
        rcases hcase with e | e | e
        · rw [if_neg (by omega), if_neg (by omega), e, show 3 * k - 3 * k = 0 by omega]
          have et : tgT d 0 b = d - plev b := rfl
          by_cases z : 0 < d - plev b
          · rw [if_pos ⟨rfl, rfl, z⟩, if_pos ⟨by omega, by omega⟩]
          · rw [if_neg (fun y => z y.2.2), if_neg (fun y => z (by omega))]
        · have et : tgT d 1 b = py b := rfl
          rw [if_neg (by omega), e, show 3 * k + 1 - 3 * k = 1 by omega]
          by_cases z : 0 < py b
          · rw [if_pos ⟨rfl, rfl, z⟩, if_pos ⟨by omega, by omega⟩]
          · rw [if_neg (fun y => z y.2.2), if_neg (by omega), if_neg (fun y => z (by omega))]
        · have et : tgT d 2 b = pz b := rfl
          rw [e, show 3 * k + 2 - 3 * k = 2 by omega]
          by_cases z : 0 < pz b
          · rw [if_pos ⟨rfl, rfl, z⟩, if_pos ⟨by omega, by omega⟩]
          · rw [if_neg (fun y => z y.2.2), if_neg (by omega), if_neg (by omega), if_neg (fun y => z (by omega))]
      · rw [if_neg (show ¬ (a = 3 * k + 2 ∧ b = j ∧ 0 < pz j) by omega), if_neg (show ¬ (a = 3 * k + 1 ∧ b = j ∧ 0 < py j) by omega), if_neg (show ¬ (a = 3 * k ∧ b = j ∧ 0 < d - plev j) by omega)]
        by_cases h4 : (3 * k ≤ a ∧ a < 3 * k + 3 ∧ j + 1 ≤ b ∧ b < mnN d) ∧ 0 < tgT d (a - 3 * k) b
        · rw [if_pos h4, if_pos ⟨by omega, h4.2⟩]
        · rw [if_neg h4, if_neg (fun y => h4 ⟨by omega, y.2⟩)]
    · rw [if_neg (fun y => h3 ⟨y.1.1, y.1.2.1⟩), if_neg (by omega), if_neg (by omega), if_neg (by omega), if_neg (fun y => h3 ⟨y.1.1, y.1.2.1⟩)]

theorem st_249_0 (k d j : Nat) (s : jM) (hk : k < 6) (hd : d ≤ 5) (hj : j < mnN d) (hM : MG s k) (o5 o6 o7 o8 o9 o10 o11 : Option jV) : ∃ p5 p6 p7 p8 p9 p10 p11, je 249 35 [some (.inr (11, 0)), some (.inl (d : Int)), some (.inl (k : Int)), some (.inl 0), some (.inl (j : Int)), o5, o6, o7, o8, o9, o10, o11] [] s = je 249 35 [some (.inr (11, 0)), some (.inl (d : Int)), some (.inl (k : Int)), some (.inl 0), some (.inl ((j + 1 : Nat) : Int)), p5, p6, p7, p8, p9, p10, p11] [] (if 0 < tgT d 0 j then jup s 51 0 j (tgE (s 31 0 (3 * k)) (s 31 0 (3 * k + 1)) (s 31 0 (3 * k + 2)) d 0 j) else s) := by
  have h21 := (mnN_le d hd).2
  have hl := (mn_lev d hd j (by omega)).mp hj
  have ul : plev j = py j + pz j := rfl
  have h205 := sq_205 d j hd hj
  rw [show (d : Int) - plev j = ((d - plev j : Nat) : Int) by omega] at h205
  have h206 := sq_206 d j hd hj
  have eT : tgT d 0 j = d - plev j := rfl
  have eE : tgE (s 31 0 (3 * k)) (s 31 0 (3 * k + 1)) (s 31 0 (3 * k + 2)) d 0 j = ((d - plev j : Nat) : Int) * mal (s 31 0 (3 * k)) (s 31 0 (3 * k + 1)) (s 31 0 (3 * k + 2)) (d - plev j - 1) (py j) (pz j) % 101 := rfl
  have hjc : (j : Int) < (mnN d : Int) := by omega
  rw [eT, eE]
  clear eT eE
  have eC : ∀ _ : Unit, jw (jw ((d : Int) - ((d - plev j : Nat) : Int)) - (py j : Int)) = (pz j : Int) := fun _ => by rw [jwi (x := (d : Int) - ((d - plev j : Nat) : Int)) (by omega) (by omega), jwi (by omega) (by omega)]; omega
  have hC : d - plev j + py j + pz j = d := by omega
  clear ul hl
  generalize d - plev j = A at *
  generalize py j = B at *
  generalize pz j = C at *
  obtain ⟨gu, gv, gw⟩ := id hM
  have hu := sq_207 (s 31 0 (3 * k)) gu (A - 1) (by omega)
  have hv := sq_207 (s 31 0 (3 * k + 1)) gv (B) (by omega)
  have hw := sq_207 (s 31 0 (3 * k + 2)) gw (C) (by omega)
  have e30 : ∀ _ : Unit, jw (3 * (k : Int)) = ((3 * k : Nat) : Int) := fun _ => jwn (by omega) (by omega)
  have e31 : ∀ _ : Unit, jw (((3 * k : Nat) : Int) + 1) = ((3 * k + 1 : Nat) : Int) := fun _ => jwn (by omega) (by omega)
  have e32 : ∀ _ : Unit, jw (((3 * k : Nat) : Int) + 2) = ((3 * k + 2 : Nat) : Int) := fun _ => jwn (by omega) (by omega)
  have ej : ∀ _ : Unit, jw ((j : Int) + 1) = ((j + 1 : Nat) : Int) := fun _ => jwn (by omega) (by omega)
  rw [be_249_35, sq_203 d hd, jbI_s, if_pos hjc, h205, jbI_s, h206, jbI_s, eC (), ej (), e30 (), e31 (), e32 (), Int.toNat_natCast, Int.toNat_natCast, Int.toNat_natCast, Int.toNat_natCast]
  by_cases c : 0 < A
  · have em1 : ∀ _ : Unit, jw ((A : Int) - 1) = ((A - 1 : Nat) : Int) := fun _ => jwn (by omega) (by omega)
    have b1 := mul101 (show g101 (A : Int) from ⟨by omega, by omega⟩) (rd_g (s 31 0 (3 * k)) (A - 1))
    have b2 := mul101 (em101 ((A : Int) * rd (s 31 0 (3 * k)) (A - 1))) (rd_g (s 31 0 (3 * k + 1)) (B))
    have b3 := mul101 (em101 ((A : Int) * rd (s 31 0 (3 * k)) (A - 1) % 101 * rd (s 31 0 (3 * k + 1)) (B))) (rd_g (s 31 0 (3 * k + 2)) (C))
    refine ⟨some (.inl (A : Int)), some (.inl (B : Int)), some (.inl (C : Int)), some (.inl (A : Int)), some (.inl (rd (s 31 0 (3 * k)) (A - 1))), some (.inl (rd (s 31 0 (3 * k + 1)) (B))), some (.inl (rd (s 31 0 (3 * k + 2)) (C))), Eq.trans ?_ (congrArg (fun z => je 249 35 _ [] z) (if_pos c).symm)⟩
    have em : (A : Int) * mal (s 31 0 (3 * k)) (s 31 0 (3 * k + 1)) (s 31 0 (3 * k + 2)) (A - 1) (B) (C) % 101 = (A : Int) * rd (s 31 0 (3 * k)) (A - 1) % 101 * rd (s 31 0 (3 * k + 1)) (B) % 101 * rd (s 31 0 (3 * k + 2)) (C) % 101 := (tg_eq _ _ _ _).symm
    rw [em]
    (repeat (first | rw [jbI_s] | rw [jbV_s] | rw [bI_t (by omega)] | rw [bI_f (by omega)] | rw [if_pos (by omega)] | rw [if_neg (by omega)] | rw [hu] | rw [hv] | rw [hw] | rw [em1 ()]))
    rw [jwi (x := (A : Int) * rd (s 31 0 (3 * k)) (A - 1)) (by omega) (by omega), tm101 b1.1, jwi (x := (A : Int) * rd (s 31 0 (3 * k)) (A - 1) % 101 * rd (s 31 0 (3 * k + 1)) (B)) (by omega) (by omega), tm101 b2.1, jwi (by omega) (by omega), tm101 b3.1]
  · refine ⟨some (.inl (A : Int)), some (.inl (B : Int)), some (.inl (C : Int)), some (.inl (A : Int)), o9, o10, o11, Eq.trans ?_ (congrArg (fun z => je 249 35 _ [] z) (if_neg c).symm)⟩
    (repeat (first | rw [jbI_s] | rw [jbV_s] | rw [bI_t (by omega)] | rw [bI_f (by omega)] | rw [if_pos (by omega)] | rw [if_neg (by omega)]))

theorem st_249_1 (k d j : Nat) (s : jM) (hk : k < 6) (hd : d ≤ 5) (hj : j < mnN d) (hM : MG s k) (o5 o6 o7 o8 o9 o10 o11 : Option jV) : ∃ p5 p6 p7 p8 p9 p10 p11, je 249 35 [some (.inr (11, 0)), some (.inl (d : Int)), some (.inl (k : Int)), some (.inl 1), some (.inl (j : Int)), o5, o6, o7, o8, o9, o10, o11] [] s = je 249 35 [some (.inr (11, 0)), some (.inl (d : Int)), some (.inl (k : Int)), some (.inl 1), some (.inl ((j + 1 : Nat) : Int)), p5, p6, p7, p8, p9, p10, p11] [] (if 0 < tgT d 1 j then jup s 51 0 j (tgE (s 31 0 (3 * k)) (s 31 0 (3 * k + 1)) (s 31 0 (3 * k + 2)) d 1 j) else s) := by
  have h21 := (mnN_le d hd).2
  have hl := (mn_lev d hd j (by omega)).mp hj
  have ul : plev j = py j + pz j := rfl
  have h205 := sq_205 d j hd hj
  rw [show (d : Int) - plev j = ((d - plev j : Nat) : Int) by omega] at h205
  have h206 := sq_206 d j hd hj
  have eT : tgT d 1 j = py j := rfl
  have eE : tgE (s 31 0 (3 * k)) (s 31 0 (3 * k + 1)) (s 31 0 (3 * k + 2)) d 1 j = (py j : Int) * mal (s 31 0 (3 * k)) (s 31 0 (3 * k + 1)) (s 31 0 (3 * k + 2)) (d - plev j) (py j - 1) (pz j) % 101 := rfl
  have hjc : (j : Int) < (mnN d : Int) := by omega
  rw [eT, eE]
  clear eT eE
  have eC : ∀ _ : Unit, jw (jw ((d : Int) - ((d - plev j : Nat) : Int)) - (py j : Int)) = (pz j : Int) := fun _ => by rw [jwi (x := (d : Int) - ((d - plev j : Nat) : Int)) (by omega) (by omega), jwi (by omega) (by omega)]; omega
  have hC : d - plev j + py j + pz j = d := by omega
  clear ul hl
  generalize d - plev j = A at *
  generalize py j = B at *
  generalize pz j = C at *
  obtain ⟨gu, gv, gw⟩ := id hM
  have hu := sq_207 (s 31 0 (3 * k)) gu (A) (by omega)
  have hv := sq_207 (s 31 0 (3 * k + 1)) gv (B - 1) (by omega)
  have hw := sq_207 (s 31 0 (3 * k + 2)) gw (C) (by omega)
  have e30 : ∀ _ : Unit, jw (3 * (k : Int)) = ((3 * k : Nat) : Int) := fun _ => jwn (by omega) (by omega)
  have e31 : ∀ _ : Unit, jw (((3 * k : Nat) : Int) + 1) = ((3 * k + 1 : Nat) : Int) := fun _ => jwn (by omega) (by omega)
  have e32 : ∀ _ : Unit, jw (((3 * k : Nat) : Int) + 2) = ((3 * k + 2 : Nat) : Int) := fun _ => jwn (by omega) (by omega)
  have ej : ∀ _ : Unit, jw ((j : Int) + 1) = ((j + 1 : Nat) : Int) := fun _ => jwn (by omega) (by omega)
  rw [be_249_35, sq_203 d hd, jbI_s, if_pos hjc, h205, jbI_s, h206, jbI_s, eC (), ej (), e30 (), e31 (), e32 (), Int.toNat_natCast, Int.toNat_natCast, Int.toNat_natCast, Int.toNat_natCast]
  by_cases c : 0 < B
  · have em1 : ∀ _ : Unit, jw ((B : Int) - 1) = ((B - 1 : Nat) : Int) := fun _ => jwn (by omega) (by omega)
    have b1 := mul101 (show g101 (B : Int) from ⟨by omega, by omega⟩) (rd_g (s 31 0 (3 * k)) (A))
    have b2 := mul101 (em101 ((B : Int) * rd (s 31 0 (3 * k)) (A))) (rd_g (s 31 0 (3 * k + 1)) (B - 1))
    have b3 := mul101 (em101 ((B : Int) * rd (s 31 0 (3 * k)) (A) % 101 * rd (s 31 0 (3 * k + 1)) (B - 1))) (rd_g (s 31 0 (3 * k + 2)) (C))
    refine ⟨some (.inl (A : Int)), some (.inl (B : Int)), some (.inl (C : Int)), some (.inl (B : Int)), some (.inl (rd (s 31 0 (3 * k)) (A))), some (.inl (rd (s 31 0 (3 * k + 1)) (B - 1))), some (.inl (rd (s 31 0 (3 * k + 2)) (C))), Eq.trans ?_ (congrArg (fun z => je 249 35 _ [] z) (if_pos c).symm)⟩
    have em : (B : Int) * mal (s 31 0 (3 * k)) (s 31 0 (3 * k + 1)) (s 31 0 (3 * k + 2)) (A) (B - 1) (C) % 101 = (B : Int) * rd (s 31 0 (3 * k)) (A) % 101 * rd (s 31 0 (3 * k + 1)) (B - 1) % 101 * rd (s 31 0 (3 * k + 2)) (C) % 101 := (tg_eq _ _ _ _).symm
    rw [em]
    (repeat (first | rw [jbI_s] | rw [jbV_s] | rw [bI_t (by omega)] | rw [bI_f (by omega)] | rw [if_pos (by omega)] | rw [if_neg (by omega)] | rw [hu] | rw [hv] | rw [hw] | rw [em1 ()]))
    rw [jwi (x := (B : Int) * rd (s 31 0 (3 * k)) (A)) (by omega) (by omega), tm101 b1.1, jwi (x := (B : Int) * rd (s 31 0 (3 * k)) (A) % 101 * rd (s 31 0 (3 * k + 1)) (B - 1)) (by omega) (by omega), tm101 b2.1, jwi (by omega) (by omega), tm101 b3.1]
  · refine ⟨some (.inl (A : Int)), some (.inl (B : Int)), some (.inl (C : Int)), some (.inl (B : Int)), o9, o10, o11, Eq.trans ?_ (congrArg (fun z => je 249 35 _ [] z) (if_neg c).symm)⟩
    (repeat (first | rw [jbI_s] | rw [jbV_s] | rw [bI_t (by omega)] | rw [bI_f (by omega)] | rw [if_pos (by omega)] | rw [if_neg (by omega)]))

theorem st_249_2 (k d j : Nat) (s : jM) (hk : k < 6) (hd : d ≤ 5) (hj : j < mnN d) (hM : MG s k) (o5 o6 o7 o8 o9 o10 o11 : Option jV) : ∃ p5 p6 p7 p8 p9 p10 p11, je 249 35 [some (.inr (11, 0)), some (.inl (d : Int)), some (.inl (k : Int)), some (.inl 2), some (.inl (j : Int)), o5, o6, o7, o8, o9, o10, o11] [] s = je 249 35 [some (.inr (11, 0)), some (.inl (d : Int)), some (.inl (k : Int)), some (.inl 2), some (.inl ((j + 1 : Nat) : Int)), p5, p6, p7, p8, p9, p10, p11] [] (if 0 < tgT d 2 j then jup s 51 0 j (tgE (s 31 0 (3 * k)) (s 31 0 (3 * k + 1)) (s 31 0 (3 * k + 2)) d 2 j) else s) := by
  have h21 := (mnN_le d hd).2
  have hl := (mn_lev d hd j (by omega)).mp hj
  have ul : plev j = py j + pz j := rfl
  have h205 := sq_205 d j hd hj
  rw [show (d : Int) - plev j = ((d - plev j : Nat) : Int) by omega] at h205
  have h206 := sq_206 d j hd hj
  have eT : tgT d 2 j = pz j := rfl
  have eE : tgE (s 31 0 (3 * k)) (s 31 0 (3 * k + 1)) (s 31 0 (3 * k + 2)) d 2 j = (pz j : Int) * mal (s 31 0 (3 * k)) (s 31 0 (3 * k + 1)) (s 31 0 (3 * k + 2)) (d - plev j) (py j) (pz j - 1) % 101 := rfl
  have hjc : (j : Int) < (mnN d : Int) := by omega
  rw [eT, eE]
  clear eT eE
  have eC : ∀ _ : Unit, jw (jw ((d : Int) - ((d - plev j : Nat) : Int)) - (py j : Int)) = (pz j : Int) := fun _ => by rw [jwi (x := (d : Int) - ((d - plev j : Nat) : Int)) (by omega) (by omega), jwi (by omega) (by omega)]; omega
  have hC : d - plev j + py j + pz j = d := by omega
  clear ul hl
  generalize d - plev j = A at *
  generalize py j = B at *
  generalize pz j = C at *
  obtain ⟨gu, gv, gw⟩ := id hM
  have hu := sq_207 (s 31 0 (3 * k)) gu (A) (by omega)
  have hv := sq_207 (s 31 0 (3 * k + 1)) gv (B) (by omega)
  have hw := sq_207 (s 31 0 (3 * k + 2)) gw (C - 1) (by omega)
  have e30 : ∀ _ : Unit, jw (3 * (k : Int)) = ((3 * k : Nat) : Int) := fun _ => jwn (by omega) (by omega)
  have e31 : ∀ _ : Unit, jw (((3 * k : Nat) : Int) + 1) = ((3 * k + 1 : Nat) : Int) := fun _ => jwn (by omega) (by omega)
  have e32 : ∀ _ : Unit, jw (((3 * k : Nat) : Int) + 2) = ((3 * k + 2 : Nat) : Int) := fun _ => jwn (by omega) (by omega)
  have ej : ∀ _ : Unit, jw ((j : Int) + 1) = ((j + 1 : Nat) : Int) := fun _ => jwn (by omega) (by omega)
  rw [be_249_35, sq_203 d hd, jbI_s, if_pos hjc, h205, jbI_s, h206, jbI_s, eC (), ej (), e30 (), e31 (), e32 (), Int.toNat_natCast, Int.toNat_natCast, Int.toNat_natCast, Int.toNat_natCast]
  by_cases c : 0 < C
  · have em1 : ∀ _ : Unit, jw ((C : Int) - 1) = ((C - 1 : Nat) : Int) := fun _ => jwn (by omega) (by omega)
    have b1 := mul101 (show g101 (C : Int) from ⟨by omega, by omega⟩) (rd_g (s 31 0 (3 * k)) (A))
    have b2 := mul101 (em101 ((C : Int) * rd (s 31 0 (3 * k)) (A))) (rd_g (s 31 0 (3 * k + 1)) (B))
    have b3 := mul101 (em101 ((C : Int) * rd (s 31 0 (3 * k)) (A) % 101 * rd (s 31 0 (3 * k + 1)) (B))) (rd_g (s 31 0 (3 * k + 2)) (C - 1))
    refine ⟨some (.inl (A : Int)), some (.inl (B : Int)), some (.inl (C : Int)), some (.inl (C : Int)), some (.inl (rd (s 31 0 (3 * k)) (A))), some (.inl (rd (s 31 0 (3 * k + 1)) (B))), some (.inl (rd (s 31 0 (3 * k + 2)) (C - 1))), Eq.trans ?_ (congrArg (fun z => je 249 35 _ [] z) (if_pos c).symm)⟩
    have em : (C : Int) * mal (s 31 0 (3 * k)) (s 31 0 (3 * k + 1)) (s 31 0 (3 * k + 2)) (A) (B) (C - 1) % 101 = (C : Int) * rd (s 31 0 (3 * k)) (A) % 101 * rd (s 31 0 (3 * k + 1)) (B) % 101 * rd (s 31 0 (3 * k + 2)) (C - 1) % 101 := (tg_eq _ _ _ _).symm
    rw [em]
    (repeat (first | rw [jbI_s] | rw [jbV_s] | rw [bI_t (by omega)] | rw [bI_f (by omega)] | rw [if_pos (by omega)] | rw [if_neg (by omega)] | rw [hu] | rw [hv] | rw [hw] | rw [em1 ()]))
    rw [jwi (x := (C : Int) * rd (s 31 0 (3 * k)) (A)) (by omega) (by omega), tm101 b1.1, jwi (x := (C : Int) * rd (s 31 0 (3 * k)) (A) % 101 * rd (s 31 0 (3 * k + 1)) (B)) (by omega) (by omega), tm101 b2.1, jwi (by omega) (by omega), tm101 b3.1]
  · refine ⟨some (.inl (A : Int)), some (.inl (B : Int)), some (.inl (C : Int)), some (.inl (C : Int)), o9, o10, o11, Eq.trans ?_ (congrArg (fun z => je 249 35 _ [] z) (if_neg c).symm)⟩
    (repeat (first | rw [jbI_s] | rw [jbV_s] | rw [bI_t (by omega)] | rw [bI_f (by omega)] | rw [if_pos (by omega)] | rw [if_neg (by omega)]))
