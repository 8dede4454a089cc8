/-! READ -/
theorem jwr_c {q : Nat} (h : jwr 0 q = true) : jwr 200 q = false ∧ q < 29 ∧ q ≠ 11 := by
  have h : (Nat.blt q 29 && !(Nat.beq q 11)) = true := h
  have hq : q < 29 := by
    cases hz : Nat.blt q 29 with
    | false => rw [hz] at h; cases h
    | true => exact Nat.le_of_ble_eq_true hz
  exact (by decide : ∀ q, q < 29 → (Nat.blt q 29 && !(Nat.beq q 11)) = true → jwr 200 q = false ∧ q < 29 ∧ q ≠ 11) q hq h
theorem jwr_r {q : Nat} (h : jwr 200 q = true) : jwr 0 q = false := by
  cases hz : jwr 0 q with
  | false => rfl
  | true => rw [(jwr_c hz).1] at h; cases h
theorem jwr_58 : ∀ q, q < 58 → jwr 0 q = true ∨ jwr 200 q = true := by decide
theorem je_keep {y pc : Nat} {ls : jS} {st : List jV} {σ s : jM} {v : Option jV} (h : je y pc ls st σ = some (v, s)) (q : Nat) (hq : jwr y q = false) : s q = σ q := by
  obtain ⟨n, hn⟩ := (jev_iff jC_sh).mp h
  exact jrun_keeps jC_sh n y pc ls st σ _ hn q hq
theorem Inv_wipe {s F : jM} (hI : Inv s) (h : ∀ k i j, ¬ Scr k i j → ¬ (k = 8 ∧ i = 0 ∧ j = 1) → ¬ (k = 11 ∧ i = 0 ∧ j = 8) → F k i j = s k i j) (h8 : F 8 0 1 = 0) (h11 : F 11 0 8 = 0) : Inv F := by
  obtain ⟨a, b, c, d, e, ⟨n, nx, f⟩, g⟩ := hI
  unfold Scr at h
  refine ⟨RB_cg (fun k i j q => h k i j (by omega) (by omega) (by omega)) a, RK_cg (fun k i j q => h k i j (by omega) (by omega) (by omega)) b, RR_cg (fun k i j q => h k i j (by omega) (by omega) (by omega)) c, ⟨by rw [h8, h11], by omega, by omega, fun i hi => absurd hi (by omega)⟩, RI_cg (fun k i j q => h k i j (by omega) (by omega) (by omega)) e, ⟨n, nx, RS_cg (fun k i j q => h k i j (by omega) (by omega) (by omega)) f⟩, TI_cg (fun j => h _ _ _ (by omega) (by omega) (by omega)) g⟩
section
variable {T : Nat → Int} {n : Nat}
theorem pf_nn (p : Nat × Int) : 0 ≤ (pf T n p).2 := by
  unfold pf
  split
  · show 0 ≤ nx T n p.1 - 48
    omega
  · exact Int.le_refl 0
theorem pfs_nn (hT : okT T n) (p : Nat × Int) : 0 ≤ (pfs T n p).2 := by
  unfold pfs
  split
  · exact (pfl_ok hT 2 (p.1 + 1) (nx T n p.1 - 48) (by omega)).2.2.1
  · exact Int.le_refl 0
theorem Aq_le (hT : okT T n) (e : Nat) (he : e ≤ n) : (Aq T n e).1 ≤ n := by
  obtain ⟨a1, a2, a3⟩ := pw_le hT 32 (by decide) (e, 0) he (Or.inl rfl)
  obtain ⟨b1, b2, b3, -⟩ := pf_le hT (pw T n 32 (e, 0)) a2
  obtain ⟨c1, c2, c3⟩ := pw_le hT 32 (by decide) (A0 T n e).1 b2 b3
  obtain ⟨d1, d2, d3⟩ := pw_le hT 61 (by decide) _ c2 c3
  exact (pw_le hT 32 (by decide) _ d2 d3).2.1
theorem act_any (hT : okT T n) {m : jM} {a k : Nat} (hI : Inv m) (hk : k < 20) (ha : a ≤ n) (hp : (pa T n a).2 = 0) (hO : OPS T n m a) (hR : RAct T n m a k) (h8 : m 11 0 8 = (n : Int)) (h37 : ∀ i, i < n → m 37 0 i = T i) (hb : m 11 0 37 = 0) : ActGo m k := by
  obtain ⟨w1, w2, w3⟩ := we_ok hT a ha
  have hw := ((pa_ok hT a ha).2.2 hp).2
  obtain ⟨-, w4, w5⟩ := w3 hw
  have ep : pa T n a = pe T n (ww T n a) (we T n a) := if_neg hw
  rw [ep] at hp
  unfold pe at hp
  obtain ⟨o1, o2, o3, o4, o5, o6⟩ := hO
  obtain ⟨r1, r2, r3, r4, r5, r6⟩ := hR
  have g0 : 0 ≤ (A0 T n (we T n a)).2 := pf_nn _
  have g1 : 0 ≤ (L1 T n (we T n a)).2 := pfs_nn hT _
  have g2 : 0 ≤ (L2 T n (we T n a)).2 := pfs_nn hT _
  have g3 : 0 ≤ (L3 T n (we T n a)).2 := pfs_nn hT _
  have g4 : 0 ≤ (B1 T n (we T n a)).2 := pf_nn _
  have g5 : 0 ≤ (B2 T n (we T n a)).2 := pfs_nn hT _
  by_cases c0 : ww T n a = 0
  · rw [if_pos c0] at hp
    have hA : (Aq T n (we T n a)).2 = 0 := by
      unfold Sm at hp
      by_cases z : (Aq T n (we T n a)).2 = 0
      · exact z
      · rw [if_neg z] at hp; exact hp
    have eS : Sm T n (we T n a) = psm T n 81 (Aq T n (we T n a)).1 1 := if_pos hA
    rw [eS] at hp
    have o3 := o3 c0
    rw [eS] at o3
    exact act_form hT hI hk (o1.trans c0) o2 o3 (r1.trans c0) r2 (r3 c0) hp h8 h37 hb (Aq_le hT _ w2) g0
  · by_cases c1 : ww T n a = 1
    · obtain ⟨o7, o8, o9⟩ := o4 c1
      obtain ⟨r7, r8, r9⟩ := r4 c1
      exact act_line hI hk (o1.trans c1) o2 o7 o8 o9 (r1.trans c1) r2 r7 r8 r9 g0 g1 g2 g3
    · by_cases c2 : ww T n a = 2
      · obtain ⟨o7, o8⟩ := o5 c2
        obtain ⟨r7, r8⟩ := r5 c2
        exact act_add hI hk (o1.trans c2) o2 o7 o8 (r1.trans c2) r2 r7 r8 g0 g4 g5
      · have c3 : ww T n a = 3 := by omega
        exact act_zero hI hk (o1.trans c3) o2 (o6 c3) (r1.trans c3) r2 (r6 c3) g0 g4
theorem sq_90 {s : jM} {p : Nat × Int} (h : CP T n s p) : jq 90 [.inr (3, 0)] s = some (some (.inl (if p.1 < n then 1 else 0)), s) := by
  rw [bq_90, h.2.2.1, h.1]
  by_cases c : p.1 < n
  · rw [if_pos (by omega), if_pos c]
  · rw [if_neg (by omega), if_neg c]
theorem read_loop (hT : okT T n) : ∀ (f a k : Nat) (m : jM), n + 1 ≤ a + f → 6 * k ≤ a → (ptx2 T n f a).2 = 0 → Inv m → CP T n m (a, 0) → RActs T n m (pal T n f a) k → m 11 0 38 = ((k + (pal T n f a).length : Nat) : Int) → m 11 0 8 = (n : Int) → (∀ i, i < n → m 37 0 i = T i) → m 11 0 37 = 0 → ∃ (x : Int) (c m' : jM), je 52 9 [some (.inr (10, 0)), some (.inl (k : Int))] [] m = some (some (.inl x), c) ∧ Inv m' ∧ (∀ q, jwr 0 q = true → m' q = c q) ∧ ∀ r : jM, (∀ q, jwr 200 q = true → r q = m q) → ∃ r', je 282 31 [some (.inr (11, 0)), some (.inl 1), some (.inl (k : Int)), some (.inl 1)] [] r = some (some (.inl x), jup r' 11 0 8 0) ∧ ∀ q, jwr 200 q = true → r' q = m' q
  | 0, a, k, m, hf, hk, hgood, hI, hC, hR, h38, h8, h37, hb => absurd hf (by have : a ≤ n := hC.2.2.2.2.2; omega)
  | f + 1, a, k, m, hf, hk, hgood, hI, hC, hR, h38, h8, h37, hb => by
    have ha : a ≤ n := hC.2.2.2.2.2
    have hn := hT.1
    obtain ⟨q1, q2, q3, q4⟩ := qa_ok hT a ha
    have ep : pal T n (f + 1) a = a :: (if (qa T n a).2 = 0 ∧ (pa T n a).1 < n then pal T n f (qa T n a).1 else []) := rfl
    have ex : ptx2 T n (f + 1) a = if (qa T n a).2 = 0 ∧ (pa T n a).1 < n then ptx2 T n f (qa T n a).1 else qa T n a := rfl
    have hq0 : (qa T n a).2 = 0 := by
      rw [ex] at hgood
      by_cases z : (qa T n a).2 = 0 ∧ (pa T n a).1 < n
      · exact z.1
      · rw [if_neg z] at hgood; exact hgood
    obtain ⟨hp0, hq6⟩ := q3 hq0
    rw [ep] at hR h38
    obtain ⟨m1, z1, z2, z3, z4⟩ := sq_94 hT hC
    have z4 := z4 hp0
    have I1 : Inv m1 := Inv_kp (fun k i j z => z3 k i j (by unfold Scr at z; omega)) hI
    have R1 : RAct T n m1 a k := RAct_c hR.1 (fun q i j z => z3 _ _ _ (by omega))
    have b1 : m1 11 0 37 = 0 := by rw [z3 _ _ _ (by omega)]; exact hb
    have b38 : m1 11 0 38 = m 11 0 38 := z3 _ _ _ (by omega)
    obtain ⟨ok, m2, m3, m4, s1, s2, s3, s4⟩ := act_any hT I1 (k := k) (by omega) ha hp0 z4 R1 (by rw [z3 _ _ _ (by omega)]; exact h8) (fun i hi => by rw [z3 _ _ _ (by omega)]; exact h37 i hi) b1
    -- what each leaves
    have k1 : ∀ q, jwr 0 q = false → m1 q = m q := fun q hq => jq_keep z1 q hq
    have k2 : ∀ q, jwr 0 q = false → m2 q = m1 q := fun q hq => jq_keep s1 q hq
    have k3 : ∀ q, jwr 200 q = false → m3 q = m2 q := fun q hq => jq_keep s2 q hq
    have k4 : ∀ q, jwr 200 q = false → m4 q = m3 q := fun q hq => jq_keep s3 q hq
    have len : (0 : Nat) < (a :: (if (qa T n a).2 = 0 ∧ (pa T n a).1 < n then pal T n f (qa T n a).1 else [])).length := Nat.succ_pos _
    have hk38 : (k : Int) < m 11 0 38 := by rw [h38]; omega
    -- the reference's steps from a state of its side
    have ref : ∀ r : jM, (∀ q, jwr 200 q = true → r q = m q) → ∃ r3 r4, jq 211 [.inr (11, 0)] r = some (none, r3) ∧ jq 281 [.inr (11, 0), .inl (k : Int)] r3 = some (some (.inl ok), r4) ∧ ∀ q, jwr 200 q = true → r4 q = m4 q := fun r hr => by
      obtain ⟨r3, x1, x2, -⟩ := jq_loc (y := 211) (by decide) (τ := r) (fun q hq => by rw [hr q hq, k2 q (jwr_r hq), k1 q (jwr_r hq)]) s2
      obtain ⟨r4, y1, y2, -⟩ := jq_loc (y := 281) (by decide) (τ := r3) (fun q hq => x2 q hq) s3
      exact ⟨r3, r4, x1, y1, y2⟩
    have hr38 : ∀ r : jM, (∀ q, jwr 200 q = true → r q = m q) → r 11 0 38 = m 11 0 38 := fun r hr => by rw [hr 11 rfl]
    rw [be_52_9, if_pos (by omega), sq_90 hC, jbI_s, if_pos (show (a, (0 : Int)).1 < n by show a < n; omega), if_neg (by decide), z1, jbI_s, s1, jbI_s]
    rcases s4 with ⟨e0, I4, x38⟩ | ⟨e1, m5, s5, I5, x5⟩
    · -- refused
      subst e0
      rw [if_pos rfl, jwi (by omega) (by omega)]
      refine ⟨-200 - (k : Int), m2, m4, rfl, I4, fun q hq => by rw [k4 q (jwr_c hq).1, k3 q (jwr_c hq).1], fun r hr => ?_⟩
      obtain ⟨r3, r4, x1, x2, x3⟩ := ref r hr
      have r38 : r4 11 0 38 = m 11 0 38 := by rw [x3 11 rfl, x38, b38]
      exact ⟨r4, by rw [be_282_31, if_neg (by decide), hr38 r hr, if_pos hk38, x1, jbV_s, x2, jbI_s, if_pos rfl, be_282_31, if_pos rfl, be_282_67, r38, if_pos hk38, jwi (by omega) (by omega)], x3⟩
    · subst e1
      rw [if_neg (by decide), jwn (x := (k : Int) + 1) (n := k + 1) (by omega) (by omega)]
      have k5 : ∀ q, jwr 200 q = false → m5 q = m4 q := fun q hq => jq_keep s5 q hq
      have hcl : ∀ q, jwr 0 q = true → m2 q = m5 q := fun q hq => by rw [k5 q (jwr_c hq).1, k4 q (jwr_c hq).1, k3 q (jwr_c hq).1]
      have ref5 : ∀ r : jM, (∀ q, jwr 200 q = true → r q = m q) → ∃ r5, (je 282 31 [some (.inr (11, 0)), some (.inl 1), some (.inl (k : Int)), some (.inl 1)] [] r = je 282 31 [some (.inr (11, 0)), some (.inl 1), some (.inl ((k + 1 : Nat) : Int)), some (.inl 1)] [] r5) ∧ ∀ q, jwr 200 q = true → r5 q = m5 q := fun r hr => by
        obtain ⟨r3, r4, x1, x2, x3⟩ := ref r hr
        obtain ⟨r5, y1, y2, -⟩ := jq_loc (y := 213) (by decide) (τ := r4) (fun q hq => x3 q hq) s5
        exact ⟨r5, by rw [be_282_31, if_neg (by decide), hr38 r hr, if_pos hk38, x1, jbV_s, x2, jbI_s, if_neg (by decide), y1, jbV_s, jwn (x := (k : Int) + 1) (n := k + 1) (by omega) (by omega)], y2⟩
      have C5 : CP T n m5 (qa T n a) := by
        obtain ⟨c1, c2, c3, c4, c5, c6⟩ := z2
        exact ⟨by rw [x5 _ _ _ (by omega)]; exact c1, fun i hi => by rw [x5 _ _ _ (by omega)]; exact c2 i hi, by rw [x5 _ _ _ (by omega)]; exact c3, by rw [x5 _ _ _ (by omega)]; exact c4, c5, c6⟩
      have m5_38 : m5 11 0 38 = m 11 0 38 := by rw [x5 _ _ _ (by omega), b38]
      by_cases c1 : (pa T n a).1 < n
      · have hz : (qa T n a).2 = 0 ∧ (pa T n a).1 < n := ⟨hq0, c1⟩
        have hq7 := q4 hq0 c1
        rw [if_pos hz] at hR h38
        rw [ex, if_pos hz] at hgood
        have C5' : CP T n m5 ((qa T n a).1, 0) := by rw [← pz0 hq0]; exact C5
        obtain ⟨x, c, m', y1, y2, y3, y4⟩ := read_loop hT f (qa T n a).1 (k + 1) m5 (by omega) (by omega) hgood I5 C5' (RActs_c _ _ hR.2 (fun q i j z => by rw [x5 _ _ _ (by omega), z3 _ _ _ (by omega)])) (by rw [m5_38, h38, List.length_cons]; omega) (by rw [x5 _ _ _ (by omega), z3 _ _ _ (by omega)]; exact h8) (fun i hi => by rw [x5 _ _ _ (by omega), z3 _ _ _ (by omega)]; exact h37 i hi) (by rw [x5 _ _ _ (by omega)]; exact b1)
        obtain ⟨c', w1, w2, -⟩ := je_loc (y := 52) (by decide) (τ := m2) (fun q hq => hcl q hq) y1
        refine ⟨x, c', m', w1, y2, fun q hq => by rw [y3 q hq]; exact (w2 q hq).symm, fun r hr => ?_⟩
        obtain ⟨r5, v1, v2⟩ := ref5 r hr
        rw [v1]
        exact y4 r5 v2
      · have hz : ¬ ((qa T n a).2 = 0 ∧ (pa T n a).1 < n) := fun z => c1 z.2
        have eq : qa T n a = pa T n a := if_neg c1
        rw [if_neg hz] at h38
        have h38 : m 11 0 38 = ((k + 1 : Nat) : Int) := h38
        have C2 : CP T n m2 (qa T n a) := CP_c C5 (fun k i j z => by
          have : m2 k = m5 k := by rcases z with ⟨z, -⟩ | z | z <;> (subst z; exact hcl _ rfl)
          rw [this])
        have e90 := sq_90 C2
        rw [eq, if_neg c1] at e90
        rw [be_52_9]
        refine ⟨((k + 1 : Nat) : Int), m2, m5, by rw [if_pos (by omega), e90, jbI_s, if_pos rfl], I5, fun q hq => (hcl q hq).symm, fun r hr => ?_⟩
        obtain ⟨r5, v1, v2⟩ := ref5 r hr
        have r38 : r5 11 0 38 = ((k + 1 : Nat) : Int) := by rw [v2 11 rfl, m5_38, h38]
        exact ⟨r5, by rw [v1, be_282_31, if_neg (by decide), r38, if_neg (by omega), be_282_67, r38, if_neg (by omega)], v2⟩
end
theorem ap_34 (s : jM) (hI : Inv s) : Go s 34 282 [] := by
  obtain ⟨t1, t2, t3, t4⟩ := id hI.2.2.2.1
  obtain ⟨n, hn⟩ := nat_of (s 8 0 1) t2
  have hT : okT (s 27 0) n := ⟨by omega, fun i hi => (t4 i (by omega)).2⟩
  have hc8 : s 11 0 8 = (n : Int) := by rw [← t1]; exact hn
  have hc37 : ∀ i, i < n → s 37 0 i = s 27 0 i := fun i hi => (t4 i (by omega)).1.symm
  obtain ⟨t, a1, a2⟩ := sq_93 hT hn (fun i _ => rfl)
  have hc27 : ∀ i, i < n → s 27 0 i = s 27 0 i := fun _ _ => rfl
  generalize hTT : s 27 0 = T at *
  have hc27 : ∀ i, s 27 0 i = T i := fun i => by rw [hTT]
  have hn80 := hT.1
  by_cases hg : (ptx2 T n 81 0).2 = 0
  · rw [if_pos hg] at a1
    -- the class begins
    obtain ⟨u, hu⟩ : ∃ u, u = jup (jup t 3 0 3 0) 3 0 4 (-1) := ⟨_, rfl⟩
    have hu1 : TA s u := fun k i j z => by rw [hu, jup_n _ _ _ _ _ _ _ _ (by omega), jup_n _ _ _ _ _ _ _ _ (by omega), a2 _ _ _ (by omega)]
    have hu2 : u 3 0 3 = 0 := by rw [hu, jup_n _ _ _ _ _ _ _ _ (by omega), jup_e]
    have hu3 : u 3 0 4 = -1 := by rw [hu, jup_e]
    have e34 : jq 34 [.inr (10, 0)] s = jbI (je 52 9 [some (.inr (10, 0)), some (.inl 0)] [] u) fun x2 s2 => some (some (.inl x2), jup s2 8 0 1 0) := by
      rw [bq_34, a1, jbI_s, if_pos (by decide), bq_52, bq_89, jbV_s, hu]
    obtain ⟨w, w1, w2, w3, w4⟩ := sq_279 hT (s := u) (by rw [hu1 _ _ _ (by omega)]; exact hc8) (fun i hi => by rw [hu1 _ _ _ (by omega)]; exact hc37 i hi)
    obtain ⟨w5, w6⟩ := w4 hg
    rw [if_pos hg] at w1
    obtain ⟨m, hm⟩ : ∃ m, m = jup w 11 0 37 0 := ⟨_, rfl⟩
    have hmw : ∀ k i j, ¬ (k = 11 ∧ j = 37) → m k i j = w k i j := fun k i j z => by rw [hm, jup_n _ _ _ _ _ _ _ _ (by omega)]
    have hmu : ∀ k i j, k ≠ 11 → k < 55 → m k i j = u k i j := fun k i j z z2 => by rw [hmw _ _ _ (by omega), w3 _ _ _ (by omega)]
    have hmI : Inv m := Inv_kp (fun k i j z => by
      unfold Scr at z
      rw [hmw _ _ _ (by omega), w3 _ _ _ (by omega), hu1 _ _ _ (by omega)]) hI
    have hmC : CP T n m (0, 0) := ⟨by rw [hmu _ _ _ (by omega) (by omega), hu1 _ _ _ (by omega)]; exact hn, fun i hi => by rw [hmu _ _ _ (by omega) (by omega), hu1 _ _ _ (by omega)]; exact hc27 i, by rw [hmu _ _ _ (by omega) (by omega)]; exact hu2, by rw [hmu _ _ _ (by omega) (by omega)]; exact hu3, Or.inl rfl, Nat.zero_le n⟩
    obtain ⟨x, c, m', y1, y2, y3, y4⟩ := read_loop hT 81 0 0 m (by omega) (by omega) hg hmI hmC (RActs_c _ _ w6 (fun q i j z => hmw _ _ _ (by omega))) (by rw [hmw _ _ _ (by omega), w5, Nat.zero_add]) (by rw [hmw _ _ _ (by omega), w3 _ _ _ (by omega), hu1 _ _ _ (by omega)]; exact hc8) (fun i hi => by rw [hmw _ _ _ (by omega), w3 _ _ _ (by omega), hu1 _ _ _ (by omega)]; exact hc37 i hi) (by rw [hm, jup_e])
    have y1 : je 52 9 [some (.inr (10, 0)), some (.inl 0)] [] m = some (some (.inl x), c) := y1
    -- the class from its own state
    obtain ⟨c', v1, v2, v3⟩ := je_loc (y := 52) (by decide) (τ := u) (fun q hq => by
      have := jwr_c (q := q) hq
      funext i j
      exact (hmu q i j this.2.2 (by omega)).symm) y1
    have hσ : jq 34 [.inr (10, 0)] s = some (some (.inl x), jup c' 8 0 1 0) := by rw [e34, v1, jbI_s]
    -- the reference from there
    have hσr : ∀ q, jwr 200 q = true → jup c' 8 0 1 0 q = u q := fun q hq => by
      rw [jup_ne (fun z => by subst z; cases hq)]
      exact v3 q (jwr_r hq)
    obtain ⟨w', x1, x2, x3⟩ := jq_loc (y := 279) (by decide) (τ := jup c' 8 0 1 0) (fun q hq => hσr q hq) w1
    have hr : ∀ q, jwr 200 q = true → jup w' 11 0 37 0 q = m q := fun q hq => by
      rw [hm]
      funext i j
      show (if q = 11 ∧ i = 0 ∧ j = 37 then (0 : Int) else w' q i j) = if q = 11 ∧ i = 0 ∧ j = 37 then 0 else w q i j
      rw [x2 q hq]
    obtain ⟨r', z1, z2⟩ := y4 (jup w' 11 0 37 0) hr
    have z1 : je 282 31 [some (.inr (11, 0)), some (.inl 1), some (.inl 0), some (.inl 1)] [] (jup w' 11 0 37 0) = some (some (.inl x), jup r' 11 0 8 0) := z1
    refine ⟨x, jup c' 8 0 1 0, jup r' 11 0 8 0, hσ, ?_, ?_⟩
    · rw [bq_282, x1, jbI_s, if_neg (by decide)]
      exact z1
    · -- what holds at the end
      have hF : ∀ q, q < 58 → jup r' 11 0 8 0 q = jup (jup m' 8 0 1 0) 11 0 8 0 q := fun q hq => by
        rcases jwr_58 q hq with h | h
        · obtain ⟨h1, h2, h3⟩ := jwr_c h
          have e1 : jup r' 11 0 8 0 q = jup w' 11 0 37 0 q := je_keep z1 q h1
          rw [e1, jup_ne h3, x3 q h1, jup_ne h3]
          funext i j
          show (if q = 8 ∧ i = 0 ∧ j = 1 then (0 : Int) else c' q i j) = if q = 8 ∧ i = 0 ∧ j = 1 then 0 else m' q i j
          rw [y3 q h, v2 q h]
        · have h8 : q ≠ 8 := fun z => by subst z; cases h
          funext i j
          show (if q = 11 ∧ i = 0 ∧ j = 8 then (0 : Int) else r' q i j) = if q = 11 ∧ i = 0 ∧ j = 8 then 0 else jup m' 8 0 1 0 q i j
          rw [jup_ne h8, z2 q h]
      refine Inv_58 hF (Inv_wipe y2 (fun k i j _ z z' => by rw [jup_n _ _ _ _ _ _ _ _ (by omega), jup_n _ _ _ _ _ _ _ _ (by omega)]) (by rw [jup_n _ _ _ _ _ _ _ _ (by omega), jup_e]) (jup_e _ _ _ _ _))
  · rw [if_neg hg] at a1
    have hle : (ptx2 T n 81 0).1 ≤ n := by
      obtain ⟨t', _, w2, _⟩ := sq_279 hT (s := s) hc8 hc37
      exact w2.2.2.2.2.2
    obtain ⟨σ, hσ⟩ : ∃ σ, σ = jup t 8 0 1 0 := ⟨_, rfl⟩
    have hσo : ∀ k i j, ¬ (k = 8 ∧ i = 0 ∧ j = 1) → σ k i j = t k i j := fun k i j z => by rw [hσ, jup_n _ _ _ _ _ _ _ _ z]
    obtain ⟨w, w1, w2, w3, -⟩ := sq_279 hT (s := σ) (by rw [hσo _ _ _ (by omega), a2 _ _ _ (by omega)]; exact hc8) (fun i hi => by rw [hσo _ _ _ (by omega), a2 _ _ _ (by omega)]; exact hc37 i hi)
    rw [if_neg hg] at w1
    refine ⟨-100 - ((ptx2 T n 81 0).1 : Int), σ, jup w 11 0 8 0, ?_, ?_, ?_⟩
    · rw [bq_34, a1, jbI_s, if_neg (by omega), jwi (by omega) (by omega), hσ]
    · rw [bq_282, w1, jbI_s, if_pos rfl, w2.2.2.1, jwi (by omega) (by omega)]
    · refine Inv_wipe hI (fun k i j z1 z2 z3 => ?_) ?_ (jup_e _ _ _ _ _)
      · unfold Scr at z1
        rw [jup_n _ _ _ _ _ _ _ _ (by omega), w3 _ _ _ (by omega), hσo _ _ _ (by omega), a2 _ _ _ (by omega)]
      · rw [jup_n _ _ _ _ _ _ _ _ (by omega), w3 _ _ _ (by omega), hσ, jup_e]
