/-! THE TEXT: the act form, on both sides -/
theorem tall_z (D : Nat) (hD : D ≤ 5) : ∀ (L : List (Int × Int × Int × Int × Int)) (g : Nat → Int), (∀ x, x ∈ L → tok x ∧ tdeg x = (D : Int)) → (∀ j, mnN D ≤ j → g j = 0) → ∀ j, mnN D ≤ j → L.foldl tadd g j = 0
  | [], _, _, hg, j, hj => hg j hj
  | x :: L, g, hL, hg, j, hj => by
    refine tall_z D hD L (tadd g x) (fun y hy => hL y (List.mem_cons_of_mem _ hy)) (fun i hi => ?_) j hj
    obtain ⟨⟨-, -, ⟨a1, a2⟩, ⟨b1, b2⟩, c1, c2⟩, hd⟩ := hL x List.mem_cons_self
    unfold tdeg at hd
    have := pl_mn x.2.2.2.1.toNat x.2.2.2.2.toNat D (by omega) (by omega) (by omega) hD
    unfold tadd
    rw [if_neg (by omega)]
    exact hg i hi
section
variable {T : Nat → Int} {n : Nat}
theorem sq_281f {M : jM} {k : Nat} {v0 : Int} {q : Int} {b : Int} (hk : k < 20) (h55 : M 55 0 k = 0) (h0 : M 56 0 (4 * k) = v0) (h57 : M 57 0 k = q) (h8 : M 11 0 8 = b) : jq 281 [.inr (11, 0), .inl (k : Int)] M = jbI (jq 201 [.inl v0] M) fun x1 s1 => if x1 = 0 then some (some (.inl 0), s1) else jbI (jq 280 [.inr (11, 0), .inl (s1 57 0 k), .inl (s1 11 0 8)] s1) fun x2 s2 => if x2 = 0 then some (some (.inl 0), s2) else jbV (jq 215 [.inr (11, 0), .inl v0] s2) fun s3 => some (some (.inl 1), s3) := by
  have hc : ∀ (A B : Option jR), (if 0 ≤ (k : Int) ∧ (k : Int) < 20 then A else B) = A := fun A B => if_pos (by omega)
  rw [bq_281, jwi (x := 4 * (k : Int)) (by omega) (by omega), jwi (x := 4 * (k : Int) + 1) (by omega) (by omega), jwi (x := 4 * (k : Int) + 2) (by omega) (by omega), jwi (x := 4 * (k : Int) + 3) (by omega) (by omega), show (4 * (k : Int)).toNat = 4 * k by omega, show (4 * (k : Int) + 1).toNat = 4 * k + 1 by omega, show (4 * (k : Int) + 2).toNat = 4 * k + 2 by omega, show (4 * (k : Int) + 3).toNat = 4 * k + 3 by omega, Int.toNat_natCast, h55, h0, if_pos (by omega), if_pos (by omega), if_pos (by omega), if_pos (by omega), hc, if_pos (show (0 : Int) = 0 from rfl)]
  simp only [hc]
theorem act_form (hT : okT T n) {m : jM} {k q : Nat} {v0 : Int} (hI : Inv m) (hk : k < 20) (h5 : m 3 0 5 = 0) (o0 : m 19 0 0 = v0) (hC : CS m (psm T n 81 q 1).1) (h55 : m 55 0 k = 0) (h0 : m 56 0 (4 * k) = v0) (h57 : m 57 0 k = (q : Int)) (hgood : (psm T n 81 q 1).2.2 = 0) (h8 : m 11 0 8 = (n : Int)) (h37 : ∀ i, i < n → m 37 0 i = T i) (hb : m 11 0 37 = 0) (hq : q ≤ n) (p0 : 0 ≤ v0) : ActGo m k := by
  have hn := hT.1
  obtain ⟨-, -, -, htok, hne⟩ := psm_ok hT 81 q 1 (by omega) hq (Or.inl rfl)
  have hne := (hne hgood).2
  -- the reference's reading
  have ref : ∀ M : jM, M 11 0 8 = (n : Int) → (∀ i, i < n → M 37 0 i = T i) → M 11 0 37 = 0 → _ := fun M a b c => sq_280 (b := 0) hT (s := M) a b c hq hgood
  generalize (psm T n 81 q 1).1 = L at *
  obtain ⟨hd, tl, rfl⟩ : ∃ hd tl, L = hd :: tl := by
    cases L with
    | nil => exact absurd rfl hne
    | cons x y => exact ⟨x, y, rfl⟩
  obtain ⟨c1, c2, c3, c4⟩ := hC
  have hd0 : 0 ≤ tdeg hd := by
    obtain ⟨-, -, ⟨a1, a2⟩, ⟨b1, b2⟩, c1, c2⟩ := htok hd List.mem_cons_self
    unfold tdeg
    omega
  have q91 := sq_91 0 (by omega) m
  rw [o0] at q91
  have q91 : jq 91 [.inr (3, 0), .inl 0] m = some (some (.inl v0), m) := q91
  have q92 := sq_92 m c2
  have hso : (m 3 0 7 = 0 ∧ 0 ≤ m 3 0 6 ∧ m 3 0 6 ≤ 5) ↔ sumok (hd :: tl) := by
    rw [c1, c3]
    exact ⟨fun z => ⟨z.2.2, z.1⟩, fun z => ⟨z.2, hd0, z.1⟩⟩
  have e53 : jq 53 [.inr (10, 0)] m = jbI (jq 54 [.inr (10, 0), .inl v0] m) fun x2 s2 => if x2 = 0 ∨ x2 = 1 then some (some (.inl x2), s2) else none := by
    rw [bq_53, q91, jbI_s, h5, if_pos rfl]
  have no1 : (0 : Int) = 0 ∨ (0 : Int) = 1 := Or.inl rfl
  have yes1 : (1 : Int) = 0 ∨ (1 : Int) = 1 := Or.inr rfl
  by_cases c : v0 < 4
  · by_cases cs : sumok (hd :: tl)
    · obtain ⟨r, rfl⟩ := nat_of v0 p0
      obtain ⟨d, hdd⟩ := nat_of (tdeg hd) hd0
      obtain ⟨s7, s6, s5⟩ := hso.mpr cs
      have hd5 : d ≤ 5 := by rw [c1] at s5; omega
      obtain ⟨f1, f2⟩ := c4 s7 (by omega)
      obtain ⟨N, nx, hS⟩ := hI.2.2.2.2.2.1
      have q51 := sq_51r hI r 45 (by omega) (by omega)
      have qh := ref_hold 0 r r 45 (by omega) hS
      have hu : ∀ a b c, (29 ≤ a ∨ a = 11) → a ≠ 38 → a ≠ 39 → a ≠ 40 → mhold (cchg m 0 r r 45) N a b c = m a b c := fun a b c x y z w => mc_o _ _ _ _ _ _ (by omega) _ _ _ x y z w
      obtain ⟨ok, t, t1, t2, t3⟩ := ref (mhold (cchg m 0 r r 45) N) ((hu _ _ _ (by omega) (by omega) (by omega) (by omega)).trans h8) (fun i hi => (hu _ _ _ (by omega) (by omega) (by omega) (by omega)).trans (h37 i hi)) ((hu _ _ _ (by omega) (by omega) (by omega) (by omega)).trans hb)
      rcases t3 with ⟨x1, x2, ⟨hd', tl', x3, x4⟩, x5, x6⟩ | ⟨x1, x2⟩
      · have hh : hd = hd' := by injection x3
        rw [← hh, hdd] at x4
        have hz := tall_z d hd5 (hd :: tl) (fun _ => 0) (fun x hx => ⟨htok x hx, by
          rcases List.mem_cons.mp hx with z | z
          · rw [z, hdd]
          · rw [cs.2 x z, hdd]⟩) (fun _ _ => rfl)
        obtain ⟨l1, l2, l3, l4⟩ := act_lay (U := t) (g := tall (hd :: tl)) (d := d) hI hS (r := r) (by omega) hd5 (Or.inr rfl) (by rw [f1, hdd]) (fun j _ => tall_g _ j) (fun j hj _ => hz j hj) f2 t2 x4 (by rw [x5, hb]) x6
        refine ⟨1, cchg m 0 r r 45, mhold (cchg m 0 r r 45) N, _, ?_, qh, ?_, Or.inr ⟨rfl, _, l2, l3, l4⟩⟩
        · rw [e53, bq_54, sq_39, jbI_s, bI_t (by omega), if_neg (by decide), q92, bI_f (show ¬ ¬ (m 3 0 7 = 0 ∧ 0 ≤ m 3 0 6 ∧ m 3 0 6 ≤ 5) from fun z => z ⟨s7, s6, s5⟩), jbI_s, if_pos rfl, q51, jbV_s, jbI_s, if_pos yes1]
        · have q8 : mhold (cchg m 0 r r 45) N 11 0 8 = (n : Int) := (hu _ _ _ (by omega) (by omega) (by omega) (by omega)).trans h8
          have q57 : mhold (cchg m 0 r r 45) N 57 0 k = (q : Int) := (hu _ _ _ (by omega) (by omega) (by omega) (by omega)).trans h57
          rw [sq_281f (v0 := (r : Int)) (q := (q : Int)) (b := (n : Int)) hk ((hu _ _ _ (by omega) (by omega) (by omega) (by omega)).trans h55) ((hu _ _ _ (by omega) (by omega) (by omega) (by omega)).trans h0) q57 q8, sq_201, jbI_s, bI_t (by omega), if_neg (by decide), q57, q8, t1, jbI_s, x1, if_neg (by decide), l1, jbV_s]
      · exact absurd cs x2
    · refine act_no hI ?_ (fun M hM => ?_)
      · rw [e53, bq_54, sq_39, jbI_s, bI_t (by omega), if_neg (by decide), q92, bI_t (show ¬ (m 3 0 7 = 0 ∧ 0 ≤ m 3 0 6 ∧ m 3 0 6 ≤ 5) from fun z => cs (hso.mp z)), jbI_s, if_neg (by decide), jbI_s, if_pos no1]
      · have q8 : M 11 0 8 = (n : Int) := (hM _ _ _ (by omega) (by omega) (by omega)).trans h8
        have q57 : M 57 0 k = (q : Int) := (hM _ _ _ (by omega) (by omega) (by omega)).trans h57
        obtain ⟨ok, t, t1, t2, t3⟩ := ref M q8 (fun i hi => (hM _ _ _ (by omega) (by omega) (by omega)).trans (h37 i hi)) ((hM _ _ _ (by omega) (by omega) (by omega)).trans hb)
        rcases t3 with ⟨x1, x2, -⟩ | ⟨x1, x2⟩
        · exact absurd x2 cs
        · refine ⟨t, ?_, t2⟩
          rw [sq_281f (v0 := v0) (q := (q : Int)) (b := (n : Int)) hk ((hM _ _ _ (by omega) (by omega) (by omega)).trans h55) ((hM _ _ _ (by omega) (by omega) (by omega)).trans h0) q57 q8, sq_201, jbI_s, bI_t (by omega), if_neg (by decide), q57, q8, t1, jbI_s, x1, if_pos rfl]
  · refine act_no hI ?_ (fun M hM => ⟨M, ?_, fun _ _ _ _ => rfl⟩)
    · rw [e53, bq_54, sq_39, jbI_s, bI_f (by omega), if_pos rfl, jbI_s, if_pos no1]
    · rw [sq_281f (v0 := v0) (q := (q : Int)) (b := (n : Int)) hk ((hM _ _ _ (by omega) (by omega) (by omega)).trans h55) ((hM _ _ _ (by omega) (by omega) (by omega)).trans h0) ((hM _ _ _ (by omega) (by omega) (by omega)).trans h57) ((hM _ _ _ (by omega) (by omega) (by omega)).trans h8), sq_201, jbI_s, bI_f (by omega), if_pos rfl]
end
