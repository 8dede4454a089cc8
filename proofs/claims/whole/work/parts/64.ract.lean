/-! THE TEXT: acts in the reference -/
/-- the places that the acts from the k-th on may write -/
def TX (k : Nat) (s t : jM) : Prop := ∀ q i j, ¬ (q = 11 ∧ (j = 36 ∨ j = 37 ∨ j = 38 ∨ j = 42 ∨ j = 43 ∨ j = 44 ∨ j = 45) ∨ (q = 55 ∨ q = 57) ∧ k ≤ j ∨ q = 56 ∧ 4 * k ≤ j) → t q i j = s q i j
theorem TX_r (k : Nat) (s : jM) : TX k s s := fun _ _ _ _ => rfl
theorem TX_t {k : Nat} {s t u : jM} (h : TX k s t) (h2 : TX k t u) : TX k s u := fun q i j z => (h2 q i j z).trans (h q i j z)
theorem TQ_X {s t : jM} (k : Nat) (h : TQ s t) : TX k s t := fun q i j z => h q i j (by omega)
theorem TP_X {s t : jM} (k : Nat) (h : TP s t) : TX k s t := fun q i j z => h q i j (by omega)
section
variable {T : Nat → Int} {n : Nat}
/-- the act at a, as the reference holds it as its k-th -/
def RAct (T : Nat → Int) (n : Nat) (t : jM) (a k : Nat) : Prop := t 55 0 k = ww T n a ∧ t 56 0 (4 * k) = (A0 T n (we T n a)).2 ∧ (ww T n a = 0 → t 57 0 k = ((Aq T n (we T n a)).1 : Int)) ∧ (ww T n a = 1 → t 56 0 (4 * k + 1) = (L1 T n (we T n a)).2 ∧ t 56 0 (4 * k + 2) = (L2 T n (we T n a)).2 ∧ t 56 0 (4 * k + 3) = (L3 T n (we T n a)).2) ∧ (ww T n a = 2 → t 56 0 (4 * k + 1) = (B1 T n (we T n a)).2 ∧ t 56 0 (4 * k + 2) = (B2 T n (we T n a)).2) ∧ (ww T n a = 3 → t 56 0 (4 * k + 1) = (B1 T n (we T n a)).2)
theorem RAct_c {t u : jM} {a k : Nat} (h : RAct T n t a k) (hu : ∀ q i j, (q = 55 ∨ q = 57) ∧ j = k ∨ q = 56 ∧ 4 * k ≤ j ∧ j ≤ 4 * k + 3 → u q i j = t q i j) : RAct T n u a k := by
  obtain ⟨a1, a2, a3, a4, a5, a6⟩ := h
  refine ⟨by rw [hu _ _ _ (by omega)]; exact a1, by rw [hu _ _ _ (by omega)]; exact a2, fun z => by rw [hu _ _ _ (by omega)]; exact a3 z, fun z => ?_, fun z => ?_, fun z => by rw [hu _ _ _ (by omega)]; exact a6 z⟩
  · rw [hu _ _ _ (by omega), hu _ _ _ (by omega), hu _ _ _ (by omega)]; exact a4 z
  · rw [hu _ _ _ (by omega), hu _ _ _ (by omega)]; exact a5 z
theorem pfs_b {p : Nat × Int} (h : p.2 = 1) : pfs T n p = (p, 0) := by
  have : pfs T n p = ((p.1, 1), 0) := if_neg (fun z => by omega)
  rw [this, ← h]
theorem pf_b {p : Nat × Int} (h : p.2 = 1) : pf T n p = (p, 0) := by
  have : pf T n p = ((p.1, 1), 0) := if_neg (fun z => by omega)
  rw [this, ← h]
theorem pw_b {c : Int} {p : Nat × Int} (h : p.2 = 1) : pw T n c p = p := if_neg (by omega)
theorem cm_b {p : Nat × Int} (h : p.2 = 1) : cm T n p = p := by
  unfold cm
  rw [pw_b h, pw_b h, pw_b h]
/-- the end of an act -/
theorem sj_278e (hT : okT T n) {s : jM} {p : Nat × Int} (k e : Nat) (w : Int) (o2 : Option jV) (hk : k < 20) (h38 : s 11 0 38 = (k : Int)) (h : RP T n s p) : (w ≠ 2 → je 278 189 [some (.inr (11, 0)), some (.inl w), o2] [] s = some (none, jup s 11 0 38 ((k + 1 : Nat) : Int))) ∧ (w = 2 → ∃ t, je 278 189 [some (.inr (11, 0)), some (.inl w), o2] [] s = some (none, t) ∧ RP T n t (pfs T n (pw T n 32 p)).1 ∧ t 56 0 (4 * k + 2) = (pfs T n (pw T n 32 p)).2 ∧ t 11 0 38 = ((k + 1 : Nat) : Int) ∧ TX k s t ∧ (∀ j, j ≠ 4 * k + 2 → t 56 0 j = s 56 0 j) ∧ ∀ j, t 55 0 j = s 55 0 j) := by
  refine ⟨fun hw => ?_, fun hw => ?_⟩
  · rw [be_278_189, if_neg hw, h38, jwn (x := (k : Int) + 1) (n := k + 1) (by omega) (by omega)]
  · obtain ⟨u, u1, u2, u3⟩ := sq_270 hT h 32 (by decide)
    obtain ⟨v, v1, v2, v3⟩ := sq_272 hT u2
    have hu38 : u 11 0 38 = (k : Int) := by rw [u3 _ _ _ (by omega)]; exact h38
    have hv38 : v 11 0 38 = (k : Int) := by rw [v3 _ _ _ (by omega)]; exact hu38
    refine ⟨_, by rw [be_278_189, if_pos hw, u1, jbV_s, v1, jbI_s, hu38, jwi (x := 4 * (k : Int)) (by omega) (by omega), jwi (x := 4 * (k : Int) + 2) (by omega) (by omega), if_pos (by omega), hv38, jwn (x := (k : Int) + 1) (n := k + 1) (by omega) (by omega), show (4 * (k : Int) + 2).toNat = 4 * k + 2 by omega], RP_c v2 (fun q i j z => by rw [jup_n _ _ _ _ _ _ _ _ (by omega), jup_n _ _ _ _ _ _ _ _ (by omega)]), by rw [jup_n _ _ _ _ _ _ _ _ (by omega), jup_e], jup_e _ _ _ _ _, fun q i j z => by rw [jup_n _ _ _ _ _ _ _ _ (by omega), jup_n _ _ _ _ _ _ _ _ (by omega), v3 _ _ _ (by omega), u3 _ _ _ (by omega)], fun j hj => by rw [jup_n _ _ _ _ _ _ _ _ (by omega), jup_n _ _ _ _ _ _ _ _ (by omega), v3 _ _ _ (by omega), u3 _ _ _ (by omega)], fun j => by rw [jup_n _ _ _ _ _ _ _ _ (by omega), jup_n _ _ _ _ _ _ _ _ (by omega), v3 _ _ _ (by omega), u3 _ _ _ (by omega)]⟩
/-- the numbers of a line -/
theorem sj_278l (hT : okT T n) {s : jM} (k e : Nat) (hk : k < 20) (h38 : s 11 0 38 = (k : Int)) (h : RP T n s (Aq T n e)) : ∃ t o2, je 278 102 [some (.inr (11, 0)), some (.inl 1), some (.inl 1)] [] s = je 278 160 [some (.inr (11, 0)), some (.inl 1), o2] [] t ∧ RP T n t (L3 T n e).1 ∧ TX k s t ∧ t 11 0 38 = (k : Int) ∧ (∀ j, ¬ (4 * k + 1 ≤ j) → t 56 0 j = s 56 0 j) ∧ (∀ j, t 55 0 j = s 55 0 j) ∧ ((L3 T n e).1.2 = 0 → t 56 0 (4 * k + 1) = (L1 T n e).2 ∧ t 56 0 (4 * k + 2) = (L2 T n e).2 ∧ t 56 0 (4 * k + 3) = (L3 T n e).2) := by
  have f1 : L1 T n e = pfs T n (Aq T n e) := rfl
  have f2 : L2 T n e = pfs T n (cm T n (L1 T n e).1) := rfl
  have f3 : L3 T n e = pfs T n (cm T n (L2 T n e).1) := rfl
  -- a number and the comma behind it
  have st : ∀ (m : Nat) (u : jM) (p : Nat × Int), (m = 1 ∨ m = 2) → RP T n u p → p.2 = 0 → u 11 0 38 = (k : Int) → ∃ t, je 278 102 [some (.inr (11, 0)), some (.inl 1), some (.inl (m : Int))] [] u = je 278 102 [some (.inr (11, 0)), some (.inl 1), some (.inl ((m + 1 : Nat) : Int))] [] t ∧ RP T n t (cm T n (pfs T n p).1) ∧ TX k u t ∧ t 11 0 38 = (k : Int) ∧ t 56 0 (4 * k + m) = (pfs T n p).2 ∧ (∀ j, j ≠ 4 * k + m → t 56 0 j = u 56 0 j) ∧ ∀ j, t 55 0 j = u 55 0 j := fun m u p hm hu hp h38 => by
    obtain ⟨a, a1, a2, a3⟩ := sq_272 hT hu
    have a2' : RP T n (jup a 56 0 (4 * k + m) (pfs T n p).2) (pfs T n p).1 := RP_c a2 (fun q i j z => jup_n _ _ _ _ _ _ _ _ (by omega))
    obtain ⟨b, b1, b2, b3⟩ := sq_270 hT a2' 32 (by decide)
    obtain ⟨c, c1, c2, c3⟩ := sq_270 hT b2 44 (by decide)
    obtain ⟨d, d1, d2, d3⟩ := sq_270 hT c2 32 (by decide)
    have hd : ∀ q i j, ¬ (q = 11 ∧ (j = 36 ∨ j = 37)) → d q i j = jup a 56 0 (4 * k + m) (pfs T n p).2 q i j := fun q i j z => by rw [d3 q i j z, c3 q i j z, b3 q i j z]
    refine ⟨d, ?_, d2, fun q i j z => by rw [hd _ _ _ (by omega), jup_n _ _ _ _ _ _ _ _ (by omega), a3 _ _ _ (by omega)], by rw [hd _ _ _ (by omega), jup_n _ _ _ _ _ _ _ _ (by omega), a3 _ _ _ (by omega)]; exact h38, by rw [hd _ _ _ (by omega), jup_e], fun j hj => by rw [hd _ _ _ (by omega), jup_n _ _ _ _ _ _ _ _ (by omega), a3 _ _ _ (by omega)], fun j => by rw [hd _ _ _ (by omega), jup_n _ _ _ _ _ _ _ _ (by omega), a3 _ _ _ (by omega)]⟩
    rw [be_278_102, if_pos (by omega), hu.2.2.2.1, if_pos hp, a1, jbI_s, h38, jwi (x := 4 * (k : Int)) (by omega) (by omega), jwi (x := 4 * (k : Int) + m) (by omega) (by omega), if_pos (by omega), if_pos (by omega), show (4 * (k : Int) + m).toNat = 4 * k + m by omega, b1, jbV_s, c1, jbV_s, d1, jbV_s, jwn (x := (m : Int) + 1) (n := m + 1) (by omega) (by omega)]
  have bad : ∀ (m : Nat) (u : jM) (p : Nat × Int), m < 4 → RP T n u p → p.2 = 1 → je 278 102 [some (.inr (11, 0)), some (.inl 1), some (.inl (m : Int))] [] u = je 278 160 [some (.inr (11, 0)), some (.inl 1), some (.inl (m : Int))] [] u := fun m u p hm hu hp => by
    rw [be_278_102, if_pos (by omega), hu.2.2.2.1, if_neg (by omega)]
  have h01 := h.2.2.2.2.1
  by_cases c0 : (Aq T n e).2 = 0
  · obtain ⟨a, a1, a2, a3, a4, a5, a6, a7⟩ := st 1 s _ (Or.inl rfl) h c0 h38
    rw [← f1] at a2 a5
    have a1 : je 278 102 [some (.inr (11, 0)), some (.inl 1), some (.inl 1)] [] s = je 278 102 [some (.inr (11, 0)), some (.inl 1), some (.inl ((2 : Nat) : Int))] [] a := a1
    by_cases c1 : (cm T n (L1 T n e).1).2 = 0
    · obtain ⟨b, b1, b2, b3, b4, b5, b6, b7⟩ := st 2 a _ (Or.inr rfl) a2 c1 a4
      rw [← f2] at b2 b5
      by_cases c2 : (cm T n (L2 T n e).1).2 = 0
      · obtain ⟨d, d1, d2, d3⟩ := sq_272 hT b2
        rw [← f3] at d1 d2
        refine ⟨jup d 56 0 (4 * k + 3) (L3 T n e).2, some (.inl 4), ?_, RP_c d2 (fun q i j z => jup_n _ _ _ _ _ _ _ _ (by omega)), fun q i j z => by rw [jup_n _ _ _ _ _ _ _ _ (by omega), d3 _ _ _ (by omega), b3 q i j z, a3 q i j z], by rw [jup_n _ _ _ _ _ _ _ _ (by omega), d3 _ _ _ (by omega)]; exact b4, fun j hj => by rw [jup_n _ _ _ _ _ _ _ _ (by omega), d3 _ _ _ (by omega), b6 j (by omega), a6 j (by omega)], fun j => by rw [jup_n _ _ _ _ _ _ _ _ (by omega), d3 _ _ _ (by omega), b7, a7], fun _ => ⟨by rw [jup_n _ _ _ _ _ _ _ _ (by omega), d3 _ _ _ (by omega), b6 _ (by omega)]; exact a5, by rw [jup_n _ _ _ _ _ _ _ _ (by omega), d3 _ _ _ (by omega)]; exact b5, jup_e _ _ _ _ _⟩⟩
        · rw [a1, b1, be_278_102, if_pos (by decide), b2.2.2.2.1, if_pos c2, d1, jbI_s, b4, jwi (x := 4 * (k : Int)) (by omega) (by omega), show ((2 + 1 : Nat) : Int) = 3 from rfl, jwi (x := 4 * (k : Int) + 3) (by omega) (by omega), if_pos (by omega), if_neg (by decide), show (4 * (k : Int) + 3).toNat = 4 * k + 3 by omega, show jw (3 + 1) = 4 from rfl, be_278_102, if_neg (by decide)]
      · have z := b2.2.2.2.2.1.resolve_left c2
        have e3 : (L3 T n e).1 = cm T n (L2 T n e).1 := by rw [f3, pfs_b z]
        refine ⟨b, some (.inl ((2 + 1 : Nat) : Int)), by rw [a1, b1, bad (2 + 1) b _ (by omega) b2 z], by rw [e3]; exact b2, TX_t a3 b3, b4, fun j hj => by rw [b6 j (by omega), a6 j (by omega)], fun j => by rw [b7, a7], fun y => absurd y (by rw [e3]; exact c2)⟩
    · have z := a2.2.2.2.2.1.resolve_left c1
      have e2 : (L2 T n e).1 = cm T n (L1 T n e).1 := by rw [f2, pfs_b z]
      have e3 : (L3 T n e).1 = cm T n (L1 T n e).1 := by rw [f3, e2, cm_b z, pfs_b z]
      refine ⟨a, some (.inl ((2 : Nat) : Int)), by rw [a1, bad 2 a _ (by omega) a2 z], by rw [e3]; exact a2, a3, a4, fun j hj => by rw [a6 j (by omega)], fun j => by rw [a7], fun y => absurd y (by rw [e3]; exact c1)⟩
  · have z := h01.resolve_left c0
    have e1 : (L1 T n e).1 = Aq T n e := by rw [f1, pfs_b z]
    have e2 : (L2 T n e).1 = Aq T n e := by rw [f2, e1, cm_b z, pfs_b z]
    have e3 : (L3 T n e).1 = Aq T n e := by rw [f3, e2, cm_b z, pfs_b z]
    exact ⟨s, some (.inl ((1 : Nat) : Int)), bad 1 s _ (by omega) h z, by rw [e3]; exact h, TX_r k s, h38, fun _ _ => rfl, fun _ => rfl, fun y => absurd y (by rw [e3]; exact c0)⟩
theorem sj_278a (hT : okT T n) {m : jM} (k e : Nat) (hk : k < 20) (h38 : m 11 0 38 = (k : Int)) (h : RP T n m (Aq T n e)) : ∃ t, je 278 80 [some (.inr (11, 0)), some (.inl 0), none] [] m = some (none, t) ∧ RP T n t (Sm T n e).2 ∧ t 11 0 38 = ((k + 1 : Nat) : Int) ∧ ∀ q i j, ¬ (q = 11 ∧ (j = 36 ∨ j = 37 ∨ j = 38 ∨ j = 42 ∨ j = 43 ∨ j = 44 ∨ j = 45)) → t q i j = m q i j := by
  have fin : ∀ (x : jM) (p : Nat × Int), RP T n x p → TQ m x → p = (Sm T n e).2 → ∃ t, je 278 160 [some (.inr (11, 0)), some (.inl 0), none] [] x = some (none, t) ∧ RP T n t (Sm T n e).2 ∧ t 11 0 38 = ((k + 1 : Nat) : Int) ∧ ∀ q i j, ¬ (q = 11 ∧ (j = 36 ∨ j = 37 ∨ j = 38 ∨ j = 42 ∨ j = 43 ∨ j = 44 ∨ j = 45)) → t q i j = m q i j := fun x p hx hmx hpp => by
    have x38 : x 11 0 38 = (k : Int) := by rw [hmx _ _ _ (by omega)]; exact h38
    have he := (sj_278e hT k e 0 none hk x38 hx).1 (by omega)
    refine ⟨jup x 11 0 38 ((k + 1 : Nat) : Int), by rw [be_278_160, if_neg (by omega), he], by rw [← hpp]; exact RP_c hx (fun q i j z => jup_n _ _ _ _ _ _ _ _ (by omega)), jup_e _ _ _ _ _, fun q i j z => by rw [jup_n _ _ _ _ _ _ _ _ (by omega), hmx _ _ _ (by omega)]⟩
  rw [be_278_80, if_pos rfl, h.2.2.2.1]
  by_cases c0 : (Aq T n e).2 = 0
  · obtain ⟨x, x1, x2, x3⟩ := sj_277 hT 81 (Aq T n e).1 1 m (by have := hT.1; omega) (by rw [← pz0 c0]; exact h)
    have es : Sm T n e = psm T n 81 (Aq T n e).1 1 := if_pos c0
    obtain ⟨t, t1, t2⟩ := fin x _ x2 x3 (by rw [es])
    rw [if_pos c0, bq_277, x1, jbV_s, if_neg (show ¬ (0 : Int) = 1 by decide)]
    exact ⟨t, t1, t2⟩
  · have es : Sm T n e = ([], Aq T n e) := if_neg c0
    rw [if_neg c0, if_neg (show ¬ (0 : Int) = 1 by decide)]
    exact fin m _ h (TQ_r m) (by rw [es])
theorem sj_278b (hT : okT T n) {m : jM} (k e : Nat) (hk : k < 20) (h38 : m 11 0 38 = (k : Int)) (h : RP T n m (Aq T n e)) : ∃ t, je 278 80 [some (.inr (11, 0)), some (.inl 1), none] [] m = some (none, t) ∧ RP T n t (L3 T n e).1 ∧ t 11 0 38 = ((k + 1 : Nat) : Int) ∧ TX k m t ∧ (∀ j, ¬ (4 * k + 1 ≤ j) → t 56 0 j = m 56 0 j) ∧ (∀ j, t 55 0 j = m 55 0 j) ∧ ((L3 T n e).1.2 = 0 → t 56 0 (4 * k + 1) = (L1 T n e).2 ∧ t 56 0 (4 * k + 2) = (L2 T n e).2 ∧ t 56 0 (4 * k + 3) = (L3 T n e).2) := by
  obtain ⟨t, o2, t1, t2, t3, t4, t5, t6, t7⟩ := sj_278l hT k e hk h38 h
  have he := (sj_278e hT k e 1 o2 hk t4 t2).1 (by omega)
  refine ⟨jup t 11 0 38 ((k + 1 : Nat) : Int), by rw [be_278_80, if_neg (by decide), if_pos rfl, t1, be_278_160, if_neg (by decide), he], RP_c t2 (fun q i j z => jup_n _ _ _ _ _ _ _ _ (by omega)), jup_e _ _ _ _ _, TX_t t3 (fun q i j z => jup_n _ _ _ _ _ _ _ _ (by omega)), fun j hj => by rw [jup_n _ _ _ _ _ _ _ _ (by omega)]; exact t5 j hj, fun j => by rw [jup_n _ _ _ _ _ _ _ _ (by omega)]; exact t6 j, fun z => by rw [jup_n _ _ _ _ _ _ _ _ (by omega), jup_n _ _ _ _ _ _ _ _ (by omega), jup_n _ _ _ _ _ _ _ _ (by omega)]; exact t7 z⟩
theorem sj_278c (hT : okT T n) {m : jM} (k e : Nat) (w : Int) (hw : w = 2 ∨ w = 3) (hk : k < 20) (h38 : m 11 0 38 = (k : Int)) (h : RP T n m (pw T n 32 (A0 T n e).1)) : ∃ t, je 278 80 [some (.inr (11, 0)), some (.inl w), none] [] m = some (none, t) ∧ RP T n t (if w = 2 then (B2 T n e).1 else (B1 T n e).1) ∧ t 11 0 38 = ((k + 1 : Nat) : Int) ∧ TX k m t ∧ (∀ j, ¬ (4 * k + 1 ≤ j) → t 56 0 j = m 56 0 j) ∧ (∀ j, t 55 0 j = m 55 0 j) ∧ ((B1 T n e).1.2 = 0 → t 56 0 (4 * k + 1) = (B1 T n e).2) ∧ (w = 2 → (B1 T n e).1.2 = 0 → t 56 0 (4 * k + 2) = (B2 T n e).2) := by
  have fin : ∀ (x : jM), RP T n x (B1 T n e).1 → x 11 0 38 = (k : Int) → TX k m x → (∀ j, ¬ (4 * k + 1 ≤ j) → x 56 0 j = m 56 0 j) → (∀ j, x 55 0 j = m 55 0 j) → ((B1 T n e).1.2 = 0 → x 56 0 (4 * k + 1) = (B1 T n e).2) → ∃ t, je 278 189 [some (.inr (11, 0)), some (.inl w), none] [] x = some (none, t) ∧ RP T n t (if w = 2 then (B2 T n e).1 else (B1 T n e).1) ∧ t 11 0 38 = ((k + 1 : Nat) : Int) ∧ TX k m t ∧ (∀ j, ¬ (4 * k + 1 ≤ j) → t 56 0 j = m 56 0 j) ∧ (∀ j, t 55 0 j = m 55 0 j) ∧ ((B1 T n e).1.2 = 0 → t 56 0 (4 * k + 1) = (B1 T n e).2) ∧ (w = 2 → (B1 T n e).1.2 = 0 → t 56 0 (4 * k + 2) = (B2 T n e).2) := fun x x1 x2 x3 x4 x5 x6 => by
    obtain ⟨e1, e2⟩ := sj_278e hT k e w none hk x2 x1
    by_cases c2 : w = 2
    · obtain ⟨t, t1, t2, t3, t4, t5, t6, t9⟩ := e2 c2
      have t2 : RP T n t (B2 T n e).1 := t2
      refine ⟨t, t1, by rw [if_pos c2]; exact t2, t4, TX_t x3 t5, fun j hj => by rw [t6 j (by omega)]; exact x4 j hj, fun j => by rw [t9]; exact x5 j, fun z => by rw [t6 _ (by omega)]; exact x6 z, fun _ _ => t3⟩
    · refine ⟨_, e1 c2, by rw [if_neg c2]; exact RP_c x1 (fun q i j z => jup_n _ _ _ _ _ _ _ _ (by omega)), jup_e _ _ _ _ _, TX_t x3 (fun q i j z => jup_n _ _ _ _ _ _ _ _ (by omega)), fun j hj => by rw [jup_n _ _ _ _ _ _ _ _ (by omega)]; exact x4 j hj, fun j => by rw [jup_n _ _ _ _ _ _ _ _ (by omega)]; exact x5 j, fun z => by rw [jup_n _ _ _ _ _ _ _ _ (by omega)]; exact x6 z, fun z => absurd z c2⟩
  rw [be_278_80, if_neg (by omega), if_neg (by omega), be_278_160, if_pos (by omega), h.2.2.2.1]
  by_cases c0 : (pw T n 32 (A0 T n e).1).2 = 0
  · obtain ⟨c, c1, c2, c3⟩ := sq_271 hT h
    have c2 : RP T n c (B1 T n e).1 := c2
    have c1 : jq 271 [.inr (11, 0)] m = some (some (.inl (B1 T n e).2), c) := c1
    rw [if_pos c0, c1, jbI_s, h38, jwi (x := 4 * (k : Int)) (by omega) (by omega), jwi (x := 4 * (k : Int) + 1) (by omega) (by omega), if_pos (by omega), show (4 * (k : Int) + 1).toNat = 4 * k + 1 by omega]
    exact fin _ (RP_c c2 (fun q i j z => jup_n _ _ _ _ _ _ _ _ (by omega))) (by rw [jup_n _ _ _ _ _ _ _ _ (by omega), c3 _ _ _ (by omega)]; exact h38) (fun q i j z => by rw [jup_n _ _ _ _ _ _ _ _ (by omega), c3 _ _ _ (by omega)]) (fun j hj => by rw [jup_n _ _ _ _ _ _ _ _ (by omega), c3 _ _ _ (by omega)]) (fun j => by rw [jup_n _ _ _ _ _ _ _ _ (by omega), c3 _ _ _ (by omega)]) (fun _ => jup_e _ _ _ _ _)
  · have z := h.2.2.2.2.1.resolve_left c0
    have e1 : (B1 T n e).1 = pw T n 32 (A0 T n e).1 := by
      show (pf T n (pw T n 32 (A0 T n e).1)).1 = _
      rw [pf_b z]
    rw [if_neg c0]
    exact fin m (by rw [e1]; exact h) h38 (TX_r k m) (fun _ _ => rfl) (fun _ => rfl) (fun y => absurd y (by rw [e1]; exact c0))
theorem sq_278 (hT : okT T n) {s : jM} {a k : Nat} (hk : k < 20) (h38 : s 11 0 38 = (k : Int)) (h : RP T n s (a, 0)) : ∃ t, jq 278 [.inr (11, 0)] s = some (none, t) ∧ RP T n t (pa T n a) ∧ TX k s t ∧ ((pa T n a).2 = 0 → t 11 0 38 = ((k + 1 : Nat) : Int) ∧ RAct T n t a k) := by
  have ha : a ≤ n := h.2.2.2.2.2
  obtain ⟨w1, w2, w3⟩ := we_ok hT a ha
  obtain ⟨u, u1, u2, u3⟩ := sq_274 hT h
  have u38 : u 11 0 38 = (k : Int) := by rw [u2 _ _ _ (by omega)]; exact h38
  rw [bq_278, u1, jbI_s, u3.2.2.2.1]
  by_cases cw : ww T n a = -1
  · have hp : pa T n a = (a, 1) := if_pos cw
    rw [if_pos cw] at u3 ⊢
    rw [if_neg (show ¬ (1 : Int) = 0 by decide), hp]
    exact ⟨u, rfl, u3, TP_X k u2, fun z => absurd z (by show ¬ (1 : Int) = 0; decide)⟩
  obtain ⟨w4, w5, w6⟩ := w3 cw
  have hp : pa T n a = pe T n (ww T n a) (we T n a) := if_neg cw
  rw [if_neg cw] at u3 ⊢
  rw [if_pos (show (0 : Int) = 0 from rfl), u38, if_pos (by omega), Int.toNat_natCast]
  obtain ⟨b, b1, b2, b3⟩ := sq_270 hT (s := jup u 55 0 k (ww T n a)) (RP_c u3 (fun q i j z => jup_n _ _ _ _ _ _ _ _ (by omega))) 32 (by decide)
  obtain ⟨c, c1, c2, c3⟩ := sq_271 hT b2
  have c2 : RP T n c (A0 T n (we T n a)).1 := c2
  have c1 : jq 271 [.inr (11, 0)] b = some (some (.inl (A0 T n (we T n a)).2), c) := c1
  have b38 : b 11 0 38 = (k : Int) := by rw [b3 _ _ _ (by omega), jup_n _ _ _ _ _ _ _ _ (by omega)]; exact u38
  obtain ⟨d, d1, d2, d3⟩ := sq_270 hT (s := jup c 56 0 (4 * k) (A0 T n (we T n a)).2) (RP_c c2 (fun q i j z => jup_n _ _ _ _ _ _ _ _ (by omega))) 32 (by decide)
  have hd : TX k s d := fun q i j z => by rw [d3 _ _ _ (by omega), jup_n _ _ _ _ _ _ _ _ (by omega), c3 _ _ _ (by omega), b3 _ _ _ (by omega), jup_n _ _ _ _ _ _ _ _ (by omega), u2 _ _ _ (by omega)]
  have d38 : d 11 0 38 = (k : Int) := by rw [d3 _ _ _ (by omega), jup_n _ _ _ _ _ _ _ _ (by omega), c3 _ _ _ (by omega)]; exact b38
  have d55 : d 55 0 k = ww T n a := by rw [d3 _ _ _ (by omega), jup_n _ _ _ _ _ _ _ _ (by omega), c3 _ _ _ (by omega), b3 _ _ _ (by omega), jup_e]
  have d56 : d 56 0 (4 * k) = (A0 T n (we T n a)).2 := by rw [d3 _ _ _ (by omega), jup_e]
  rw [b1, jbV_s, c1, jbI_s, b38, jwi (x := 4 * (k : Int)) (by omega) (by omega), if_pos (by omega), show (4 * (k : Int)).toNat = 4 * k by omega, d1, jbV_s]
  unfold pe at hp
  by_cases cl : ww T n a < 2
  · obtain ⟨f, f1, f2, f3⟩ := sq_270 hT d2 61 (by decide)
    obtain ⟨g, g1, g2, g3⟩ := sq_270 hT f2 32 (by decide)
    have g2 : RP T n g (Aq T n (we T n a)) := g2
    have gd : ∀ q i j, ¬ (q = 11 ∧ (j = 36 ∨ j = 37)) → g q i j = d q i j := fun q i j z => by rw [g3 q i j z, f3 q i j z]
    have g38 : g 11 0 38 = (k : Int) := by rw [gd _ _ _ (by omega)]; exact d38
    have g36 : g 11 0 36 = ((Aq T n (we T n a)).1 : Int) := g2.2.2.1
    rw [if_pos cl, f1, jbV_s, g1, jbV_s, g38, if_pos (by omega), Int.toNat_natCast, g36]
    have m2 : RP T n (jup g 57 0 k ((Aq T n (we T n a)).1 : Int)) (Aq T n (we T n a)) := RP_c g2 (fun q i j z => jup_n _ _ _ _ _ _ _ _ (by omega))
    have m57 : jup g 57 0 k ((Aq T n (we T n a)).1 : Int) 57 0 k = ((Aq T n (we T n a)).1 : Int) := jup_e _ _ _ _ _
    have mo : ∀ q i j, q ≠ 57 → ¬ (q = 11 ∧ (j = 36 ∨ j = 37)) → jup g 57 0 k ((Aq T n (we T n a)).1 : Int) q i j = d q i j := fun q i j z z2 => by rw [jup_n _ _ _ _ _ _ _ _ (by omega), gd q i j z2]
    have mX : TX k s (jup g 57 0 k ((Aq T n (we T n a)).1 : Int)) := TX_t hd (fun q i j z => by rw [jup_n _ _ _ _ _ _ _ _ (by omega), gd _ _ _ (by omega)])
    generalize jup g 57 0 k ((Aq T n (we T n a)).1 : Int) = m at *
    have m38 : m 11 0 38 = (k : Int) := by rw [mo _ _ _ (by omega) (by omega)]; exact d38
    have m55 : m 55 0 k = ww T n a := by rw [mo _ _ _ (by omega) (by omega)]; exact d55
    have m56 : m 56 0 (4 * k) = (A0 T n (we T n a)).2 := by rw [mo _ _ _ (by omega) (by omega)]; exact d56
    by_cases c0 : ww T n a = 0
    · obtain ⟨t, t1, t2, t3, t4⟩ := sj_278a hT k (we T n a) hk m38 m2
      rw [if_pos c0] at hp
      rw [hp]
      refine ⟨t, by rw [c0]; exact t1, t2, TX_t mX (fun q i j z => t4 q i j (by omega)), fun _ => ⟨t3, by rw [t4 _ _ _ (by omega)]; exact m55, by rw [t4 _ _ _ (by omega)]; exact m56, fun _ => by rw [t4 _ _ _ (by omega)]; exact m57, fun z => absurd z (by omega), fun z => absurd z (by omega), fun z => absurd z (by omega)⟩⟩
    · have c1 : ww T n a = 1 := by omega
      obtain ⟨t, t1, t2, t3, t4, t5, t6, t7⟩ := sj_278b hT k (we T n a) hk m38 m2
      rw [if_neg c0, if_pos c1] at hp
      rw [hp]
      refine ⟨t, by rw [c1]; exact t1, t2, TX_t mX t4, fun z0 => ⟨t3, by rw [t6]; exact m55, by rw [t5 _ (by omega)]; exact m56, fun z => absurd z (by omega), fun _ => t7 z0, fun z => absurd z (by omega), fun z => absurd z (by omega)⟩⟩
  · obtain ⟨t, t1, t2, t3, t4, t5, t6, t7, t8⟩ := sj_278c hT k (we T n a) (ww T n a) (by omega) hk d38 d2
    rw [if_neg (by omega), if_neg (by omega)] at hp
    rw [← hp] at t2
    have hB : (pa T n a).2 = 0 → (B1 T n (we T n a)).1.2 = 0 := fun z => by
      rw [hp] at z
      by_cases c2 : ww T n a = 2
      · rw [if_pos c2] at z
        exact pw_bad (pfs_bad z)
      · rw [if_neg c2] at z; exact z
    rw [if_neg cl]
    exact ⟨t, t1, t2, TX_t hd t4, fun z0 => ⟨t3, by rw [t6]; exact d55, by rw [t5 _ (by omega)]; exact d56, fun z => absurd z (by omega), fun z => absurd z (by omega), fun z => ⟨t7 (hB z0), t8 z (hB z0)⟩, fun z => t7 (hB z0)⟩⟩
end
