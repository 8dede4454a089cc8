/-! THE TEXT: all acts in the reference -/
section
variable {T : Nat → Int} {n : Nat}
/-- where the acts begin -/
def pal (T : Nat → Int) (n : Nat) : Nat → Nat → List Nat
  | 0, _ => []
  | f + 1, a => a :: (if (qa T n a).2 = 0 ∧ (pa T n a).1 < n then pal T n f (qa T n a).1 else [])
def RActs (T : Nat → Int) (n : Nat) (t : jM) : List Nat → Nat → Prop
  | [], _ => True
  | a :: L, k => RAct T n t a k ∧ RActs T n t L (k + 1)
theorem RActs_c {t u : jM} : ∀ (L : List Nat) (k : Nat), RActs T n t L k → (∀ q i j, q = 55 ∨ q = 56 ∨ q = 57 → u q i j = t q i j) → RActs T n u L k
  | [], _, _, _ => trivial
  | a :: L, k, h, hu => ⟨RAct_c h.1 (fun q i j z => hu q i j (by omega)), RActs_c L (k + 1) h.2 hu⟩
theorem TX_le {k m : Nat} {s t : jM} (h : TX m s t) (hk : k ≤ m) : TX k s t := fun q i j z => h q i j (by omega)
theorem sj_279 (hT : okT T n) : ∀ (f a k : Nat) (s : jM), n + 1 ≤ a + f → 6 * k ≤ a → RP T n s (a, 0) → s 11 0 38 = (k : Int) → ∃ t, (jbV (jq 278 [.inr (11, 0)] s) fun s1 => je 279 19 [some (.inr (11, 0))] [] s1) = some (some (.inl (if (ptx2 T n f a).2 = 0 then 1 else 0)), t) ∧ RP T n t (ptx2 T n f a) ∧ TX k s t ∧ ((ptx2 T n f a).2 = 0 → t 11 0 38 = ((k + (pal T n f a).length : Nat) : Int) ∧ RActs T n t (pal T n f a) k)
  | 0, a, k, s, hf, hk, h, h38 => absurd hf (by have : a ≤ n := h.2.2.2.2.2; omega)
  | f + 1, a, k, s, hf, hk, h, h38 => by
    have ha : a ≤ n := h.2.2.2.2.2
    have hn := hT.1
    obtain ⟨t, t1, t2, t3, t4⟩ := sq_278 hT (k := k) (by omega) h38 h
    obtain ⟨q1, q2, q3, q4⟩ := qa_ok hT a ha
    have h37 := t2.2.2.2.1
    have h36 := t2.2.2.1
    have h8 := t2.1
    have p01 := t2.2.2.2.2.1
    have ep : pal T n (f + 1) a = a :: (if (qa T n a).2 = 0 ∧ (pa T n a).1 < n then pal T n f (qa T n a).1 else []) := rfl
    have ex : ptx2 T n (f + 1) a = if (qa T n a).2 = 0 ∧ (pa T n a).1 < n then ptx2 T n f (qa T n a).1 else qa T n a := rfl
    rw [t1, jbV_s, be_279_19, h37, h36, h8, ep, ex]
    by_cases c0 : (pa T n a).2 = 0
    · obtain ⟨t5, t6⟩ := t4 c0
      rw [if_pos c0]
      by_cases c1 : (pa T n a).1 < n
      · have eq : qa T n a = pw T n 59 (pa T n a) := if_pos c1
        obtain ⟨u, u1, u2, u3⟩ := sq_270 hT t2 59 (by decide)
        rw [← eq] at u2
        have u37 := u2.2.2.2.1
        rw [if_pos (by omega), u1, jbV_s, u37]
        by_cases c2 : (qa T n a).2 = 0
        · have hq := q4 c2 c1
          have u38 : u 11 0 38 = ((k + 1 : Nat) : Int) := by rw [u3 _ _ _ (by omega)]; exact t5
          obtain ⟨v, v1, v2, v3, v4⟩ := sj_279 hT f (qa T n a).1 (k + 1) u (by omega) (by omega) (by rw [← pz0 c2]; exact u2) u38
          have hz : (qa T n a).2 = 0 ∧ (pa T n a).1 < n := ⟨c2, c1⟩
          rw [if_pos c2, if_pos hz, if_pos hz]
          refine ⟨v, v1, v2, TX_t t3 (TX_t (TP_X k u3) (TX_le v3 (by omega))), fun z => ?_⟩
          obtain ⟨v5, v6⟩ := v4 z
          refine ⟨?_, RAct_c t6 (fun q i j y => ?_), v6⟩
          · rw [v5]
            rw [List.length_cons]
            omega
          · rw [v3 _ _ _ (by omega), u3 _ _ _ (by omega)]
        · have hu37 : ¬ u 11 0 37 = 0 := by rw [u37]; exact c2
          have hz : ¬ ((qa T n a).2 = 0 ∧ (pa T n a).1 < n) := fun z => c2 z.1
          rw [if_neg c2, if_neg hz, if_neg hz, if_neg c2, be_279_19, if_neg hu37, if_neg hu37]
          exact ⟨u, rfl, u2, TX_t t3 (TP_X k u3), fun z => absurd z c2⟩
      · have eq : qa T n a = pa T n a := if_neg c1
        have hz : ¬ ((qa T n a).2 = 0 ∧ (pa T n a).1 < n) := fun z => c1 z.2
        rw [if_neg (by omega), if_pos c0, if_neg hz, if_neg hz, eq, if_pos c0]
        exact ⟨t, rfl, t2, t3, fun _ => ⟨t5, t6, trivial⟩⟩
    · have c2 : ¬ (qa T n a).2 = 0 := fun z => c0 (q3 z).1
      have eq : qa T n a = pa T n a := by
        unfold qa
        split
        · exact pw_b (p01.resolve_left c0)
        · rfl
      have hz : ¬ ((qa T n a).2 = 0 ∧ (pa T n a).1 < n) := fun z => c2 z.1
      rw [if_neg c0, if_neg c0, if_neg hz, if_neg hz, eq, if_neg c0]
      exact ⟨t, rfl, t2, t3, fun z => absurd z c0⟩
theorem sq_279 (hT : okT T n) {s : jM} (h8 : s 11 0 8 = (n : Int)) (h37 : ∀ i, i < n → s 37 0 i = T i) : ∃ t, jq 279 [.inr (11, 0)] s = some (some (.inl (if (ptx2 T n 81 0).2 = 0 then 1 else 0)), t) ∧ RP T n t (ptx2 T n 81 0) ∧ TX 0 s t ∧ ((ptx2 T n 81 0).2 = 0 → t 11 0 38 = ((pal T n 81 0).length : Int) ∧ RActs T n t (pal T n 81 0) 0) := by
  have hn := hT.1
  obtain ⟨t, t1, t2, t3, t4⟩ := sj_279 hT 81 0 0 (jup (jup (jup s 11 0 36 0) 11 0 38 0) 11 0 37 0) (by omega) (by omega) ⟨by rw [jup_n _ _ _ _ _ _ _ _ (by omega), jup_n _ _ _ _ _ _ _ _ (by omega), jup_n _ _ _ _ _ _ _ _ (by omega)]; exact h8, fun i hi => by rw [jup_n _ _ _ _ _ _ _ _ (by omega), jup_n _ _ _ _ _ _ _ _ (by omega), jup_n _ _ _ _ _ _ _ _ (by omega)]; exact h37 i hi, by rw [jup_n _ _ _ _ _ _ _ _ (by omega), jup_n _ _ _ _ _ _ _ _ (by omega), jup_e]; rfl, jup_e _ _ _ _ _, Or.inl rfl, Nat.zero_le n⟩ (by rw [jup_n _ _ _ _ _ _ _ _ (by omega), jup_e]; rfl)
  exact ⟨t, by rw [bq_279]; exact t1, t2, TX_t (fun q i j z => by rw [jup_n _ _ _ _ _ _ _ _ (by omega), jup_n _ _ _ _ _ _ _ _ (by omega), jup_n _ _ _ _ _ _ _ _ (by omega)]) t3, fun z => by rw [Nat.zero_add] at t4; exact t4 z⟩
/-- what holds is of the kinds below 58 -/
theorem Inv_58 {s t : jM} (h : ∀ q, q < 58 → t q = s q) (hs : Inv s) : Inv t := by
  obtain ⟨a, b, c, d, e, ⟨m, nx, f⟩, g⟩ := hs
  have h : ∀ k i j, k < 58 → t k i j = s k i j := fun k i j z => by rw [h k z]
  exact ⟨RB_cg (fun k i j q => h k i j (by omega)) a, RK_cg (fun k i j q => h k i j (by omega)) b, RR_cg (fun k i j q => h k i j (by omega)) c, RT_cg (fun k i j q => h k i j (by omega)) d, RI_cg (fun k i j q => h k i j (by omega)) e, ⟨m, nx, RS_cg (fun k i j q => h k i j (by omega)) f⟩, TI_cg (fun j => h 24 0 j (by omega)) g⟩
end
