/-! TANGENT: the mathematics -/
theorem cnt_upd (g : Nat → Int) (v u : Int) (hu : u ≠ v) (j0 : Nat) (h0 : g j0 = v) : ∀ n, cntN (fun j => if j = j0 then u else g j) v n + (if j0 < n then 1 else 0) = cntN g v n
  | 0 => by rw [if_neg (by omega)]; rfl
  | n + 1 => by
    have ih := cnt_upd g v u hu j0 h0 n
    by_cases c : n = j0
    · subst c
      rw [cntN_no (by show ¬ (if n = n then u else g n) = v; rw [if_pos rfl]; exact hu), cntN_yes h0, if_pos (by omega)]
      rw [if_neg (by omega)] at ih
      omega
    · have e : (fun j => if j = j0 then u else g j) n = g n := if_neg c
      have e2 : (if j0 < n + 1 then 1 else 0) = if j0 < n then 1 else 0 := by
        by_cases c2 : j0 < n
        · rw [if_pos c2, if_pos (by omega)]
        · rw [if_neg c2, if_neg (by omega)]
      rw [e2]
      by_cases c2 : g n = v
      · rw [cntN_yes c2, cntN_yes (e.trans c2)]; omega
      · rw [cntN_no c2, cntN_no (fun z => c2 (e.symm.trans z))]; exact ih
/-- the places taken -/
def tkn (P : Nat → Nat) : Nat → Nat → Int
  | 0, _ => -1
  | b + 1, j => if j = P b then 0 else tkn P b j
theorem tkn_ok (P : Nat → Nat) : ∀ b j, tkn P b j = -1 ↔ ∀ k, k < b → P k ≠ j
  | 0, j => ⟨fun _ k hk => absurd hk (by omega), fun _ => rfl⟩
  | b + 1, j => by
    unfold tkn
    have ih := tkn_ok P b j
    by_cases c : j = P b
    · rw [if_pos c]
      exact ⟨fun z => absurd z (by decide), fun z => absurd c.symm (z b (by omega))⟩
    · rw [if_neg c, ih]
      refine ⟨fun z k hk => ?_, fun z k hk => z k (by omega)⟩
      by_cases e : k = b
      · rw [e]; exact fun y => c y.symm
      · exact z k (by omega)
theorem tkn_cnt (P : Nat → Nat) (n : Nat) : ∀ b, (∀ k, k < b → P k < n) → (∀ k, k < b → ∀ k', k < k' → k' < b → P k ≠ P k') → cntN (tkn P b) (-1) n + b = n
  | 0, _, _ => by
    have : ∀ m, cntN (tkn P 0) (-1) m = m := fun m => by
      induction m with
      | zero => rfl
      | succ m ih => rw [cntN_yes (show tkn P 0 m = -1 from rfl), ih]
    rw [this]; rfl
  | b + 1, h1, h2 => by
    have ih := tkn_cnt P n b (fun k hk => h1 k (by omega)) (fun k hk k' h3 h4 => h2 k (by omega) k' h3 (by omega))
    have := cnt_upd (tkn P b) (-1) 0 (by decide) (P b) ((tkn_ok P b (P b)).mpr (fun k hk => h2 k (by omega) b hk (by omega))) n
    rw [if_pos (h1 b (by omega))] at this
    have e : cntN (tkn P (b + 1)) (-1) n = cntN (fun j => if j = P b then 0 else tkn P b j) (-1) n := rfl
    omega
theorem cntN_iff {g h : Nat → Int} {v : Int} : ∀ n, (∀ j, j < n → (g j = v ↔ h j = v)) → cntN g v n = cntN h v n
  | 0, _ => rfl
  | n + 1, e => by
    have ih := cntN_iff n (fun j hj => e j (by omega))
    by_cases c : g n = v
    · rw [cntN_yes c, cntN_yes ((e n (by omega)).mp c), ih]
    · rw [cntN_no c, cntN_no (fun z => c ((e n (by omega)).mpr z)), ih]
/-- vectors with places: what is not a place depends on what is ahead of it -/
theorem ech_free {V : Nat → Nat → Int} {P : Nat → Nat} {n b : Nat} (hP : ∀ k, k < b → P k < n) (h1 : ∀ k, k < b → V k (P k) = 1) (h0 : ∀ k, k < b → ∀ k', k < k' → k' < b → V k' (P k) = 0) (hf : ∀ k, k < b → ∀ j, j < P k → V k j = 0) (j : Nat) (hj : j < n) (hn : ∀ k, k < b → P k ≠ j) : Fr V b n j := by
  have key : ∀ c, c ≤ b → ∃ y : Nat → Int, y j = 1 ∧ (∀ m, j < m → y m = 0) ∧ (∀ k, k < b → b - c ≤ k → (101 : Int) ∣ dot (V k) y n) ∧ ∀ k, k < b - c → y (P k) = 0 := by
    intro c
    induction c with
    | zero =>
      intro _
      refine ⟨fun m => if m = j then 1 else 0, if_pos rfl, fun m hm => if_neg (by omega), fun k h2 h3 => absurd h3 (by omega), fun k hk => if_neg (hn k (by omega))⟩
    | succ c ih =>
      intro hc
      obtain ⟨y, y1, y2, y3, y4⟩ := ih (by omega)
      have hq : b - (c + 1) < b := by omega
      generalize hk0 : b - (c + 1) = k0 at *
      have hyP : y (P k0) = 0 := y4 k0 (by omega)
      refine ⟨fun m => if m = P k0 then -(dot (V k0) y n) else y m, ?_, fun m hm => ?_, fun k h2 h3 => ?_, fun k hk => ?_⟩
      · show (if j = P k0 then _ else _) = _
        rw [if_neg (fun z => hn k0 hq z.symm)]; exact y1
      · show (if m = P k0 then _ else _) = _
        by_cases e : m = P k0
        · rw [if_pos e]
          have : dot (V k0) y n = 0 := by
            have : ∀ w, dot (V k0) y w = 0 := fun w => by
              induction w with
              | zero => rfl
              | succ w iw =>
                rw [dot, iw]
                by_cases e2 : w ≤ j
                · rw [hf k0 hq w (by omega), Int.zero_mul]; rfl
                · rw [y2 w (by omega), Int.mul_zero]; rfl
            exact this n
          rw [this]; rfl
        · rw [if_neg e]; exact y2 m hm
      · have hd : dot (V k) (fun m => if m = P k0 then -(dot (V k0) y n) else y m) n = dot (V k) y n + (-(dot (V k0) y n) - y (P k0)) * V k (P k0) := by
          rw [dot_comm, dot_upd, if_pos (hP k0 hq), dot_comm y]
        rw [hd, hyP]
        by_cases e : k = k0
        · rw [e, h1 k0 hq]; omega
        · rw [h0 k0 hq k (by omega) h2, Int.mul_zero, Int.add_zero]
          exact y3 k h2 (by omega)
      · show (if P k = P k0 then _ else _) = _
        by_cases e : P k = P k0
        · exfalso
          have e1 := h0 k (by omega) k0 hk hq
          rw [e, h1 k0 hq] at e1
          exact absurd e1 (by decide)
        · rw [if_neg e]
          exact y4 k (by omega)
  obtain ⟨y, y1, y2, y3, -⟩ := key b (Nat.le_refl b)
  exact ⟨y, fun i hi => y3 i hi (by omega), by rw [y1]; exact ⟨0, rfl⟩, fun m h2 _ => by rw [y2 m h2]; exact ⟨0, rfl⟩⟩
theorem ech_pivot {V : Nat → Nat → Int} {P : Nat → Nat} {n b : Nat} (hP : ∀ k, k < b → P k < n) (h1 : ∀ k, k < b → V k (P k) = 1) (hf : ∀ k, k < b → ∀ j, j < P k → V k j = 0) (k : Nat) (hk : k < b) : ¬ Fr V b n (P k) := by
  intro ⟨y, y1, y2, y3⟩
  have e1 := y1 k hk
  have e2 := dot_1 (g := V k) (x := y) (P k) n (hP k hk) (fun j hj hne => by
    by_cases c : j < P k
    · rw [hf k hk j c, Int.zero_mul]; exact ⟨0, rfl⟩
    · exact dvm2 (y3 j (by omega) hj))
  rw [h1 k hk, Int.one_mul] at e2
  omega
/-- how many vectors there are, by the columns that depend on those ahead -/
theorem ech_count {M V : Nat → Nat → Int} {P : Nat → Nat} {h n b : Nat} {ld : Nat → Int} (hP : ∀ k, k < b → P k < n) (h1 : ∀ k, k < b → V k (P k) = 1) (h0 : ∀ k, k < b → ∀ k', k < k' → k' < b → V k' (P k) = 0) (hf : ∀ k, k < b → ∀ j, j < P k → V k j = 0) (hR : ∀ y, Rel M h n y ↔ Rel V b n y) (hld : ∀ j, j < n → (ld j = -1 ↔ Fr M h n j)) : cntN ld (-1) n + b = n := by
  have hFr : ∀ j, Fr M h n j ↔ Fr V b n j := fun j => ⟨fun ⟨y, a, b, c⟩ => ⟨y, (hR y).mp a, b, c⟩, fun ⟨y, a, b, c⟩ => ⟨y, (hR y).mpr a, b, c⟩⟩
  have e := cntN_iff (g := ld) (h := tkn P b) (v := -1) n (fun j hj => by
    rw [hld j hj, hFr, tkn_ok]
    refine ⟨fun z k hk e => ?_, fun z => ech_free hP h1 h0 hf j hj z⟩
    rw [← e] at z
    exact ech_pivot hP h1 hf k hk z)
  rw [e]
  refine tkn_cnt P n b hP (fun k hk k' h3 h4 e => ?_)
  have := h0 k hk k' h3 h4
  rw [e, h1 k' h4] at this
  exact absurd this (by decide)
theorem mmod (a b : Int) : a % 101 * b % 101 = a * b % 101 := by
  have e : a % 101 * b = a * b - 101 * (a / 101 * b) := by
    have : a % 101 = a - 101 * (a / 101) := by omega
    rw [this, Int.sub_mul, Int.mul_assoc]
  rw [e]
  omega
theorem mmod2 (a b : Int) : b * (a % 101) % 101 = b * a % 101 := by rw [Int.mul_comm, mmod, Int.mul_comm]
/-- what has been through: the rows of D; b of them came -/
def RefV (M : Nat → Nat → Int) (n : Nat) (D : Nat → Prop) (b : Nat) (s : jM) : Prop :=
  s 11 0 23 = (b : Int) ∧ BG s n b ∧ BT s b ∧ (∀ k, k < b → ∀ j : Nat, (j : Int) < s 48 0 k → s 49 0 (21 * k + j) = 0) ∧
  (∀ y, (∀ k, k < b → (101 : Int) ∣ dot (fun j => s 49 0 (21 * k + j)) y n) ↔ ∀ a, D a → (101 : Int) ∣ dot (M a) y n)
theorem RefV_cg {M : Nat → Nat → Int} {n : Nat} {D : Nat → Prop} {b : Nat} {s t : jM} (h : ∀ k i j, k = 48 ∨ k = 49 ∨ k = 50 ∨ k = 11 ∧ j = 23 → t k i j = s k i j) (hI : RefV M n D b s) : RefV M n D b t := by
  obtain ⟨a, ⟨b1, b2, b3⟩, d, e, f⟩ := hI
  have e49 : ∀ k, (fun j => t 49 0 (21 * k + j)) = fun j => s 49 0 (21 * k + j) := fun k => funext fun m => h 49 _ _ (by omega)
  refine ⟨by rw [h 11 _ _ (by omega)]; exact a, ⟨fun k hk => by rw [h 48 _ _ (by omega)]; exact b1 k hk, fun k hk j hj => by rw [h 49 _ _ (by omega)]; exact b2 k hk j hj, fun k hk j hj => by rw [h 50 _ _ (by omega)]; exact b3 k hk j hj⟩, fun k hk => ?_, fun k hk j hj => ?_, fun y => ?_⟩
  · rw [h 48 _ _ (by omega), h 49 _ _ (by omega)]
    exact ⟨(d k hk).1, fun k' h1 h2 => by rw [h 49 _ _ (by omega)]; exact (d k hk).2 k' h1 h2⟩
  · rw [h 48 _ _ (by omega)] at hj
    rw [h 49 _ _ (by omega)]; exact e k hk j hj
  · simp only [e49]
    exact f y
theorem refv_step {M : Nat → Nat → Int} {n : Nat} {D D2 : Nat → Prop} {b : Nat} {s : jM} (a0 : Nat) (hn : n ≤ 21) (hb : b < 21) (hI : RefV M n D b s) (hD : ∀ a, D2 a ↔ D a ∨ a = a0) (hR : ∀ m, m < n → s 51 0 m = M a0 m ∧ g101 (M a0 m)) (hS : ∀ j, j < 21 → g101 (s 52 0 j)) : ∃ t x b', jq 235 [.inr (11, 0), .inl (n : Int)] s = some (some (.inl x), t) ∧ TM s t ∧ b' ≤ b + 1 ∧ RefV M n D2 b' t := by
  obtain ⟨i1, i2, i3, i4, i5⟩ := id hI
  obtain ⟨t, o3, o4, e, t1, t2, t3, t4, t5, t6, -, -⟩ := sj_235 n b hn (by omega) b 0 s none none (by omega) i1 i2 i3 (fun j hj => by rw [(hR j hj).1]; exact (hR j hj).2) hS (fun k' hk' => absurd hk' (by omega))
  have t1 : je 235 2 [some (.inr (11, 0)), some (.inl (n : Int)), some (.inl 0), none, none] [] s = _ := t1
  have tI : RefV M n D b t := RefV_cg (fun k i j z => t2 k i j (by omega) (by omega)) hI
  have hTM : TM s t := fun k i j z => t2 k i j (by omega) (by omega)
  -- the row at y, by what is left of it and the vectors at y
  have hy : ∀ y, (∀ k, k < b → (101 : Int) ∣ dot (fun j => s 49 0 (21 * k + j)) y n) → (101 : Int) ∣ dot (t 51 0) y n - dot (M a0) y n := fun y hk => by
    have q1 := dot_cg (e := y) (f := t 51 0) (g := fun j => M a0 j - dot e (fun k => s 49 0 (21 * k + j)) b) n (fun j hj => by
      have := t6 j hj
      rwa [(hR j hj).1] at this)
    have q2 := dot_dbl y (M a0) e (fun k j => s 49 0 (21 * k + j)) b n
    rw [q2] at q1
    have q3 := dot_0 (g := e) (x := fun k => dot y (fun j => s 49 0 (21 * k + j)) n) b (fun k hk2 => dvm2 (by show (101 : Int) ∣ dot y (fun j => s 49 0 (21 * k + j)) n; rw [dot_comm]; exact hk k hk2))
    rw [dot_comm y, dot_comm y (M a0)] at q1
    omega
  rw [bq_235]
  rcases sj_235c n hn t o3 o4 with ⟨x, ex, hz, ht⟩ | ⟨a, ha, han, haz, ht⟩
  · refine ⟨t, 0, b, t1.trans ht, hTM, by omega, ?_⟩
    obtain ⟨j1, j2, j3, j4, j5⟩ := tI
    refine ⟨j1, j2, j3, j4, fun y => ⟨fun h a hDa => ?_, fun h k hk => (j5 y).mpr (fun a hDa => h a ((hD a).mpr (Or.inl hDa))) k hk⟩⟩
    rcases (hD a).mp hDa with z | z
    · exact (j5 y).mp h a z
    · have q := hy y ((i5 y).mpr ((j5 y).mp h))
      have q2 : dot (t 51 0) y n = 0 := by
        rw [dot_comm]
        exact dot_z n hz
      rw [z]
      omega
  · have hd := sj_235d n b a hn hb t (by rw [t2 _ _ _ (by omega) (by omega)]; exact i1) t3 t4
    obtain ⟨f1, f2, f3, f4, f5, f6, f7⟩ := radd_f t n b a hn
    obtain ⟨va, hva⟩ := nat_of (t 51 0 a) (t3 a ha).1
    have hinv := inv101 va (by have := (t3 a ha).2; omega) (by omega)
    have hinv2 : t 51 0 a * rd (t 51 0 a) 99 % 101 = 1 := by rw [hva, Int.mul_comm]; exact hinv
    refine ⟨radd t n b a, 1, b + 1, t1.trans ((ht (t3 a ha)).trans hd), TM_t hTM f1, by omega, ?_⟩
    generalize radd t n b a = u at *
    obtain ⟨j1, ⟨j21, j22, j23⟩, j3, j4, j5⟩ := tI
    have ept : ∀ k, k < b → (t 48 0 k).toNat < n := fun k hk => by have := j21 k hk; omega
    have hVk : ∀ k, k < b → ∀ y, dot (fun j => u 49 0 (21 * k + j)) y n = dot (fun j => t 49 0 (21 * k + j)) y n := fun k hk y => dot_c n (fun j hj => by rw [f4 k j hj, if_neg (by omega)]) (fun _ _ => rfl)
    have hVb : ∀ y, (101 : Int) ∣ dot (fun j => u 49 0 (21 * b + j)) y n - rd (t 51 0 a) 99 * dot (t 51 0) y n := fun y => by
      have := dot_lin (g := fun j => u 49 0 (21 * b + j)) (a := t 51 0) (b := t 51 0) (x := y) (rd (t 51 0 a) 99) 0 n (fun j hj => by
        show (101 : Int) ∣ u 49 0 (21 * b + j) - _
        rw [f4 b j hj, if_pos rfl, Int.mul_comm (rd (t 51 0 a) 99)]
        omega)
      omega
    refine ⟨f2, ⟨fun k hk => ?_, fun k hk j hj => ?_, fun k hk j hj => ?_⟩, fun k hk => ?_, fun k hk j hj => ?_, fun y => ⟨fun h c hDc => ?_, fun h k hk => ?_⟩⟩
    · rw [f3]
      by_cases z : k = b
      · rw [if_pos z]; omega
      · rw [if_neg z]; exact j21 k (by omega)
    · rw [f4 k j hj]
      by_cases z : k = b
      · rw [if_pos z]; exact em101 _
      · rw [if_neg z]; exact j22 k (by omega) j hj
    · rw [f5 k j hj]
      by_cases z : k = b
      · rw [if_pos z]; exact em101 _
      · rw [if_neg z]; exact j23 k (by omega) j hj
    · rw [f3]
      by_cases z : k = b
      · rw [if_pos z, z, Int.toNat_natCast]
        refine ⟨by rw [f4 b a ha, if_pos rfl]; exact hinv2, fun k' h1 h2 => absurd h2 (by omega)⟩
      · rw [if_neg z, f4 k _ (ept k (by omega)), if_neg z]
        have := j3 k (by omega)
        refine ⟨this.1, fun k' h1 h2 => ?_⟩
        rw [f4 k' _ (ept k (by omega))]
        by_cases z2 : k' = b
        · have := t5 k (by omega)
          rw [← t2 48 _ _ (by omega) (by omega)] at this
          rw [if_pos z2, this, Int.zero_mul]; rfl
        · rw [if_neg z2]; exact this.2 k' h1 (by omega)
    · rw [f3] at hj
      by_cases z : k = b
      · rw [if_pos z] at hj
        rw [f4 k j (by omega), if_pos z, haz j (by omega), Int.zero_mul]; rfl
      · rw [if_neg z] at hj
        have := j21 k (by omega)
        rw [f4 k j (by omega), if_neg z]
        exact j4 k (by omega) j hj
    · have hk : ∀ k, k < b → (101 : Int) ∣ dot (fun j => t 49 0 (21 * k + j)) y n := fun k hk => by rw [← hVk k hk]; exact h k (by omega)
      rcases (hD c).mp hDc with z | z
      · exact (j5 y).mp hk c z
      · have q := hy y ((i5 y).mpr ((j5 y).mp hk))
        have q2 := hVb y
        have q3 := h b (by omega)
        have q4 : (101 : Int) ∣ t 51 0 a * (rd (t 51 0 a) 99 * dot (t 51 0) y n) := dvm2 (by omega)
        have q5 : (101 : Int) ∣ (t 51 0 a * rd (t 51 0 a) 99 - 1) * dot (t 51 0) y n := dvm (by omega)
        have q6 : dot (t 51 0) y n = t 51 0 a * (rd (t 51 0 a) 99 * dot (t 51 0) y n) - (t 51 0 a * rd (t 51 0 a) 99 - 1) * dot (t 51 0) y n := by grind
        rw [z]
        omega
    · have hk2 := (j5 y).mpr (fun c hDc => h c ((hD c).mpr (Or.inl hDc)))
      by_cases z : k = b
      · have q := hy y ((i5 y).mpr (fun c hDc => h c ((hD c).mpr (Or.inl hDc))))
        have q2 := hVb y
        have q3 := h a0 ((hD a0).mpr (Or.inr rfl))
        have q4 : (101 : Int) ∣ rd (t 51 0 a) 99 * dot (t 51 0) y n := dvm2 (by omega)
        rw [z]
        omega
      · rw [hVk k (by omega)]
        exact hk2 k (by omega)
