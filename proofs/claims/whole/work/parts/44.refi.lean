/-! WHAT HOLDS OF THE REFERENCE'S ROWS -/
theorem dot_cg {e f g : Nat → Int} (n : Nat) (h : ∀ k, k < n → (101 : Int) ∣ f k - g k) : (101 : Int) ∣ dot e f n - dot e g n := by
  have := dot_linx (g := e) (x := f) (y := g) (z := g) 1 0 n (fun j hj => by have := h j hj; omega)
  omega
theorem dot_add2 (e f h : Nat → Int) (v : Int) : ∀ n, dot e (fun k => f k + v * h k) n = dot e f n + v * dot e h n
  | 0 => by simp only [dot]; omega
  | n + 1 => by rw [dot, dot, dot, dot_add2 e f h v n]; grind
theorem dot_dbl (g z e : Nat → Int) (S : Nat → Nat → Int) (b : Nat) : ∀ w, dot g (fun p => z p - dot e (fun k => S k p) b) w = dot g z w - dot e (fun k => dot g (S k) w) b
  | 0 => by
    have : ∀ n, dot e (fun k => dot g (S k) 0) n = 0 := fun n => by
      induction n with
      | zero => rfl
      | succ n ih => rw [dot, ih]; show 0 + e n * 0 = 0; omega
    rw [this]
    rfl
  | w + 1 => by
    have h := dot_add2 e (fun k => dot g (S k) w) (fun k => S k w) (g w) b
    have h2 : (fun k => dot g (S k) (w + 1)) = fun k => dot g (S k) w + g w * S k w := rfl
    rw [h2, h, dot, dot, dot_dbl g z e S b w]
    grind
theorem span_sum {A V : Nat → Nat → Int} {n b : Nat} (x : Nat → Int) : ∀ c, (∀ p, p < c → ∃ d : Nat → Int, ∀ m, m < n → (101 : Int) ∣ A m p - dot d (fun k => V k m) b) → ∃ D : Nat → Int, ∀ m, m < n → (101 : Int) ∣ dot (A m) x c - dot D (fun k => V k m) b
  | 0, _ => ⟨fun _ => 0, fun m _ => by
    have := dot_0 (g := fun _ => 0) (x := fun k => V k m) b (fun j _ => by rw [Int.zero_mul]; exact ⟨0, rfl⟩)
    rw [dot]
    omega⟩
  | c + 1, h => by
    obtain ⟨D, hD⟩ := span_sum x c (fun p hp => h p (by omega))
    obtain ⟨d, hd⟩ := h c (by omega)
    refine ⟨fun k => D k + x c * d k, fun m hm => ?_⟩
    have e1 : dot (fun k => D k + x c * d k) (fun k => V k m) b = dot D (fun k => V k m) b + x c * dot d (fun k => V k m) b := by
      rw [dot_comm, dot_add2, dot_comm _ D, dot_comm _ d]
    have h1 := hD m hm
    have h2 : (101 : Int) ∣ x c * (A m c - dot d (fun k => V k m) b) := dvm2 (hd m hm)
    rw [Int.mul_sub] at h2
    rw [dot, e1, Int.mul_comm (A m c)]
    omega
/-- what has 0 at all places of the vectors and is made of them is 0 -/
theorem tri_zero {V : Nat → Nat → Int} {P : Nat → Nat} {n b : Nat} {R g : Nat → Int} (hP : ∀ k, k < b → P k < n) (h1 : ∀ k, k < b → V k (P k) = 1) (h0 : ∀ k, k < b → ∀ k', k < k' → k' < b → V k' (P k) = 0) (hR : ∀ m, m < n → (101 : Int) ∣ R m - dot g (fun k => V k m) b) (hz : ∀ k, k < b → R (P k) = 0) : ∀ m, m < n → (101 : Int) ∣ R m := by
  have key : ∀ k, k < b → (101 : Int) ∣ g k := by
    intro k
    induction k using Nat.strongRecOn with
    | ind k ih =>
      intro hk
      have e1 := hR (P k) (hP k hk)
      have e2 := dot_1 (g := g) (x := fun k' => V k' (P k)) k b hk (fun j hj hne => by
        by_cases c : j < k
        · exact dvm (ih j c hj)
        · have := h0 k hk j (by omega) hj
          show (101 : Int) ∣ g j * V j (P k)
          rw [this, Int.mul_zero]; exact ⟨0, rfl⟩)
      have e3 : g k * (fun k' => V k' (P k)) k = g k := by
        show g k * V k (P k) = g k
        rw [h1 k hk, Int.mul_one]
      rw [e3] at e2
      rw [hz k hk] at e1
      omega
  intro m hm
  have e1 := hR m hm
  have e2 := dot_0 (g := g) (x := fun k => V k m) b (fun j hj => dvm (key j hj))
  omega
/-- the vectors A 0 .. A (c less 1) have been through; b of them came; slots sl; ld tells which depend on those ahead -/
def RefI (A : Nat → Nat → Int) (n w : Nat) (sl : Nat → Nat) (ld : Nat → Int) (c b : Nat) (s : jM) : Prop :=
  s 11 0 23 = (b : Int) ∧ BG s n b ∧ BT s b ∧
  (∀ k, k < b → ∀ m, m < n → (101 : Int) ∣ s 49 0 (21 * k + m) - dot (A m) (fun p => s 50 0 (21 * k + sl p)) w) ∧
  (∀ k, k < b → ∀ p, p < w → (c ≤ p ∨ ld p = -1) → s 50 0 (21 * k + sl p) = 0) ∧
  (∀ p, p < c → ∃ d : Nat → Int, ∀ m, m < n → (101 : Int) ∣ A m p - dot d (fun k => s 49 0 (21 * k + m)) b) ∧
  cntN ld (-1) c + b = c
theorem RefI_cg {A : Nat → Nat → Int} {n w : Nat} {sl : Nat → Nat} {ld : Nat → Int} {c b : Nat} {s t : jM} (h : ∀ k i j, k = 48 ∨ k = 49 ∨ k = 50 ∨ k = 11 ∧ j = 23 → t k i j = s k i j) (hI : RefI A n w sl ld c b s) : RefI A n w sl ld c b t := by
  obtain ⟨a, ⟨b1, b2, b3⟩, d, e, f, g, i⟩ := hI
  have e49 : ∀ m, (fun k => t 49 0 (21 * k + m)) = fun k => s 49 0 (21 * k + m) := fun m => funext fun k => h 49 _ _ (by omega)
  have e50 : ∀ k, (fun p => t 50 0 (21 * k + sl p)) = fun p => s 50 0 (21 * k + sl p) := fun k => funext fun p => h 50 _ _ (by omega)
  refine ⟨by rw [h 11 _ _ (by omega)]; exact a, ⟨fun k hk => by rw [h 48 _ _ (by omega)]; exact b1 k hk, fun k hk j hj => by rw [h 49 _ _ (by omega)]; exact b2 k hk j hj, fun k hk j hj => by rw [h 50 _ _ (by omega)]; exact b3 k hk j hj⟩, fun k hk => ?_, fun k hk m hm => by rw [h 49 _ _ (by omega), e50]; exact e k hk m hm, fun k hk p hp hq => by rw [h 50 _ _ (by omega)]; exact f k hk p hp hq, fun p hp => ?_, i⟩
  · rw [h 48 _ _ (by omega), h 49 _ _ (by omega)]
    exact ⟨(d k hk).1, fun k' h1 h2 => by rw [h 49 _ _ (by omega)]; exact (d k hk).2 k' h1 h2⟩
  · obtain ⟨q, hq⟩ := g p hp
    exact ⟨q, fun m hm => by rw [e49]; exact hq m hm⟩
/-- the places that comesRow() may write -/
def TM (s t : jM) : Prop := ∀ k i j, ¬ (48 ≤ k ∧ k ≤ 52 ∨ k = 11 ∧ j = 23) → t k i j = s k i j
theorem TM_t {s t u : jM} (h : TM s t) (h2 : TM t u) : TM s u := fun k i j z => (h2 k i j z).trans (h k i j z)
theorem radd_f (t : jM) (n b a : Nat) (hn : n ≤ 21) : TM t (radd t n b a) ∧ radd t n b a 11 0 23 = ((b + 1 : Nat) : Int) ∧ (∀ k, radd t n b a 48 0 k = if k = b then (a : Int) else t 48 0 k) ∧ (∀ k j, j < n → radd t n b a 49 0 (21 * k + j) = if k = b then t 51 0 j * rd (t 51 0 a) 99 % 101 else t 49 0 (21 * k + j)) ∧ (∀ k j, j < 21 → radd t n b a 50 0 (21 * k + j) = if k = b then t 52 0 j * rd (t 51 0 a) 99 % 101 else t 50 0 (21 * k + j)) ∧ (∀ j, radd t n b a 51 0 j = t 51 0 j) ∧ ∀ j, radd t n b a 52 0 j = t 52 0 j := by
  unfold radd
  refine ⟨fun k i j z => ?_, jup_e _ _ _ _ _, fun k => ?_, fun k j hj => ?_, fun k j hj => ?_, fun j => ?_, fun j => ?_⟩
  · rw [jup_n _ _ _ _ _ _ _ _ (by omega), jup_n _ _ _ _ _ _ _ _ (by omega), jfl_ne _ _ _ _ _ _ _ _ _ (by omega), jfl_ne _ _ _ _ _ _ _ _ _ (by omega)]
  · rw [jup_n _ _ _ _ _ _ _ _ (by omega)]
    by_cases e : k = b
    · rw [if_pos e, e, jup_e]
    · rw [if_neg e, jup_n _ _ _ _ _ _ _ _ (by omega), jfl_ne _ _ _ _ _ _ _ _ _ (by omega), jfl_ne _ _ _ _ _ _ _ _ _ (by omega)]
  · rw [jup_n _ _ _ _ _ _ _ _ (by omega), jup_n _ _ _ _ _ _ _ _ (by omega), jfl_ne _ _ _ _ _ _ _ _ _ (by omega)]
    by_cases e : k = b
    · rw [if_pos e, e, jfl_in _ _ _ _ _ _ _ hj]
    · rw [if_neg e, jfl_ne _ _ _ _ _ _ _ _ _ (by omega)]
  · rw [jup_n _ _ _ _ _ _ _ _ (by omega), jup_n _ _ _ _ _ _ _ _ (by omega)]
    by_cases e : k = b
    · rw [if_pos e, e, jfl_in _ _ _ _ _ _ _ hj]
    · rw [if_neg e, jfl_ne _ _ _ _ _ _ _ _ _ (by omega), jfl_ne _ _ _ _ _ _ _ _ _ (by omega)]
  · rw [jup_n _ _ _ _ _ _ _ _ (by omega), jup_n _ _ _ _ _ _ _ _ (by omega), jfl_ne _ _ _ _ _ _ _ _ _ (by omega), jfl_ne _ _ _ _ _ _ _ _ _ (by omega)]
  · rw [jup_n _ _ _ _ _ _ _ _ (by omega), jup_n _ _ _ _ _ _ _ _ (by omega), jfl_ne _ _ _ _ _ _ _ _ _ (by omega), jfl_ne _ _ _ _ _ _ _ _ _ (by omega)]
theorem dot_z {e f : Nat → Int} (n : Nat) (h : ∀ k, k < n → f k = 0) : dot e f n = 0 := by
  induction n with
  | zero => rfl
  | succ n ih => rw [dot, ih (fun k hk => h k (by omega)), h n (by omega)]; omega
/-- one row goes through -/
theorem ref_step {A : Nat → Nat → Int} {n w : Nat} {sl : Nat → Nat} {ld : Nat → Int} {c b : Nat} {s : jM} (hn : n ≤ 21) (hw : w ≤ 21) (hld : ∀ p, p < w → (ld p = -1 ↔ Fr A n w p)) (hsl : ∀ p, p < w → sl p < 21) (hc : c < w) (hI : RefI A n w sl ld c b s) (hR : ∀ m, m < n → s 51 0 m = A m c ∧ g101 (A m c)) (hS : ∀ p, p < w → s 52 0 (sl p) = if p = c then 1 else 0) (hS2 : ∀ j, j < 21 → g101 (s 52 0 j)) :
    ∃ t x, jq 235 [.inr (11, 0), .inl (n : Int)] s = some (some (.inl x), t) ∧ TM s t ∧ (∀ j, j < 21 → g101 (t 52 0 j)) ∧ ((x = 0 ∧ ld c = -1 ∧ RefI A n w sl ld (c + 1) b t ∧ Rel A n w (fun p => t 52 0 (sl p)) ∧ t 52 0 (sl c) = 1 ∧ (∀ p, c < p → p < w → t 52 0 (sl p) = 0) ∧ ∀ p, p < c → ld p = -1 → t 52 0 (sl p) = 0) ∨ (x = 1 ∧ ld c ≠ -1 ∧ RefI A n w sl ld (c + 1) (b + 1) t)) := by
  obtain ⟨i1, i2, i3, i4, i5, i6, i7⟩ := id hI
  have hbc : b ≤ c := by omega
  obtain ⟨t, o3, o4, e, t1, t2, t3, t4, t5, t6, t7, -⟩ := sj_235 n b hn (by omega) b 0 s none none (by omega) i1 i2 i3 (fun j hj => by rw [(hR j hj).1]; exact (hR j hj).2) hS2 (fun k' hk' => absurd hk' (by omega))
  have t1 : je 235 2 [some (.inr (11, 0)), some (.inl (n : Int)), some (.inl 0), none, none] [] s = _ := t1
  -- what is left of the row, and its share
  have tI : RefI A n w sl ld c b t := RefI_cg (fun k i j z => t2 k i j (by omega) (by omega)) hI
  have tsh : ∀ p, p < w → (101 : Int) ∣ t 52 0 (sl p) - ((if p = c then 1 else 0) - dot e (fun k => s 50 0 (21 * k + sl p)) b) := fun p hp => by
    have := t7 (sl p) (hsl p hp)
    rwa [hS p hp] at this
  have yc : t 52 0 (sl c) = 1 := by
    have := tsh c hc
    rw [if_pos rfl, dot_z b (fun k hk => i5 k hk c hc (Or.inl (Nat.le_refl c)))] at this
    exact eq_of_dv (t4 _ (hsl c hc)) ⟨by decide, by decide⟩ (by omega)
  have yz : ∀ p, p < w → p ≠ c → (c ≤ p ∨ ld p = -1) → t 52 0 (sl p) = 0 := fun p hp hne h => by
    have := tsh p hp
    rw [if_neg hne, dot_z b (fun k hk => i5 k hk p hp h)] at this
    exact dv0 (t4 _ (hsl p hp)) (by omega)
  have hrow : ∀ m, m < n → (101 : Int) ∣ t 51 0 m - dot (A m) (fun p => t 52 0 (sl p)) w := fun m hm => by
    have q1 := t6 m hm
    rw [(hR m hm).1] at q1
    have q2 := dot_cg (e := A m) (f := fun p => t 52 0 (sl p)) (g := fun p => (if p = c then 1 else 0) - dot e (fun k => s 50 0 (21 * k + sl p)) b) w tsh
    have q3 := dot_dbl (A m) (fun p => if p = c then 1 else 0) e (fun k p => s 50 0 (21 * k + sl p)) b w
    rw [q3] at q2
    have q4 := dot_1 (g := A m) (x := fun p => if p = c then 1 else 0) c w hc (fun j hj hne => by
      show (101 : Int) ∣ A m j * (if j = c then 1 else 0)
      rw [if_neg hne, Int.mul_zero]; exact ⟨0, rfl⟩)
    have q5 : A m c * (fun p => if p = c then (1 : Int) else 0) c = A m c := by
      show A m c * (if c = c then 1 else 0) = A m c
      rw [if_pos rfl, Int.mul_one]
    rw [q5] at q4
    have q6 := dot_cg (e := e) (f := fun k => s 49 0 (21 * k + m)) (g := fun k => dot (A m) (fun p => s 50 0 (21 * k + sl p)) w) b (fun k hk => i4 k hk m hm)
    omega
  have hTM : TM s t := fun k i j z => t2 k i j (by omega) (by omega)
  rw [bq_235]
  rcases sj_235c n hn t o3 o4 with ⟨x, ex, hz, ht⟩ | ⟨a, ha, han, haz, ht⟩
  · -- it depends on those ahead of it
    have hRel : Rel A n w (fun p => t 52 0 (sl p)) := fun m hm => by
      have := hrow m hm
      rw [hz m hm] at this
      omega
    have hF : ld c = -1 := (hld c hc).mpr ⟨_, hRel, by show (101 : Int) ∣ t 52 0 (sl c) - 1; rw [yc]; exact ⟨0, rfl⟩, fun j h1 h2 => by show (101 : Int) ∣ t 52 0 (sl j); rw [yz j h2 (by omega) (Or.inl (by omega))]; exact ⟨0, rfl⟩⟩
    refine ⟨t, 0, t1.trans ht, hTM, t4, Or.inl ⟨rfl, hF, ?_, hRel, yc, fun p h1 h2 => yz p h2 (by omega) (Or.inl (by omega)), fun p h1 h2 => yz p (by omega) (by omega) (Or.inr h2)⟩⟩
    obtain ⟨j1, j2, j3, j4, j5, j6, j7⟩ := tI
    refine ⟨j1, j2, j3, j4, fun k hk p hp h => j5 k hk p hp (h.elim (fun z => Or.inl (by omega)) Or.inr), fun p hp => ?_, ?_⟩
    · by_cases c1 : p = c
      · refine ⟨e, fun m hm => ?_⟩
        have q1 := t6 m hm
        rw [hz m hm, (hR m hm).1] at q1
        have e49 : (fun k => t 49 0 (21 * k + m)) = fun k => s 49 0 (21 * k + m) := funext fun k => t2 _ _ _ (by omega) (by omega)
        rw [c1, e49]
        omega
      · exact j6 p (by omega)
    · rw [cntN_yes hF]; omega
  · -- it comes to them
    have hnF : ld c ≠ -1 := fun hF => by
      obtain ⟨x, x1, x2, x3⟩ := (hld c hc).mp hF
      obtain ⟨D, hD⟩ := span_sum x c i6
      have hg : ∀ m, m < n → (101 : Int) ∣ t 51 0 m - dot (fun k => -(D k + 1 * e k)) (fun k => s 49 0 (21 * k + m)) b := fun m hm => by
        have q1 := t6 m hm
        rw [(hR m hm).1] at q1
        have q2 := hD m hm
        have q3 := x1 m hm
        -- the relation, cut behind c
        have q4 : (101 : Int) ∣ dot (A m) x w - (dot (A m) x c + A m c * x c) := by
          have : ∀ v, c < v → v ≤ w → (101 : Int) ∣ dot (A m) x v - (dot (A m) x c + A m c * x c) := by
            intro v
            induction v with
            | zero => intro h; omega
            | succ v ih =>
              intro h1 h2
              rw [dot]
              by_cases e2 : v = c
              · rw [e2]; omega
              · have ih := ih (by omega) (by omega)
                have : (101 : Int) ∣ A m v * x v := dvm2 (x3 v (by omega) (by omega))
                omega
          exact this w hc (Nat.le_refl w)
        have q5 : (101 : Int) ∣ A m c * (x c - 1) := dvm2 x2
        rw [Int.mul_sub, Int.mul_one] at q5
        have q6 : dot (fun k => -(D k + 1 * e k)) (fun k => s 49 0 (21 * k + m)) b = -(dot D (fun k => s 49 0 (21 * k + m)) b + dot e (fun k => s 49 0 (21 * k + m)) b) := by
          have : ∀ v, dot (fun k => -(D k + 1 * e k)) (fun k => s 49 0 (21 * k + m)) v = -(dot D (fun k => s 49 0 (21 * k + m)) v + dot e (fun k => s 49 0 (21 * k + m)) v) := by
            intro v
            induction v with
            | zero => rfl
            | succ v ih => rw [dot, dot, dot, ih]; grind
          exact this b
        rw [q6]
        omega
      have := tri_zero (V := fun k m => s 49 0 (21 * k + m)) (P := fun k => (s 48 0 k).toNat) (R := t 51 0) (fun k hk => by have := i2.1 k hk; omega) (fun k hk => (i3 k hk).1) (fun k hk k' h1 h2 => (i3 k hk).2 k' h1 h2) hg t5 a ha
      exact han (dv0 (t3 a ha) this)
    have hd := sj_235d n b a hn (by omega) t (by rw [t2 _ _ _ (by omega) (by omega)]; exact i1) t3 t4
    obtain ⟨f1, f2, f3, f4, f5, f6, f7⟩ := radd_f t n b a hn
    have hug := rd_g (t 51 0 a) 99
    obtain ⟨va, hva⟩ := nat_of (t 51 0 a) (t3 a ha).1
    have hinv := inv101 va (by have := (t3 a ha).2; omega) (by omega)
    have hinv2 : t 51 0 a * rd (t 51 0 a) 99 % 101 = 1 := by rw [hva, Int.mul_comm]; exact hinv
    refine ⟨radd t n b a, 1, t1.trans ((ht (t3 a ha)).trans hd), TM_t hTM f1, fun j hj => by rw [f7]; exact t4 j hj, Or.inr ⟨rfl, hnF, ?_⟩⟩
    generalize radd t n b a = u at *
    obtain ⟨j1, ⟨j21, j22, j23⟩, j3, j4, j5, j6, j7⟩ := tI
    have ept : ∀ k, k < b → (s 48 0 k).toNat < n := fun k hk => by have := i2.1 k hk; omega
    have e48 : ∀ k, t 48 0 k = s 48 0 k := fun k => t2 _ _ _ (by omega) (by omega)
    refine ⟨f2, ⟨fun k hk => ?_, fun k hk j hj => ?_, fun k hk j hj => ?_⟩, fun k hk => ?_, fun k hk m hm => ?_, fun k hk p hp h => ?_, fun p hp => ?_, ?_⟩
    · rw [f3]
      by_cases z : k = b
      · rw [if_pos z]; omega
      · rw [if_neg z]; exact j21 k (by omega)
    · rw [f4 k j hj]
      by_cases z : k = b
      · rw [if_pos z]; exact em101 _
      · rw [if_neg z]; exact j22 k (by omega) j hj
    · rw [f5 k j hj]
      by_cases z : k = b
      · rw [if_pos z]; exact em101 _
      · rw [if_neg z]; exact j23 k (by omega) j hj
    · rw [f3]
      by_cases z : k = b
      · rw [if_pos z, z, Int.toNat_natCast]
        refine ⟨by rw [f4 b a ha, if_pos rfl]; exact hinv2, fun k' h1 h2 => absurd h2 (by omega)⟩
      · rw [if_neg z, e48, f4 k _ (ept k (by omega)), if_neg z]
        have := j3 k (by omega)
        rw [e48] at this
        refine ⟨this.1, fun k' h1 h2 => ?_⟩
        rw [f4 k' _ (ept k (by omega))]
        by_cases z2 : k' = b
        · rw [if_pos z2, t5 k (by omega), Int.zero_mul]; rfl
        · rw [if_neg z2]; exact this.2 k' h1 (by omega)
    · rw [f4 k m hm]
      by_cases z : k = b
      · rw [if_pos z]
        have q1 := hrow m hm
        have q2 := dot_linx (g := A m) (x := fun p => u 50 0 (21 * k + sl p)) (y := fun p => t 52 0 (sl p)) (z := fun p => t 52 0 (sl p)) (rd (t 51 0 a) 99) 0 w (fun p hp => by
          show (101 : Int) ∣ u 50 0 (21 * k + sl p) - (rd (t 51 0 a) 99 * t 52 0 (sl p) + 0 * t 52 0 (sl p))
          rw [f5 k _ (hsl p hp), if_pos z, Int.mul_comm (rd (t 51 0 a) 99)]
          omega)
        have q3 : (101 : Int) ∣ rd (t 51 0 a) 99 * (t 51 0 m - dot (A m) (fun p => t 52 0 (sl p)) w) := dvm2 q1
        rw [Int.mul_sub, Int.mul_comm _ (t 51 0 m)] at q3
        omega
      · rw [if_neg z]
        have : dot (A m) (fun p => u 50 0 (21 * k + sl p)) w = dot (A m) (fun p => t 50 0 (21 * k + sl p)) w := dot_c w (fun _ _ => rfl) (fun p hp => by rw [f5 k _ (hsl p hp), if_neg z])
        rw [this]
        exact j4 k (by omega) m hm
    · rw [f5 k _ (hsl p hp)]
      by_cases z : k = b
      · rw [if_pos z]
        have : t 52 0 (sl p) = 0 := by
          refine yz p hp (fun e2 => ?_) (h.elim (fun y => Or.inl (by omega)) Or.inr)
          rcases h with y | y
          · omega
          · rw [e2] at y; exact hnF y
        rw [this, Int.zero_mul]; rfl
      · rw [if_neg z]
        exact j5 k (by omega) p hp (h.elim (fun y => Or.inl (by omega)) Or.inr)
    · by_cases c1 : p = c
      · refine ⟨fun k => if k = b then t 51 0 a else e k, fun m hm => ?_⟩
        have q1 := t6 m hm
        rw [(hR m hm).1] at q1
        have q2 : dot (fun k => if k = b then t 51 0 a else e k) (fun k => u 49 0 (21 * k + m)) (b + 1) = dot e (fun k => s 49 0 (21 * k + m)) b + t 51 0 a * (t 51 0 m * rd (t 51 0 a) 99 % 101) := by
          have q7 : dot (fun k => if k = b then t 51 0 a else e k) (fun k => u 49 0 (21 * k + m)) b = dot e (fun k => s 49 0 (21 * k + m)) b := by
            refine dot_c b (fun k hk => if_neg (by omega)) (fun k hk => ?_)
            rw [f4 k m hm, if_neg (by omega), t2 _ _ _ (by omega) (by omega)]
          rw [dot, f4 b m hm, if_pos rfl, if_pos rfl, q7]
        have q3 : (101 : Int) ∣ t 51 0 a * (t 51 0 m * rd (t 51 0 a) 99 % 101 - t 51 0 m * rd (t 51 0 a) 99) := dvm2 (by omega)
        have q4 : (101 : Int) ∣ (t 51 0 a * rd (t 51 0 a) 99 - 1) * t 51 0 m := dvm (by omega)
        have q5 : t 51 0 a * (t 51 0 m * rd (t 51 0 a) 99 % 101) - t 51 0 m = t 51 0 a * (t 51 0 m * rd (t 51 0 a) 99 % 101 - t 51 0 m * rd (t 51 0 a) 99) + (t 51 0 a * rd (t 51 0 a) 99 - 1) * t 51 0 m := by grind
        rw [q2, c1]
        omega
      · obtain ⟨d, hd⟩ := j6 p (by omega)
        refine ⟨fun k => if k = b then 0 else d k, fun m hm => ?_⟩
        have q2 : dot (fun k => if k = b then 0 else d k) (fun k => u 49 0 (21 * k + m)) (b + 1) = dot d (fun k => t 49 0 (21 * k + m)) b := by
          rw [dot]
          show _ + (if b = b then (0 : Int) else d b) * _ = _
          rw [if_pos rfl, Int.zero_mul, Int.add_zero]
          exact dot_c b (fun k hk => if_neg (by omega)) (fun k hk => by rw [f4 k m hm, if_neg (by omega)])
        rw [q2]
        exact hd m hm
    · rw [cntN_no hnF]; omega
