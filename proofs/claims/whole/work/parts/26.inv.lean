/-! WHAT HOLDS BETWEEN THE CLASS AND THE REFERENCE FROM CALL TO CALL -/
/-- a form as it must be -/
def FW (d : Int) (g : Nat → Int) : Prop := 0 ≤ d ∧ d ≤ 5 ∧ (∀ j, j < 21 → g101 (g j)) ∧ ∀ j, mnN d.toNat ≤ j → j < 21 → g j = 0
def RB (s : jM) (o kD kN kL : Nat) : Prop :=
  (∀ r, r < 4 → s 1 (o + r) 1 = s kD 0 r ∧ FW (s 1 (o + r) 1) (s 16 (o + r)) ∧ ∀ j, j < 21 → s 16 (o + r) j = s kN 0 (21 * r + j)) ∧
  ∀ k, k < 6 → s 1 (o + 4 + k) 1 = 1 ∧ FW 1 (s 16 (o + 4 + k)) ∧ ∀ j, j < 3 → s 16 (o + 4 + k) j = s kL 0 (3 * k + j)
def RK (s : jM) (o b kK kD kN : Nat) : Prop := ∀ p, p < 12 → (s 15 b p = -2 ∧ s kK 0 p = -1) ∨ ((s 15 b p = 0 ∧ s kK 0 p = 0 ∧ s 1 (o + 10 + p) 1 = s kD 0 p ∨ s 15 b p = 1 ∧ s kK 0 p = 1 ∧ s 1 (o + 10 + p) 1 = 1) ∧ FW (s 1 (o + 10 + p) 1) (s 16 (o + 10 + p)) ∧ ∀ j, j < 21 → s 16 (o + 10 + p) j = s kN 0 (21 * p + j))
def RR (s : jM) : Prop := ∀ w, w < 3 → s 22 0 w = s 35 0 w ∧ -1 ≤ s 22 0 w ∧ s 22 0 w ≤ 40 ∧ ∀ i : Nat, (i : Int) < s 22 0 w → s 21 w i = s 36 0 (40 * w + i)
def RT (s : jM) : Prop := s 8 0 1 = s 11 0 8 ∧ 0 ≤ s 8 0 1 ∧ s 8 0 1 ≤ 80 ∧ ∀ i : Nat, (i : Int) < s 8 0 1 → s 27 0 i = s 37 0 i ∧ 32 ≤ s 27 0 i ∧ s 27 0 i ≤ 126
def RI (s : jM) : Prop := s 10 0 2 = s 11 0 14 ∧ (s 10 0 2 = 0 ∨ s 10 0 2 = 1) ∧ (s 10 0 2 = 1 → RB s 22 41 42 43 ∧ RK s 22 1 44 45 46)
def sD (s : jM) (n t r : Nat) : Int := if t < n then s 38 0 (4 * t + r) else s 29 0 r
def sN (s : jM) (n t j : Nat) : Int := if t < n then s 39 0 (84 * t + j) else s 30 0 j
def sL (s : jM) (n t j : Nat) : Int := if t < n then s 40 0 (18 * t + j) else s 31 0 j
def SK (s : jM) (q : Nat) : Prop := (s 5 q 1 = 0 ∧ 0 ≤ s 5 q 2 ∧ s 5 q 2 < 4 ∨ s 5 q 1 = 1 ∧ 0 ≤ s 5 q 2 ∧ s 5 q 2 < 6 ∧ s 1 (46 + q) 1 = 1) ∧ FW (s 1 (46 + q) 1) (s 16 (46 + q))
/-- from one state (d1 n1 l1) to the one before it (d0 n0 l0) by the step q -/
def SE (s : jM) (q : Nat) (d0 n0 l0 d1 n1 l1 : Nat → Int) : Prop :=
  (∀ r : Nat, r < 4 → d0 r = if s 5 q 1 = 0 ∧ s 5 q 2 = r then s 1 (46 + q) 1 else d1 r) ∧
  (∀ r : Nat, r < 4 → ∀ j, j < 21 → n0 (21 * r + j) = if s 5 q 1 = 0 ∧ s 5 q 2 = r then s 16 (46 + q) j else n1 (21 * r + j)) ∧
  ∀ k : Nat, k < 6 → ∀ j, j < 3 → l0 (3 * k + j) = if s 5 q 1 = 1 ∧ s 5 q 2 = k then s 16 (46 + q) j else l1 (3 * k + j)
def RS (s : jM) (n nx : Nat) : Prop := s 6 0 2 = (n : Int) ∧ s 11 0 10 = (n : Int) ∧ n ≤ 8 ∧ s 6 0 1 = (nx : Int) ∧ nx < 8 ∧ ∀ t, t < n → SK s ((nx + 8 - n + t) % 8) ∧ SE s ((nx + 8 - n + t) % 8) (sD s n t) (sN s n t) (sL s n t) (sD s n (t + 1)) (sN s n (t + 1)) (sL s n (t + 1))
def TI (s : jM) : Prop := ∀ i, i < 21 → ∀ j, j < 21 → (s 24 0 i).toNat % 21 = (s 24 0 j).toNat % 21 → i = j
def Inv (s : jM) : Prop := RB s 0 29 30 31 ∧ RK s 0 0 32 33 34 ∧ RR s ∧ RT s ∧ RI s ∧ (∃ n nx, RS s n nx) ∧ TI s
/-- what both may use as they like -/
def Scr (k i j : Nat) : Prop := k = 2 ∨ k = 3 ∨ k = 7 ∨ k = 9 ∨ k = 17 ∨ k = 18 ∨ k = 19 ∨ k = 25 ∨ k = 26 ∨ k = 28 ∨ (k = 1 ∨ k = 16) ∧ (i = 44 ∨ i = 45) ∨ 47 ≤ k ∧ k ≤ 57 ∨ k = 11 ∧ j ≠ 8 ∧ j ≠ 10 ∧ j ≠ 14
def Kt (s t : jM) : Prop := ∀ k i j, k ≠ 24 → ¬ Scr k i j → t k i j = s k i j
def Kp (s t : jM) : Prop := ∀ k i j, ¬ Scr k i j → t k i j = s k i j
theorem Kp_r (s : jM) : Kp s s := fun _ _ _ _ => rfl
theorem Kp_t {s t u : jM} (h : Kp s t) (h2 : Kp t u) : Kp s u := fun k i j hq => (h2 k i j hq).trans (h k i j hq)
theorem Kt_t {s t u : jM} (h : Kt s t) (h2 : Kt t u) : Kt s u := fun k i j hq h3 => (h2 k i j hq h3).trans (h k i j hq h3)
theorem Kp_Kt {s t : jM} (h : Kp s t) : Kt s t := fun k i j _ hq => h k i j hq
theorem RB_cg {s t : jM} {o kD kN kL : Nat} (h : ∀ k i j, ((k = 1 ∨ k = 16) ∧ o ≤ i ∧ i < o + 10) ∨ k = kD ∨ k = kN ∨ k = kL → t k i j = s k i j) (hs : RB s o kD kN kL) : RB t o kD kN kL := by
  obtain ⟨h1, h2⟩ := hs
  refine ⟨fun r hr => ?_, fun k hk => ?_⟩
  · have e : t 16 (o + r) = s 16 (o + r) := funext fun j => h 16 _ _ (by omega)
    obtain ⟨a, b, c⟩ := h1 r hr
    refine ⟨?_, ?_, fun j hj => ?_⟩
    · rw [h 1 _ _ (by omega), h kD _ _ (by omega)]; exact a
    · rw [h 1 _ _ (by omega), e]; exact b
    · rw [e, h kN _ _ (by omega)]; exact c j hj
  · have e : t 16 (o + 4 + k) = s 16 (o + 4 + k) := funext fun j => h 16 _ _ (by omega)
    obtain ⟨a, b, c⟩ := h2 k hk
    refine ⟨?_, ?_, fun j hj => ?_⟩
    · rw [h 1 _ _ (by omega)]; exact a
    · rw [e]; exact b
    · rw [e, h kL _ _ (by omega)]; exact c j hj
theorem RK_cg {s t : jM} {o b kK kD kN : Nat} (h : ∀ k i j, ((k = 1 ∨ k = 16) ∧ o + 10 ≤ i ∧ i < o + 22) ∨ (k = 15 ∧ i = b) ∨ k = kK ∨ k = kD ∨ k = kN → t k i j = s k i j) (hs : RK s o b kK kD kN) : RK t o b kK kD kN := by
  intro p hp
  have e : t 16 (o + 10 + p) = s 16 (o + 10 + p) := funext fun j => h 16 _ _ (by omega)
  rw [h 15 b p (by omega), h kK 0 p (by omega), h 1 (o + 10 + p) 1 (by omega), h kD 0 p (by omega), e]
  rcases hs p hp with a | ⟨a, b, c⟩
  · exact Or.inl a
  · exact Or.inr ⟨a, b, fun j hj => by rw [h kN 0 _ (by omega)]; exact c j hj⟩
theorem RR_cg {s t : jM} (h : ∀ k i j, k = 21 ∨ k = 22 ∨ k = 35 ∨ k = 36 → t k i j = s k i j) (hs : RR s) : RR t := by
  intro w hw
  rw [h 22 0 w (by omega), h 35 0 w (by omega)]
  obtain ⟨a, b, c, d⟩ := hs w hw
  exact ⟨a, b, c, fun i hi => by rw [h 21 w i (by omega), h 36 0 _ (by omega)]; exact d i hi⟩
theorem RT_cg {s t : jM} (h : ∀ k i j, k = 8 ∨ k = 27 ∨ k = 37 ∨ k = 11 ∧ j = 8 → t k i j = s k i j) (hs : RT s) : RT t := by
  unfold RT
  rw [h 8 0 1 (by omega), h 11 0 8 (by omega)]
  obtain ⟨a, b, c, d⟩ := hs
  exact ⟨a, b, c, fun i hi => by rw [h 27 0 i (by omega), h 37 0 i (by omega)]; exact d i hi⟩
theorem RI_cg {s t : jM} (h : ∀ k i j, k = 10 ∨ k = 11 ∧ j = 14 ∨ ((k = 1 ∨ k = 16) ∧ 22 ≤ i ∧ i < 44) ∨ k = 15 ∧ i = 1 ∨ 41 ≤ k ∧ k ≤ 46 → t k i j = s k i j) (hs : RI s) : RI t := by
  unfold RI
  rw [h 10 0 2 (by omega), h 11 0 14 (by omega)]
  obtain ⟨a, b, c⟩ := hs
  exact ⟨a, b, fun z => ⟨RB_cg (fun k i j q => h k i j (by omega)) (c z).1, RK_cg (fun k i j q => h k i j (by omega)) (c z).2⟩⟩
theorem SK_cg {s t : jM} {q : Nat} (h5 : ∀ j, t 5 q j = s 5 q j) (h1 : t 1 (46 + q) 1 = s 1 (46 + q) 1) (h16 : ∀ j, t 16 (46 + q) j = s 16 (46 + q) j) (hs : SK s q) : SK t q := by
  unfold SK
  rw [h5, h5, h1, funext h16]
  exact hs
theorem SE_cg {s t : jM} {q : Nat} {d0 n0 l0 d1 n1 l1 e0 m0 k0 e1 m1 k1 : Nat → Int} (h5 : ∀ j, t 5 q j = s 5 q j) (h1 : t 1 (46 + q) 1 = s 1 (46 + q) 1) (h16 : ∀ j, t 16 (46 + q) j = s 16 (46 + q) j) (hd0 : ∀ r, r < 4 → e0 r = d0 r) (hd1 : ∀ r, r < 4 → e1 r = d1 r) (hn0 : ∀ j, j < 84 → m0 j = n0 j) (hn1 : ∀ j, j < 84 → m1 j = n1 j) (hl0 : ∀ j, j < 18 → k0 j = l0 j) (hl1 : ∀ j, j < 18 → k1 j = l1 j) (hs : SE s q d0 n0 l0 d1 n1 l1) : SE t q e0 m0 k0 e1 m1 k1 := by
  unfold SE
  rw [h5, h5, h1, funext h16]
  exact ⟨fun r hr => by rw [hd0 r hr, hd1 r hr]; exact hs.1 r hr, fun r hr j hj => by rw [hn0 _ (by omega), hn1 _ (by omega)]; exact hs.2.1 r hr j hj, fun k hk j hj => by rw [hl0 _ (by omega), hl1 _ (by omega)]; exact hs.2.2 k hk j hj⟩
theorem RS_cg {s t : jM} {n nx : Nat} (h : ∀ k i j, k = 5 ∨ k = 6 ∨ (k = 1 ∨ k = 16) ∧ 46 ≤ i ∨ k = 11 ∧ j = 10 ∨ (29 ≤ k ∧ k ≤ 31) ∨ (38 ≤ k ∧ k ≤ 40) → t k i j = s k i j) (hs : RS s n nx) : RS t n nx := by
  unfold RS
  rw [h 6 0 2 (by omega), h 6 0 1 (by omega), h 11 0 10 (by omega)]
  obtain ⟨a, b, c, d, e, f⟩ := hs
  have hD : ∀ u r, sD t n u r = sD s n u r := fun u r => by unfold sD; rw [h 38 0 _ (by omega), h 29 0 _ (by omega)]
  have hN : ∀ u r, sN t n u r = sN s n u r := fun u r => by unfold sN; rw [h 39 0 _ (by omega), h 30 0 _ (by omega)]
  have hL : ∀ u r, sL t n u r = sL s n u r := fun u r => by unfold sL; rw [h 40 0 _ (by omega), h 31 0 _ (by omega)]
  refine ⟨a, b, c, d, e, fun u hu => ⟨SK_cg (fun j => h 5 _ _ (by omega)) (h 1 _ _ (by omega)) (fun j => h 16 _ _ (by omega)) (f u hu).1, SE_cg (fun j => h 5 _ _ (by omega)) (h 1 _ _ (by omega)) (fun j => h 16 _ _ (by omega)) (fun r _ => hD _ _) (fun r _ => hD _ _) (fun r _ => hN _ _) (fun r _ => hN _ _) (fun r _ => hL _ _) (fun r _ => hL _ _) (f u hu).2⟩⟩
theorem Inv_kt {s t : jM} (h : Kt s t) (ht : TI t) (hs : Inv s) : Inv t := by
  obtain ⟨a, b, c, d, e, ⟨n, nx, f⟩, g⟩ := hs
  unfold Kt Scr at h
  exact ⟨RB_cg (fun k i j q => h k i j (by omega) (by omega)) a, RK_cg (fun k i j q => h k i j (by omega) (by omega)) b, RR_cg (fun k i j q => h k i j (by omega) (by omega)) c, RT_cg (fun k i j q => h k i j (by omega) (by omega)) d, RI_cg (fun k i j q => h k i j (by omega) (by omega)) e, ⟨n, nx, RS_cg (fun k i j q => h k i j (by omega) (by omega)) f⟩, ht⟩
theorem TI_cg {s t : jM} (h : ∀ j, t 24 0 j = s 24 0 j) (hs : TI s) : TI t := by
  intro i hi j hj
  rw [h, h]
  exact hs i hi j hj
theorem Inv_kp {s t : jM} (h : Kp s t) (hs : Inv s) : Inv t := Inv_kt (Kp_Kt h) (TI_cg (fun j => h 24 0 j (by unfold Scr; omega)) hs.2.2.2.2.2.2) hs
