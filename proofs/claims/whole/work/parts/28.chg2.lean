/-! ONE CHANGE KEEPS WHAT HOLDS -/
theorem hK_i {s : jM} {κ : Int} {k i f : Nat} (h : hK s κ k i f) : i < 10 := by
  rcases h with ⟨_, _, _⟩ | ⟨_, _, _, _⟩ <;> omega
theorem hK_F {s : jM} {κ : Int} {k i f : Nat} (hB : RB s 0 29 30 31) (h : hK s κ k i f) : FW (s 1 i 1) (s 16 i) ∧ (κ = 1 → s 1 i 1 = 1) := by
  obtain ⟨hB, hBl⟩ := hB
  rcases h with ⟨rfl, k4, rfl⟩ | ⟨rfl, k6, rfl, f1⟩
  · obtain ⟨b1, b2, b3⟩ := hB i k4
    rw [Nat.zero_add] at b1 b2
    exact ⟨b2, fun z => absurd z (by decide)⟩
  · obtain ⟨b1, b2, b3⟩ := hBl k k6
    rw [Nat.zero_add] at b1 b2
    exact ⟨by rw [b1]; exact b2, fun _ => b1⟩
theorem cchg_v {s : jM} {κ : Int} {k i f : Nat} (hB : RB s 0 29 30 31) (h : hK s κ k i f) (hF : FW (s 1 f 1) (s 16 f)) : cchg s κ k i f 1 i 1 = s 1 f 1 ∧ ∀ j, j < 21 → cchg s κ k i f 16 i j = s 16 f j := by
  unfold cchg
  by_cases c : FSame s i f
  · rw [if_pos c]
    have h2 := (hK_F hB h).1
    rw [c.1] at h2
    exact ⟨c.1, FW_e h2 hF (fun m hm => c.2 m (by rw [c.1]; exact hm))⟩
  · rw [if_neg c]
    exact ⟨fset_d _ _ _ _, fun j hj => fset_n _ _ _ _ _ hj⟩
theorem chg_RB {s t F : jM} {n : Nat} {κ : Int} {k i f : Nat} (hI : Inv s) (hk : hK s κ k i f) (hF : FW (s 1 f 1) (s 16 f)) (ht : hT s t n κ k i f) (h29 : ∀ j, F 29 0 j = t 29 0 j) (h30 : ∀ j, F 30 0 j = t 30 0 j) (h31 : ∀ j, F 31 0 j = t 31 0 j) (hc : ∀ q a b, (q = 1 ∨ q = 16) ∧ a < 44 → F q a b = cchg s κ k i f q a b) : RB F 0 29 30 31 := by
  obtain ⟨v1, v2⟩ := cchg_v hI.1 hk hF
  obtain ⟨t0, t38, t39, t40, t29, t30, t31⟩ := ht
  obtain ⟨hB, hBl⟩ := hI.1
  refine ⟨fun r hr => ?_, fun m hm => ?_⟩
  · obtain ⟨b1, b2, b3⟩ := hB r hr
    rw [Nat.zero_add] at *
    rw [h29, t29 r hr, hc 1 _ _ (by omega)]
    by_cases e : κ = 0 ∧ r = k
    · rw [if_pos e]
      have hi : r = i := by rcases hk with ⟨_, _, _⟩ | ⟨z, _, _, _⟩; omega; rw [e.1] at z; exact absurd z (by decide)
      subst hi
      rw [v1]
      refine ⟨rfl, FW_c hF (fun j hj => by rw [hc 16 _ _ (by omega)]; exact v2 j hj), fun j hj => ?_⟩
      rw [hc 16 _ _ (by omega), h30, t30 r hr j hj, if_pos e, v2 j hj]
    · rw [if_neg e]
      have hi : r ≠ i := by rcases hk with ⟨z, _, _⟩ | ⟨z, _, _, _⟩; exact fun y => e ⟨z, by omega⟩; omega
      rw [cchg_o _ _ _ _ _ _ _ _ (by omega)]
      refine ⟨b1, FW_c b2 (fun j hj => by rw [hc 16 _ _ (by omega), cchg_o _ _ _ _ _ _ _ _ (by omega)]), fun j hj => ?_⟩
      rw [hc 16 _ _ (by omega), cchg_o _ _ _ _ _ _ _ _ (by omega), h30, t30 r hr j hj, if_neg e]
      exact b3 j hj
  · obtain ⟨b1, b2, b3⟩ := hBl m hm
    rw [Nat.zero_add] at *
    rw [hc 1 _ _ (by omega)]
    by_cases e : κ = 1 ∧ m = k
    · have hi : 4 + m = i ∧ s 1 f 1 = 1 := by rcases hk with ⟨z, _, _⟩ | ⟨z, _, y, x⟩; rw [e.1] at z; exact absurd z (by decide); exact ⟨by omega, x⟩
      obtain ⟨hi, f1⟩ := hi
      rw [hi, v1, f1]
      rw [f1] at hF
      refine ⟨rfl, FW_c hF (fun j hj => by rw [hc 16 _ _ (by omega)]; exact v2 j hj), fun j hj => ?_⟩
      rw [hc 16 _ _ (by omega), h31, t31 m hm j hj, if_pos e, v2 j (by omega)]
    · have hi : 4 + m ≠ i := by rcases hk with ⟨_, _, _⟩ | ⟨z, _, y, x⟩; omega; exact fun w => e ⟨z, by omega⟩
      rw [cchg_o _ _ _ _ _ _ _ _ (by omega)]
      refine ⟨b1, FW_c b2 (fun j hj => by rw [hc 16 _ _ (by omega), cchg_o _ _ _ _ _ _ _ _ (by omega)]), fun j hj => ?_⟩
      rw [hc 16 _ _ (by omega), cchg_o _ _ _ _ _ _ _ _ (by omega), h31, t31 m hm j hj, if_neg e]
      exact b3 j hj
/-- the steps' states with the one that comes to them -/
def eD (s t : jM) (n u r : Nat) : Int := if u ≤ n then sD s n u r else t 29 0 r
def eN (s t : jM) (n u r : Nat) : Int := if u ≤ n then sN s n u r else t 30 0 r
def eL (s t : jM) (n u r : Nat) : Int := if u ≤ n then sL s n u r else t 31 0 r
theorem chg_u {s t F : jM} {n nx : Nat} {κ : Int} {k i f : Nat} (hI : Inv s) (hS : RS s n nx) (hk : hK s κ k i f) (ht : hT s t n κ k i f) (hc : ∀ q a b, q = 5 ∨ (q = 1 ∨ q = 16) ∧ 46 ≤ a → F q a b = cpush s κ k i q a b) (u : Nat) (hu : u ≤ n) (h8 : n = 8 → 1 ≤ u) : SK F ((nx + 8 - n + u) % 8) ∧ SE F ((nx + 8 - n + u) % 8) (eD s t n u) (eN s t n u) (eL s t n u) (eD s t n (u + 1)) (eN s t n (u + 1)) (eL s t n (u + 1)) := by
  obtain ⟨t0, t38, t39, t40, t29, t30, t31⟩ := ht
  obtain ⟨s1, s2, s3, s4, s5, s6⟩ := hS
  have hnx : (s 6 0 1).toNat = nx := by omega
  by_cases c : u < n
  · obtain ⟨a, b⟩ := s6 u c
    generalize hq : (nx + 8 - n + u) % 8 = q at *
    have hqn : q ≠ nx := by omega
    have f5 : ∀ j, F 5 q j = s 5 q j := fun j => by rw [hc 5 _ _ (by omega), cpush_o _ _ _ _ _ _ _ (by omega)]
    have f1 : F 1 (46 + q) 1 = s 1 (46 + q) 1 := by rw [hc 1 _ _ (by omega), cpush_o _ _ _ _ _ _ _ (by omega)]
    have f16 : ∀ j, F 16 (46 + q) j = s 16 (46 + q) j := fun j => by rw [hc 16 _ _ (by omega), cpush_o _ _ _ _ _ _ _ (by omega)]
    exact ⟨SK_cg f5 f1 f16 a, SE_cg f5 f1 f16 (fun r _ => if_pos hu) (fun r _ => if_pos (show u + 1 ≤ n by omega)) (fun r _ => if_pos hu) (fun r _ => if_pos (show u + 1 ≤ n by omega)) (fun r _ => if_pos hu) (fun r _ => if_pos (show u + 1 ≤ n by omega)) b⟩
  · have hun : u = n := by omega
    subst hun
    have hq : (nx + 8 - u + u) % 8 = nx := by omega
    rw [hq]
    obtain ⟨g1, g2⟩ := hK_F hI.1 hk
    have hi := hK_i hk
    have f51 : F 5 nx 1 = κ := by
      rw [hc 5 _ _ (by omega)]
      unfold cpush
      rw [hnx, jup_n _ _ _ _ _ _ _ _ (by omega), jup_n _ _ _ _ _ _ _ _ (by omega), fset_o _ _ _ _ _ _ _ (by omega) (by omega), jup_n _ _ _ _ _ _ _ _ (by omega), jup_e]
    have f52 : F 5 nx 2 = (k : Int) := by
      rw [hc 5 _ _ (by omega)]
      unfold cpush
      rw [hnx, jup_n _ _ _ _ _ _ _ _ (by omega), jup_n _ _ _ _ _ _ _ _ (by omega), fset_o _ _ _ _ _ _ _ (by omega) (by omega), jup_e]
    have f1 : F 1 (46 + nx) 1 = s 1 i 1 := by
      rw [hc 1 _ _ (by omega)]
      unfold cpush
      rw [hnx, jup_n _ _ _ _ _ _ _ _ (by omega), jup_n _ _ _ _ _ _ _ _ (by omega), fset_d]
    have f16 : ∀ j, j < 21 → F 16 (46 + nx) j = s 16 i j := fun j hj => by
      rw [hc 16 _ _ (by omega)]
      unfold cpush
      rw [hnx, jup_n _ _ _ _ _ _ _ _ (by omega), jup_n _ _ _ _ _ _ _ _ (by omega), fset_n _ _ _ _ _ hj]
    obtain ⟨hB, hBl⟩ := hI.1
    refine ⟨⟨?_, ?_⟩, ?_, ?_, ?_⟩
    · rw [f51, f52, f1]
      rcases hk with ⟨z, _, _⟩ | ⟨z, _, y, x⟩
      · exact Or.inl ⟨z, by omega, by omega⟩
      · exact Or.inr ⟨z, by omega, by omega, g2 z⟩
    · rw [f1]; exact FW_c g1 f16
    · intro r hr
      unfold eD sD
      rw [if_pos (Nat.le_refl u), if_neg (Nat.lt_irrefl u), if_neg (show ¬ u + 1 ≤ u by omega), f51, f52, f1, t29 r hr]
      obtain ⟨b1, b2, b3⟩ := hB r hr
      rw [Nat.zero_add] at b1 b2 b3
      by_cases e : κ = 0 ∧ r = k
      · have e2 : κ = 0 ∧ (k : Int) = r := ⟨e.1, by omega⟩
        have e3 : i = r := by rcases hk with ⟨_, _, _⟩ | ⟨z, _, _, _⟩; omega; rw [e.1] at z; exact absurd z (by decide)
        rw [if_pos e2, e3, b1]
      · rw [if_neg e, if_neg (fun z => e ⟨z.1, by omega⟩)]
    · intro r hr j hj
      unfold eN sN
      rw [if_pos (Nat.le_refl u), if_neg (Nat.lt_irrefl u), if_neg (show ¬ u + 1 ≤ u by omega), f51, f52, f16 j hj, t30 r hr j hj]
      obtain ⟨b1, b2, b3⟩ := hB r hr
      rw [Nat.zero_add] at b1 b2 b3
      by_cases e : κ = 0 ∧ r = k
      · have e2 : κ = 0 ∧ (k : Int) = r := ⟨e.1, by omega⟩
        have e3 : i = r := by rcases hk with ⟨_, _, _⟩ | ⟨z, _, _, _⟩; omega; rw [e.1] at z; exact absurd z (by decide)
        rw [if_pos e2, e3, b3 j hj]
      · rw [if_neg e, if_neg (fun z => e ⟨z.1, by omega⟩)]
    · intro r hr j hj
      unfold eL sL
      rw [if_pos (Nat.le_refl u), if_neg (Nat.lt_irrefl u), if_neg (show ¬ u + 1 ≤ u by omega), f51, f52, f16 j (by omega), t31 r hr j hj]
      obtain ⟨b1, b2, b3⟩ := hBl r hr
      rw [Nat.zero_add] at b1 b2 b3
      by_cases e : κ = 1 ∧ r = k
      · have e2 : κ = 1 ∧ (k : Int) = r := ⟨e.1, by omega⟩
        have e3 : i = 4 + r := by rcases hk with ⟨z, _, _⟩ | ⟨z, _, _, _⟩; rw [e.1] at z; exact absurd z (by decide); omega
        rw [if_pos e2, e3, b3 j hj]
      · rw [if_neg e, if_neg (fun z => e ⟨z.1, by omega⟩)]
theorem chg_RS (s t : jM) (n nx : Nat) (κ : Int) (k i f : Nat) (hI : Inv s) (hS : RS s n nx) (hk : hK s κ k i f) (hf : 10 ≤ f) (hF : FW (s 1 f 1) (s 16 f)) (ht : hT s t n κ k i f) : ∃ n' nx', RS (msettle t n) n' nx' := by
  obtain ⟨hsame, hyes⟩ := chg_same s t n nx κ k i f hI hS hk hf hF ht
  have hu := fun F hc u => chg_u (F := F) (u := u) hI hS hk ht hc
  obtain ⟨t0, t38, t39, t40, t29, t30, t31⟩ := ht
  obtain ⟨s1, s2, s3, s4, s5, s6⟩ := hS
  have hnx : (s 6 0 1).toNat = nx := by omega
  have hi := hK_i hk
  unfold Scr at t0
  unfold msettle
  by_cases c : mSame t n
  · have c2 := hsame.mpr c
    obtain ⟨y29, y30, y31⟩ := hyes c2
    have hc : ∀ q a b, cchg s κ k i f q a b = s q a b := fun q a b => by unfold cchg; rw [if_pos c2]
    rw [if_pos c]
    refine ⟨n, nx, ?_, ?_, s3, ?_, s5, fun u hu => ?_⟩
    · rw [t0 _ _ _ (by omega), hc]; exact s1
    · rw [t0 _ _ _ (by omega), hc]; exact s2
    · rw [t0 _ _ _ (by omega), hc]; exact s4
    · obtain ⟨a, b⟩ := s6 u hu
      generalize hq : (nx + 8 - n + u) % 8 = q at *
      have f5 : ∀ j, t 5 q j = s 5 q j := fun j => by rw [t0 _ _ _ (by omega), hc]
      have f1 : t 1 (46 + q) 1 = s 1 (46 + q) 1 := by rw [t0 _ _ _ (by omega), hc]
      have f16 : ∀ j, t 16 (46 + q) j = s 16 (46 + q) j := fun j => by rw [t0 _ _ _ (by omega), hc]
      have hD : ∀ v, v ≤ n → ∀ r, r < 4 → sD t n v r = sD s n v r := fun v hv r hr => by
        unfold sD
        by_cases e : v < n
        · rw [if_pos e, if_pos e, t38.1 _ (by omega)]
        · rw [if_neg e, if_neg e, y29 r hr]
      have hN : ∀ v, v ≤ n → ∀ r, r < 84 → sN t n v r = sN s n v r := fun v hv r hr => by
        unfold sN
        by_cases e : v < n
        · rw [if_pos e, if_pos e, t39.1 _ (by omega)]
        · rw [if_neg e, if_neg e, y30 r hr]
      have hL : ∀ v, v ≤ n → ∀ r, r < 18 → sL t n v r = sL s n v r := fun v hv r hr => by
        unfold sL
        by_cases e : v < n
        · rw [if_pos e, if_pos e, t40.1 _ (by omega)]
        · rw [if_neg e, if_neg e, y31 r hr]
      exact ⟨SK_cg f5 f1 f16 a, SE_cg f5 f1 f16 (hD u (by omega)) (hD (u + 1) (by omega)) (hN u (by omega)) (hN (u + 1) (by omega)) (hL u (by omega)) (hL (u + 1) (by omega)) b⟩
  · have c2 : ¬ FSame s i f := fun z => c (hsame.mp z)
    have hc : ∀ q a b, ¬ ((q = 1 ∨ q = 16) ∧ a < 46) → cchg s κ k i f q a b = cpush s κ k i q a b := fun q a b z => by
      unfold cchg; rw [if_neg c2, fset_o _ _ _ _ _ _ _ (by omega) (by omega)]
    have p61 : cpush s κ k i 6 0 1 = (((nx + 1) % 8 : Nat) : Int) := by
      unfold cpush
      rw [jup_n _ _ _ _ _ _ _ _ (by omega), jup_e]
      omega
    have p62 : cpush s κ k i 6 0 2 = if s 6 0 2 < 8 then s 6 0 2 + 1 else 8 := by
      unfold cpush
      rw [jup_e]
    rw [if_neg c]
    by_cases c8 : n < 8
    · rw [if_pos c8]
      have hJ : ∀ q a b, ¬ (q = 11 ∧ b = 10) → jup t 11 0 10 ((n : Int) + 1) q a b = t q a b := fun q a b z => jup_n _ _ _ _ _ _ _ _ (by omega)
      refine ⟨n + 1, (nx + 1) % 8, ?_, ?_, by omega, ?_, by omega, fun u hu2 => ?_⟩
      · rw [hJ _ _ _ (by omega), t0 _ _ _ (by omega), hc _ _ _ (by omega), p62, if_pos (by omega)]; omega
      · rw [jup_e]; omega
      · rw [hJ _ _ _ (by omega), t0 _ _ _ (by omega), hc _ _ _ (by omega), p61]
      · obtain ⟨a, b⟩ := hu (jup t 11 0 10 ((n : Int) + 1)) (fun q a b z => by rw [hJ _ _ _ (by omega), t0 _ _ _ (by omega), hc _ _ _ (by omega)]) u (by omega) (by omega)
        rw [show ((nx + 1) % 8 + 8 - (n + 1) + u) % 8 = (nx + 8 - n + u) % 8 by omega]
        have hD : ∀ v, v ≤ n + 1 → ∀ r, r < 4 → sD (jup t 11 0 10 ((n : Int) + 1)) (n + 1) v r = eD s t n v r := fun v hv r hr => by
          unfold eD sD
          rw [hJ _ _ _ (by omega), hJ _ _ _ (by omega)]
          by_cases e : v < n
          · rw [if_pos (show v < n + 1 by omega), if_pos (show v ≤ n by omega), if_pos e, t38.1 _ (by omega)]
          · by_cases e2 : v = n
            · rw [e2, if_pos (show n < n + 1 by omega), if_pos (show n ≤ n by omega), if_neg (by omega), t38.2 _ (by omega)]
            · rw [if_neg (by omega), if_neg (by omega)]
        have hN : ∀ v, v ≤ n + 1 → ∀ r, r < 84 → sN (jup t 11 0 10 ((n : Int) + 1)) (n + 1) v r = eN s t n v r := fun v hv r hr => by
          unfold eN sN
          rw [hJ _ _ _ (by omega), hJ _ _ _ (by omega)]
          by_cases e : v < n
          · rw [if_pos (show v < n + 1 by omega), if_pos (show v ≤ n by omega), if_pos e, t39.1 _ (by omega)]
          · by_cases e2 : v = n
            · rw [e2, if_pos (show n < n + 1 by omega), if_pos (show n ≤ n by omega), if_neg (by omega), t39.2 _ (by omega)]
            · rw [if_neg (by omega), if_neg (by omega)]
        have hL : ∀ v, v ≤ n + 1 → ∀ r, r < 18 → sL (jup t 11 0 10 ((n : Int) + 1)) (n + 1) v r = eL s t n v r := fun v hv r hr => by
          unfold eL sL
          rw [hJ _ _ _ (by omega), hJ _ _ _ (by omega)]
          by_cases e : v < n
          · rw [if_pos (show v < n + 1 by omega), if_pos (show v ≤ n by omega), if_pos e, t40.1 _ (by omega)]
          · by_cases e2 : v = n
            · rw [e2, if_pos (show n < n + 1 by omega), if_pos (show n ≤ n by omega), if_neg (by omega), t40.2 _ (by omega)]
            · rw [if_neg (by omega), if_neg (by omega)]
        exact ⟨a, SE_cg (fun _ => rfl) rfl (fun _ => rfl) (hD u (by omega)) (hD (u + 1) (by omega)) (hN u (by omega)) (hN (u + 1) (by omega)) (hL u (by omega)) (hL (u + 1) (by omega)) b⟩
    · have n8 : n = 8 := by omega
      subst n8
      rw [if_neg c8]
      obtain ⟨m38, m39, m40⟩ := mshift_s t
      have hJ := mshift_o t
      refine ⟨8, (nx + 1) % 8, ?_, ?_, by omega, ?_, by omega, fun u hu2 => ?_⟩
      · rw [hJ _ _ _ (by omega) (by omega) (by omega), t0 _ _ _ (by omega), hc _ _ _ (by omega), p62, if_neg (by omega)]; rfl
      · rw [hJ _ _ _ (by omega) (by omega) (by omega), t0 _ _ _ (by omega), cchg_o _ _ _ _ _ _ _ _ (by omega)]; exact s2
      · rw [hJ _ _ _ (by omega) (by omega) (by omega), t0 _ _ _ (by omega), hc _ _ _ (by omega), p61]
      · obtain ⟨a, b⟩ := hu (mshift t) (fun q a b z => by rw [hJ _ _ _ (by omega) (by omega) (by omega), t0 _ _ _ (by omega), hc _ _ _ (by omega)]) (u + 1) (by omega) (by omega)
        rw [show ((nx + 1) % 8 + 8 - 8 + u) % 8 = (nx + 8 - 8 + (u + 1)) % 8 by omega]
        have hD : ∀ v, v ≤ 8 → ∀ r, r < 4 → sD (mshift t) 8 v r = eD s t 8 (v + 1) r := fun v hv r hr => by
          unfold eD sD
          by_cases e : v < 8
          · rw [if_pos e, m38 _ (by omega), if_pos (show v + 1 ≤ 8 by omega)]
            by_cases e2 : v + 1 < 8
            · rw [if_pos e2, show 4 * v + r + 4 = 4 * (v + 1) + r by omega, t38.1 _ (by omega)]
            · rw [if_neg e2, show 4 * v + r + 4 = 4 * 8 + r by omega, t38.2 _ (by omega)]
          · rw [if_neg e, if_neg (by omega), hJ _ _ _ (by omega) (by omega) (by omega)]
        have hN : ∀ v, v ≤ 8 → ∀ r, r < 84 → sN (mshift t) 8 v r = eN s t 8 (v + 1) r := fun v hv r hr => by
          unfold eN sN
          by_cases e : v < 8
          · rw [if_pos e, m39 _ (by omega), if_pos (show v + 1 ≤ 8 by omega)]
            by_cases e2 : v + 1 < 8
            · rw [if_pos e2, show 84 * v + r + 84 = 84 * (v + 1) + r by omega, t39.1 _ (by omega)]
            · rw [if_neg e2, show 84 * v + r + 84 = 84 * 8 + r by omega, t39.2 _ (by omega)]
          · rw [if_neg e, if_neg (by omega), hJ _ _ _ (by omega) (by omega) (by omega)]
        have hL : ∀ v, v ≤ 8 → ∀ r, r < 18 → sL (mshift t) 8 v r = eL s t 8 (v + 1) r := fun v hv r hr => by
          unfold eL sL
          by_cases e : v < 8
          · rw [if_pos e, m40 _ (by omega), if_pos (show v + 1 ≤ 8 by omega)]
            by_cases e2 : v + 1 < 8
            · rw [if_pos e2, show 18 * v + r + 18 = 18 * (v + 1) + r by omega, t40.1 _ (by omega)]
            · rw [if_neg e2, show 18 * v + r + 18 = 18 * 8 + r by omega, t40.2 _ (by omega)]
          · rw [if_neg e, if_neg (by omega), hJ _ _ _ (by omega) (by omega) (by omega)]
        exact ⟨a, SE_cg (fun _ => rfl) rfl (fun _ => rfl) (hD u (by omega)) (hD (u + 1) (by omega)) (hN u (by omega)) (hN (u + 1) (by omega)) (hL u (by omega)) (hL (u + 1) (by omega)) b⟩
/-- one change on both sides keeps what holds -/
theorem chg (s t : jM) (n nx : Nat) (κ : Int) (k i f : Nat) (hI : Inv s) (hS : RS s n nx) (hk : hK s κ k i f) (hf : 10 ≤ f) (hF : FW (s 1 f 1) (s 16 f)) (ht : hT s t n κ k i f) : Inv (msettle t n) := by
  have hRS := chg_RS s t n nx κ k i f hI hS hk hf hF ht
  have t0 := ht.1
  have hi := hK_i hk
  have hR := chg_RB (F := msettle t n) hI hk hF ht (fun j => msettle_o _ _ _ _ _ (by omega) (by omega) (by omega) (by omega)) (fun j => msettle_o _ _ _ _ _ (by omega) (by omega) (by omega) (by omega)) (fun j => msettle_o _ _ _ _ _ (by omega) (by omega) (by omega) (by omega)) (fun q a b z => by rw [msettle_o _ _ _ _ _ (by omega) (by omega) (by omega) (by omega), t0 _ _ _ (by unfold Scr; omega)])
  unfold Scr at t0
  have hJ : ∀ q a b, ¬ (q = 1 ∧ a < 10 ∨ q = 16 ∧ a < 10 ∨ (q = 1 ∨ q = 16) ∧ 44 ≤ a ∨ q = 5 ∨ q = 6 ∨ q = 29 ∨ q = 30 ∨ q = 31 ∨ q = 38 ∨ q = 39 ∨ q = 40 ∨ q = 2 ∨ q = 3 ∨ q = 7 ∨ q = 9 ∨ q = 17 ∨ q = 18 ∨ q = 19 ∨ q = 25 ∨ q = 26 ∨ q = 28 ∨ 47 ≤ q ∧ q ≤ 57 ∨ q = 11 ∧ b ≠ 8 ∧ b ≠ 14) → msettle t n q a b = s q a b := fun q a b z => by
    rw [msettle_o _ _ _ _ _ (by omega) (by omega) (by omega) (by omega), t0 _ _ _ (by omega), cchg_o _ _ _ _ _ _ _ _ (by omega)]
  obtain ⟨a, b, c, d, e, -, g⟩ := hI
  exact ⟨hR, RK_cg (fun q a b z => hJ _ _ _ (by omega)) b, RR_cg (fun q a b z => hJ _ _ _ (by omega)) c, RT_cg (fun q a b z => hJ _ _ _ (by omega)) d, RI_cg (fun q a b z => hJ _ _ _ (by omega)) e, hRS, TI_cg (fun j => hJ _ _ _ (by omega)) g⟩
