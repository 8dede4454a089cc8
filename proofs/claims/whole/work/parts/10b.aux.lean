/-! leaves and nodes of the code tables -/
theorem jaa_12 : ∀ i, i < jcnt 12 → ∀ j, j < 4 → ∀ v : Int, (fun i j _ => 22 * i + j : Nat → Nat → Int → Nat) i j v < jcnt 1 := fun i hi j hj v => (by have hi : i < 2 := hi; show (fun i j _ => 22 * i + j : Nat → Nat → Int → Nat) i j v < 54; simp only; omega)
theorem jaa_13 : ∀ i, i < jcnt 13 → ∀ j, j < 6 → ∀ v : Int, (fun i j _ => 22 * i + 4 + j : Nat → Nat → Int → Nat) i j v < jcnt 1 := fun i hi j hj v => (by have hi : i < 2 := hi; show (fun i j _ => 22 * i + 4 + j : Nat → Nat → Int → Nat) i j v < 54; simp only; omega)
theorem jaa_14 : ∀ i, i < jcnt 14 → ∀ j, j < 12 → ∀ v : Int, (fun i j _ => 22 * i + 10 + j : Nat → Nat → Int → Nat) i j v < jcnt 1 := fun i hi j hj v => (by have hi : i < 2 := hi; show (fun i j _ => 22 * i + 10 + j : Nat → Nat → Int → Nat) i j v < 54; simp only; omega)
theorem jaa_20 : ∀ i, i < jcnt 20 → ∀ j, j < 3 → ∀ v : Int, (fun _ j _ => j : Nat → Nat → Int → Nat) i j v < jcnt 21 := fun i hi j hj v => (by have hi : i < 1 := hi; show (fun _ j _ => j : Nat → Nat → Int → Nat) i j v < 3; simp only; omega)
theorem jaa_23 : ∀ i, i < jcnt 23 → ∀ j, j < 8 → ∀ v : Int, (fun _ j _ => j : Nat → Nat → Int → Nat) i j v < jcnt 5 := fun i hi j hj v => (by have hi : i < 1 := hi; show (fun _ j _ => j : Nat → Nat → Int → Nat) i j v < 8; simp only; omega)
theorem jaa_24 : ∀ i, i < jcnt 24 → ∀ j, j < 21 → ∀ v : Int, (fun _ _ v => v.toNat % 21 : Nat → Nat → Int → Nat) i j v < jcnt 25 := fun i hi j hj v => Nat.mod_lt _ (by decide)
theorem jok_leaf {l : Launch} {E : jE} {cc : ByteArray} {own : String} {nL : Nat} {rt : Option FieldType} {R : Room} {pc q : Nat} {op : jO} (h : jOk l E cc own nL rt R q op) : jOk l E cc own nL rt R pc (bif Nat.beq pc q then op else jstk) := by
  cases hb : Nat.beq pc q with
  | true => rw [jbeq hb]; exact h
  | false => exact ok_stk
theorem jok_node {l : Launch} {E : jE} {cc : ByteArray} {own : String} {nL : Nat} {rt : Option FieldType} {R : Room} {pc : Nat} {a b : jO} {z : Bool} (ha : jOk l E cc own nL rt R pc a) (hb : jOk l E cc own nL rt R pc b) : jOk l E cc own nL rt R pc (bif z then a else b) := by
  cases z with
  | true => exact ha
  | false => exact hb
theorem jsh_leaf {wr : Nat → Bool} {op : jO} {z : Bool} (h : jSh wr op) : jSh wr (bif z then op else jstk) := by
  cases z with
  | true => exact h
  | false => exact sh_stk
theorem jsh_node {wr : Nat → Bool} {a b : jO} {z : Bool} (ha : jSh wr a) (hb : jSh wr b) : jSh wr (bif z then a else b) := by
  cases z with
  | true => exact ha
  | false => exact hb
theorem jwr_law (y : Nat) (q : Nat) (h : jwr 400 q = false) : jwr y q = false := by
  have h : Nat.blt q 58 = false := h
  have h : ¬ q < 58 := fun z => by rw [show Nat.blt q 58 = true from Nat.ble_eq_true_of_le z] at h; cases h
  unfold jwr
  have a : Nat.blt q 29 = false := by
    cases hz : Nat.blt q 29 with
    | false => rfl
    | true => exact absurd (Nat.le_of_ble_eq_true hz : q + 1 ≤ 29) (by omega)
  have b : Nat.beq q 11 = false := by
    cases hz : Nat.beq q 11 with
    | false => rfl
    | true => exact absurd (jbeq hz) (by omega)
  have c : Nat.blt q 58 = false := by
    cases hz : Nat.blt q 58 with
    | false => rfl
    | true => exact absurd (Nat.le_of_ble_eq_true hz : q + 1 ≤ 58) (by omega)
  rw [a, b, c]
  cases Nat.blt y 200 <;> cases Nat.blt y 300 <;> cases Nat.blt y 400 <;> simp
