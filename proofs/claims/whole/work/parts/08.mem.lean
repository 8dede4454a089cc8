/-! fields, arrays, statics -/
section MEM
variable {l : Launch} {E : jE} {cc : ByteArray} {own : String} {nL : Nat} {rt : Option FieldType} {R : Room} {pc nx : Nat}
theorem jbeq {a b : Nat} (h : Nat.beq a b = true) : a = b := Nat.eq_of_beq_eq_true h
theorem jlt58 {k : Nat} (h : Nat.blt k 12 = true) : k < jNK := Nat.lt_of_lt_of_le (Nat.le_of_ble_eq_true h : k + 1 ≤ 12) (by decide)
theorem jHts {p : Program} {s : State} {m : MethodId} {args : Array Value} {meth : Method} {c : Code} (X : jX E p s m args meth c cc own nL) : ∀ w ∈ jgt, w.before args s = true := X.2.2.2.2.1
theorem ok_getI {idx kd j N : Nat} {C : String} {T : u_T} (hd : decode cc pc = .ok (.getfield idx, 3)) (hn : pc + 3 = nx) (hc : vwCl[kd]? = some (C, T, N)) (hin : ∀ w ∈ u_ws C T N, w ∈ jgt) (hk : Nat.blt kd 12 = true) (hN : jnf kd = N) (hj : j < N) (hf : jfld kd j = none) (hl : Cond.fieldLink own idx (T j).1 (T j).2.1 (T j).2.2.1 ∈ jgt) : jOk l E cc own nL rt R pc (o_getI nx kd j) := by
  subst hn
  intro p e s m args below meth c cells slots Q X hcl hsl ls st σ call k r h hC hk2 he H locs lsc hR hS hL hst hσ
  obtain ⟨hx, hb, hml, hown, hts, hW, hI⟩ := X
  unfold o_getI at h
  split at h
  · rename_i q i rest
    obtain ⟨g1, g2⟩ := List.forall_mem_cons.mp hst
    cases hq : Nat.beq q kd with
    | false => rw [hq, cond_false] at h; cases h
    | true =>
      rw [hq, cond_true] at h
      have hq := jbeq hq
      subst hq
      have hkN := jlt58 hk
      have he := jWL_at E σ hkN g1
      rw [jcell_obj hk] at he
      have h5 : Nat.beq q 75 = false := by
        cases h5 : Nat.beq q 75 with
        | false => rfl
        | true => rw [jbeq h5] at hk; cases hk
      rw [List.map_cons, jcv_ref h5]
      refine va_get hx hb hts hin hown hW.1 hR.1 (jpos q i) he hc j hj (hts _ hl) (fun _ h9 => h9) (v := .int (Int32.ofInt (σ q i j))) ?_ hd (hk2 _ _ _ _ h H locs lsc hR hS hL (List.forall_mem_cons.mpr ⟨hσ q i j, g2⟩) hσ)
      rw [jfs_at (by rw [hN]; exact hj), jfv, hf]
  · cases h
theorem ok_getIN {idx kd j N : Nat} {C host : String} {T : u_T} (hd : decode cc pc = .ok (.getfield idx, 3)) (hn : pc + 3 = nx) (hc : vwCl[kd]? = some (C, T, N)) (hin : ∀ w ∈ u_ws C T N, w ∈ jgt) (hk : Nat.blt kd 12 = true) (hN : jnf kd = N) (hj : j < N) (hf : jfld kd j = none) (hl : Cond.fieldLinkNest own idx (T j).1 (T j).2.1 (T j).2.2.1 host ∈ jnest) : jOk l E cc own nL rt R pc (o_getI nx kd j) := by
  subst hn
  intro p e s m args below meth c cells slots Q X hcl hsl ls st σ call k r h hC hk2 he H locs lsc hR hS hL hst hσ
  obtain ⟨hx, hb, hml, hown, hts, hW, hI⟩ := X
  unfold o_getI at h
  split at h
  · rename_i q i rest
    obtain ⟨g1, g2⟩ := List.forall_mem_cons.mp hst
    cases hq : Nat.beq q kd with
    | false => rw [hq, cond_false] at h; cases h
    | true =>
      rw [hq, cond_true] at h
      have hq := jbeq hq
      subst hq
      have hkN := jlt58 hk
      have he := jWL_at E σ hkN g1
      rw [jcell_obj hk] at he
      have h5 : Nat.beq q 75 = false := by
        cases h5 : Nat.beq q 75 with
        | false => rfl
        | true => rw [jbeq h5] at hk; cases hk
      rw [List.map_cons, jcv_ref h5]
      refine va_getN hx hb hts hin hown hW.1 hR.1 (jpos q i) he hc j hj (va_Nw.use rfl (hW.2.2.2.2.2.2.2.2.1 _ hl)) (fun _ h9 => h9) (v := .int (Int32.ofInt (σ q i j))) ?_ hd (hk2 _ _ _ _ h H locs lsc hR hS hL (List.forall_mem_cons.mpr ⟨hσ q i j, g2⟩) hσ)
      rw [jfs_at (by rw [hN]; exact hj), jfv, hf]
  · cases h
/-- what a table says of a pointer's target -/
def jTo (kd kt : Nat) (f : Nat → Nat) : Prop := ∀ i, i < jcnt kd → f i < jcnt kt
theorem ok_getP {idx kd j N kt : Nat} {f : Nat → Nat} {C : String} {T : u_T} (hd : decode cc pc = .ok (.getfield idx, 3)) (hn : pc + 3 = nx) (hc : vwCl[kd]? = some (C, T, N)) (hin : ∀ w ∈ u_ws C T N, w ∈ jgt) (hk : Nat.blt kd 12 = true) (hN : jnf kd = N) (hj : j < N) (hf : jfld kd j = some (kt, f)) (h75 : Nat.beq kt 75 = false) (hto : jTo kd kt f) (hl : Cond.fieldLink own idx (T j).1 (T j).2.1 (T j).2.2.1 ∈ jgt) : jOk l E cc own nL rt R pc (o_getP nx kd kt f) := by
  subst hn
  intro p e s m args below meth c cells slots Q X hcl hsl ls st σ call k r h hC hk2 he H locs lsc hR hS hL hst hσ
  obtain ⟨hx, hb, hml, hown, hts, hW, hI⟩ := X
  unfold o_getP at h
  split at h
  · rename_i q i rest
    obtain ⟨g1, g2⟩ := List.forall_mem_cons.mp hst
    cases hq : Nat.beq q kd with
    | false => rw [hq, cond_false] at h; cases h
    | true =>
      rw [hq, cond_true] at h
      have hq := jbeq hq
      subst hq
      have hkN := jlt58 hk
      have he := jWL_at E σ hkN g1
      rw [jcell_obj hk] at he
      have h5 : Nat.beq q 75 = false := by
        cases h5 : Nat.beq q 75 with
        | false => rfl
        | true => rw [jbeq h5] at hk; cases hk
      rw [List.map_cons, jcv_ref h5]
      have := hk2 _ _ _ _ h H locs lsc hR hS hL (List.forall_mem_cons.mpr ⟨hto i g1, g2⟩) hσ
      rw [List.map_cons, jcv_ref h75] at this
      refine va_get hx hb hts hin hown hW.1 hR.1 (jpos q i) he hc j hj (hts _ hl) (fun _ h9 => h9) (v := .ref (E.2.2.1 kt (f i))) ?_ hd this
      rw [jfs_at (by rw [hN]; exact hj), jfv, hf]
  · cases h
theorem ok_getPN {idx kd j N kt : Nat} {f : Nat → Nat} {C host : String} {T : u_T} (hd : decode cc pc = .ok (.getfield idx, 3)) (hn : pc + 3 = nx) (hc : vwCl[kd]? = some (C, T, N)) (hin : ∀ w ∈ u_ws C T N, w ∈ jgt) (hk : Nat.blt kd 12 = true) (hN : jnf kd = N) (hj : j < N) (hf : jfld kd j = some (kt, f)) (h75 : Nat.beq kt 75 = false) (hto : jTo kd kt f) (hl : Cond.fieldLinkNest own idx (T j).1 (T j).2.1 (T j).2.2.1 host ∈ jnest) : jOk l E cc own nL rt R pc (o_getP nx kd kt f) := by
  subst hn
  intro p e s m args below meth c cells slots Q X hcl hsl ls st σ call k r h hC hk2 he H locs lsc hR hS hL hst hσ
  obtain ⟨hx, hb, hml, hown, hts, hW, hI⟩ := X
  unfold o_getP at h
  split at h
  · rename_i q i rest
    obtain ⟨g1, g2⟩ := List.forall_mem_cons.mp hst
    cases hq : Nat.beq q kd with
    | false => rw [hq, cond_false] at h; cases h
    | true =>
      rw [hq, cond_true] at h
      have hq := jbeq hq
      subst hq
      have hkN := jlt58 hk
      have he := jWL_at E σ hkN g1
      rw [jcell_obj hk] at he
      have h5 : Nat.beq q 75 = false := by
        cases h5 : Nat.beq q 75 with
        | false => rfl
        | true => rw [jbeq h5] at hk; cases hk
      rw [List.map_cons, jcv_ref h5]
      have := hk2 _ _ _ _ h H locs lsc hR hS hL (List.forall_mem_cons.mpr ⟨hto i g1, g2⟩) hσ
      rw [List.map_cons, jcv_ref h75] at this
      refine va_getN hx hb hts hin hown hW.1 hR.1 (jpos q i) he hc j hj (va_Nw.use rfl (hW.2.2.2.2.2.2.2.2.1 _ hl)) (fun _ h9 => h9) (v := .ref (E.2.2.1 kt (f i))) ?_ hd this
      rw [jfs_at (by rw [hN]; exact hj), jfv, hf]
  · cases h
theorem jfs_len {E : jE} {g : Nat → Int} {k i : Nat} : ((List.range (jnf k)).map (jfv E g k i)).length = jnf k := by simp
theorem jput_rel {H1 : Heap} {σ : jM} {k i j : Nat} {v : Int} (hk : Nat.blt k 12 = true) (hi : i < jcnt k) (hf : jfld k j = none) (hSc : jScr E σ) (hP : va_P E.1 vwCl ((jWL E σ).set (jpos k i) (E.2.2.1 k i, .inr (k, ((List.range (jnf k)).map (jfv E (σ k i) k i)).set j (.int (Int32.ofInt v))))) H1) : jRel E (jup σ k i j v) H1 := by
  refine ⟨?_, jScr_up hSc (jlt58 hk)⟩
  rw [← jWL_set (σ := σ) (jlt58 hk) hi (show jcell E (jup σ k i j v k i) k i = .inr (k, ((List.range (jnf k)).map (jfv E (σ k i) k i)).set j (.int (Int32.ofInt v))) from ?_) (jup_oth σ k i j v)]
  · exact hP
  · rw [jcell_obj hk, jup_at, jfs_set hf]
theorem jarr_rel {H1 : Heap} {σ : jM} {k i j : Nat} {v : Int} {x : Int32} {jj : Nat} (hk : Nat.blt k 12 = false) (hN : k < jNK) (hr : (jref k).isNone = true) (hi : i < jcnt k) (hSc : jScr E σ) (hx : Int32.ofInt v = x) (hjj : j = jj) (hP : va_P E.1 vwCl ((jWL E σ).set (jpos k i) (E.2.2.1 k i, .inl (E.2.1 0, jiln k, .inl (upd (fun j => Int32.ofInt (σ k i j)) jj x)))) H1) : jRel E (jup σ k i j v) H1 := by
  subst hx
  subst hjj
  refine ⟨?_, jScr_up hSc hN⟩
  rw [← jWL_set (σ := σ) hN hi (show jcell E (jup σ k i j v k i) k i = .inl (E.2.1 0, jiln k, .inl (upd (fun j => Int32.ofInt (σ k i j)) j (Int32.ofInt v))) from ?_) (jup_oth σ k i j v)]
  · exact hP
  · rw [jcell_int hk hr, jup_at]
    congr 4
    funext q
    unfold upd
    show Int32.ofInt (if q = j then v else σ k i q) = if q = j then Int32.ofInt v else Int32.ofInt (σ k i q)
    by_cases hq : q = j
    · rw [if_pos hq, if_pos hq]
    · rw [if_neg hq, if_neg hq]
theorem ok_putI {idx kd j N : Nat} {C : String} {T : u_T} (ty0 : Nat → FieldType) (hty : ∀ k, k < N → parseFieldDescriptor (T k).2.2.1 = some (ty0 k)) (hnm : ∀ a, a < N → ∀ b, b < N → a ≠ b → (T a).2.1 ≠ (T b).2.1) (hd : decode cc pc = .ok (.putfield idx, 3)) (hn : pc + 3 = nx) (hc : vwCl[kd]? = some (C, T, N)) (hin : ∀ w ∈ u_ws C T N, w ∈ jgt) (hk : Nat.blt kd 12 = true) (hN : jnf kd = N) (hj : j < N) (hf : jfld kd j = none) (hfin : (T j).2.2.2 = false) (hp : parseFieldDescriptor (T j).2.2.1 = some .int) (hl : Cond.fieldLink own idx (T j).1 (T j).2.1 (T j).2.2.1 ∈ jgt) : jOk l E cc own nL rt R pc (o_putI nx kd j) := by
  subst hn
  intro p e s m args below meth c cells slots Q X hcl hsl ls st σ call k r h hC hk2 he H locs lsc hR hS hL hst hσ
  obtain ⟨hx, hb, hml, hown, hts, hW, hI⟩ := X
  unfold o_putI at h
  split at h
  · rename_i v q i rest
    obtain ⟨gv, g0⟩ := List.forall_mem_cons.mp hst
    obtain ⟨g1, g2⟩ := List.forall_mem_cons.mp g0
    have gv : j32 v := gv
    cases hq : Nat.beq q kd with
    | false => rw [hq, cond_false] at h; cases h
    | true =>
      rw [hq, cond_true] at h
      have hq := jbeq hq
      subst hq
      have hkN := jlt58 hk
      have he := jWL_at E σ hkN g1
      rw [jcell_obj hk] at he
      have h5 : Nat.beq q 75 = false := by
        cases h5 : Nat.beq q 75 with
        | false => rfl
        | true => rw [jbeq h5] at hk; cases hk
      rw [List.map_cons, List.map_cons, jcv_ref h5]
      refine va_put (v := .int (Int32.ofInt v)) hx hb hts hin ty0 hty hnm hown hW.1 hR.1 (jWL_D hI σ) hS (jpos q i) he hc j hj (hts _ hl) (fun _ h9 => h9) hfin hp rfl rfl (by rw [jfs_len, hN]; exact hj) hd (fun H1 locs1 hP1 hD1 hS1 => ?_)
      exact hk2 _ _ _ _ h H1 locs1 lsc (jput_rel hk g1 hf hR.2 hP1) hS1 hL g2 (jup_rng hσ q i j gv)
  · cases h
theorem ok_putIN {idx kd j N : Nat} {C host : String} {T : u_T} (ty0 : Nat → FieldType) (hty : ∀ k, k < N → parseFieldDescriptor (T k).2.2.1 = some (ty0 k)) (hnm : ∀ a, a < N → ∀ b, b < N → a ≠ b → (T a).2.1 ≠ (T b).2.1) (hd : decode cc pc = .ok (.putfield idx, 3)) (hn : pc + 3 = nx) (hc : vwCl[kd]? = some (C, T, N)) (hin : ∀ w ∈ u_ws C T N, w ∈ jgt) (hk : Nat.blt kd 12 = true) (hN : jnf kd = N) (hj : j < N) (hf : jfld kd j = none) (hfin : (T j).2.2.2 = false) (hp : parseFieldDescriptor (T j).2.2.1 = some .int) (hl : Cond.fieldLinkNest own idx (T j).1 (T j).2.1 (T j).2.2.1 host ∈ jnest) : jOk l E cc own nL rt R pc (o_putI nx kd j) := by
  subst hn
  intro p e s m args below meth c cells slots Q X hcl hsl ls st σ call k r h hC hk2 he H locs lsc hR hS hL hst hσ
  obtain ⟨hx, hb, hml, hown, hts, hW, hI⟩ := X
  unfold o_putI at h
  split at h
  · rename_i v q i rest
    obtain ⟨gv, g0⟩ := List.forall_mem_cons.mp hst
    obtain ⟨g1, g2⟩ := List.forall_mem_cons.mp g0
    have gv : j32 v := gv
    cases hq : Nat.beq q kd with
    | false => rw [hq, cond_false] at h; cases h
    | true =>
      rw [hq, cond_true] at h
      have hq := jbeq hq
      subst hq
      have hkN := jlt58 hk
      have he := jWL_at E σ hkN g1
      rw [jcell_obj hk] at he
      have h5 : Nat.beq q 75 = false := by
        cases h5 : Nat.beq q 75 with
        | false => rfl
        | true => rw [jbeq h5] at hk; cases hk
      rw [List.map_cons, List.map_cons, jcv_ref h5]
      refine va_putN (v := .int (Int32.ofInt v)) hx hb hts hin ty0 hty hnm hown hW.1 hR.1 (jWL_D hI σ) hS (jpos q i) he hc j hj (va_Nw.use rfl (hW.2.2.2.2.2.2.2.2.1 _ hl)) (fun _ h9 => h9) hfin hp rfl rfl (by rw [jfs_len, hN]; exact hj) hd (fun H1 locs1 hP1 hD1 hS1 => ?_)
      exact hk2 _ _ _ _ h H1 locs1 lsc (jput_rel hk g1 hf hR.2 hP1) hS1 hL g2 (jup_rng hσ q i j gv)
  · cases h
theorem ok_putZ {idx kd j N : Nat} {C : String} {T : u_T} (ty0 : Nat → FieldType) (hty : ∀ k, k < N → parseFieldDescriptor (T k).2.2.1 = some (ty0 k)) (hnm : ∀ a, a < N → ∀ b, b < N → a ≠ b → (T a).2.1 ≠ (T b).2.1) (hd : decode cc pc = .ok (.putfield idx, 3)) (hn : pc + 3 = nx) (hc : vwCl[kd]? = some (C, T, N)) (hin : ∀ w ∈ u_ws C T N, w ∈ jgt) (hk : Nat.blt kd 12 = true) (hN : jnf kd = N) (hj : j < N) (hf : jfld kd j = none) (hfin : (T j).2.2.2 = false) (hp : parseFieldDescriptor (T j).2.2.1 = some .boolean) (hl : Cond.fieldLink own idx (T j).1 (T j).2.1 (T j).2.2.1 ∈ jgt) : jOk l E cc own nL rt R pc (o_putZ nx kd j) := by
  subst hn
  intro p e s m args below meth c cells slots Q X hcl hsl ls st σ call k r h hC hk2 he H locs lsc hR hS hL hst hσ
  obtain ⟨hx, hb, hml, hown, hts, hW, hI⟩ := X
  unfold o_putZ at h
  split at h
  · rename_i v q i rest
    obtain ⟨gv, g0⟩ := List.forall_mem_cons.mp hst
    obtain ⟨g1, g2⟩ := List.forall_mem_cons.mp g0
    have gv : j32 v := gv
    cases hq : Nat.beq q kd with
    | false => rw [hq, cond_false] at h; cases h
    | true =>
      rw [hq, cond_true] at h
      have hq := jbeq hq
      subst hq
      have h01 : v = 0 ∨ v = 1 := by
        by_cases z : v = 0 ∨ v = 1
        · exact z
        · rw [if_neg z] at h; cases h
      rw [if_pos h01] at h
      have hn1 : narrow .boolean (.int (Int32.ofInt v)) = .int (Int32.ofInt v) := by
        rcases h01 with rfl | rfl <;> rfl
      have hf1 : fits .boolean (.int (Int32.ofInt v)) = true := by
        rcases h01 with rfl | rfl <;> rfl
      have hkN := jlt58 hk
      have he := jWL_at E σ hkN g1
      rw [jcell_obj hk] at he
      have h5 : Nat.beq q 75 = false := by
        cases h5 : Nat.beq q 75 with
        | false => rfl
        | true => rw [jbeq h5] at hk; cases hk
      rw [List.map_cons, List.map_cons, jcv_ref h5]
      refine va_put (v := .int (Int32.ofInt v)) hx hb hts hin ty0 hty hnm hown hW.1 hR.1 (jWL_D hI σ) hS (jpos q i) he hc j hj (hts _ hl) (fun _ h9 => h9) hfin hp hn1 hf1 (by rw [jfs_len, hN]; exact hj) hd (fun H1 locs1 hP1 hD1 hS1 => ?_)
      exact hk2 _ _ _ _ h H1 locs1 lsc (jput_rel hk g1 hf hR.2 hP1) hS1 hL g2 (jup_rng hσ q i j gv)
  · cases h
theorem ok_putZN {idx kd j N : Nat} {C host : String} {T : u_T} (ty0 : Nat → FieldType) (hty : ∀ k, k < N → parseFieldDescriptor (T k).2.2.1 = some (ty0 k)) (hnm : ∀ a, a < N → ∀ b, b < N → a ≠ b → (T a).2.1 ≠ (T b).2.1) (hd : decode cc pc = .ok (.putfield idx, 3)) (hn : pc + 3 = nx) (hc : vwCl[kd]? = some (C, T, N)) (hin : ∀ w ∈ u_ws C T N, w ∈ jgt) (hk : Nat.blt kd 12 = true) (hN : jnf kd = N) (hj : j < N) (hf : jfld kd j = none) (hfin : (T j).2.2.2 = false) (hp : parseFieldDescriptor (T j).2.2.1 = some .boolean) (hl : Cond.fieldLinkNest own idx (T j).1 (T j).2.1 (T j).2.2.1 host ∈ jnest) : jOk l E cc own nL rt R pc (o_putZ nx kd j) := by
  subst hn
  intro p e s m args below meth c cells slots Q X hcl hsl ls st σ call k r h hC hk2 he H locs lsc hR hS hL hst hσ
  obtain ⟨hx, hb, hml, hown, hts, hW, hI⟩ := X
  unfold o_putZ at h
  split at h
  · rename_i v q i rest
    obtain ⟨gv, g0⟩ := List.forall_mem_cons.mp hst
    obtain ⟨g1, g2⟩ := List.forall_mem_cons.mp g0
    have gv : j32 v := gv
    cases hq : Nat.beq q kd with
    | false => rw [hq, cond_false] at h; cases h
    | true =>
      rw [hq, cond_true] at h
      have hq := jbeq hq
      subst hq
      have h01 : v = 0 ∨ v = 1 := by
        by_cases z : v = 0 ∨ v = 1
        · exact z
        · rw [if_neg z] at h; cases h
      rw [if_pos h01] at h
      have hn1 : narrow .boolean (.int (Int32.ofInt v)) = .int (Int32.ofInt v) := by
        rcases h01 with rfl | rfl <;> rfl
      have hf1 : fits .boolean (.int (Int32.ofInt v)) = true := by
        rcases h01 with rfl | rfl <;> rfl
      have hkN := jlt58 hk
      have he := jWL_at E σ hkN g1
      rw [jcell_obj hk] at he
      have h5 : Nat.beq q 75 = false := by
        cases h5 : Nat.beq q 75 with
        | false => rfl
        | true => rw [jbeq h5] at hk; cases hk
      rw [List.map_cons, List.map_cons, jcv_ref h5]
      refine va_putN (v := .int (Int32.ofInt v)) hx hb hts hin ty0 hty hnm hown hW.1 hR.1 (jWL_D hI σ) hS (jpos q i) he hc j hj (va_Nw.use rfl (hW.2.2.2.2.2.2.2.2.1 _ hl)) (fun _ h9 => h9) hfin hp hn1 hf1 (by rw [jfs_len, hN]; exact hj) hd (fun H1 locs1 hP1 hD1 hS1 => ?_)
      exact hk2 _ _ _ _ h H1 locs1 lsc (jput_rel hk g1 hf hR.2 hP1) hS1 hL g2 (jup_rng hσ q i j gv)
  · cases h
theorem ok_ald {kd ln : Nat} {n : Int} (hd : decode cc pc = .ok (.iaload, 1)) (hn : pc + 1 = nx) (hk : Nat.blt kd 12 = false) (hN : kd < jNK) (hr : (jref kd).isNone = true) (hl : jiln kd = ln) (hln : n = (ln : Int)) : jOk l E cc own nL rt R pc (o_ald nx kd n) := by
  subst hn
  subst hln
  intro p e s m args below meth c cells slots Q X hcl hsl ls st σ call k r h hC hk2 he H locs lsc hR hS hL hst hσ
  obtain ⟨hx, hb, hml, hown, hts, hW, hI⟩ := X
  unfold o_ald at h
  split at h
  · rename_i j q i rest
    obtain ⟨gj, g0⟩ := List.forall_mem_cons.mp hst
    obtain ⟨g1, g2⟩ := List.forall_mem_cons.mp g0
    have gj : j32 j := gj
    cases hq : Nat.beq q kd with
    | false => rw [hq, cond_false] at h; cases h
    | true =>
      rw [hq, cond_true] at h
      have hq := jbeq hq
      subst hq
      by_cases h2 : 0 ≤ j ∧ j < (ln : Int)
      · rw [if_pos h2] at h
        have he := jWL_at E σ hN g1
        rw [jcell_int hk hr] at he
        have h5 : Nat.beq q 75 = false := by
          cases h5 : Nat.beq q 75 with
          | false => rfl
          | true => rw [jbeq h5] at hN; exact absurd hN (by decide)
        rw [List.map_cons, List.map_cons, jcv_ref h5]
        have := hk2 _ _ _ _ h H locs lsc hR hS hL (List.forall_mem_cons.mpr ⟨hσ q i j.toNat, g2⟩) hσ
        refine va_iald hx hb hW.1 hR.1 (jpos q i) 0 he rfl (jin gj (by rw [hl]; exact h2)) hd ?_
        rw [jof_nat gj]
        exact this
      · rw [if_neg h2] at h; cases h
  · cases h
theorem ok_ast {kd ln : Nat} {n : Int} (hd : decode cc pc = .ok (.iastore, 1)) (hn : pc + 1 = nx) (hk : Nat.blt kd 12 = false) (hN : kd < jNK) (hr : (jref kd).isNone = true) (hl : jiln kd = ln) (hln : n = (ln : Int)) : jOk l E cc own nL rt R pc (o_ast nx kd n) := by
  subst hn
  subst hln
  intro p e s m args below meth c cells slots Q X hcl hsl ls st σ call k r h hC hk2 he H locs lsc hR hS hL hst hσ
  obtain ⟨hx, hb, hml, hown, hts, hW, hI⟩ := X
  unfold o_ast at h
  split at h
  · rename_i v j q i rest
    obtain ⟨gv, g00⟩ := List.forall_mem_cons.mp hst
    obtain ⟨gj, g0⟩ := List.forall_mem_cons.mp g00
    obtain ⟨g1, g2⟩ := List.forall_mem_cons.mp g0
    have gv : j32 v := gv
    have gj : j32 j := gj
    cases hq : Nat.beq q kd with
    | false => rw [hq, cond_false] at h; cases h
    | true =>
      rw [hq, cond_true] at h
      have hq := jbeq hq
      subst hq
      by_cases h2 : 0 ≤ j ∧ j < (ln : Int)
      · rw [if_pos h2] at h
        have he := jWL_at E σ hN g1
        rw [jcell_int hk hr] at he
        have h5 : Nat.beq q 75 = false := by
          cases h5 : Nat.beq q 75 with
          | false => rfl
          | true => rw [jbeq h5] at hN; exact absurd hN (by decide)
        rw [List.map_cons, List.map_cons, List.map_cons, jcv_ref h5]
        refine va_iast hx hb hW.1 hR.1 (jWL_D hI σ) hS (jpos q i) 0 he rfl (x := Int32.ofInt v) (jin gj (by rw [hl]; exact h2)) hd (fun H1 locs1 hP1 hD1 hS1 => ?_)
        exact hk2 _ _ _ _ h H1 locs1 lsc (jarr_rel hk hN hr g1 hR.2 rfl (jof_nat gj).symm hP1) hS1 hL g2 (jup_rng hσ q i j.toNat gv)
      · rw [if_neg h2] at h; cases h
  · cases h
theorem ok_aaP {kd kt t ln : Nat} {n : Int} {f : Nat → Nat → Int → Nat} {ty : FieldType} (hd : decode cc pc = .ok (.aaload, 1)) (hn : pc + 1 = nx) (hk : Nat.blt kd 12 = false) (hN : kd < jNK) (hr : jref kd = some (t, ln, kt, f)) (hln : n = (ln : Int)) (h75 : Nat.beq kt 75 = false) (hto : ∀ i, i < jcnt kd → ∀ j, j < ln → ∀ v, f i j v < jcnt kt) (hty : ∀ E : jE, (jtys E)[t]? = some (E.2.1 t, ty)) (href : ty.isReference = true) : jOk l E cc own nL rt R pc (o_aaP nx kd n kt f) := by
  subst hn
  subst hln
  intro p e s m args below meth c cells slots Q X hcl hsl ls st σ call k r h hC hk2 he H locs lsc hR hS hL hst hσ
  obtain ⟨hx, hb, hml, hown, hts, hW, hI⟩ := X
  unfold o_aaP at h
  split at h
  · rename_i j q i rest
    obtain ⟨gj, g0⟩ := List.forall_mem_cons.mp hst
    obtain ⟨g1, g2⟩ := List.forall_mem_cons.mp g0
    have gj : j32 j := gj
    cases hq : Nat.beq q kd with
    | false => rw [hq, cond_false] at h; cases h
    | true =>
      rw [hq, cond_true] at h
      have hq := jbeq hq
      subst hq
      by_cases h2 : 0 ≤ j ∧ j < (ln : Int)
      · rw [if_pos h2] at h
        have he := jWL_at E σ hN g1
        rw [jcell_ref hk hr] at he
        have h5 : Nat.beq q 75 = false := by
          cases h5 : Nat.beq q 75 with
          | false => rfl
          | true => rw [jbeq h5] at hN; exact absurd hN (by decide)
        rw [List.map_cons, List.map_cons, jcv_ref h5]
        have := hk2 _ _ _ _ h H locs lsc hR hS hL (List.forall_mem_cons.mpr ⟨hto i g1 j.toNat (by omega) _, g2⟩) hσ
        rw [List.map_cons, jcv_ref h75] at this
        have hv := jin gj h2
        have hlt : j.toNat < ln := by omega
        refine W.aald (v := .ref (E.2.2.1 kt (f i j.toNat (σ q i j.toNat)))) (ty := ty) hx hb (hR.1 _ _ he) ((hW.1.2 t _ (hty E)).1 ln (fun j => va_rf (some (E.2.2.1 kt (f i j (σ q i j)))))) href (fun q => by cases q) (by show ¬ (_ < 0 ∨ (arrV _ _ _).slots.size ≤ _); rw [arrV_size]; exact hv) (by rw [jof_nat gj]; show (arrV _ _ _).slots[_]? = _; rw [arrV_read _ _ hlt]; rfl) rfl rfl hd this
      · rw [if_neg h2] at h; cases h
  · cases h
theorem jassign {s : State} (c : ClassId) : s.vm.assignable c c = true := by
  show s.vm.assignableAux (255 + 1) c c = true
  rw [Vm.assignableAux, beq_self_eq_true, Bool.true_or]
theorem ok_aaS (hd : decode cc pc = .ok (.aastore, 1)) (hn : pc + 1 = nx) : jOk l E cc own nL rt R pc (o_aaS nx) := by
  subst hn
  intro p e s m args below meth c cells slots Q X hcl hsl ls st σ call k r h hC hk2 he H locs lsc hR hS hL hst hσ
  obtain ⟨hx, hb, hml, hown, hts, hW, hI⟩ := X
  unfold o_aaS at h
  split at h
  · rename_i q2 t j q i rest
    obtain ⟨gt, g00⟩ := List.forall_mem_cons.mp hst
    obtain ⟨gj, g0⟩ := List.forall_mem_cons.mp g00
    obtain ⟨g1, g2⟩ := List.forall_mem_cons.mp g0
    have gj : j32 j := gj
    cases hq : (Nat.beq q 24 && Nat.beq q2 25) with
    | false => rw [hq, cond_false] at h; cases h
    | true =>
      rw [hq, cond_true] at h
      obtain ⟨hqa, hqb⟩ := Bool.and_eq_true_iff.mp hq
      have hqa := jbeq hqa
      have hqb := jbeq hqb
      subst hqa
      subst hqb
      have gt : t < 21 := gt
      have g1 : i < jcnt 24 := g1
      by_cases h2 : 0 ≤ j ∧ j < 21
      · rw [if_pos h2] at h
        have he := jWL_at E σ (k := 24) (by decide) g1
        rw [jcell_ref (k := 24) rfl rfl] at he
        have he2 := jWL_at E σ (k := 25) (i := t) (by decide) gt
        rw [jcell_int (k := 25) rfl rfl] at he2
        rw [List.map_cons, List.map_cons, List.map_cons, jcv_ref (show Nat.beq 24 75 = false from rfl), jcv_ref (show Nat.beq 25 75 = false from rfl)]
        have hv := jin (n := 21) gj h2
        obtain ⟨kA, hkA, hkind⟩ := hW.2.2.2.2.2.2.2.2.2.2
        have hA0 := (hW.1.2 0 _ rfl).1
        obtain ⟨-, kI, hkI, -⟩ := hA0 0 (fun _ => .null)
        have hkI : s.vm.classes[E.2.1 0]? = some kI := hkI
        refine W.aast hx hb (hR.1 _ _ he) (fun q h => by cases h) (fun h => by cases h) hkA hkind rfl hkI ⟨fun z => hv (Or.inl z), by show _ < (arrV _ _ _).slots.size; rw [arrV_size]; exact Nat.not_le.mp fun z => hv (Or.inr z)⟩ (hR.1 _ _ he2) (fun q h => by cases h) hkI (jassign _) rfl rfl hd fun H1 ee z oq => ?_
        have hlt : j.toNat < 21 := by omega
        refine hk2 _ _ _ _ h H1 _ lsc ⟨?_, jScr_up hR.2 (by decide)⟩ (hS.put z oq ⟨24, i, by decide, g1, rfl⟩) hL g2 (jup_rng hσ 24 i j.toNat ⟨by omega, by omega⟩)
        have hcell : jcell E (jup σ 24 i j.toNat (t : Int) 24 i) 24 i = .inl (E.2.1 3, 21, .inr (.inr (.inr (.inr (va_up (fun j' => some (E.2.2.1 25 ((σ 24 i j').toNat % 21))) j.toNat (some (E.2.2.1 25 t))))))) := by
          rw [jcell_ref (k := 24) rfl rfl, jup_at]
          refine congrArg (fun z => (.inl (E.2.1 3, 21, .inr (.inr (.inr (.inr z)))) : va_E)) (funext fun j' => ?_)
          show some (E.2.2.1 25 ((if j' = j.toNat then (t : Int) else σ 24 i j').toNat % 21)) = if j' = j.toNat then some (E.2.2.1 25 t) else some (E.2.2.1 25 ((σ 24 i j').toNat % 21))
          by_cases hj : j' = j.toNat
          · rw [if_pos hj, if_pos hj, Int.toNat_natCast, Nat.mod_eq_of_lt gt]
          · rw [if_neg hj, if_neg hj]
        rw [← jWL_set (σ := σ) (k := 24) (i := i) (by decide) g1 hcell (jup_oth σ 24 i j.toNat (t : Int))]
        refine hR.1.set (jWL_D hI σ) he ?_ oq
        show H1[_]? = some (vp_cell _ _)
        rw [ee]
        rw [vp_cell_q, vp_cell_q, arrV_store, jof_nat gj]
        refine congrArg (fun z => some (arrV (E.2.1 3) 21 z)) (funext fun q => ?_)
        by_cases hq : q = j.toNat
        · subst hq
          simp [updV, va_up, va_rf]
        · simp [updV, va_up, hq]
      · rw [if_neg h2] at h; cases h
  · cases h
theorem ok_alen {kd ln : Nat} {n : Int} (hd : decode cc pc = .ok (.arraylength, 1)) (hn : pc + 1 = nx) (hk : Nat.blt kd 12 = false) (hN : kd < jNK) (hr : (jref kd).isNone = true) (hl : jiln kd = ln) (hln : n = (ln : Int)) (h32 : j32 n) : jOk l E cc own nL rt R pc (o_alen nx kd n) := by
  subst hn
  subst hln
  intro p e s m args below meth c cells slots Q X hcl hsl ls st σ call k r h hC hk2 he H locs lsc hR hS hL hst hσ
  obtain ⟨hx, hb, hml, hown, hts, hW, hI⟩ := X
  unfold o_alen at h
  split at h
  · rename_i q i rest
    obtain ⟨g1, g2⟩ := List.forall_mem_cons.mp hst
    cases hq : Nat.beq q kd with
    | false => rw [hq, cond_false] at h; cases h
    | true =>
      rw [hq, cond_true] at h
      have hq := jbeq hq
      subst hq
      have he := jWL_at E σ hN g1
      rw [jcell_int hk hr] at he
      have h5 : Nat.beq q 75 = false := by
        cases h5 : Nat.beq q 75 with
        | false => rfl
        | true => rw [jbeq h5] at hN; exact absurd hN (by decide)
      rw [List.map_cons, jcv_ref h5]
      have := hk2 _ _ _ _ h H locs lsc hR hS hL (List.forall_mem_cons.mpr ⟨h32, g2⟩) hσ
      exact va_alen hx hb hW.1 hR.1 (jpos q i) 0 he (ty := .int) rfl (v := Int32.ofInt ln) (by show Int32.ofNat (jiln q) = _; rw [hl, Int32.ofInt_eq_ofNat]) hd this
  · cases h
theorem ok_stYN {idx : Nat} {host : String} (hd : decode cc pc = .ok (.getstatic idx, 3)) (hn : pc + 3 = nx) (hl : Cond.fieldLinkNest own idx "KillingForms" "Y_POWERS" "[I" host ∈ jnest) : jOk l E cc own nL rt R pc (o_stat nx (.inr (70, 0))) := by
  subst hn
  intro p e s m args below meth c cells slots Q X hcl hsl ls st σ call k r h hC hk2 he H locs lsc hR hS hL hst hσ
  obtain ⟨hx, hb, hml, hown, hts, hW, hI⟩ := X
  exact va_getsN hx hb hW.2.2.1.1 hS hown (va_Nw.use rfl (hW.2.2.2.2.2.2.2.2.1 _ hl)) (fun _ h9 => h9) hd (hk2 _ _ _ _ h H locs lsc hR hS hL (List.forall_mem_cons.mpr ⟨(by decide : 0 < jcnt 70), hst⟩) hσ)
theorem ok_stY {idx : Nat} (hd : decode cc pc = .ok (.getstatic idx, 3)) (hn : pc + 3 = nx) (hl : Cond.fieldLink own idx "KillingForms" "Y_POWERS" "[I" ∈ jgt) : jOk l E cc own nL rt R pc (o_stat nx (.inr (70, 0))) := by
  subst hn
  intro p e s m args below meth c cells slots Q X hcl hsl ls st σ call k r h hC hk2 he H locs lsc hR hS hL hst hσ
  obtain ⟨hx, hb, hml, hown, hts, hW, hI⟩ := X
  exact va_gets hx hb hW.2.2.1.1 hS hown (hts _ hl) (fun _ h9 => h9) hd (hk2 _ _ _ _ h H locs lsc hR hS hL (List.forall_mem_cons.mpr ⟨(by decide : 0 < jcnt 70), hst⟩) hσ)
theorem ok_stZN {idx : Nat} {host : String} (hd : decode cc pc = .ok (.getstatic idx, 3)) (hn : pc + 3 = nx) (hl : Cond.fieldLinkNest own idx "KillingForms" "Z_POWERS" "[I" host ∈ jnest) : jOk l E cc own nL rt R pc (o_stat nx (.inr (71, 0))) := by
  subst hn
  intro p e s m args below meth c cells slots Q X hcl hsl ls st σ call k r h hC hk2 he H locs lsc hR hS hL hst hσ
  obtain ⟨hx, hb, hml, hown, hts, hW, hI⟩ := X
  exact va_getsN hx hb hW.2.2.2.1.1 hS hown (va_Nw.use rfl (hW.2.2.2.2.2.2.2.2.1 _ hl)) (fun _ h9 => h9) hd (hk2 _ _ _ _ h H locs lsc hR hS hL (List.forall_mem_cons.mpr ⟨(by decide : 0 < jcnt 71), hst⟩) hσ)
theorem ok_stZ {idx : Nat} (hd : decode cc pc = .ok (.getstatic idx, 3)) (hn : pc + 3 = nx) (hl : Cond.fieldLink own idx "KillingForms" "Z_POWERS" "[I" ∈ jgt) : jOk l E cc own nL rt R pc (o_stat nx (.inr (71, 0))) := by
  subst hn
  intro p e s m args below meth c cells slots Q X hcl hsl ls st σ call k r h hC hk2 he H locs lsc hR hS hL hst hσ
  obtain ⟨hx, hb, hml, hown, hts, hW, hI⟩ := X
  exact va_gets hx hb hW.2.2.2.1.1 hS hown (hts _ hl) (fun _ h9 => h9) hd (hk2 _ _ _ _ h H locs lsc hR hS hL (List.forall_mem_cons.mpr ⟨(by decide : 0 < jcnt 71), hst⟩) hσ)
theorem ok_stC {idx : Nat} (hd : decode cc pc = .ok (.getstatic idx, 3)) (hn : pc + 3 = nx) (hl : Cond.fieldLink own idx "java/lang/String" "COMPACT_STRINGS" "Z" ∈ jgt) : jOk l E cc own nL rt R pc (o_stat nx (.inl 1)) := by
  subst hn
  intro p e s m args below meth c cells slots Q X hcl hsl ls st σ call k r h hC hk2 he H locs lsc hR hS hL hst hσ
  obtain ⟨hx, hb, hml, hown, hts, hW, hI⟩ := X
  exact va_gets hx hb hW.2.2.2.2.1 hS hown (hts _ hl) (fun _ h9 => h9) hd (hk2 _ _ _ _ h H locs lsc hR hS hL (List.forall_mem_cons.mpr ⟨(⟨by decide, by decide⟩ : j32 1), hst⟩) hσ)
theorem ok_stF {idx : Nat} (hd : decode cc pc = .ok (.getstatic idx, 3)) (hn : pc + 3 = nx) (hl : Cond.fieldLink own idx "jdk/internal/util/Preconditions" "SIOOBE_FORMATTER" "Ljava/util/function/BiFunction;" ∈ jgt) : jOk l E cc own nL rt R pc (o_stat nx (.inr (75, 0))) := by
  subst hn
  intro p e s m args below meth c cells slots Q X hcl hsl ls st σ call k r h hC hk2 he H locs lsc hR hS hL hst hσ
  obtain ⟨hx, hb, hml, hown, hts, hW, hI⟩ := X
  exact va_gets hx hb hW.2.2.2.2.2.1 hS hown (hts _ hl) (fun _ h9 => h9) hd (hk2 _ _ _ _ h H locs lsc hR hS hL (List.forall_mem_cons.mpr ⟨(by decide : 0 < jcnt 75), hst⟩) hσ)
theorem j_ldcwS {p : Program} {e : Env} {s : State} {m : MethodId} {args : Array Value} {below : List Frame} {meth : Method} {c : Code} {cells slots : Nat} {locs : List Loc} {T : State} (X : Stand p l e R s m args below meth c T locs cells slots) (hexec : p.tables.exec = Jvm.exec) {text : String} {index : Nat} {a : Addr} (hown : s.vm.findClass own = some m.cls)
    (hconst : (Cond.stringRef own index text).before #[] s = true) (hev : (Term.string own index).eval #[] s none [] s = some (.ref a)) {g : JFrame} (hg : g.method = m) (hdg : decode c.code g.pc = .ok (.ldc_w index, 3)) :
    ∀ target, Steps p.tables e below (T.setTop { g with pc := g.pc + 3, stack := .ref a :: g.stack }) target → Steps p.tables e below (T.setTop g) target := by
  obtain ⟨k, cf, i, a', hk, hcf, hcp, -, hr, hev'⟩ := Cond.stringRef_spec hown hconst
  cases hev.symm.trans hev'
  obtain ⟨k', hk', he⟩ := X.warmed.alike.2.2 _ _ hk
  have hr' : k'.resolved[index]? = some (some (.string a)) := by
    rcases X.warmed.entry hk hk' index with h | ⟨h, -⟩
    · rw [h]; exact hr
    · rw [hr] at h; cases h
  intro target hrest
  subst hg
  jvm_step X.here [hexec, hdg, ldc_w.wp_string (e := e) (s := T) (f := g) X.here.top hk' (by rw [he]; exact hcf) hcp hr']
  exact hrest
theorem ok_ldcwS {idx i : Nat} {tx : String} (hd : decode cc pc = .ok (.ldc_w idx, 3)) (hn : pc + 3 = nx) (hl : (own, idx, tx, i) ∈ jsref) (hi : i < 4) : jOk l E cc own nL rt R pc (o_stat nx (.inr (73, i))) := by
  subst hn
  intro p e s m args below meth c cells slots Q X hcl hsl ls st σ call k r h hC hk2 he H locs lsc hR hS hL hst hσ
  obtain ⟨hx, hb, hml, hown, hts, hW, hI⟩ := X
  intro T hT X
  obtain ⟨t, a, b⟩ := hk2 _ _ _ _ h H locs lsc hR hS hL (List.forall_mem_cons.mpr ⟨(hi : i < jcnt 73), hst⟩) hσ T hT X
  have hZ := hW.2.2.2.2.2.2.2.1 _ hl
  exact ⟨t, j_ldcwS X hx hown (text := tx) (a := E.2.2.1 73 i) hZ.1 hZ.2 (g := F0 m pc lsc (st.map (jcv E))) rfl (by rw [hb]; exact hd) t a, b⟩
theorem ok_ldcS {idx i : Nat} {tx : String} (hd : decode cc pc = .ok (.ldc idx, 2)) (hn : pc + 2 = nx) (hl : (own, idx, tx, i) ∈ jsref) (hi : i < 4) : jOk l E cc own nL rt R pc (o_stat nx (.inr (73, i))) := by
  subst hn
  intro p e s m args below meth c cells slots Q X hcl hsl ls st σ call k r h hC hk2 he H locs lsc hR hS hL hst hσ
  obtain ⟨hx, hb, hml, hown, hts, hW, hI⟩ := X
  exact va_ldcS hx hb hown (hW.2.2.2.2.2.2.2.1 _ hl) hd (hk2 _ _ _ _ h H locs lsc hR hS hL (List.forall_mem_cons.mpr ⟨(hi : i < jcnt 73), hst⟩) hσ)
theorem jTat {σ : jM} {A : Nat → Prop} {s : State} {H : Heap} {locs : List Loc} {ty : FieldType} {t N : Nat} {f : Nat → Value} (h : va_T ty t N f A s s.heap) (hS : va_S A s.heap H locs) : ∃ cell : Cell, H[t]? = some cell ∧ s.isArrayOf cell ty ∧ cell.vm ≠ .unknown ∧ N ≤ cell.slots.size ∧ cell.slots.size.toInt32 = Int32.ofNat N ∧ ∀ j : Nat, j < N → cell.slots[j]? = some (f j) := by
  obtain ⟨cell, h1, h2, h3, h4, h5, h6, h7⟩ := h
  exact ⟨cell, by rw [hS.2.1 t (Array.getElem?_eq_some_iff.mp h1).1 h7]; exact h1, h2, h3, h4, h5, h6⟩
theorem ok_aldY (hd : decode cc pc = .ok (.iaload, 1)) (hn : pc + 1 = nx) : jOk l E cc own nL rt R pc (o_aldC nx 70 (fun _ => 21) (fun _ j => jyp j)) := by
  subst hn
  intro p e s m args below meth c cells slots Q X hcl hsl ls st σ call k r h hC hk2 he H locs lsc hR hS hL hst hσ
  obtain ⟨hx, hb, hml, hown, hts, hW, hI⟩ := X
  unfold o_aldC at h
  split at h
  · rename_i j q i rest
    obtain ⟨gj, g0⟩ := List.forall_mem_cons.mp hst
    obtain ⟨g1, g2⟩ := List.forall_mem_cons.mp g0
    have gj : j32 j := gj
    cases hq : Nat.beq q 70 with
    | false => rw [hq, cond_false] at h; cases h
    | true =>
      rw [hq, cond_true] at h
      have hq := jbeq hq
      subst hq
      have hi : i = 0 := Nat.lt_one_iff.mp (show i < jcnt 70 from g1)
      subst hi
      by_cases h2 : 0 ≤ j ∧ j < 21
      · rw [if_pos h2] at h
        obtain ⟨cell, k1, k2, k3, k4, k5, k6⟩ := jTat (σ := σ) hW.2.2.1.2 hS
        have hlt : j.toNat < 21 := by omega
        have hr : j32 (jyp j.toNat) := by
          have h0 : ∀ q : Nat, q < 21 → (-2147483648 ≤ jyp q ∧ jyp q < 2147483648) := by decide +kernel
          exact h0 _ hlt
        have := hk2 _ _ _ _ h H locs lsc hR hS hL (List.forall_mem_cons.mpr ⟨hr, g2⟩) hσ
        rw [List.map_cons, List.map_cons, jcv_ref (show Nat.beq 70 75 = false from rfl)]
        refine W.iald (v := .int (Int32.ofInt (jyp j.toNat))) hx hb k1 k2 k3 ?_ (by rw [jof_nat gj]; exact k6 _ hlt) rfl rfl hd this
        have hv := jin (n := 21) gj h2
        intro z
        rcases z with z | z
        · exact hv (Or.inl z)
        · exact hv (Or.inr (Nat.le_trans k4 z))
      · rw [if_neg h2] at h; cases h
  · cases h
theorem ok_aldZ (hd : decode cc pc = .ok (.iaload, 1)) (hn : pc + 1 = nx) : jOk l E cc own nL rt R pc (o_aldC nx 71 (fun _ => 21) (fun _ j => jzp j)) := by
  subst hn
  intro p e s m args below meth c cells slots Q X hcl hsl ls st σ call k r h hC hk2 he H locs lsc hR hS hL hst hσ
  obtain ⟨hx, hb, hml, hown, hts, hW, hI⟩ := X
  unfold o_aldC at h
  split at h
  · rename_i j q i rest
    obtain ⟨gj, g0⟩ := List.forall_mem_cons.mp hst
    obtain ⟨g1, g2⟩ := List.forall_mem_cons.mp g0
    have gj : j32 j := gj
    cases hq : Nat.beq q 71 with
    | false => rw [hq, cond_false] at h; cases h
    | true =>
      rw [hq, cond_true] at h
      have hq := jbeq hq
      subst hq
      have hi : i = 0 := Nat.lt_one_iff.mp (show i < jcnt 71 from g1)
      subst hi
      by_cases h2 : 0 ≤ j ∧ j < 21
      · rw [if_pos h2] at h
        obtain ⟨cell, k1, k2, k3, k4, k5, k6⟩ := jTat (σ := σ) hW.2.2.2.1.2 hS
        have hlt : j.toNat < 21 := by omega
        have hr : j32 (jzp j.toNat) := by
          have h0 : ∀ q : Nat, q < 21 → (-2147483648 ≤ jzp q ∧ jzp q < 2147483648) := by decide +kernel
          exact h0 _ hlt
        have := hk2 _ _ _ _ h H locs lsc hR hS hL (List.forall_mem_cons.mpr ⟨hr, g2⟩) hσ
        rw [List.map_cons, List.map_cons, jcv_ref (show Nat.beq 71 75 = false from rfl)]
        refine W.iald (v := .int (Int32.ofInt (jzp j.toNat))) hx hb k1 k2 k3 ?_ (by rw [jof_nat gj]; exact k6 _ hlt) rfl rfl hd this
        have hv := jin (n := 21) gj h2
        intro z
        rcases z with z | z
        · exact hv (Or.inl z)
        · exact hv (Or.inr (Nat.le_trans k4 z))
      · rw [if_neg h2] at h; cases h
  · cases h
theorem ok_aldS (hd : decode cc pc = .ok (.iaload, 1)) (hn : pc + 1 = nx) : jOk l E cc own nL rt R pc (o_aldS nx) := by
  subst hn
  intro p e s m args below meth c cells slots Q X hcl hsl ls st σ call k r h hC hk2 he H locs lsc hR hS hL hst hσ
  obtain ⟨hx, hb, hml, hown, hts, hW, hI⟩ := X
  unfold o_aldS at h
  split at h
  · rename_i j q i rest
    obtain ⟨gj, g0⟩ := List.forall_mem_cons.mp hst
    obtain ⟨g1, g2⟩ := List.forall_mem_cons.mp g0
    have gj : j32 j := gj
    cases hq : Nat.beq q 72 with
    | false => rw [hq, cond_false] at h; cases h
    | true =>
      rw [hq, cond_true] at h
      have hq := jbeq hq
      subst hq
      have hi : i = 0 := Nat.lt_one_iff.mp (show i < jcnt 72 from g1)
      subst hi
      by_cases h2 : 0 ≤ j ∧ j < σ 72 1 0
      · rw [if_pos h2] at h
        rw [hR.2.1] at h2
        have hlt : j.toNat < E.2.2.2.2.1 := by omega
        have := hk2 _ _ _ _ h H locs lsc hR hS hL (List.forall_mem_cons.mpr ⟨hσ 72 0 j.toNat, g2⟩) hσ
        rw [List.map_cons, List.map_cons, jcv_ref (show Nat.beq 72 75 = false from rfl)]
        obtain ⟨hX, hA, hL5⟩ := hW.2.2.2.2.2.2.2.2.2.1
        have hbl : E.2.2.1 72 0 < s.heap.size := by
          obtain ⟨scr, h1, -⟩ := hX
          exact (Array.getElem?_eq_some_iff.mp h1).1
        refine va_sld hx hb hX hbl hA hS (jin gj h2) hd ?_
        rw [jof_nat gj, ← hR.2.2 _ hlt]
        exact this
      · rw [if_neg h2] at h; cases h
  · cases h
theorem ok_alenS (hd : decode cc pc = .ok (.arraylength, 1)) (hn : pc + 1 = nx) : jOk l E cc own nL rt R pc (o_alenS nx) := by
  subst hn
  intro p e s m args below meth c cells slots Q X hcl hsl ls st σ call k r h hC hk2 he H locs lsc hR hS hL hst hσ
  obtain ⟨hx, hb, hml, hown, hts, hW, hI⟩ := X
  unfold o_alenS at h
  split at h
  · rename_i q i rest
    obtain ⟨g1, g2⟩ := List.forall_mem_cons.mp hst
    cases hq : Nat.beq q 72 with
    | false => rw [hq, cond_false] at h; cases h
    | true =>
      rw [hq, cond_true] at h
      have hq := jbeq hq
      subst hq
      have hi : i = 0 := Nat.lt_one_iff.mp (show i < jcnt 72 from g1)
      subst hi
      have := hk2 _ _ _ _ h H locs lsc hR hS hL (List.forall_mem_cons.mpr ⟨hσ 72 1 0, g2⟩) hσ
      rw [List.map_cons, jcv_ref (show Nat.beq 72 75 = false from rfl)]
      obtain ⟨hX, hA, hL5⟩ := hW.2.2.2.2.2.2.2.2.2.1
      have hbl : E.2.2.1 72 0 < s.heap.size := by
        obtain ⟨scr, h1, -⟩ := hX
        exact (Array.getElem?_eq_some_iff.mp h1).1
      refine va_slen hx hb hX hbl hA hS hd ?_
      rw [← Int32.ofInt_eq_ofNat, ← hR.2.1]
      exact this
  · cases h
/-! String constants -/
theorem ok_getSc {idx : Nat} (hd : decode cc pc = .ok (.getfield idx, 3)) (hn : pc + 3 = nx) (hl : Cond.fieldLink own idx "java/lang/String" "coder" "B" ∈ jgt) : jOk l E cc own nL rt R pc (o_getC nx 73 0) := by
  subst hn
  intro p e s m args below meth c cells slots Q X hcl hsl ls st σ call k r h hC hk2 he H locs lsc hR hS hL hst hσ
  obtain ⟨hx, hb, hml, hown, hts, hW, hI⟩ := X
  unfold o_getC at h
  split at h
  · rename_i q i rest
    obtain ⟨g1, g2⟩ := List.forall_mem_cons.mp hst
    cases hq : Nat.beq q 73 with
    | false => rw [hq, cond_false] at h; cases h
    | true =>
      rw [hq, cond_true] at h
      have hq := jbeq hq
      subst hq
      have := hk2 _ _ _ _ h H locs lsc hR hS hL (List.forall_mem_cons.mpr ⟨j32_0, g2⟩) hσ
      rw [List.map_cons, jcv_ref (show Nat.beq 73 75 = false from rfl)]
      exact vk_getf hx hb (hW.2.2.2.2.2.2.1 i g1).2.1 hS hown (hts _ hl) (fun _ h9 => h9) hd this
  · cases h
theorem ok_getSv {idx : Nat} (hd : decode cc pc = .ok (.getfield idx, 3)) (hn : pc + 3 = nx) (hl : Cond.fieldLink own idx "java/lang/String" "value" "[B" ∈ jgt) : jOk l E cc own nL rt R pc (o_getP nx 73 74 (fun i => i)) := by
  subst hn
  intro p e s m args below meth c cells slots Q X hcl hsl ls st σ call k r h hC hk2 he H locs lsc hR hS hL hst hσ
  obtain ⟨hx, hb, hml, hown, hts, hW, hI⟩ := X
  unfold o_getP at h
  split at h
  · rename_i q i rest
    obtain ⟨g1, g2⟩ := List.forall_mem_cons.mp hst
    cases hq : Nat.beq q 73 with
    | false => rw [hq, cond_false] at h; cases h
    | true =>
      rw [hq, cond_true] at h
      have hq := jbeq hq
      subst hq
      have := hk2 _ _ _ _ h H locs lsc hR hS hL (List.forall_mem_cons.mpr ⟨(g1 : i < jcnt 73), g2⟩) hσ
      rw [List.map_cons, jcv_ref (show Nat.beq 73 75 = false from rfl)]
      rw [List.map_cons, jcv_ref (show Nat.beq 74 75 = false from rfl)] at this
      exact vk_getf hx hb (hW.2.2.2.2.2.2.1 i g1).2.2.1 hS hown (hts _ hl) (fun _ h9 => h9) hd this
  · cases h
theorem ok_alenB (hd : decode cc pc = .ok (.arraylength, 1)) (hn : pc + 1 = nx) : jOk l E cc own nL rt R pc (o_alenC nx 74 (fun i => (jsl i : Int))) := by
  subst hn
  intro p e s m args below meth c cells slots Q X hcl hsl ls st σ call k r h hC hk2 he H locs lsc hR hS hL hst hσ
  obtain ⟨hx, hb, hml, hown, hts, hW, hI⟩ := X
  unfold o_alenC at h
  split at h
  · rename_i q i rest
    obtain ⟨g1, g2⟩ := List.forall_mem_cons.mp hst
    cases hq : Nat.beq q 74 with
    | false => rw [hq, cond_false] at h; cases h
    | true =>
      rw [hq, cond_true] at h
      have hq := jbeq hq
      subst hq
      have g1 : i < 4 := g1
      have hr : j32 (jsl i : Int) := by
        have h0 : ∀ q : Nat, q < 4 → (-2147483648 ≤ (jsl q : Int) ∧ (jsl q : Int) < 2147483648) := by decide +kernel
        exact h0 i g1
      obtain ⟨cell, k1, k2, k3, k4, k5, k6⟩ := jTat (σ := σ) (hW.2.2.2.2.2.2.1 i g1).2.2.2 hS
      have := hk2 _ _ _ _ h H locs lsc hR hS hL (List.forall_mem_cons.mpr ⟨hr, g2⟩) hσ
      rw [List.map_cons, jcv_ref (show Nat.beq 74 75 = false from rfl)]
      exact W.alen hx hb k1 k2 (n := Int32.ofInt (jsl i : Int)) (by rw [k5, Int32.ofInt_eq_ofNat]) rfl rfl hd this
  · cases h
theorem jgetD0 (l : List Int) (j : Nat) (h : l.length ≤ j) : l.getD j 0 = 0 := by
  rw [List.getD_eq_getElem?_getD, List.getElem?_eq_none h]
  rfl
theorem jsb_rng (i j : Nat) : j32 (jsb i j) ∧ 0 ≤ jsb i j ∧ jsb i j ≤ 127 := by
  have h0 : ∀ i : Nat, i < 4 → ∀ j : Nat, j < 4 → 0 ≤ jsb i j ∧ jsb i j ≤ 127 := by decide +kernel
  have hh : 0 ≤ jsb i j ∧ jsb i j ≤ 127 := by
    by_cases hi : i < 4
    · by_cases hj : j < 4
      · exact h0 i hi j hj
      · have : jsb i j = 0 := by
          match i, hi with
          | 0, _ => exact jgetD0 _ j (by simp; omega)
          | 1, _ => exact jgetD0 _ j (by simp; omega)
          | 2, _ => exact jgetD0 _ j (by simp; omega)
          | 3, _ => exact jgetD0 _ j (by simp; omega)
        rw [this]; decide
    · have : jsb i j = 0 := by
        unfold jsb
        rw [List.getD_eq_getElem?_getD (i := i), List.getElem?_eq_none (by simp; omega)]
        rfl
      rw [this]; decide
  exact ⟨⟨by omega, by omega⟩, hh⟩
theorem ok_baldB (hd : decode cc pc = .ok (.baload, 1)) (hn : pc + 1 = nx) : jOk l E cc own nL rt R pc (o_aldC nx 74 (fun i => (jsl i : Int)) jsb) := by
  subst hn
  intro p e s m args below meth c cells slots Q X hcl hsl ls st σ call k r h hC hk2 he H locs lsc hR hS hL hst hσ
  obtain ⟨hx, hb, hml, hown, hts, hW, hI⟩ := X
  unfold o_aldC at h
  split at h
  · rename_i j q i rest
    obtain ⟨gj, g0⟩ := List.forall_mem_cons.mp hst
    obtain ⟨g1, g2⟩ := List.forall_mem_cons.mp g0
    have gj : j32 j := gj
    cases hq : Nat.beq q 74 with
    | false => rw [hq, cond_false] at h; cases h
    | true =>
      rw [hq, cond_true] at h
      have hq := jbeq hq
      subst hq
      have g1 : i < 4 := g1
      by_cases h2 : 0 ≤ j ∧ j < (jsl i : Int)
      · rw [if_pos h2] at h
        obtain ⟨cell, k1, k2, k3, k4, k5, k6⟩ := jTat (σ := σ) (hW.2.2.2.2.2.2.1 i g1).2.2.2 hS
        have hlt : j.toNat < jsl i := by omega
        have := hk2 _ _ _ _ h H locs lsc hR hS hL (List.forall_mem_cons.mpr ⟨(jsb_rng i j.toNat).1, g2⟩) hσ
        rw [List.map_cons, List.map_cons, jcv_ref (show Nat.beq 74 75 = false from rfl)]
        refine W.bald (v := .int (Int32.ofInt (jsb i j.toNat))) hx hb k1 k2 k3 ?_ (by rw [jof_nat gj]; exact k6 _ hlt) rfl rfl hd this
        have hv := jin (n := jsl i) gj h2
        intro z
        rcases z with z | z
        · exact hv (Or.inl z)
        · exact hv (Or.inr (Nat.le_trans k4 z))
      · rw [if_neg h2] at h; cases h
  · cases h
end MEM
