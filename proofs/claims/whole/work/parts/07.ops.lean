/-! WHAT AN OP OF THE SMALL MACHINE SAYS OF THE MACHINE -/
def jws (y : Nat) : List Cond := Cond.code (jnm y) (jby y) (jml y) (jrt y) :: jgt
def jPc (E : jE) (as : List jV) (σ : jM) : Array Value → State → Prop := fun v U => v = (as.map (jcv E)).toArray ∧ jRel E σ U.heap ∧ jWd E U U.heap
def jQc (E : jE) (r : jR) : Array Value → State → Outcome → State → Prop := fun _ st o t => o = .returned (r.1.map (jcv E)) ∧ jRel E r.2 t.heap ∧ va_F (jA E) st t ∧ (∀ v, r.1 = some v → jgd v) ∧ jRng r.2
def jMet (l : Launch) (E : jE) (y : Nat) (as : List jV) (σ : jM) (r : jR) : Prop := Met l (jnm y) (jws y) (jrm y) (jPc E as σ) (jQc E r) 0 0 (jA E)
def jCs (l : Launch) (E : jE) (call : jC) : Prop := ∀ y as σ r, call y as σ = some r → (∀ v ∈ as, jgd v) → jRng σ → as.length ≤ jml y → jMet l E y as σ r
def jX (E : jE) (p : Program) (s : State) (m : MethodId) (args : Array Value) (meth : Method) (c : Code) (cc : ByteArray) (own : String) (nL : Nat) : Prop :=
  p.tables.exec = Jvm.exec ∧ c.code = cc ∧ c.maxLocals = nL ∧ s.vm.findClass own = some m.cls ∧ (∀ w ∈ jgt, w.before args s = true) ∧ jWd E s s.heap ∧ jInj E
def jW (l : Launch) (E : jE) (p : Program) (e : Env) (R : Room) (s : State) (m : MethodId) (args : Array Value) (below : List Frame) (meth : Method) (c : Code) (cells slots : Nat) (Q : State → Prop) (nL : Nat) (pc : Nat) (ls : jS) (st : List jV) (σ : jM) : Prop :=
  ∀ (H : Heap) (locs : List Loc) (lsc : Array Slot), jRel E σ H → va_S (jA E) s.heap H locs → jLs E nL lsc ls → (∀ v ∈ st, jgd v) → jRng σ → W p l e R s m args below meth c H locs cells slots Q (F0 m pc lsc (st.map (jcv E)))
def jRetI (cc : ByteArray) (rt : Option FieldType) (pc : Nat) : Option jV → Prop
  | none => decode cc pc = .ok (.return_, 1) ∧ rt = none
  | some (.inl x) => decode cc pc = .ok (.ireturn, 1) ∧ ∃ ty, rt = some ty ∧ narrow ty (.int (Int32.ofInt x)) = .int (Int32.ofInt x)
  | some (.inr (q, _)) => decode cc pc = .ok (.areturn, 1) ∧ Nat.beq q 75 = false ∧ ∃ ty, rt = some ty ∧ ((∃ n, ty = .object n) ∨ ∃ t, ty = .array t)
def jEnd (l : Launch) (E : jE) (p : Program) (e : Env) (R : Room) (s : State) (m : MethodId) (args : Array Value) (below : List Frame) (meth : Method) (c : Code) (cells slots : Nat) (Q : State → Prop) (cc : ByteArray) (rt : Option FieldType) (r : jR) : Prop :=
  ∀ (pc : Nat) (H : Heap) (locs : List Loc) (lsc : Array Slot), jRel E r.2 H → va_S (jA E) s.heap H locs → jRng r.2 → (∀ v, r.1 = some v → jgd v) → jRetI cc rt pc r.1 → W p l e R s m args below meth c H locs cells slots Q (F0 m pc lsc (r.1.toList.map (jcv E)))
def jOk (l : Launch) (E : jE) (cc : ByteArray) (own : String) (nL : Nat) (rt : Option FieldType) (R : Room) (pc : Nat) (op : jO) : Prop :=
  ∀ (p : Program) (e : Env) (s : State) (m : MethodId) (args : Array Value) (below : List Frame) (meth : Method) (c : Code) (cells slots : Nat) (Q : State → Prop),
    jX E p s m args meth c cc own nL → cells ≤ R.cells → slots ≤ R.slots →
    ∀ (ls : jS) (st : List jV) (σ : jM) (call : jC) (k : jK) (r : jR), op ls st σ call k = some r → jCs l E call →
      (∀ pc' ls' st' σ', k pc' ls' st' σ' = some r → jW l E p e R s m args below meth c cells slots Q nL pc' ls' st' σ') →
      jEnd l E p e R s m args below meth c cells slots Q cc rt r →
      jW l E p e R s m args below meth c cells slots Q nL pc ls st σ
section OPS
variable {l : Launch} {E : jE} {cc : ByteArray} {own : String} {nL : Nat} {rt : Option FieldType} {R : Room} {pc nx tg : Nat}
theorem ok_stk : jOk l E cc own nL rt R pc jstk := by
  intro p e s m args below meth c cells slots Q X hcl hsl ls st σ call k r h
  cases h
theorem ok_iconst {n : Int} {v : Int} (hd : decode cc pc = .ok (.iconst n, 1)) (hn : pc + 1 = nx) (hv : Int32.ofInt n = Int32.ofInt v) (h32 : j32 v) : jOk l E cc own nL rt R pc (o_const nx v) := by
  subst hn
  intro p e s m args below meth c cells slots Q X hcl hsl ls st σ call k r h hC hk he H locs lsc hR hS hL hst hσ
  obtain ⟨hx, hb, hml, hown, hts, hW, hI⟩ := X
  exact lv_iconst hx hb hd hv (hk _ _ _ _ h H locs lsc hR hS hL (List.forall_mem_cons.mpr ⟨h32, hst⟩) hσ)
theorem ok_bipush {n : Int} {v : Int} (hd : decode cc pc = .ok (.bipush n, 2)) (hn : pc + 2 = nx) (hv : (Int8.ofInt n).toInt32 = Int32.ofInt v) (h32 : j32 v) : jOk l E cc own nL rt R pc (o_const nx v) := by
  subst hn
  intro p e s m args below meth c cells slots Q X hcl hsl ls st σ call k r h hC hk he H locs lsc hR hS hL hst hσ
  obtain ⟨hx, hb, hml, hown, hts, hW, hI⟩ := X
  exact lv_bipush hx hb hd hv (hk _ _ _ _ h H locs lsc hR hS hL (List.forall_mem_cons.mpr ⟨h32, hst⟩) hσ)
theorem ok_sipush {n : Int} {v : Int} (hd : decode cc pc = .ok (.sipush n, 3)) (hn : pc + 3 = nx) (hv : (Int16.ofInt n).toInt32 = Int32.ofInt v) (h32 : j32 v) : jOk l E cc own nL rt R pc (o_const nx v) := by
  subst hn
  intro p e s m args below meth c cells slots Q X hcl hsl ls st σ call k r h hC hk he H locs lsc hR hS hL hst hσ
  obtain ⟨hx, hb, hml, hown, hts, hW, hI⟩ := X
  exact lv_sipush hx hb hd hv (hk _ _ _ _ h H locs lsc hR hS hL (List.forall_mem_cons.mpr ⟨h32, hst⟩) hσ)
theorem ok_ldcw {index : Nat} {v : Int} {z : Int32} (hd : decode cc pc = .ok (.ldc_w index, 3)) (hn : pc + 3 = nx) (hw : Cond.constant own index z ∈ jgt) (hv : z = Int32.ofInt v) (h32 : j32 v) : jOk l E cc own nL rt R pc (o_const nx v) := by
  subst hn
  subst hv
  intro p e s m args below meth c cells slots Q X hcl hsl ls st σ call k r h hC hk he H locs lsc hR hS hL hst hσ
  obtain ⟨hx, hb, hml, hown, hts, hW, hI⟩ := X
  exact lv_ldcw hx hb hown (hts _ hw) hd (hk _ _ _ _ h H locs lsc hR hS hL (List.forall_mem_cons.mpr ⟨h32, hst⟩) hσ)
theorem ok_iload_n {kk : Fin 4} {i : Nat} (hd : decode cc pc = .ok (.iload_n kk, 1)) (hi : (kk : Nat) = i) (hn : pc + 1 = nx) : jOk l E cc own nL rt R pc (o_li nx i) := by
  subst hn
  intro p e s m args below meth c cells slots Q X hcl hsl ls st σ call k r h hC hk he H locs lsc hR hS hL hst hσ
  obtain ⟨hx, hb, hml, hown, hts, hW, hI⟩ := X
  unfold o_li at h
  split at h
  · rename_i x hv
    obtain ⟨g1, g2⟩ := hL.get hv
    exact lv_iload_n hx hb hd hi g1 (hk _ _ _ _ h H locs lsc hR hS hL (List.forall_mem_cons.mpr ⟨g2, hst⟩) hσ)
  · cases h
theorem ok_iload {i : Nat} (hd : decode cc pc = .ok (.iload i, 2)) (hn : pc + 2 = nx) : jOk l E cc own nL rt R pc (o_li nx i) := by
  subst hn
  intro p e s m args below meth c cells slots Q X hcl hsl ls st σ call k r h hC hk he H locs lsc hR hS hL hst hσ
  obtain ⟨hx, hb, hml, hown, hts, hW, hI⟩ := X
  unfold o_li at h
  split at h
  · rename_i x hv
    obtain ⟨g1, g2⟩ := hL.get hv
    exact lv_iload hx hb hd g1 (hk _ _ _ _ h H locs lsc hR hS hL (List.forall_mem_cons.mpr ⟨g2, hst⟩) hσ)
  · cases h
theorem jcv_ref {q j : Nat} (h : Nat.beq q 75 = false) : jcv E (.inr (q, j)) = .ref (E.2.2.1 q j) := by
  show (bif Nat.beq q 75 then E.2.2.2.1 else .ref (E.2.2.1 q j)) = _
  rw [h, cond_false]
theorem ok_aload_n {kk : Fin 4} {i : Nat} (hd : decode cc pc = .ok (.aload_n kk, 1)) (hi : (kk : Nat) = i) (hn : pc + 1 = nx) : jOk l E cc own nL rt R pc (o_la nx i) := by
  subst hn
  intro p e s m args below meth c cells slots Q X hcl hsl ls st σ call k r h hC hk he H locs lsc hR hS hL hst hσ
  obtain ⟨hx, hb, hml, hown, hts, hW, hI⟩ := X
  unfold o_la at h
  split at h
  · rename_i q j hv
    obtain ⟨g1, g2⟩ := hL.get hv
    cases h5 : Nat.beq q 75 with
    | true => rw [h5, cond_true] at h; cases h
    | false =>
      rw [h5, cond_false] at h
      rw [jcv_ref h5] at g1
      have := hk _ _ _ _ h H locs lsc hR hS hL (List.forall_mem_cons.mpr ⟨g2, hst⟩) hσ
      rw [List.map_cons, jcv_ref h5] at this
      exact lv_aload_n hx hb hd hi g1 this
  · cases h
theorem ok_aload {i : Nat} (hd : decode cc pc = .ok (.aload i, 2)) (hn : pc + 2 = nx) : jOk l E cc own nL rt R pc (o_la nx i) := by
  subst hn
  intro p e s m args below meth c cells slots Q X hcl hsl ls st σ call k r h hC hk he H locs lsc hR hS hL hst hσ
  obtain ⟨hx, hb, hml, hown, hts, hW, hI⟩ := X
  unfold o_la at h
  split at h
  · rename_i q j hv
    obtain ⟨g1, g2⟩ := hL.get hv
    cases h5 : Nat.beq q 75 with
    | true => rw [h5, cond_true] at h; cases h
    | false =>
      rw [h5, cond_false] at h
      rw [jcv_ref h5] at g1
      have := hk _ _ _ _ h H locs lsc hR hS hL (List.forall_mem_cons.mpr ⟨g2, hst⟩) hσ
      rw [List.map_cons, jcv_ref h5] at this
      exact lv_aload hx hb hd g1 this
  · cases h
theorem ok_istore_n {kk : Fin 4} {i : Nat} (hd : decode cc pc = .ok (.istore_n kk, 1)) (hi : (kk : Nat) = i) (hn : pc + 1 = nx) (hl : i < nL) : jOk l E cc own nL rt R pc (o_si nx i) := by
  subst hn
  intro p e s m args below meth c cells slots Q X hcl hsl ls st σ call k r h hC hk he H locs lsc hR hS hL hst hσ
  obtain ⟨hx, hb, hml, hown, hts, hW, hI⟩ := X
  unfold o_si at h
  split at h
  · rename_i x rest
    obtain ⟨g1, g2⟩ := List.forall_mem_cons.mp hst
    exact lv_istore_n hx hb hd hi hL.2.1 hl rfl (fun ls' h' => hk _ _ _ _ h H locs ls' hR hS (hL.set hW.2.1 (v := .inl x) g1 h' hl) g2 hσ)
  · cases h
theorem ok_istore {i : Nat} (hd : decode cc pc = .ok (.istore i, 2)) (hn : pc + 2 = nx) (hl : i < nL) : jOk l E cc own nL rt R pc (o_si nx i) := by
  subst hn
  intro p e s m args below meth c cells slots Q X hcl hsl ls st σ call k r h hC hk he H locs lsc hR hS hL hst hσ
  obtain ⟨hx, hb, hml, hown, hts, hW, hI⟩ := X
  unfold o_si at h
  split at h
  · rename_i x rest
    obtain ⟨g1, g2⟩ := List.forall_mem_cons.mp hst
    exact lv_istore hx hb hd hL.2.1 hl rfl (fun ls' h' => hk _ _ _ _ h H locs ls' hR hS (hL.set hW.2.1 (v := .inl x) g1 h' hl) g2 hσ)
  · cases h
theorem ok_astore_n {kk : Fin 4} {i : Nat} (hd : decode cc pc = .ok (.astore_n kk, 1)) (hi : (kk : Nat) = i) (hn : pc + 1 = nx) (hl : i < nL) : jOk l E cc own nL rt R pc (o_sa nx i) := by
  subst hn
  intro p e s m args below meth c cells slots Q X hcl hsl ls st σ call k r h hC hk he H locs lsc hR hS hL hst hσ
  obtain ⟨hx, hb, hml, hown, hts, hW, hI⟩ := X
  unfold o_sa at h
  split at h
  · rename_i q j rest
    obtain ⟨g1, g2⟩ := List.forall_mem_cons.mp hst
    cases h5 : Nat.beq q 75 with
    | true => rw [h5, cond_true] at h; cases h
    | false =>
      rw [h5, cond_false] at h
      rw [List.map_cons, jcv_ref h5]
      exact lv_astore_n hx hb hd hi hL.2.1 hl rfl (fun ls' h' => hk _ _ _ _ h H locs ls' hR hS (hL.set hW.2.1 (v := .inr (q, j)) g1 (by rw [jcv_ref h5]; exact h') hl) g2 hσ)
  · cases h
theorem ok_astore {i : Nat} (hd : decode cc pc = .ok (.astore i, 2)) (hn : pc + 2 = nx) (hl : i < nL) : jOk l E cc own nL rt R pc (o_sa nx i) := by
  subst hn
  intro p e s m args below meth c cells slots Q X hcl hsl ls st σ call k r h hC hk he H locs lsc hR hS hL hst hσ
  obtain ⟨hx, hb, hml, hown, hts, hW, hI⟩ := X
  unfold o_sa at h
  split at h
  · rename_i q j rest
    obtain ⟨g1, g2⟩ := List.forall_mem_cons.mp hst
    cases h5 : Nat.beq q 75 with
    | true => rw [h5, cond_true] at h; cases h
    | false =>
      rw [h5, cond_false] at h
      rw [List.map_cons, jcv_ref h5]
      exact lv_astore hx hb hd hL.2.1 hl rfl (fun ls' h' => hk _ _ _ _ h H locs ls' hR hS (hL.set hW.2.1 (v := .inr (q, j)) g1 (by rw [jcv_ref h5]; exact h') hl) g2 hσ)
  · cases h
theorem ok_iinc {i : Nat} {n : Int} (hd : decode cc pc = .ok (.iinc i n, 3)) (hn : pc + 3 = nx) (hl : i < nL) : jOk l E cc own nL rt R pc (o_iinc nx i n) := by
  subst hn
  intro p e s m args below meth c cells slots Q X hcl hsl ls st σ call k r h hC hk he H locs lsc hR hS hL hst hσ
  obtain ⟨hx, hb, hml, hown, hts, hW, hI⟩ := X
  unfold o_iinc at h
  split at h
  · rename_i x hv
    have hm : (i, Value.int (Int32.ofInt x)) ∈ jll E ls := jll_mem.mpr ⟨.inl x, hv, rfl⟩
    obtain ⟨q, hq⟩ := List.getElem?_of_mem hm
    refine lv_iinc hx hb hd hL.2.1 hq (v := Int32.ofInt (jw (x + n))) (by rw [jw_of, Int32.ofInt_add]) hl rfl (fun ls' h' => hk _ _ _ _ h H locs ls' hR hS (hL.set hW.2.1 (v := .inl (jw (x + n))) (jw_rng _) h' hl) hst hσ)
  · cases h
theorem ok_neg (hd : decode cc pc = .ok (.ineg, 1)) (hn : pc + 1 = nx) : jOk l E cc own nL rt R pc (o_neg nx) := by
  subst hn
  intro p e s m args below meth c cells slots Q X hcl hsl ls st σ call k r h hC hk he H locs lsc hR hS hL hst hσ
  obtain ⟨hx, hb, hml, hown, hts, hW, hI⟩ := X
  unfold o_neg at h
  split at h
  · rename_i x rest
    obtain ⟨g1, g2⟩ := List.forall_mem_cons.mp hst
    have := hk _ _ _ _ h H locs lsc hR hS hL (List.forall_mem_cons.mpr ⟨jw_rng _, g2⟩) hσ
    refine lv_ineg hx hb hd ?_
    rw [List.map_cons, show jcv E (.inl (jw (-x))) = .int (-Int32.ofInt x) from congrArg Value.int (by rw [jw_of, Int32.ofInt_neg])] at this
    exact this
  · cases h
theorem ok_i2c (hd : decode cc pc = .ok (.i2c, 1)) (hn : pc + 1 = nx) : jOk l E cc own nL rt R pc (o_i2c nx) := by
  subst hn
  intro p e s m args below meth c cells slots Q X hcl hsl ls st σ call k r h hC hk he H locs lsc hR hS hL hst hσ
  obtain ⟨hx, hb, hml, hown, hts, hW, hI⟩ := X
  unfold o_i2c at h
  split at h
  · rename_i x rest
    obtain ⟨g1, g2⟩ := List.forall_mem_cons.mp hst
    have := hk _ _ _ _ h H locs lsc hR hS hL (List.forall_mem_cons.mpr ⟨j32_toInt _, g2⟩) hσ
    refine lv_i2c hx hb hd rfl ?_
    rw [List.map_cons, show jcv E (.inl (ji2c x)) = .int (((Int32.ofInt x).toUInt32 % 65536).toInt32) from congrArg Value.int (by unfold ji2c; exact Int32.ofInt_toInt _)] at this
    exact this
  · cases h
theorem ok_add (hd : decode cc pc = .ok (.iadd, 1)) (hn : pc + 1 = nx) : jOk l E cc own nL rt R pc (o_add nx) := by
  subst hn
  intro p e s m args below meth c cells slots Q X hcl hsl ls st σ call k r h hC hk he H locs lsc hR hS hL hst hσ
  obtain ⟨hx, hb, hml, hown, hts, hW, hI⟩ := X
  unfold o_add at h
  split at h
  · rename_i y x rest
    obtain ⟨gy, g1⟩ := List.forall_mem_cons.mp hst
    obtain ⟨gx, g2⟩ := List.forall_mem_cons.mp g1
    have gx : j32 x := gx
    have gy : j32 y := gy
    have := hk _ _ _ _ h H locs lsc hR hS hL (List.forall_mem_cons.mpr ⟨jw_rng _, g2⟩) hσ
    refine lv_iadd hx hb hd ?_
    rw [List.map_cons, show jcv E (.inl (jw (x + y))) = .int (Int32.ofInt x + Int32.ofInt y) from congrArg Value.int (by rw [jw_of, Int32.ofInt_add])] at this
    exact this
  · cases h
theorem ok_sub (hd : decode cc pc = .ok (.isub, 1)) (hn : pc + 1 = nx) : jOk l E cc own nL rt R pc (o_sub nx) := by
  subst hn
  intro p e s m args below meth c cells slots Q X hcl hsl ls st σ call k r h hC hk he H locs lsc hR hS hL hst hσ
  obtain ⟨hx, hb, hml, hown, hts, hW, hI⟩ := X
  unfold o_sub at h
  split at h
  · rename_i y x rest
    obtain ⟨gy, g1⟩ := List.forall_mem_cons.mp hst
    obtain ⟨gx, g2⟩ := List.forall_mem_cons.mp g1
    have gx : j32 x := gx
    have gy : j32 y := gy
    have := hk _ _ _ _ h H locs lsc hR hS hL (List.forall_mem_cons.mpr ⟨jw_rng _, g2⟩) hσ
    refine lv_isub hx hb hd ?_
    rw [List.map_cons, show jcv E (.inl (jw (x - y))) = .int (Int32.ofInt x - Int32.ofInt y) from congrArg Value.int (by rw [jw_of, Int32.ofInt_sub])] at this
    exact this
  · cases h
theorem ok_mul (hd : decode cc pc = .ok (.imul, 1)) (hn : pc + 1 = nx) : jOk l E cc own nL rt R pc (o_mul nx) := by
  subst hn
  intro p e s m args below meth c cells slots Q X hcl hsl ls st σ call k r h hC hk he H locs lsc hR hS hL hst hσ
  obtain ⟨hx, hb, hml, hown, hts, hW, hI⟩ := X
  unfold o_mul at h
  split at h
  · rename_i y x rest
    obtain ⟨gy, g1⟩ := List.forall_mem_cons.mp hst
    obtain ⟨gx, g2⟩ := List.forall_mem_cons.mp g1
    have gx : j32 x := gx
    have gy : j32 y := gy
    have := hk _ _ _ _ h H locs lsc hR hS hL (List.forall_mem_cons.mpr ⟨jw_rng _, g2⟩) hσ
    refine lv_imul hx hb hd ?_
    rw [List.map_cons, show jcv E (.inl (jw (x * y))) = .int (Int32.ofInt x * Int32.ofInt y) from congrArg Value.int (by rw [jw_of, Int32.ofInt_mul])] at this
    exact this
  · cases h
theorem ok_and (hd : decode cc pc = .ok (.iand, 1)) (hn : pc + 1 = nx) : jOk l E cc own nL rt R pc (o_and nx) := by
  subst hn
  intro p e s m args below meth c cells slots Q X hcl hsl ls st σ call k r h hC hk he H locs lsc hR hS hL hst hσ
  obtain ⟨hx, hb, hml, hown, hts, hW, hI⟩ := X
  unfold o_and at h
  split at h
  · rename_i y x rest
    obtain ⟨gy, g1⟩ := List.forall_mem_cons.mp hst
    obtain ⟨gx, g2⟩ := List.forall_mem_cons.mp g1
    have gx : j32 x := gx
    have gy : j32 y := gy
    have := hk _ _ _ _ h H locs lsc hR hS hL (List.forall_mem_cons.mpr ⟨j32_toInt _, g2⟩) hσ
    refine lv_iand hx hb hd ?_
    rw [List.map_cons, show jcv E (.inl (jand x y)) = .int (Int32.ofInt x &&& Int32.ofInt y) from congrArg Value.int (by unfold jand; exact Int32.ofInt_toInt _)] at this
    exact this
  · cases h
theorem ok_shr (hd : decode cc pc = .ok (.ishr, 1)) (hn : pc + 1 = nx) : jOk l E cc own nL rt R pc (o_shr nx) := by
  subst hn
  intro p e s m args below meth c cells slots Q X hcl hsl ls st σ call k r h hC hk he H locs lsc hR hS hL hst hσ
  obtain ⟨hx, hb, hml, hown, hts, hW, hI⟩ := X
  unfold o_shr at h
  split at h
  · rename_i y x rest
    obtain ⟨gy, g1⟩ := List.forall_mem_cons.mp hst
    obtain ⟨gx, g2⟩ := List.forall_mem_cons.mp g1
    have gx : j32 x := gx
    have gy : j32 y := gy
    have := hk _ _ _ _ h H locs lsc hR hS hL (List.forall_mem_cons.mpr ⟨j32_toInt _, g2⟩) hσ
    refine lv_ishr hx hb hd ?_
    rw [List.map_cons, show jcv E (.inl (jshr x y)) = .int (Int32.ofInt x >>> (Int32.ofInt y &&& 31)) from congrArg Value.int (by unfold jshr; exact Int32.ofInt_toInt _)] at this
    exact this
  · cases h
theorem ok_ushr (hd : decode cc pc = .ok (.iushr, 1)) (hn : pc + 1 = nx) : jOk l E cc own nL rt R pc (o_ushr nx) := by
  subst hn
  intro p e s m args below meth c cells slots Q X hcl hsl ls st σ call k r h hC hk he H locs lsc hR hS hL hst hσ
  obtain ⟨hx, hb, hml, hown, hts, hW, hI⟩ := X
  unfold o_ushr at h
  split at h
  · rename_i y x rest
    obtain ⟨gy, g1⟩ := List.forall_mem_cons.mp hst
    obtain ⟨gx, g2⟩ := List.forall_mem_cons.mp g1
    have gx : j32 x := gx
    have gy : j32 y := gy
    have := hk _ _ _ _ h H locs lsc hR hS hL (List.forall_mem_cons.mpr ⟨j32_toInt _, g2⟩) hσ
    refine lv_iushr hx hb hd rfl ?_
    rw [List.map_cons, show jcv E (.inl (jushr x y)) = .int (((Int32.ofInt x).toUInt32 >>> ((Int32.ofInt y).toUInt32 &&& Int32.toUInt32 31)).toInt32) from congrArg Value.int (by unfold jushr; exact Int32.ofInt_toInt _)] at this
    exact this
  · cases h
theorem ok_div (hd : decode cc pc = .ok (.idiv, 1)) (hn : pc + 1 = nx) : jOk l E cc own nL rt R pc (o_div nx) := by
  subst hn
  intro p e s m args below meth c cells slots Q X hcl hsl ls st σ call k r h hC hk he H locs lsc hR hS hL hst hσ
  obtain ⟨hx, hb, hml, hown, hts, hW, hI⟩ := X
  unfold o_div at h
  split at h
  · rename_i y x rest
    obtain ⟨gy, g1⟩ := List.forall_mem_cons.mp hst
    obtain ⟨gx, g2⟩ := List.forall_mem_cons.mp g1
    have gx : j32 x := gx
    have gy : j32 y := gy
    by_cases h0 : y = 0
    · rw [if_pos h0] at h; cases h
    · rw [if_neg h0] at h
      have := hk _ _ _ _ h H locs lsc hR hS hL (List.forall_mem_cons.mpr ⟨jw_rng _, g2⟩) hσ
      refine lv_idiv hx hb hd (fun q => h0 (by rw [jof_0, jof_eq gy j32_0] at q; exact q)) ?_
      rw [List.map_cons, show jcv E (.inl (jw (x.tdiv y))) = .int (Int32.ofInt x / Int32.ofInt y) from congrArg Value.int (jof_div x y gx gy)] at this
      exact this
  · cases h
theorem ok_rem (hd : decode cc pc = .ok (.irem, 1)) (hn : pc + 1 = nx) : jOk l E cc own nL rt R pc (o_rem nx) := by
  subst hn
  intro p e s m args below meth c cells slots Q X hcl hsl ls st σ call k r h hC hk he H locs lsc hR hS hL hst hσ
  obtain ⟨hx, hb, hml, hown, hts, hW, hI⟩ := X
  unfold o_rem at h
  split at h
  · rename_i y x rest
    obtain ⟨gy, g1⟩ := List.forall_mem_cons.mp hst
    obtain ⟨gx, g2⟩ := List.forall_mem_cons.mp g1
    have gx : j32 x := gx
    have gy : j32 y := gy
    by_cases h0 : y = 0
    · rw [if_pos h0] at h; cases h
    · rw [if_neg h0] at h
      have := hk _ _ _ _ h H locs lsc hR hS hL (List.forall_mem_cons.mpr ⟨j32_rem x y gx gy, g2⟩) hσ
      refine lv_irem hx hb hd (fun q => h0 (by rw [jof_0, jof_eq gy j32_0] at q; exact q)) ?_
      rw [List.map_cons, show jcv E (.inl (x.tmod y)) = .int (Int32.ofInt x - Int32.ofInt x / Int32.ofInt y * Int32.ofInt y) from congrArg Value.int (jof_rem x y gx gy)] at this
      exact this
  · cases h
theorem ok_iflt {off : Int} (hd : decode cc pc = .ok (.ifCond .lt off, 3)) (hn : pc + 3 = nx) (ht : (pc : Int) + off = (tg : Int)) : jOk l E cc own nL rt R pc (o_iflt nx tg) := by
  subst hn
  intro p e s m args below meth c cells slots Q X hcl hsl ls st σ call k r h hC hk he H locs lsc hR hS hL hst hσ
  obtain ⟨hx, hb, hml, hown, hts, hW, hI⟩ := X
  unfold o_iflt at h
  split at h
  · rename_i x rest
    obtain ⟨gx, g2⟩ := List.forall_mem_cons.mp hst
    have gx : j32 x := gx
    have ex : (Int32.ofInt x < 0) ↔ x < 0 := by rw [jof_0, jof_lt gx j32_0]
    refine lv_if_lt hx hb hd ht (fun q => ?_) (fun q => ?_)
    · have q : x < 0 := ex.mp q
      rw [if_pos q] at h
      exact hk _ _ _ _ h H locs lsc hR hS hL g2 hσ
    · have q : ¬ (x < 0) := fun z => q (ex.mpr z)
      rw [if_neg q] at h
      exact hk _ _ _ _ h H locs lsc hR hS hL g2 hσ
  · cases h
theorem ok_ifge {off : Int} (hd : decode cc pc = .ok (.ifCond .ge off, 3)) (hn : pc + 3 = nx) (ht : (pc : Int) + off = (tg : Int)) : jOk l E cc own nL rt R pc (o_ifge nx tg) := by
  subst hn
  intro p e s m args below meth c cells slots Q X hcl hsl ls st σ call k r h hC hk he H locs lsc hR hS hL hst hσ
  obtain ⟨hx, hb, hml, hown, hts, hW, hI⟩ := X
  unfold o_ifge at h
  split at h
  · rename_i x rest
    obtain ⟨gx, g2⟩ := List.forall_mem_cons.mp hst
    have gx : j32 x := gx
    have ex : (0 ≤ Int32.ofInt x) ↔ 0 ≤ x := by rw [jof_0, jof_le j32_0 gx]
    refine lv_if_ge hx hb hd ht (fun q => ?_) (fun q => ?_)
    · have q : ¬ (x < 0) := by have := ex.mp q; omega
      rw [if_neg q] at h
      exact hk _ _ _ _ h H locs lsc hR hS hL g2 hσ
    · have q : x < 0 := Int.not_le.mp (fun z => q (ex.mpr z))
      rw [if_pos q] at h
      exact hk _ _ _ _ h H locs lsc hR hS hL g2 hσ
  · cases h
theorem ok_ifgt {off : Int} (hd : decode cc pc = .ok (.ifCond .gt off, 3)) (hn : pc + 3 = nx) (ht : (pc : Int) + off = (tg : Int)) : jOk l E cc own nL rt R pc (o_ifgt nx tg) := by
  subst hn
  intro p e s m args below meth c cells slots Q X hcl hsl ls st σ call k r h hC hk he H locs lsc hR hS hL hst hσ
  obtain ⟨hx, hb, hml, hown, hts, hW, hI⟩ := X
  unfold o_ifgt at h
  split at h
  · rename_i x rest
    obtain ⟨gx, g2⟩ := List.forall_mem_cons.mp hst
    have gx : j32 x := gx
    have ex : (0 < Int32.ofInt x) ↔ 0 < x := by rw [jof_0, jof_lt j32_0 gx]
    refine lv_if_gt hx hb hd ht (fun q => ?_) (fun q => ?_)
    · have q : 0 < x := ex.mp q
      rw [if_pos q] at h
      exact hk _ _ _ _ h H locs lsc hR hS hL g2 hσ
    · have q : ¬ (0 < x) := fun z => q (ex.mpr z)
      rw [if_neg q] at h
      exact hk _ _ _ _ h H locs lsc hR hS hL g2 hσ
  · cases h
theorem ok_ifle {off : Int} (hd : decode cc pc = .ok (.ifCond .le off, 3)) (hn : pc + 3 = nx) (ht : (pc : Int) + off = (tg : Int)) : jOk l E cc own nL rt R pc (o_ifle nx tg) := by
  subst hn
  intro p e s m args below meth c cells slots Q X hcl hsl ls st σ call k r h hC hk he H locs lsc hR hS hL hst hσ
  obtain ⟨hx, hb, hml, hown, hts, hW, hI⟩ := X
  unfold o_ifle at h
  split at h
  · rename_i x rest
    obtain ⟨gx, g2⟩ := List.forall_mem_cons.mp hst
    have gx : j32 x := gx
    have ex : (Int32.ofInt x ≤ 0) ↔ x ≤ 0 := by rw [jof_0, jof_le gx j32_0]
    refine lv_if_le hx hb hd ht (fun q => ?_) (fun q => ?_)
    · have q : ¬ (0 < x) := by have := ex.mp q; omega
      rw [if_neg q] at h
      exact hk _ _ _ _ h H locs lsc hR hS hL g2 hσ
    · have q : 0 < x := Int.not_le.mp (fun z => q (ex.mpr z))
      rw [if_pos q] at h
      exact hk _ _ _ _ h H locs lsc hR hS hL g2 hσ
  · cases h
theorem ok_ifeq {off : Int} (hd : decode cc pc = .ok (.ifCond .eq off, 3)) (hn : pc + 3 = nx) (ht : (pc : Int) + off = (tg : Int)) : jOk l E cc own nL rt R pc (o_ifeq nx tg) := by
  subst hn
  intro p e s m args below meth c cells slots Q X hcl hsl ls st σ call k r h hC hk he H locs lsc hR hS hL hst hσ
  obtain ⟨hx, hb, hml, hown, hts, hW, hI⟩ := X
  unfold o_ifeq at h
  split at h
  · rename_i x rest
    obtain ⟨gx, g2⟩ := List.forall_mem_cons.mp hst
    have gx : j32 x := gx
    have ex : (Int32.ofInt x = 0) ↔ x = 0 := by rw [jof_0, jof_eq gx j32_0]
    refine lv_if_eq hx hb hd ht (fun q => ?_) (fun q => ?_)
    · have q : x = 0 := ex.mp q
      rw [if_pos q] at h
      exact hk _ _ _ _ h H locs lsc hR hS hL g2 hσ
    · have q : ¬ (x = 0) := fun z => q (ex.mpr z)
      rw [if_neg q] at h
      exact hk _ _ _ _ h H locs lsc hR hS hL g2 hσ
  · cases h
theorem ok_ifne {off : Int} (hd : decode cc pc = .ok (.ifCond .ne off, 3)) (hn : pc + 3 = nx) (ht : (pc : Int) + off = (tg : Int)) : jOk l E cc own nL rt R pc (o_ifne nx tg) := by
  subst hn
  intro p e s m args below meth c cells slots Q X hcl hsl ls st σ call k r h hC hk he H locs lsc hR hS hL hst hσ
  obtain ⟨hx, hb, hml, hown, hts, hW, hI⟩ := X
  unfold o_ifne at h
  split at h
  · rename_i x rest
    obtain ⟨gx, g2⟩ := List.forall_mem_cons.mp hst
    have gx : j32 x := gx
    have ex : (Int32.ofInt x = 0) ↔ x = 0 := by rw [jof_0, jof_eq gx j32_0]
    refine lv_if_ne hx hb hd ht (fun q => ?_) (fun q => ?_)
    · have q : ¬ (x = 0) := fun z => q (ex.mpr z)
      rw [if_neg q] at h
      exact hk _ _ _ _ h H locs lsc hR hS hL g2 hσ
    · have q : x = 0 := ex.mp q
      rw [if_pos q] at h
      exact hk _ _ _ _ h H locs lsc hR hS hL g2 hσ
  · cases h
theorem ok_iclt {off : Int} (hd : decode cc pc = .ok (.if_icmp .lt off, 3)) (hn : pc + 3 = nx) (ht : (pc : Int) + off = (tg : Int)) : jOk l E cc own nL rt R pc (o_iclt nx tg) := by
  subst hn
  intro p e s m args below meth c cells slots Q X hcl hsl ls st σ call k r h hC hk he H locs lsc hR hS hL hst hσ
  obtain ⟨hx, hb, hml, hown, hts, hW, hI⟩ := X
  unfold o_iclt at h
  split at h
  · rename_i y x rest
    obtain ⟨gy, g1⟩ := List.forall_mem_cons.mp hst
    obtain ⟨gx, g2⟩ := List.forall_mem_cons.mp g1
    have gx : j32 x := gx
    have gy : j32 y := gy
    have ex : (Int32.ofInt x < Int32.ofInt y) ↔ x < y := by rw [jof_lt gx gy]
    refine lv_icmp_lt hx hb hd ht (fun q => ?_) (fun q => ?_)
    · have q : x < y := ex.mp q
      rw [if_pos q] at h
      exact hk _ _ _ _ h H locs lsc hR hS hL g2 hσ
    · have q : ¬ (x < y) := fun z => q (ex.mpr z)
      rw [if_neg q] at h
      exact hk _ _ _ _ h H locs lsc hR hS hL g2 hσ
  · cases h
theorem ok_icge {off : Int} (hd : decode cc pc = .ok (.if_icmp .ge off, 3)) (hn : pc + 3 = nx) (ht : (pc : Int) + off = (tg : Int)) : jOk l E cc own nL rt R pc (o_icge nx tg) := by
  subst hn
  intro p e s m args below meth c cells slots Q X hcl hsl ls st σ call k r h hC hk he H locs lsc hR hS hL hst hσ
  obtain ⟨hx, hb, hml, hown, hts, hW, hI⟩ := X
  unfold o_icge at h
  split at h
  · rename_i y x rest
    obtain ⟨gy, g1⟩ := List.forall_mem_cons.mp hst
    obtain ⟨gx, g2⟩ := List.forall_mem_cons.mp g1
    have gx : j32 x := gx
    have gy : j32 y := gy
    have ex : (Int32.ofInt y ≤ Int32.ofInt x) ↔ y ≤ x := by rw [jof_le gy gx]
    refine lv_icmp_ge hx hb hd ht (fun q => ?_) (fun q => ?_)
    · have q : ¬ (x < y) := by have := ex.mp q; omega
      rw [if_neg q] at h
      exact hk _ _ _ _ h H locs lsc hR hS hL g2 hσ
    · have q : x < y := Int.not_le.mp (fun z => q (ex.mpr z))
      rw [if_pos q] at h
      exact hk _ _ _ _ h H locs lsc hR hS hL g2 hσ
  · cases h
theorem ok_icgt {off : Int} (hd : decode cc pc = .ok (.if_icmp .gt off, 3)) (hn : pc + 3 = nx) (ht : (pc : Int) + off = (tg : Int)) : jOk l E cc own nL rt R pc (o_icgt nx tg) := by
  subst hn
  intro p e s m args below meth c cells slots Q X hcl hsl ls st σ call k r h hC hk he H locs lsc hR hS hL hst hσ
  obtain ⟨hx, hb, hml, hown, hts, hW, hI⟩ := X
  unfold o_icgt at h
  split at h
  · rename_i y x rest
    obtain ⟨gy, g1⟩ := List.forall_mem_cons.mp hst
    obtain ⟨gx, g2⟩ := List.forall_mem_cons.mp g1
    have gx : j32 x := gx
    have gy : j32 y := gy
    have ex : (Int32.ofInt y < Int32.ofInt x) ↔ y < x := by rw [jof_lt gy gx]
    refine lv_icmp_gt hx hb hd ht (fun q => ?_) (fun q => ?_)
    · have q : y < x := ex.mp q
      rw [if_pos q] at h
      exact hk _ _ _ _ h H locs lsc hR hS hL g2 hσ
    · have q : ¬ (y < x) := fun z => q (ex.mpr z)
      rw [if_neg q] at h
      exact hk _ _ _ _ h H locs lsc hR hS hL g2 hσ
  · cases h
theorem ok_icle {off : Int} (hd : decode cc pc = .ok (.if_icmp .le off, 3)) (hn : pc + 3 = nx) (ht : (pc : Int) + off = (tg : Int)) : jOk l E cc own nL rt R pc (o_icle nx tg) := by
  subst hn
  intro p e s m args below meth c cells slots Q X hcl hsl ls st σ call k r h hC hk he H locs lsc hR hS hL hst hσ
  obtain ⟨hx, hb, hml, hown, hts, hW, hI⟩ := X
  unfold o_icle at h
  split at h
  · rename_i y x rest
    obtain ⟨gy, g1⟩ := List.forall_mem_cons.mp hst
    obtain ⟨gx, g2⟩ := List.forall_mem_cons.mp g1
    have gx : j32 x := gx
    have gy : j32 y := gy
    have ex : (Int32.ofInt x ≤ Int32.ofInt y) ↔ x ≤ y := by rw [jof_le gx gy]
    refine lv_icmp_le hx hb hd ht (fun q => ?_) (fun q => ?_)
    · have q : ¬ (y < x) := by have := ex.mp q; omega
      rw [if_neg q] at h
      exact hk _ _ _ _ h H locs lsc hR hS hL g2 hσ
    · have q : y < x := Int.not_le.mp (fun z => q (ex.mpr z))
      rw [if_pos q] at h
      exact hk _ _ _ _ h H locs lsc hR hS hL g2 hσ
  · cases h
theorem ok_iceq {off : Int} (hd : decode cc pc = .ok (.if_icmp .eq off, 3)) (hn : pc + 3 = nx) (ht : (pc : Int) + off = (tg : Int)) : jOk l E cc own nL rt R pc (o_iceq nx tg) := by
  subst hn
  intro p e s m args below meth c cells slots Q X hcl hsl ls st σ call k r h hC hk he H locs lsc hR hS hL hst hσ
  obtain ⟨hx, hb, hml, hown, hts, hW, hI⟩ := X
  unfold o_iceq at h
  split at h
  · rename_i y x rest
    obtain ⟨gy, g1⟩ := List.forall_mem_cons.mp hst
    obtain ⟨gx, g2⟩ := List.forall_mem_cons.mp g1
    have gx : j32 x := gx
    have gy : j32 y := gy
    have ex : (Int32.ofInt x = Int32.ofInt y) ↔ x = y := by rw [jof_eq gx gy]
    refine lv_icmp_eq hx hb hd ht (fun q => ?_) (fun q => ?_)
    · have q : x = y := ex.mp q
      rw [if_pos q] at h
      exact hk _ _ _ _ h H locs lsc hR hS hL g2 hσ
    · have q : ¬ (x = y) := fun z => q (ex.mpr z)
      rw [if_neg q] at h
      exact hk _ _ _ _ h H locs lsc hR hS hL g2 hσ
  · cases h
theorem ok_icne {off : Int} (hd : decode cc pc = .ok (.if_icmp .ne off, 3)) (hn : pc + 3 = nx) (ht : (pc : Int) + off = (tg : Int)) : jOk l E cc own nL rt R pc (o_icne nx tg) := by
  subst hn
  intro p e s m args below meth c cells slots Q X hcl hsl ls st σ call k r h hC hk he H locs lsc hR hS hL hst hσ
  obtain ⟨hx, hb, hml, hown, hts, hW, hI⟩ := X
  unfold o_icne at h
  split at h
  · rename_i y x rest
    obtain ⟨gy, g1⟩ := List.forall_mem_cons.mp hst
    obtain ⟨gx, g2⟩ := List.forall_mem_cons.mp g1
    have gx : j32 x := gx
    have gy : j32 y := gy
    have ex : (Int32.ofInt x = Int32.ofInt y) ↔ x = y := by rw [jof_eq gx gy]
    refine lv_icmp_ne hx hb hd ht (fun q => ?_) (fun q => ?_)
    · have q : ¬ (x = y) := fun z => q (ex.mpr z)
      rw [if_neg q] at h
      exact hk _ _ _ _ h H locs lsc hR hS hL g2 hσ
    · have q : x = y := ex.mp q
      rw [if_pos q] at h
      exact hk _ _ _ _ h H locs lsc hR hS hL g2 hσ
  · cases h
theorem ok_goto {off : Int} (hd : decode cc pc = .ok (.goto off, 3)) (ht : (pc : Int) + off = (tg : Int)) : jOk l E cc own nL rt R pc (o_goto tg) := by
  intro p e s m args below meth c cells slots Q X hcl hsl ls st σ call k r h hC hk he H locs lsc hR hS hL hst hσ
  obtain ⟨hx, hb, hml, hown, hts, hW, hI⟩ := X
  exact lv_goto hx hb hd ht (hk _ _ _ _ h H locs lsc hR hS hL hst hσ)
theorem ok_dup (hd : decode cc pc = .ok (.dup, 1)) (hn : pc + 1 = nx) : jOk l E cc own nL rt R pc (o_dup nx) := by
  subst hn
  intro p e s m args below meth c cells slots Q X hcl hsl ls st σ call k r h hC hk he H locs lsc hR hS hL hst hσ
  obtain ⟨hx, hb, hml, hown, hts, hW, hI⟩ := X
  unfold o_dup at h
  split at h
  · rename_i v rest
    exact lv_dup hx hb hd (jcv_cat hW.2.1 v) (hk _ _ _ _ h H locs lsc hR hS hL (List.forall_mem_cons.mpr ⟨hst v List.mem_cons_self, hst⟩) hσ)
  · cases h
theorem ok_pop (hd : decode cc pc = .ok (.pop, 1)) (hn : pc + 1 = nx) : jOk l E cc own nL rt R pc (o_pop nx) := by
  subst hn
  intro p e s m args below meth c cells slots Q X hcl hsl ls st σ call k r h hC hk he H locs lsc hR hS hL hst hσ
  obtain ⟨hx, hb, hml, hown, hts, hW, hI⟩ := X
  unfold o_pop at h
  split at h
  · rename_i v rest
    exact lv_pop hx hb hd (jcv_cat hW.2.1 v) (hk _ _ _ _ h H locs lsc hR hS hL (fun w hw => hst w (List.mem_cons_of_mem _ hw)) hσ)
  · cases h
def jTs (pc : Nat) (offs : List Int) (ts : List Nat) : Bool := match offs, ts with
  | [], [] => true
  | o :: os, t :: ts => decide ((pc : Int) + o = (t : Int)) && jTs pc os ts
  | _, _ => false
theorem jsw_spec (x : Int) (pc : Nat) (k : Nat → Option jR) (r : jR) (d : Nat) : ∀ (offs : List Int) (ts : List Nat) (lo : Int), jTs pc offs ts = true → jsw x lo ts d k = some r →
    (∃ (i : Nat) (o : Int) (t : Nat), x = lo + i ∧ offs[i]? = some o ∧ (pc : Int) + o = (t : Int) ∧ k t = some r) ∨ ((x < lo ∨ lo + offs.length ≤ x) ∧ k d = some r)
  | [], [], lo, _, h => Or.inr ⟨by simp; omega, h⟩
  | [], _ :: _, _, hT, _ => by cases hT
  | _ :: _, [], _, hT, _ => by cases hT
  | o :: os, t :: ts, lo, hT, h => by
    simp only [jTs, Bool.and_eq_true, decide_eq_true_eq] at hT
    rw [jsw] at h
    by_cases e : x = lo
    · rw [if_pos e] at h
      exact Or.inl ⟨0, o, t, by simp [e], rfl, hT.1, h⟩
    · rw [if_neg e] at h
      rcases jsw_spec x pc k r d os ts (lo + 1) hT.2 h with ⟨i, o', t', h1, h2, h3, h4⟩ | ⟨h1, h2⟩
      · exact Or.inl ⟨i + 1, o', t', by simp; omega, by simpa using h2, h3, h4⟩
      · exact Or.inr ⟨by simp only [List.length_cons]; omega, h2⟩
theorem ok_tsw {dflt lo hi : Int} {offs : Array Int} {len : Nat} {ts : List Nat} {d : Nat} (hd : decode cc pc = .ok (.tableswitch dflt lo hi offs, len)) (hT : jTs pc offs.toList ts = true) (hh : lo + offs.toList.length = hi + 1) (ht : (pc : Int) + dflt = (d : Int)) : jOk l E cc own nL rt R pc (o_tsw lo ts d) := by
  intro p e s m args below meth c cells slots Q X hcl hsl ls st σ call k r h hC hk he H locs lsc hR hS hL hst hσ
  obtain ⟨hx, hb, hml, hown, hts, hW, hI⟩ := X
  unfold o_tsw at h
  split at h
  · rename_i x rest
    obtain ⟨gx, g2⟩ := List.forall_mem_cons.mp hst
    have gx : j32 x := gx
    rcases jsw_spec x pc _ r d _ ts lo hT h with ⟨i, o, t, h1, h2, h3, h4⟩ | ⟨h1, h2⟩
    · have hlt := (List.getElem?_eq_some_iff.mp h2).1
      refine lv_tableIn hx hb hd (by rw [jof_toInt gx]; omega) (by rw [jof_toInt gx]; omega) (off := o) ?_ h3 (hk _ _ _ _ h4 H locs lsc hR hS hL g2 hσ)
      rw [jof_toInt gx, show (x - lo).toNat = i by omega, ← Array.getElem?_toList]
      exact h2
    · refine lv_tableOut hx hb hd (by rw [jof_toInt gx]; omega) ht (hk _ _ _ _ h2 H locs lsc hR hS hL g2 hσ)
  · cases h
end OPS
