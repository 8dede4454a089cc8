/-! calls, answers, and the whole: what a run of the small machine answers the machine answers -/
section CALL
variable {l : Launch} {E : jE} {p : Program} {e : Env} {R : Room} {s : State} {m : MethodId} {args : Array Value} {below : List Frame} {meth : Method} {c : Code} {H : Heap} {locs : List Loc} {cells slots : Nat} {Q : State → Prop}
theorem j_call {pc : Nat} {ls : Array Slot} {rest st0 : List Value} {a : Array Value} {r : jR} (hr : va_Run p l e R s m args below meth c H locs cells slots 0 0 (F0 m pc ls st0) rest (jQc E r a) (jA E)) (hS : va_S (jA E) s.heap H locs)
    (kk : ∀ (H1 : Heap) (locs1 : List Loc), jRel E r.2 H1 → va_S (jA E) s.heap H1 locs1 → (∀ v, r.1 = some v → jgd v) → jRng r.2 → W p l e R s m args below meth c H1 locs1 cells slots Q (F0 m (pc + 3) ls ((r.1.map (jcv E)).toList ++ rest))) : W p l e R s m args below meth c H locs cells slots Q (F0 m pc ls st0) := by
  intro T hT X
  obtain ⟨v, st₀, t, T', L, h0, X', hL, e1, e2, ⟨hv, hRel, ⟨hz, hk⟩, hg1, hg2⟩, st⟩ := hr T hT X
  cases hv
  rw [h0] at hz hk
  obtain ⟨t2, a1, b1⟩ := kk T'.heap (locs ++ L) (by rw [e1]; exact hRel)
    ⟨Nat.le_trans hS.1 (by rw [e1]; exact hz), fun q h1 h2 => by rw [e1, hk q (Nat.lt_of_lt_of_le h1 hS.1) h2]; exact hS.2.1 q h1 h2, fun q hq => by
      rcases List.mem_append.mp hq with h | h
      · exact hS.2.2 q h
      · exact hL q h⟩ hg1 hg2 T' rfl X'
  exact ⟨t2, st t2 a1, b1⟩
end CALL
theorem jblind (E : jE) (as : List jV) (σ : jM) : FrameBlind (jPc E as σ) := fun a U g mk q => ⟨q.1, q.2.1, jWd.moved (s := U) (U := U.calling g mk a) (State.WarmedH.refl U) q.2.2⟩
def jYok (y n : Nat) : Prop := Cond.code (jnm y) (jby y) (jml y) (jrt y) ∈ jgt ∧ Cond.initialized (jnm y).cls ∈ jgt ∧ ((jnm y).cls ≠ "java/lang/invoke/MethodHandle" ∧ (jnm y).cls ≠ "java/lang/invoke/VarHandle") ∧ (parseMethodDescriptor (jnm y).desc).map (fun d => d.parameters.length) = some n ∧ (jrm y).cells = 0 ∧ (jrm y).slots = 0
def jRoom (R : Room) (y : Nat) : Prop := (jrm y).frames + 1 ≤ R.frames ∧ 8 + (jml y + 11) + (jrm y).locals ≤ R.locals
/-- how an instruction calls a method: 0 static, 1 static of a nest mate, 2 of an object, 3 of a nest mate's object -/
def jLnk (R : Room) (own : String) (cc : ByteArray) (pc y n rk : Nat) : Prop := (jRoom R y ∧ n ≤ jml y) ∧
  ((rk = 99 ∧ jYok y n ∧ Cond.static (jnm y) ∈ jgt ∧ ∃ idx, decode cc pc = .ok (.invokestatic idx, 3) ∧ (Cond.methodLink own idx (jnm y) ∈ jgt ∨ ∃ host, Cond.methodLinkNest own idx (jnm y) host ∈ jnest)) ∨
   (∃ n', n = n' + 1 ∧ jYok y n' ∧ Cond.instanceMethod (jnm y) ∈ jgt ∧ Cond.selects (jnm y).cls (jnm y) (jnm y) ∈ jgt ∧ ((rk < 12 ∧ ∃ T N, vwCl[rk]? = some ((jnm y).cls, T, N)) ∨ (rk = 73 ∧ (jnm y).cls = "java/lang/String")) ∧
      ∃ idx, decode cc pc = .ok (.invokevirtual idx, 3) ∧ (Cond.methodLink own idx (jnm y) ∈ jgt ∨ ∃ host, Cond.methodLinkNest own idx (jnm y) host ∈ jnest)))
theorem jgt_good : GoodIn jgt jgt := fun w h => ⟨h, good_of_word (List.mem_filter.mp h).2⟩
theorem jws_good {y : Nat} (h : Cond.code (jnm y) (jby y) (jml y) (jrt y) ∈ jgt) : GoodIn jgt (jws y) := by
  intro w hw
  rcases List.mem_cons.mp hw with rfl | hw
  · exact jgt_good _ h
  · exact jgt_good _ hw
section CALL2
variable {l : Launch} {E : jE} {p : Program} {e : Env} {R : Room} {s : State} {m : MethodId} {args : Array Value} {below : List Frame} {meth : Method} {c : Code} {H : Heap} {locs : List Loc} {cells slots : Nat} {cc : ByteArray} {own : String} {nL : Nat} {pc : Nat}
theorem j_run {y n rk : Nat} (hL : jLnk R own cc pc y n rk) (X : jX E p s m args meth c cc own nL) (hcl : cells ≤ R.cells) (hsl : slots ≤ R.slots) {lsc : Array Slot} (hls : lsc.size = nL) {st : List jV} {σ : jM} {r : jR} (hok : jcok rk n st = true) (hst : ∀ v ∈ st, jgd v) (hM : jMet l E y (st.take n).reverse σ r) (hR : jRel E σ H) (hS : va_S (jA E) s.heap H locs) :
    va_Run p l e R s m args below meth c H locs cells slots 0 0 (F0 m pc lsc (st.map (jcv E))) ((st.drop n).map (jcv E)) (jQc E r (((st.take n).reverse.map (jcv E)).toArray)) (jA E) := by
  obtain ⟨hx, hb, hml, hown, hts, hW, hI⟩ := X
  obtain ⟨⟨⟨hf1, hf2⟩, -⟩, hL⟩ := hL
  obtain ⟨ho1, ho2⟩ := Bool.and_eq_true_iff.mp hok
  obtain ⟨ho3, ho4⟩ := Bool.and_eq_true_iff.mp ho1
  have hn : n ≤ st.length := Nat.le_of_ble_eq_true ho3
  have hr8 : (st.drop n).length ≤ 8 := Nat.le_of_ble_eq_true ho4
  have hroom : 2 * (F0 m pc lsc (st.map (jcv E))).monitorRoom + (((st.drop n).map (jcv E)).map fun v => v.category).sum ≤ 8 := by
    have : ∀ l : List jV, ((l.map (jcv E)).map fun v => v.category).sum = l.length := by
      intro l
      induction l with
      | nil => rfl
      | cons a b ih => rw [List.map_cons, List.map_cons, List.sum_cons, ih, jcv_cat hW.2.1, List.length_cons]; omega
    rw [this]
    show 2 * 0 + _ ≤ 8
    omega
  have hPc : ∀ U : State, U.heap = H → s.WarmedH U.vm → jPc E (st.take n).reverse σ (((st.take n).reverse.map (jcv E)).toArray) U := fun U hU hWU => by
    refine ⟨rfl, by rw [hU]; exact hR, ?_⟩
    rw [hU]
    exact (jWd.moved hWU hW).kept (fun a h1 h2 => hS.2.1 a h1 h2)
  have hlen : (st.take n).length = n := by rw [List.length_take]; omega
  have hsplit : st.map (jcv E) = ((st.take n).map (jcv E)) ++ ((st.drop n).map (jcv E)) := by rw [← List.map_append, List.take_append_drop]
  rcases hL with ⟨rfl, hY, hst2, idx, hd, hl⟩ | ⟨n', rfl, hY, hin, hsel, hcls, idx, hd, hl⟩
  · obtain ⟨y1, y2, y3, y4, y5, y6⟩ := hY
    have hstack : (F0 m pc lsc (st.map (jcv E))).stack = (((st.take n).reverse).map (jcv E)).reverse ++ ((st.drop n).map (jcv E)) := by
      show st.map (jcv E) = _
      rw [← List.map_reverse, List.reverse_reverse]
      exact hsplit
    have hAs : (((st.take n).reverse).map (jcv E)).length = n := by rw [List.length_map, List.length_reverse]; exact hlen
    rcases hl with hl | ⟨host, hl⟩
    · exact va_runS (bytes := jby y) (maxL := jml y) (ret := jrt y) ⟨hx, hb, hml, hown, hts⟩ hM ⟨callB_of n hts (jws_good y1) rfl y5 y6 (hts _ y2) (hts _ hl) ⟨y3.1, y3.2, y4⟩ ⟨hf1, hf2⟩, hts _ hst2⟩ ⟨jblind E _ σ, hPc⟩ rfl hAs hls hstack hroom hd ⟨hcl, hsl⟩
    · exact va_runSN (bytes := jby y) (maxL := jml y) (ret := jrt y) ⟨hx, hb, hml, hown, hts⟩ hM ⟨va_cnB n hts (jws_good y1) rfl y5 y6 (hW.2.2.2.2.2.2.2.2.1 _ hl) (hts _ y2) ⟨y3.1, y3.2, y4⟩ ⟨hf1, hf2⟩, hts _ hst2, trivial⟩ ⟨jblind E _ σ, hPc⟩ rfl hAs hls hstack hroom hd ⟨hcl, hsl⟩
  · obtain ⟨y1, y2, y3, y4, y5, y6⟩ := hY
    have hrk : jrk rk (st.take (n' + 1)).reverse = true := by
      rcases Bool.or_eq_true_iff.mp ho2 with h | h
      · exfalso
        have := jbeq h
        rcases hcls with ⟨h1, -⟩ | ⟨h1, -⟩ <;> omega
      · exact h
    obtain ⟨q, i, as1, hrev, hq⟩ : ∃ q i as1, (st.take (n' + 1)).reverse = .inr (q, i) :: as1 ∧ q = rk := by
      cases hz : (st.take (n' + 1)).reverse with
      | nil => rw [hz] at hrk; cases hrk
      | cons a b =>
        rw [hz] at hrk
        match a with
        | .inl x => cases hrk
        | .inr (q, i) => exact ⟨q, i, b, rfl, jbeq hrk⟩
    subst hq
    have hgd : jgd (.inr (q, i)) := hst _ (List.mem_of_mem_take (List.mem_reverse.mp (by rw [hrev]; exact List.mem_cons_self)))
    have hgd : i < jcnt q := hgd
    have h5 : Nat.beq q 75 = false := by
      cases h5 : Nat.beq q 75 with
      | false => rfl
      | true =>
        have := jbeq h5
        rcases hcls with ⟨h1, -⟩ | ⟨h1, -⟩ <;> omega
    have hAs : (as1.map (jcv E)).length = n' := by
      have := congrArg List.length hrev
      rw [List.length_reverse, hlen, List.length_cons] at this
      rw [List.length_map]
      omega
    have hst3 : st.take (n' + 1) = as1.reverse ++ [.inr (q, i)] := by
      rw [← List.reverse_reverse (st.take (n' + 1)), hrev, List.reverse_cons]
    have hstack : (F0 m pc lsc (st.map (jcv E))).stack = (as1.map (jcv E)).reverse ++ .ref (E.2.2.1 q i) :: ((st.drop (n' + 1)).map (jcv E)) := by
      show st.map (jcv E) = _
      rw [hsplit, hst3, List.map_append, List.map_reverse, List.append_assoc, List.map_cons, List.map_nil, jcv_ref h5]
      rfl
    have hA2 : ((st.take (n' + 1)).reverse.map (jcv E)) = .ref (E.2.2.1 q i) :: as1.map (jcv E) := by rw [hrev, List.map_cons, jcv_ref h5]
    rw [hA2] at hPc ⊢
    have hrecv : ∃ cellB : Cell, H[E.2.2.1 q i]? = some cellB ∧ cellB.vm.isStatics = false ∧ s.vm.findClass (jnm y).cls = some cellB.cls := by
      rcases hcls with ⟨h1, T, N, hc⟩ | ⟨rfl, hc⟩
      · have hk : Nat.blt q 12 = true := Nat.ble_eq_true_of_le h1
        have he := jWL_at E σ (jlt58 hk) hgd
        rw [jcell_obj hk] at he
        exact va_recv hW.1 hR.1 hc he
      · obtain ⟨cell, h1, h2, h3, -⟩ := (hW.2.2.2.2.2.2.1 i hgd).1.kept hS.2.1
        exact ⟨cell, h1, h2, by rw [hc]; exact h3⟩
    rcases hl with hl | ⟨host, hl⟩
    · exact va_runV (bytes := jby y) (maxL := jml y) (ret := jrt y) (C := (jnm y).cls) ⟨hx, hb, hml, hown, hts⟩ hM ⟨callB_of n' hts (jws_good y1) rfl y5 y6 (hts _ y2) (hts _ hl) ⟨y3.1, y3.2, y4⟩ ⟨hf1, hf2⟩, hts _ hin, hts _ hsel⟩ ⟨jblind E _ σ, hrecv, hPc⟩ rfl hAs hls hstack hroom hd ⟨hcl, hsl⟩
    · exact va_runVN (bytes := jby y) (maxL := jml y) (ret := jrt y) (C := (jnm y).cls) ⟨hx, hb, hml, hown, hts⟩ hM ⟨va_cnB n' hts (jws_good y1) rfl y5 y6 (hW.2.2.2.2.2.2.2.2.1 _ hl) (hts _ y2) ⟨y3.1, y3.2, y4⟩ ⟨hf1, hf2⟩, hts _ hin, hts _ hsel⟩ ⟨jblind E _ σ, hrecv, hPc⟩ rfl hAs hls hstack hroom hd ⟨hcl, hsl⟩
end CALL2
section CALL3
variable {l : Launch} {E : jE} {cc : ByteArray} {own : String} {nL : Nat} {rt : Option FieldType} {R : Room} {pc nx : Nat}
theorem jgd_args {n : Nat} {st : List jV} (hst : ∀ v ∈ st, jgd v) : ∀ v ∈ (st.take n).reverse, jgd v := fun v hv => hst v (List.mem_of_mem_take (List.mem_reverse.mp hv))
theorem ok_calI {y n rk : Nat} (hL : jLnk R own cc pc y n rk) (hn : pc + 3 = nx) : jOk l E cc own nL rt R pc (o_calI nx y n rk) := by
  subst hn
  intro p e s m args below meth c cells slots Q X hcl hsl ls st σ call k r h hC hk2 he H locs lsc hR hS hLs hst hσ
  unfold o_calI at h
  cases hok : jcok rk n st with
  | false => rw [hok, cond_false] at h; cases h
  | true =>
    rw [hok, cond_true] at h
    cases hc : call y (st.take n).reverse σ with
    | none => rw [hc] at h; cases h
    | some r1 =>
      rw [hc] at h
      have hM := hC _ _ _ _ hc (jgd_args hst) hσ (by rw [List.length_reverse, List.length_take]; exact Nat.le_trans (Nat.min_le_left _ _) hL.1.2)
      match r1, h, hM with
      | (none, s1), h, _ => cases h
      | (some (.inr x), s1), h, _ => cases h
      | (some (.inl x), s1), h, hM =>
        exact j_call (j_run hL X hcl hsl hLs.2.1.1 hok hst hM hR hS) hS (fun H1 locs1 hR1 hS1 hg hr => hk2 _ _ _ _ h H1 locs1 lsc hR1 hS1 hLs (List.forall_mem_cons.mpr ⟨hg _ rfl, fun v hv => hst v (List.mem_of_mem_drop hv)⟩) hr)
theorem ok_calV {y n rk : Nat} (hL : jLnk R own cc pc y n rk) (hn : pc + 3 = nx) : jOk l E cc own nL rt R pc (o_calV nx y n rk) := by
  subst hn
  intro p e s m args below meth c cells slots Q X hcl hsl ls st σ call k r h hC hk2 he H locs lsc hR hS hLs hst hσ
  unfold o_calV at h
  cases hok : jcok rk n st with
  | false => rw [hok, cond_false] at h; cases h
  | true =>
    rw [hok, cond_true] at h
    cases hc : call y (st.take n).reverse σ with
    | none => rw [hc] at h; cases h
    | some r1 =>
      rw [hc] at h
      have hM := hC _ _ _ _ hc (jgd_args hst) hσ (by rw [List.length_reverse, List.length_take]; exact Nat.le_trans (Nat.min_le_left _ _) hL.1.2)
      match r1, h, hM with
      | (some x, s1), h, _ => cases h
      | (none, s1), h, hM =>
        exact j_call (j_run hL X hcl hsl hLs.2.1.1 hok hst hM hR hS) hS (fun H1 locs1 hR1 hS1 hg hr => hk2 _ _ _ _ h H1 locs1 lsc hR1 hS1 hLs (fun v hv => hst v (List.mem_of_mem_drop hv)) hr)
theorem ok_calR {y n rk kt : Nat} (hL : jLnk R own cc pc y n rk) (hn : pc + 3 = nx) : jOk l E cc own nL rt R pc (o_calR nx y n rk kt) := by
  subst hn
  intro p e s m args below meth c cells slots Q X hcl hsl ls st σ call k r h hC hk2 he H locs lsc hR hS hLs hst hσ
  unfold o_calR at h
  cases hok : jcok rk n st with
  | false => rw [hok, cond_false] at h; cases h
  | true =>
    rw [hok, cond_true] at h
    cases hc : call y (st.take n).reverse σ with
    | none => rw [hc] at h; cases h
    | some r1 =>
      rw [hc] at h
      have hM := hC _ _ _ _ hc (jgd_args hst) hσ (by rw [List.length_reverse, List.length_take]; exact Nat.le_trans (Nat.min_le_left _ _) hL.1.2)
      match r1, h, hM with
      | (none, s1), h, _ => cases h
      | (some (.inl x), s1), h, _ => cases h
      | (some (.inr (q, i)), s1), h, hM =>
        cases hq : Nat.beq q kt with
        | false => rw [show jbR (some (some (.inr (q, i)), s1)) kt _ = bif Nat.beq q kt then _ else _ from rfl, hq, cond_false] at h; cases h
        | true =>
          rw [show jbR (some (some (.inr (q, i)), s1)) kt _ = bif Nat.beq q kt then _ else _ from rfl, hq, cond_true] at h
          have hq := jbeq hq
          subst hq
          exact j_call (j_run hL X hcl hsl hLs.2.1.1 hok hst hM hR hS) hS (fun H1 locs1 hR1 hS1 hg hr => hk2 _ _ _ _ h H1 locs1 lsc hR1 hS1 hLs (List.forall_mem_cons.mpr ⟨hg _ rfl, fun v hv => hst v (List.mem_of_mem_drop hv)⟩) hr)
theorem jsum {E : jE} (hz : E.2.2.2.1 = .null ∨ ∃ t, E.2.2.2.1 = .ref t) (l : List jV) : ((l.map (jcv E)).map fun v => v.category).sum = l.length := by
  induction l with
  | nil => rfl
  | cons a b ih => rw [List.map_cons, List.map_cons, List.sum_cons, ih, jcv_cat hz, List.length_cons]; omega
theorem ok_min {idx : Nat} (hd : decode cc pc = .ok (.invokestatic idx, 3)) (hn : pc + 3 = nx) (hl : Cond.methodLink own idx Lib.Math.min.name ∈ jgt) (h2 : Cond.static Lib.Math.min.name ∈ jgt) (h3 : Cond.initialized "java/lang/Math" ∈ jgt) (h4 : Cond.code Lib.Math.min.name Lib.Math.min.code 2 (some .int) ∈ jgt) (hf : 1 ≤ R.frames) (hlo : 21 ≤ R.locals) : jOk l E cc own nL rt R pc (o_min nx) := by
  subst hn
  intro p e s m args below meth c cells slots Q X hcl hsl ls st σ call k r h hC hk2 he H locs lsc hR hS hLs hst hσ
  obtain ⟨hx, hb, hml, hown, hts, hW, hI⟩ := X
  unfold o_min at h
  split at h
  · rename_i y x rest
    obtain ⟨gy, g1⟩ := List.forall_mem_cons.mp hst
    obtain ⟨gx, g2⟩ := List.forall_mem_cons.mp g1
    have gx : j32 x := gx
    have gy : j32 y := gy
    cases h8 : Nat.ble rest.length 8 with
    | false => rw [h8, cond_false] at h; cases h
    | true =>
      rw [h8, cond_true] at h
      have h8 := Nat.le_of_ble_eq_true h8
      have := hk2 _ _ _ _ h H locs lsc hR hS hLs (List.forall_mem_cons.mpr ⟨show j32 (if y < x then y else x) by split <;> assumption, g2⟩) hσ
      refine va_mmin hx hb (by rw [hml]; exact hLs.2.1.1.symm) hown (hts _ hl) (hts _ h2) (hts _ h3) (hts _ h4) hf (by rw [jsum hW.2.1]; omega) hcl hsl hd ?_
      rw [List.map_cons, show jcv E (.inl (if y < x then y else x)) = .int (if Int32.ofInt y < Int32.ofInt x then Int32.ofInt y else Int32.ofInt x) from ?_] at this
      · exact this
      · show Value.int _ = _
        by_cases z : y < x
        · rw [if_pos z, if_pos ((jof_lt gy gx).mpr z)]
        · rw [if_neg z, if_neg (fun q => z ((jof_lt gy gx).mp q))]
  · cases h
theorem ok_max {idx : Nat} (hd : decode cc pc = .ok (.invokestatic idx, 3)) (hn : pc + 3 = nx) (hl : Cond.methodLink own idx Lib.Math.max.name ∈ jgt) (h2 : Cond.static Lib.Math.max.name ∈ jgt) (h3 : Cond.initialized "java/lang/Math" ∈ jgt) (h4 : Cond.code Lib.Math.max.name Lib.Math.max.code 2 (some .int) ∈ jgt) (hf : 1 ≤ R.frames) (hlo : 21 ≤ R.locals) : jOk l E cc own nL rt R pc (o_max nx) := by
  subst hn
  intro p e s m args below meth c cells slots Q X hcl hsl ls st σ call k r h hC hk2 he H locs lsc hR hS hLs hst hσ
  obtain ⟨hx, hb, hml, hown, hts, hW, hI⟩ := X
  unfold o_max at h
  split at h
  · rename_i y x rest
    obtain ⟨gy, g1⟩ := List.forall_mem_cons.mp hst
    obtain ⟨gx, g2⟩ := List.forall_mem_cons.mp g1
    have gx : j32 x := gx
    have gy : j32 y := gy
    cases h8 : Nat.ble rest.length 8 with
    | false => rw [h8, cond_false] at h; cases h
    | true =>
      rw [h8, cond_true] at h
      have h8 := Nat.le_of_ble_eq_true h8
      have := hk2 _ _ _ _ h H locs lsc hR hS hLs (List.forall_mem_cons.mpr ⟨show j32 (if x < y then y else x) by split <;> assumption, g2⟩) hσ
      refine va_mmax hx hb (by rw [hml]; exact hLs.2.1.1.symm) hown (hts _ hl) (hts _ h2) (hts _ h3) (hts _ h4) hf (by rw [jsum hW.2.1]; omega) hcl hsl hd ?_
      rw [List.map_cons, show jcv E (.inl (if x < y then y else x)) = .int (if Int32.ofInt x < Int32.ofInt y then Int32.ofInt y else Int32.ofInt x) from ?_] at this
      · exact this
      · show Value.int _ = _
        by_cases z : x < y
        · rw [if_pos z, if_pos ((jof_lt gx gy).mpr z)]
        · rw [if_neg z, if_neg (fun q => z ((jof_lt gx gy).mp q))]
  · cases h
theorem jcp_rng {σ : jM} (h : jRng σ) (k i0 i1 n : Nat) : jRng (jcp σ k i0 i1 n) := by
  intro a b c
  unfold jcp
  split
  · exact h _ _ _
  · exact h _ _ _
theorem ok_copy {idx kd n : Nat} (hd : decode cc pc = .ok (.invokestatic idx, 3)) (hn : pc + 3 = nx) (hk : Nat.blt kd 12 = false) (hN : kd < jNK) (hr : (jref kd).isNone = true) (hln : jiln kd = n) (h32 : j32 (n : Int)) (hl : Cond.methodLink own idx arraycopyName ∈ jgt) (h2 : Cond.native arraycopyName ∈ jgt) (h3 : Cond.static arraycopyName ∈ jgt) (h4 : Cond.initialized "java/lang/System" ∈ jgt) (hf : 1 ≤ R.frames) (hlo : 40 ≤ R.locals) : jOk l E cc own nL rt R pc (o_copy nx kd n) := by
  subst hn
  subst hln
  intro p e s m args below meth c cells slots Q X hcl hsl ls st σ call k r h hC hk2 he H locs lsc hR hS hLs hst hσ
  obtain ⟨hx, hb, hml, hown, hts, hW, hI⟩ := X
  unfold o_copy at h
  split at h
  · rename_i m0 dp q1 i1 sp q0 i0
    have g0 : i0 < jcnt q0 := hst (.inr (q0, i0)) (by simp)
    have g1 : i1 < jcnt q1 := hst (.inr (q1, i1)) (by simp)
    cases hq : (Nat.beq q0 kd && Nat.beq q1 kd) with
    | false => rw [hq, cond_false] at h; cases h
    | true =>
      rw [hq, cond_true] at h
      obtain ⟨hqa, hqb⟩ := Bool.and_eq_true_iff.mp hq
      have hqa := jbeq hqa
      have hqb := jbeq hqb
      subst hqa
      subst hqb
      by_cases hz : sp = 0 ∧ dp = 0 ∧ m0 = (jiln q1 : Int)
      · rw [if_pos hz] at h
        obtain ⟨rfl, rfl, rfl⟩ := hz
        have h5 : Nat.beq q1 75 = false := by
          cases h5 : Nat.beq q1 75 with
          | false => rfl
          | true => rw [jbeq h5] at hN; exact absurd hN (by decide)
        have he0 := jWL_at E σ hN g0
        have he1 := jWL_at E σ hN g1
        rw [jcell_int hk hr] at he0 he1
        have hnn : (Int32.ofInt (jiln q1 : Int)).toNatClampNeg = jiln q1 := by rw [jof_nat h32]; rfl
        have h00 : (Int32.ofInt 0).toNatClampNeg = 0 := rfl
        show W _ _ _ _ _ _ _ _ _ _ _ _ _ _ _ (F0 m pc lsc [.int (Int32.ofInt (jiln q1 : Int)), .int (Int32.ofInt 0), jcv E (.inr (q1, i1)), .int (Int32.ofInt 0), jcv E (.inr (q1, i0))])
        rw [jcv_ref h5, jcv_ref h5]
        refine va_copyi hx hb (by rw [hml]; exact hLs.2.1.1.symm) hown (hts _ hl) (hts _ h2) (hts _ h3) (hts _ h4) hW.1 hR.1 (jWL_D hI σ) hS (jpos q1 i0) (jpos q1 i1) 0 0 he0 he1 rfl rfl rfl (ty := .int) (sp := Int32.ofInt 0) (dp := Int32.ofInt 0) (n := Int32.ofInt (jiln q1 : Int)) (by decide) (by decide) ?_ (by rw [hnn, h00]; omega) (by rw [hnn, h00]; omega) (fun _ _ => rfl) hf ?_ hd (fun H1 locs1 hP1 hD1 hS1 => ?_)
        · rw [jof_0, jof_lt h32 j32_0]; omega
        · show 0 + (nativeFrameWords "java/lang/System" "arraycopy" 5 + 11) ≤ R.locals
          have : nativeFrameWords "java/lang/System" "arraycopy" 5 + 11 ≤ 40 := by decide
          omega
        · rw [hnn, h00] at hP1
          refine hk2 _ _ _ _ h H1 locs1 lsc ⟨?_, ?_⟩ hS1 hLs (fun v hv => nomatch hv) (jcp_rng hσ q1 i0 i1 (jiln q1))
          · rw [← jWL_set (σ := σ) (σ' := jcp σ q1 i0 i1 (jiln q1)) (k := q1) (i := i1) hN g1 (show jcell E (jcp σ q1 i0 i1 (jiln q1) q1 i1) q1 i1 = _ from ?_) ?_]
            · exact hP1
            · rw [jcell_int hk hr]
              refine congrArg (fun z => (.inl (E.2.1 0, jiln q1, .inl z) : va_E)) (funext fun j => ?_)
              show Int32.ofInt (if q1 = q1 ∧ i1 = i1 ∧ j < jiln q1 then σ q1 i0 j else σ q1 i1 j) = if 0 ≤ j ∧ j < 0 + jiln q1 then Int32.ofInt (σ q1 i0 (0 + (j - 0))) else Int32.ofInt (σ q1 i1 j)
              by_cases hj : j < jiln q1
              · rw [if_pos ⟨rfl, rfl, hj⟩, if_pos ⟨Nat.zero_le _, by omega⟩, Nat.zero_add, Nat.sub_zero]
              · rw [if_neg (fun z => hj z.2.2), if_neg (fun z => hj (by omega))]
            · intro k' i' hne
              funext j
              show (if k' = q1 ∧ i' = i1 ∧ j < jiln q1 then σ q1 i0 j else σ k' i' j) = σ k' i' j
              exact if_neg (fun z => hne ⟨z.1, z.2.1⟩)
          · have hne : ∀ a b, jcp σ q1 i0 i1 (jiln q1) 72 a b = σ 72 a b := fun a b => by
              rw [jcp_ne (q := 72) (fun e => by rw [← e] at hN; exact absurd hN (by decide))]
            exact ⟨by rw [hne]; exact hR.2.1, fun a ha => by rw [hne]; exact hR.2.2 a ha⟩
      · rw [if_neg hz] at h; cases h
  · cases h
/-! answers -/
theorem ok_retI (hd : decode cc pc = .ok (.ireturn, 1)) (hr : rt = some .int) : jOk l E cc own nL rt R pc o_retI := by
  intro p e s m args below meth c cells slots Q X hcl hsl ls st σ call k r h hC hk2 he H locs lsc hR hS hLs hst hσ
  unfold o_retI at h
  split at h
  · rename_i v
    cases h
    exact he pc H locs lsc hR hS hσ (fun w hw => by cases hw; exact hst _ List.mem_cons_self) ⟨hd, .int, hr, rfl⟩
  · cases h
theorem ok_retA {ty : FieldType} (hd : decode cc pc = .ok (.areturn, 1)) (hr : rt = some ty) (ht : (∃ n, ty = .object n) ∨ ∃ t, ty = .array t) : jOk l E cc own nL rt R pc o_retA := by
  intro p e s m args below meth c cells slots Q X hcl hsl ls st σ call k r h hC hk2 he H locs lsc hR hS hLs hst hσ
  unfold o_retA at h
  split at h
  · rename_i q i
    cases h5 : Nat.beq q 75 with
    | true => rw [h5, cond_true] at h; cases h
    | false =>
      rw [h5, cond_false] at h
      cases h
      exact he pc H locs lsc hR hS hσ (fun w hw => by cases hw; exact hst _ List.mem_cons_self) ⟨hd, h5, ty, hr, ht⟩
  · cases h
theorem ok_vret (hd : decode cc pc = .ok (.return_, 1)) (hr : rt = none) : jOk l E cc own nL rt R pc o_vret := by
  intro p e s m args below meth c cells slots Q X hcl hsl ls st σ call k r h hC hk2 he H locs lsc hR hS hLs hst hσ
  unfold o_vret at h
  split at h
  · cases h
    exact he pc H locs lsc hR hS hσ (fun w hw => by cases hw) ⟨hd, hr⟩
  · cases h
theorem ok_retZ (hd : decode cc pc = .ok (.ireturn, 1)) (hr : rt = some .boolean) : jOk l E cc own nL rt R pc o_retZ := by
  intro p e s m args below meth c cells slots Q X hcl hsl ls st σ call k r h hC hk2 he H locs lsc hR hS hLs hst hσ
  unfold o_retZ at h
  split at h
  · rename_i v
    by_cases z : v = 0 ∨ v = 1
    · rw [if_pos z] at h
      cases h
      refine he pc H locs lsc hR hS hσ (fun w hw => by cases hw; exact hst _ List.mem_cons_self) ⟨hd, .boolean, hr, ?_⟩
      rcases z with rfl | rfl <;> rfl
    · rw [if_neg z] at h; cases h
  · cases h
theorem jnar7 (v : Int) (h : 0 ≤ v ∧ v ≤ 127) : narrow .byte (.int (Int32.ofInt v)) = .int (Int32.ofInt v) ∧ narrow .char (.int (Int32.ofInt v)) = .int (Int32.ofInt v) := by
  have h0 : ∀ n : Fin 128, narrow .byte (.int (Int32.ofNat n)) = .int (Int32.ofNat n) ∧ narrow .char (.int (Int32.ofNat n)) = .int (Int32.ofNat n) := by decide +kernel
  have h1 := h0 ⟨v.toNat, by omega⟩
  have e : Int32.ofNat v.toNat = Int32.ofInt v := by rw [← Int32.ofInt_eq_ofNat, Int.toNat_of_nonneg h.1]
  rw [e] at h1
  exact h1
theorem ok_retB (hd : decode cc pc = .ok (.ireturn, 1)) (hr : rt = some .byte ∨ rt = some .char) : jOk l E cc own nL rt R pc (o_retB 0 127) := by
  intro p e s m args below meth c cells slots Q X hcl hsl ls st σ call k r h hC hk2 he H locs lsc hR hS hLs hst hσ
  unfold o_retB at h
  split at h
  · rename_i v
    by_cases z : 0 ≤ v ∧ v ≤ 127
    · rw [if_pos z] at h
      cases h
      refine he pc H locs lsc hR hS hσ (fun w hw => by cases hw; exact hst _ List.mem_cons_self) ⟨hd, ?_⟩
      rcases hr with hr | hr
      · exact ⟨.byte, hr, (jnar7 v z).1⟩
      · exact ⟨.char, hr, (jnar7 v z).2⟩
    · rw [if_neg z] at h; cases h
  · cases h
end CALL3
/-! the whole -/
section SOUND
variable {l : Launch} {E : jE} {C : Nat → Nat → jO}
def jAll (l : Launch) (E : jE) (C : Nat → Nat → jO) : Prop := ∀ y pc, jOk l E (jby y) (jnm y).cls (jml y) (jrt y) (jrm y) pc (C y pc)
def jRet (y : Nat) : Prop := plainName (jnm y).cls = true
theorem jargs1 (E : jE) (hz : E.2.2.2.1 = .null ∨ ∃ t, E.2.2.2.1 = .ref t) : ∀ (as : List jV) (i : Nat), (lg_sl (as.map (jcv E))).length = as.length ∧ ∀ q, q ∈ lv_args i (as.map (jcv E)) ↔ ∃ j v, q.1 = i + j ∧ as[j]? = some v ∧ q.2 = jcv E v
  | [], i => ⟨rfl, fun q => ⟨fun h => (by cases h), fun ⟨j, v, h1, h2, h3⟩ => (by simp at h2)⟩⟩
  | v :: vs, i => by
    have hc : ¬ (jcv E v).category = 2 := by rw [jcv_cat hz]; decide
    obtain ⟨h1, h2⟩ := jargs1 E hz vs (i + 1)
    refine ⟨?_, fun q => ?_⟩
    · rw [List.map_cons, lg_sl, List.flatMap_cons, if_neg hc, List.length_append, List.length_cons, List.length_cons, List.length_nil]
      have h1 : (List.flatMap (fun v => if v.category = 2 then [Slot.val v, Slot.second] else [Slot.val v]) (vs.map (jcv E))).length = vs.length := h1
      omega
    · rw [List.map_cons, lv_args, if_neg hc, List.mem_cons, h2 q]
      constructor
      · rintro (rfl | ⟨j, w, e1, e2, e3⟩)
        · exact ⟨0, v, rfl, rfl, rfl⟩
        · exact ⟨j + 1, w, by omega, by simpa using e2, e3⟩
      · rintro ⟨j, w, e1, e2, e3⟩
        cases j with
        | zero =>
          left
          cases e2
          obtain ⟨a, b⟩ := q
          simp only at e1 e3
          subst e1
          subst e3
          rfl
        | succ j => exact Or.inr ⟨j, w, by omega, by simpa using e2, e3⟩
theorem jArgs (E : jE) (as : List jV) (n : Nat) (h : as.length ≤ n) (hz : E.2.2.2.1 = .null ∨ ∃ t, E.2.2.2.1 = .ref t) : (lg_sl (as.map (jcv E))).length = as.length ∧ ∀ q, q ∈ lv_args 0 (as.map (jcv E)) ↔ ∃ v, as[q.1]? = some v ∧ q.2 = jcv E v := by
  obtain ⟨h1, h2⟩ := jargs1 E hz as 0
  refine ⟨h1, fun q => (h2 q).trans ⟨fun ⟨j, v, e1, e2, e3⟩ => ⟨v, ?_, e3⟩, fun ⟨v, e2, e3⟩ => ⟨q.1, v, by omega, e2, e3⟩⟩⟩
  rw [e1, Nat.zero_add]
  exact e2
theorem j_sound (hI : jInj E) (hT : jAll l E C) (hRet : ∀ y, jRet y) : ∀ (n y pc : Nat) (ls : jS) (st : List jV) (σ : jM) (r : jR), jrun C jml n y pc ls st σ = some r →
    ∀ (p : Program) (e : Env) (s : State) (m : MethodId) (args : Array Value) (below : List Frame) (meth : Method) (c : Code) (cells slots : Nat) (Q : State → Prop), jX E p s m args meth c (jby y) (jnm y).cls (jml y) → cells ≤ (jrm y).cells → slots ≤ (jrm y).slots →
      jEnd l E p e (jrm y) s m args below meth c cells slots Q (jby y) (jrt y) r → jW l E p e (jrm y) s m args below meth c cells slots Q (jml y) pc ls st σ
  | 0, _, _, _, _, _, _, h => by cases h
  | n + 1, y, pc, ls, st, σ, r, h => by
    intro p e s m args below meth c cells slots Q X hcl hsl he
    rw [jrun] at h
    refine hT y pc p e s m args below meth c cells slots Q X hcl hsl ls st σ _ _ r h ?_ (fun pc' ls' st' σ' h' => j_sound hI hT hRet n y pc' ls' st' σ' r h' p e s m args below meth c cells slots Q X hcl hsl he) he
    intro y' as σ' r' h' hg hr hlen
    have hpl := hRet y'
    refine Met.ofW (cc := jby y') (maxL := jml y') (ret := jrt y') hpl rfl ?_
    intro p e s m args below meth c s₁ B hml hv
    obtain ⟨hargs, hR, hW⟩ := hv
    subst hargs
    have hts0 := atoms_spec (ws := jws y') B.pre
    have hts : ∀ w ∈ jgt, w.before (as.map (jcv E)).toArray s = true := fun w hw => hts0 w (List.mem_cons_of_mem _ hw)
    have X' : jX E p s m (as.map (jcv E)).toArray meth c (jby y') (jnm y').cls (jml y') := ⟨B.exec, B.bytes, hml, findClass_of_methodNamed B.named, hts, hW, hI⟩
    have hlocks := B.notSynchronized
    have hret := B.returns
    obtain ⟨a1, a2⟩ := jArgs E as (jml y') hlen hW.2.1
    have hl := lv_entry (as.map (jcv E)) (n := jml y') (by rw [a1]; exact hlen)
    rw [lg_entry_eq]
    generalize (lg_sl (as.map (jcv E)) ++ List.replicate (jml y' - (lg_sl (as.map (jcv E))).length) Slot.unset).toArray = lsc at hl ⊢
    have hLs : jLs E (jml y') lsc (jent (jml y') as) := by
      refine ⟨by unfold jent; rw [List.length_append, List.length_map, List.length_replicate]; omega, ⟨hl.1, hl.2.1, fun q hq => hl.2.2 q ((a2 q).mpr ?_)⟩, fun v hv => ?_⟩
      · obtain ⟨v, h1, h2⟩ := jll_mem.mp hq
        refine ⟨v, ?_, h2⟩
        unfold jent at h1
        rw [List.getElem?_append] at h1
        split at h1
        · rw [List.getElem?_map] at h1
          cases hz : as[q.1]? with
          | none => rw [hz] at h1; cases h1
          | some w => rw [hz] at h1; cases h1; rfl
        · have := List.mem_of_getElem? h1
          rw [List.mem_replicate] at this
          cases this.2
      · unfold jent at hv
        rcases List.mem_append.mp hv with h | h
        · obtain ⟨w, hw, e⟩ := List.mem_map.mp h
          cases e
          exact hg _ hw
        · rw [List.mem_replicate] at h
          cases h.2
    have hend : jEnd l E p e (jrm y') s m (as.map (jcv E)).toArray below meth c 0 0 (MQ below (jQc E r') (as.map (jcv E)).toArray s 0 0 (jA E)) (jby y') (jrt y') r' := by
      intro pc H locs lsc hR hS hσ hgr hri
      have hq : ∀ t : State, t.heap = H → s.WarmedH t.vm → jQc E r' (as.map (jcv E)).toArray s (.returned (r'.1.map (jcv E))) t := fun t ht _ => ⟨rfl, by rw [ht]; exact hR, hS.F ht, hgr, hσ⟩
      match hrv : r'.1 with
      | none =>
        rw [hrv] at hri hq
        exact W.vret B.exec B.bytes (by rw [hret]; exact hri.2) hq hS.2.2 hri.1
      | some (.inl x) =>
        rw [hrv] at hri hq
        obtain ⟨hd, ty, hty, hn⟩ := hri
        exact W.zret B.exec B.bytes (by rw [hret]; exact hty) hn hq hS.2.2 hd
      | some (.inr (q, i)) =>
        rw [hrv] at hri hq
        obtain ⟨hd, h5, ty, hty, ht⟩ := hri
        exact W.aret (v := jcv E (.inr (q, i))) B.exec B.bytes (by rw [hret]; exact hty) ht (Or.inr ⟨_, jcv_ref h5⟩) hq hS.2.2 hd
    exact j_sound hI hT hRet n y' 0 _ [] σ' r' h' p e s m _ below meth c 0 0 _ X' (Nat.zero_le _) (Nat.zero_le _) hend s.heap [] lsc hR va_S.rf hLs (fun v hv => nomatch hv) hr
end SOUND
