/-! ROWS OF ROWS: multianewarray with two counts -/
def mq_o (cA : ClassId) (N h i : Nat) : Cell := arrV cA N (fun j => if j < i then .ref (h + 1 + j) else .null)
def mq_i (cB : ClassId) (M : Nat) : Cell := arrV cB M (fun _ => .int 0)
def mq_st (T : State) (cA cB : ClassId) (N M : Nat) : Nat → State
  | 0 => T.pushCell (mq_o cA N T.heap.size 0)
  | i + 1 => ((mq_st T cA cB N M i).pushCell (mq_i cB M)).setCell T.heap.size (mq_o cA N T.heap.size (i + 1))
theorem mq_o_put (cA : ClassId) (N h i : Nat) : (mq_o cA N h i).setSlot i (.ref (h + 1 + i)) = mq_o cA N h (i + 1) := by
  unfold mq_o
  rw [arrV_store]
  congr 1
  funext j
  unfold updV
  by_cases e : j = i
  · subst e
    rw [if_pos rfl, if_pos (Nat.lt_succ_self j)]
  · rw [if_neg e]
    show (if j < i then Value.ref (h + 1 + j) else Value.null) = _
    by_cases l : j < i
    · rw [if_pos l, if_pos (by omega)]
    · rw [if_neg l, if_neg (by omega)]
theorem mq_o_size (cA : ClassId) (N h i : Nat) : (mq_o cA N h i).slots.size = N := arrV_size _ _ _
theorem mq_i_size (cB : ClassId) (M : Nat) : (mq_i cB M).slots.size = M := arrV_size _ _ _
theorem mq_facts (T : State) (cA cB : ClassId) (N M : Nat) : ∀ i, (mq_st T cA cB N M i).heap.size = T.heap.size + 1 + i ∧ (mq_st T cA cB N M i).heap[T.heap.size]? = some (mq_o cA N T.heap.size i) ∧ (mq_st T cA cB N M i).vm = T.vm ∧ (mq_st T cA cB N M i).slotsUsed = T.slotsUsed + N + i * M
  | 0 => ⟨by simp [mq_st], by simp [mq_st], rfl, by simp [mq_st, mq_o_size]⟩
  | i + 1 => by
    obtain ⟨a, b, d, u⟩ := mq_facts T cA cB N M i
    have hlt : T.heap.size < (mq_st T cA cB N M i).heap.size := by omega
    have hb : ((mq_st T cA cB N M i).pushCell (mq_i cB M)).heap[T.heap.size]? = some (mq_o cA N T.heap.size i) := by rw [State.heap_pushCell_of_lt (h := hlt)]; exact b
    refine ⟨?_, State.heap_setCell_self hb, by simp [mq_st, d], ?_⟩
    · simp [mq_st, State.setCell, a]; omega
    · simp [mq_st, u, mq_i_size, Nat.succ_mul]; omega
theorem mq_setTop (T : State) (f : JFrame) (cA cB : ClassId) (N M : Nat) : ∀ i, mq_st (T.setTop f) cA cB N M i = (mq_st T cA cB N M i).setTop f
  | 0 => rfl
  | i + 1 => by simp only [mq_st, mq_setTop T f cA cB N M i, State.heap_setTop, State.pushCell_setTop, State.setCell_setTop]
theorem mq_old (T : State) (cA cB : ClassId) (N M : Nat) {a : Nat} (ha : a < T.heap.size) : ∀ i, (mq_st T cA cB N M i).heap[a]? = T.heap[a]?
  | 0 => State.heap_pushCell_of_lt _ _ ha
  | i + 1 => by
    have f1 := (mq_facts T cA cB N M i).1
    have hlt : a < (mq_st T cA cB N M i).heap.size := by omega
    show (((mq_st T cA cB N M i).pushCell (mq_i cB M)).setCell T.heap.size _).heap[a]? = _
    rw [State.heap_setCell_other (Nat.ne_of_gt ha), State.heap_pushCell_of_lt (h := hlt)]
    exact mq_old T cA cB N M ha i
theorem mq_in (T : State) (cA cB : ClassId) (N M : Nat) : ∀ i j, j < i → (mq_st T cA cB N M i).heap[T.heap.size + 1 + j]? = some (mq_i cB M)
  | 0, _, h => absurd h (Nat.not_lt_zero _)
  | i + 1, j, h => by
    have f1 := (mq_facts T cA cB N M i).1
    show (((mq_st T cA cB N M i).pushCell (mq_i cB M)).setCell T.heap.size _).heap[T.heap.size + 1 + j]? = _
    rw [State.heap_setCell_other (show T.heap.size ≠ T.heap.size + 1 + j by omega)]
    by_cases hj : j < i
    · have hlt : T.heap.size + 1 + j < (mq_st T cA cB N M i).heap.size := by omega
      rw [State.heap_pushCell_of_lt (h := hlt)]
      exact mq_in T cA cB N M i j hj
    · have e : j = i := by omega
      subst e
      rw [← f1]
      exact State.heap_pushCell_size _ _
section MQWP
variable {E : CtlPost} {e : Env} {d : Bool} {acts : List Action} {s : State}
theorem mq_wp1 {cB cc : ClassId} {kB : Class} {k : Int32} (hkB : s.vm.classes[cB]? = some kB) (hkindB : kB.kind = .array cc .int) (hk : ¬ k < 0) (hl : ¬ k.toNatClampNeg > e.platform.arrayLengthLimit) (hh : ¬ k.toNatClampNeg * componentBytes .int > e.platform.maxHeapBytes) (h1 : s.heap.size < e.platform.maxCells) (h2 : s.slotsUsed + k.toNatClampNeg ≤ e.platform.maxSlots) {Q : Addr → Pre} (hq : ∀ acts', Q s.heap.size d acts' (s.pushCell (mq_i cB k.toNatClampNeg))) : wp (Op.multianewarray.make cB [k]) Q E e d acts s := by
  rw [Op.multianewarray.make]
  simp only [wp_bind', W.ite, hk, if_false, wp_pure', W.theClass, hkB, hkindB, Option.some.injEq, exists_eq_left']
  refine W.newArray_of hkB hkindB hl hh h1 h2 rfl (fun acts' => ?_)
  have h := hq acts'
  unfold mq_i at h
  rw [← arrV_new] at h
  exact h
theorem mq_wp2 {cA cB cc : ClassId} {kA kB : Class} {n k : Int32} (hkA : s.vm.classes[cA]? = some kA) (hkindA : kA.kind = .array cB (.array .int)) (hkB : s.vm.classes[cB]? = some kB) (hkindB : kB.kind = .array cc .int) (hn : ¬ n < 0) (hk : ¬ k < 0)
    (hl1 : ¬ n.toNatClampNeg > e.platform.arrayLengthLimit) (hh1 : ¬ n.toNatClampNeg * componentBytes (.array .int) > e.platform.maxHeapBytes) (hl2 : ¬ k.toNatClampNeg > e.platform.arrayLengthLimit) (hh2 : ¬ k.toNatClampNeg * componentBytes .int > e.platform.maxHeapBytes)
    (hc : s.heap.size + 1 + n.toNatClampNeg ≤ e.platform.maxCells) (hs : s.slotsUsed + n.toNatClampNeg + n.toNatClampNeg * k.toNatClampNeg ≤ e.platform.maxSlots) {Q : Addr → Pre} (hq : ∀ d' acts', Q s.heap.size d' acts' (mq_st s cA cB n.toNatClampNeg k.toNatClampNeg n.toNatClampNeg)) : wp (Op.multianewarray.make cA [n, k]) Q E e d acts s := by
  generalize hN : n.toNatClampNeg = N at *
  generalize hM : k.toNatClampNeg = M at *
  have hfind : ([k].find? (· < 0)) = none := by simp [hk]
  have hnm : 0 ≤ N * M := Nat.zero_le _
  rw [Op.multianewarray.make]
  simp only [wp_bind', W.ite, hn, if_false, wp_pure', W.theClass, hkA, hkindA, Option.some.injEq, exists_eq_left']
  rw [hN]
  refine W.newArray_of hkA hkindA hl1 hh1 (by omega) (by omega) rfl (fun acts0 => ?_)
  have e0 : s.pushCell { cls := cA, slots := Array.replicate N .null } = mq_st s cA cB N M 0 := by
    show s.pushCell _ = s.pushCell (mq_o cA N s.heap.size 0)
    congr 1
    unfold mq_o
    rw [arrV_new]
    rfl
  rw [e0]
  simp only [hfind]
  rw [ite_self, wp_bind', Std.Legacy.Range.forIn_eq_forIn_range']
  have hsz : ([:N] : Std.Legacy.Range).size = N := by simp [Std.Legacy.Range.size]
  rw [hsz]
  show wp (forIn (List.range' 0 N 1) PUnit.unit _) _ E e d acts0 _
  refine wp_forIn_inv (fun rest s' => ∃ i, i ≤ N ∧ rest = List.range' i (N - i) ∧ s' = mq_st s cA cB N M i) _ _ ⟨0, Nat.zero_le _, rfl, rfl⟩ ?_ ?_
  · rintro x rest s' d' acts' Q' ⟨i, hi, hl, rfl⟩ hnext
    have hlt : i < N := by
      rcases Nat.lt_or_ge i N with h | h
      · exact h
      · rw [show N - i = 0 by omega] at hl; cases hl
    rw [show N - i = (N - (i + 1)) + 1 by omega, List.range'_succ] at hl
    obtain ⟨rfl, hrest⟩ := List.cons.inj hl
    obtain ⟨f1, f2, f3, f4⟩ := mq_facts s cA cB N M x
    have hmul : x * M + M ≤ N * M := by
      have h := Nat.mul_le_mul_right M (show x + 1 ≤ N from hlt)
      rw [Nat.succ_mul] at h; exact h
    simp only [wp_bind']
    refine mq_wp1 (by rw [f3]; exact hkB) hkindB hk (by rw [hM]; exact hl2) (by rw [hM]; exact hh2) (by omega) (by rw [hM]; omega) (fun acts2 => ?_)
    rw [hM]
    have hlt0 : s.heap.size < (mq_st s cA cB N M x).heap.size := by omega
    simp only [wp_bind', W.writeLoc, wp_pure']
    refine ⟨mq_o cA N s.heap.size x, by rw [State.heap_pushCell_of_lt (h := hlt0)]; exact f2, (fun q => by cases q), by rw [mq_o_size]; exact hlt, ?_, hnext _ _ _ ⟨x + 1, hlt, hrest, ?_⟩⟩
    · simp [State.fitsSlot, State.slotType?, mq_o, arrV, f3, hkA, hkindA, fits]
    · show State.setCell _ _ _ = State.setCell _ _ _
      rw [f1, mq_o_put]
  · rintro s' d' acts' ⟨i, hi, hl, rfl⟩
    have e1 : i = N := by
      have h := congrArg List.length hl
      rw [List.length_range', List.length_nil] at h
      omega
    subst e1
    exact hq _ _
end MQWP
section MQW
variable {p : Program} {l : Launch} {e : Env} {R : Room} {s : State} {m : MethodId} {args : Array Value} {below : List Frame} {meth : Method} {c : Code} {H : Heap} {locs : List Loc} {cells slots : Nat} {Q : State → Prop}
theorem mq_stand {T : State} (X : Stand p l e R s m args below meth c T locs cells slots) (cA cB : ClassId) (N M : Nat) : ∀ i, Stand p l e R s m args below meth c (mq_st T cA cB N M i) (locs ++ (List.range i).map fun j => ⟨T.heap.size, j⟩) (cells + 1 + i) (slots + N + i * M)
  | 0 => by
    have h := X.pushed (mq_o cA N T.heap.size 0)
    rw [mq_o_size] at h
    simpa [mq_st] using h
  | i + 1 => by
    have Xi := mq_stand X cA cB N M i
    obtain ⟨f1, f2, f3, f4⟩ := mq_facts T cA cB N M i
    have hlt0 : T.heap.size < (mq_st T cA cB N M i).heap.size := by omega
    have hcell : ((mq_st T cA cB N M i).pushCell (mq_i cB M)).heap[T.heap.size]? = some (mq_o cA N T.heap.size i) := by rw [State.heap_pushCell_of_lt (h := hlt0)]; exact f2
    have h := (Xi.pushed (mq_i cB M)).stored hcell i (.ref (T.heap.size + 1 + i))
    rw [mq_i_size, mq_o_put] at h
    have e2 : (locs ++ (List.range (i + 1)).map fun j => (⟨T.heap.size, j⟩ : Loc)) = (locs ++ (List.range i).map fun j => (⟨T.heap.size, j⟩ : Loc)) ++ [⟨T.heap.size, i⟩] := by simp [List.range_succ, List.append_assoc]
    have e3 : slots + N + (i + 1) * M = slots + N + i * M + M := by rw [Nat.succ_mul]; omega
    rw [e2, e3]
    exact h
theorem mq_W {cc : ByteArray} (hexec : p.tables.exec = Jvm.exec) (hb : c.code = cc) {own : String} {index : Nat} (hown : s.vm.findClass own = some m.cls) (hclink : (Cond.classLink own index ("[" ++ (FieldType.array .int).toString)).before args s = true) (hover : (Cond.arrayOver (.array .int)).before args s = true) (harr : (Cond.arrayClass .int).before args s = true)
    {pc : Nat} {lsc : Array Slot} {rest : List Value} {n k : Int32} {N M : Nat} (hdg : decode cc pc = .ok (.multianewarray index 2, 4)) (hn : ¬ n < 0) (hk : ¬ k < 0) (hN : n.toNatClampNeg = N) (hM : k.toNatClampNeg = M) (hb1 : N ≤ 1000) (hb2 : M ≤ 1000) (hcells : cells + (1 + N) ≤ R.cells) (hslots : slots + (N + N * M) ≤ R.slots)
    (kk : ∀ (cA cB : ClassId) (H' : Heap) (locs' : List Loc), s.vm.findClass ("[" ++ (FieldType.array .int).toString) = some cA → s.vm.findClass ("[" ++ FieldType.int.toString) = some cB → H'.size = H.size + 1 + N → H'[H.size]? = some (mq_o cA N H.size N) → (∀ j, j < N → H'[H.size + 1 + j]? = some (mq_i cB M)) → (∀ q, q < H.size → H'[q]? = H[q]?) → (∀ x ∈ locs', x ∈ locs ∨ x.base = H.size) →
      W p l e R s m args below meth c H' locs' (cells + 1 + N) (slots + N + N * M) Q (F0 m (pc + 4) lsc (.ref H.size :: rest))) : W p l e R s m args below meth c H locs cells slots Q (F0 m pc lsc (.int k :: .int n :: rest)) := by
  intro T hT X
  subst hT; subst hb; subst hN; subst hM
  have hpl : e.platform.magicAccessors = ({} : Platform).magicAccessors := by rw [X.admits.platform]
  obtain ⟨comp, cA, kA, hcomp, hidx, hkA, hkindA, hnameA⟩ := arrayOverA_spec hover
  obtain ⟨cB, kB, cc', hcB, hkB, hkindB⟩ := Cond.arrayClass_spec harr
  have ecomp : cB = comp := Option.some.inj (hcB.symm.trans hcomp)
  subst ecomp
  obtain ⟨c0, hfc0, hcl⟩ := Cond.classLink_spec hown hclink e.platform hpl
  cases hnameA.symm.trans hfc0
  obtain ⟨hg₁, hwarm₁, hready₁⟩ := State.classEntry (e := e) X.warmed hcl
  generalize T.vm.noted m.cls index (.cls cA) = vm₁ at hg₁ hwarm₁ hready₁
  have hal : s.vm.Alike vm₁ := hwarm₁.alike
  obtain ⟨kA₁, hkA₁, heA⟩ := hal.2.2 _ _ hkA
  obtain ⟨kB₁, hkB₁, heB⟩ := hal.2.2 _ _ hkB
  have hkindA₁ : kA₁.kind = .array cB (.array .int) := by rw [heA]; exact hkindA
  have hkindB₁ : kB₁.kind = .array cc' .int := by rw [heB]; exact hkindB
  have X₁ := X.noted hwarm₁
  obtain ⟨hr1, hr2⟩ := X.roomAbove hcells hslots
  have XF := mq_stand X₁ cA cB n.toNatClampNeg k.toNatClampNeg n.toNatClampNeg
  obtain ⟨q1, q2, q3, q4⟩ := mq_facts (T.setVm vm₁) cA cB n.toNatClampNeg k.toNatClampNeg n.toNatClampNeg
  obtain ⟨t', a1, b1⟩ := kk cA cB (mq_st (T.setVm vm₁) cA cB n.toNatClampNeg k.toNatClampNeg n.toNatClampNeg).heap _ hnameA hcB q1 q2 (fun j hj => mq_in (T.setVm vm₁) cA cB _ _ _ j hj) (fun q hq => mq_old (T.setVm vm₁) cA cB _ _ hq _) (fun x hx => by
    rcases List.mem_append.mp hx with h | h
    · exact Or.inl h
    · obtain ⟨j, -, rfl⟩ := List.mem_map.mp h
      exact Or.inr rfl) _ rfl XF
  refine ⟨t', ?_, b1⟩
  have hl1 : ¬ n.toNatClampNeg > e.platform.arrayLengthLimit := by rw [Launch.admits_arrayLengthLimit X.admits]; omega
  have hh1 : ¬ n.toNatClampNeg * componentBytes (.array .int) > e.platform.maxHeapBytes := by
    rw [Launch.admits_maxHeapBytes X.admits]; show ¬ n.toNatClampNeg * 4 > 536870912; omega
  have hl2 : ¬ k.toNatClampNeg > e.platform.arrayLengthLimit := by rw [Launch.admits_arrayLengthLimit X.admits]; omega
  have hh2 : ¬ k.toNatClampNeg * componentBytes .int > e.platform.maxHeapBytes := by
    rw [Launch.admits_maxHeapBytes X.admits]; show ¬ k.toNatClampNeg * 4 > 536870912; omega
  jvm_step X.here [hexec, hdg]
  simp only [multianewarray.sem, wp_bind', W.resolveClassAt_links (State.method?_setTop (F0 m pc lsc (.int k :: .int n :: rest)) X.here.top) hg₁]
  rw [W.popN, if_neg (by decide)]
  refine ⟨F0 m pc lsc (.int k :: .int n :: rest), State.topJava?_setTop' (s := T.setVm vm₁) _ X.here.top, [.int n, .int k], rest, rfl, rfl, ?_⟩
  simp only [List.mapM_cons, List.mapM_nil, wp_bind', wp_pure']
  refine mq_wp2 (kA := kA₁) (kB := kB₁) (cB := cB) (cc := cc') hkA₁ hkindA₁ hkB₁ hkindB₁ hn hk hl1 hh1 hl2 hh2 (by show T.heap.size + 1 + _ ≤ _; omega) (by show T.slotsUsed + _ + _ ≤ _; omega) (fun d' acts' => ?_)
  have eS : ((T.setTop (F0 m pc lsc (.int k :: .int n :: rest))).setVm vm₁).setTop { (F0 m pc lsc (.int k :: .int n :: rest)) with stack := rest } = (T.setVm vm₁).setTop { (F0 m pc lsc (.int k :: .int n :: rest)) with stack := rest } := by
    show ((T.setVm vm₁).setTop (F0 m pc lsc (.int k :: .int n :: rest))).setTop _ = _
    rw [State.setTop_setTop]
  rw [eS, mq_setTop]
  simp only [wp_bind', W.mark, W.pushRef, State.topJava?_setTop' _ XF.here.top, Option.some.injEq, exists_eq_left', State.setTop_setTop, State.heap_setTop]
  intro acts
  simp [jvm, XF.here.top]
  exact a1
end MQW
