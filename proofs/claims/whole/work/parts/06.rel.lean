/-! WHAT THE SMALL MACHINE'S MEMORY IS IN THE HEAP -/
abbrev jE : Type := va_G × (Nat → ClassId) × (Nat → Nat → Nat) × Value × Nat × (Nat → Int32)
def j32 (x : Int) : Prop := -2147483648 ≤ x ∧ x < 2147483648
def jgd : jV → Prop
  | .inl x => j32 x
  | .inr (k, i) => i < jcnt k
def jcv (E : jE) : jV → Value
  | .inl x => .int (Int32.ofInt x)
  | .inr (k, i) => bif Nat.beq k 75 then E.2.2.2.1 else .ref (E.2.2.1 k i)
def jfv (E : jE) (g : Nat → Int) (k i j : Nat) : Value := match jfld k j with
  | some (kt, f) => .ref (E.2.2.1 kt (f i))
  | none => .int (Int32.ofInt (g j))
def jcell (E : jE) (g : Nat → Int) (k i : Nat) : va_E := bif Nat.blt k 12 then .inr (k, (List.range (jnf k)).map (jfv E g k i)) else match jref k with
  | some (t, n, kt, f) => .inl (E.2.1 t, n, .inr (.inr (.inr (.inr (fun j => some (E.2.2.1 kt (f i j (g j))))))))
  | none => .inl (E.2.1 0, jiln k, .inl (fun j => Int32.ofInt (g j)))
def jWL (E : jE) (σ : jM) : va_W := jplaces.map (fun x => (E.2.2.1 x.1 x.2, jcell E (σ x.1 x.2) x.1 x.2))
def jScr (E : jE) (σ : jM) : Prop := σ 72 1 0 = (E.2.2.2.2.1 : Int) ∧ ∀ j : Nat, j < E.2.2.2.2.1 → Int32.ofInt (σ 72 0 j) = E.2.2.2.2.2 j
def jRel (E : jE) (σ : jM) (H : Heap) : Prop := va_P E.1 vwCl (jWL E σ) H ∧ jScr E σ
def jRng (σ : jM) : Prop := ∀ k i j, j32 (σ k i j)
def jA (E : jE) : Nat → Prop := fun q => ∃ k i, k < jNK ∧ i < jcnt k ∧ q = E.2.2.1 k i
def jInj (E : jE) : Prop := ∀ k i k' i', k < jNK → i < jcnt k → k' < jNK → i' < jcnt k' → E.2.2.1 k i = E.2.2.1 k' i' → k = k' ∧ i = i'
def jtys (E : jE) : List (ClassId × FieldType) := [(E.2.1 0, .int), (E.2.1 1, .object "KillingForms$Form"), (E.2.1 2, .object "KillingForms$Step"), (E.2.1 3, .array .int)]
def jWd (E : jE) (U : State) (H : Heap) : Prop :=
  va_K E.1 vwCl (jtys E) U ∧ (E.2.2.2.1 = .null ∨ ∃ t, E.2.2.2.1 = .ref t) ∧
  (va_Z "KillingForms" "Y_POWERS" "[I" (.ref (E.2.2.1 70 0)) (jA E) U H ∧ va_T .int (E.2.2.1 70 0) 21 (fun j => .int (Int32.ofInt (jyp j))) (jA E) U H) ∧
  (va_Z "KillingForms" "Z_POWERS" "[I" (.ref (E.2.2.1 71 0)) (jA E) U H ∧ va_T .int (E.2.2.1 71 0) 21 (fun j => .int (Int32.ofInt (jzp j))) (jA E) U H) ∧
  va_Z "java/lang/String" "COMPACT_STRINGS" "Z" (.int 1) (jA E) U H ∧
  va_Z "jdk/internal/util/Preconditions" "SIOOBE_FORMATTER" "Ljava/util/function/BiFunction;" E.2.2.2.1 (jA E) U H ∧
  (∀ i : Nat, i < 4 → va_O "java/lang/String" (E.2.2.1 73 i) (jA E) U H ∧ va_OF "java/lang/String" "coder" "B" (.int 0) (E.2.2.1 73 i) (jA E) U H ∧ va_OF "java/lang/String" "value" "[B" (.ref (E.2.2.1 74 i)) (E.2.2.1 73 i) (jA E) U H ∧ va_T .byte (E.2.2.1 74 i) (jsl i) (fun j => .int (Int32.ofInt (jsb i j))) (jA E) U H) ∧
  (∀ q ∈ jsref, vk_R q.1 q.2.1 q.2.2.1 (E.2.2.1 73 q.2.2.2) U) ∧ (∀ w ∈ jnest, va_Nw w U) ∧
  (va_X (E.2.2.1 72 0) E.2.2.2.2.1 E.2.2.2.2.2 U H ∧ ¬ jA E (E.2.2.1 72 0) ∧ E.2.2.2.2.1 ≤ 2560) ∧
  (∃ kA : Class, U.vm.classes[E.2.1 3]? = some kA ∧ kA.kind = .array (E.2.1 0) (.array .int))
theorem jWd.moved {E : jE} {s U : State} {H : Heap} (hW : s.WarmedH U.vm) (h : jWd E s H) : jWd E U H := by
  obtain ⟨h1, h2, ⟨h3, h4⟩, ⟨h5, h6⟩, h7, h8, h9, h10, h11, ⟨h12, h13⟩, kA, hkA, hkind⟩ := h
  have hv := hW.alike
  refine ⟨va_K.moved hv h1, h2, ⟨va_Z.moved hv h3, va_T.moved hv h4⟩, ⟨va_Z.moved hv h5, va_T.moved hv h6⟩, va_Z.moved hv h7, va_Z.moved hv h8, fun i hi => ?_, fun q hq => (h10 q hq).warm hW, fun w hw => ?_, ⟨va_X.moved hv h12, h13⟩, ?_⟩
  · obtain ⟨a, b, c, d⟩ := h9 i hi
    exact ⟨va_O.moved hv a, va_OF.moved hv b, va_OF.moved hv c, va_T.moved hv d⟩
  · have hn := h11 w hw
    have hk : (∃ a i b n d h, w = .fieldLinkNest a i b n d h) ∨ ∃ a i x h, w = .methodLinkNest a i x h := by
      have h0 : (jnest.all fun w => match w with | .fieldLinkNest .. => true | .methodLinkNest .. => true | _ => false) = true := by decide +kernel
      have h1 := List.all_eq_true.mp h0 w hw
      cases w <;> first | exact Or.inl ⟨_, _, _, _, _, _, rfl⟩ | exact Or.inr ⟨_, _, _, _, rfl⟩ | (simp at h1)
    rcases hk with ⟨a, i, b, n, d, h, rfl⟩ | ⟨a, i, x, h, rfl⟩
    · exact va_Nw.warmF hW hn
    · exact va_Nw.warmM hW hn
  · obtain ⟨k', hk', he⟩ := hv.2.2 _ _ hkA
    exact ⟨k', hk', by rw [he]; exact hkind⟩
theorem jWd.kept {E : jE} {U : State} {H H1 : Heap} (h : jWd E U H) (hq : ∀ a : Nat, a < H.size → ¬ jA E a → H1[a]? = H[a]?) : jWd E U H1 := by
  obtain ⟨h1, h2, ⟨h3, h4⟩, ⟨h5, h6⟩, h7, h8, h9, h10, h11, ⟨h12, h13, h14⟩, h15⟩ := h
  refine ⟨h1, h2, ⟨h3.kept hq, h4.kept hq⟩, ⟨h5.kept hq, h6.kept hq⟩, h7.kept hq, h8.kept hq, fun i hi => ?_, h10, h11, ⟨h12.kept ?_, h13, h14⟩, h15⟩
  · obtain ⟨a, b, c, d⟩ := h9 i hi
    exact ⟨a.kept hq, b.kept hq, c.kept hq, d.kept hq⟩
  · obtain ⟨scr, hs, -⟩ := h12
    exact hq _ (Array.getElem?_eq_some_iff.mp hs).1 h13
/-! ints -/
theorem jof_toInt {x : Int} (h : j32 x) : (Int32.ofInt x).toInt = x := Int32.toInt_ofInt_of_le (by have := h.1; omega) (by have := h.2; omega)
theorem jw_of (x : Int) : Int32.ofInt (jw x) = Int32.ofInt x := by
  apply Int32.toInt_inj.mp
  rw [Int32.toInt_ofInt, Int32.toInt_ofInt]
  exact Int.bmod_bmod
theorem jw_rng (x : Int) : j32 (jw x) := by
  have h1 := Int.le_bmod (x := x) (m := 4294967296) (by decide)
  have h2 := Int.bmod_lt (x := x) (m := 4294967296) (by decide)
  constructor
  · exact h1
  · exact h2
theorem jw_id {x : Int} (h : j32 x) : jw x = x := by
  have := jof_toInt (jw_rng x)
  rw [jw_of, jof_toInt h] at this
  exact this.symm
theorem j32_toInt (x : Int32) : j32 x.toInt := ⟨by have := Int32.le_toInt x; omega, by have := Int32.toInt_lt x; omega⟩
theorem jof_lt {x y : Int} (hx : j32 x) (hy : j32 y) : Int32.ofInt x < Int32.ofInt y ↔ x < y := by
  rw [Int32.lt_iff_toInt_lt, jof_toInt hx, jof_toInt hy]
theorem jof_le {x y : Int} (hx : j32 x) (hy : j32 y) : Int32.ofInt x ≤ Int32.ofInt y ↔ x ≤ y := by
  rw [Int32.le_iff_toInt_le, jof_toInt hx, jof_toInt hy]
theorem jof_eq {x y : Int} (hx : j32 x) (hy : j32 y) : Int32.ofInt x = Int32.ofInt y ↔ x = y := by
  rw [← Int32.toInt_inj, jof_toInt hx, jof_toInt hy]
theorem j32_0 : j32 0 := ⟨by decide, by decide⟩
theorem jof_0 : (0 : Int32) = Int32.ofInt 0 := rfl
theorem jof_nat {j : Int} (h : j32 j) : (Int32.ofInt j).toNatClampNeg = j.toNat := by
  show (Int32.ofInt j).toInt.toNat = j.toNat
  rw [jof_toInt h]
theorem jin {j : Int} (hj : j32 j) {n : Nat} (h : 0 ≤ j ∧ j < n) : vp_in (Int32.ofInt j) n := by
  intro q
  rcases q with q | q
  · rw [jof_0, jof_lt hj j32_0] at q
    omega
  · rw [jof_nat hj] at q
    omega
theorem jof_div (x y : Int) (hx : j32 x) (hy : j32 y) : Int32.ofInt (jw (x.tdiv y)) = Int32.ofInt x / Int32.ofInt y := by
  apply Int32.toInt_inj.mp
  rw [jw_of, Int32.toInt_div, jof_toInt hx, jof_toInt hy, Int32.toInt_ofInt]
theorem jof_rem (x y : Int) (hx : j32 x) (hy : j32 y) : Int32.ofInt (x.tmod y) = Int32.ofInt x - Int32.ofInt x / Int32.ofInt y * Int32.ofInt y := by
  rw [Jvm.irem_eq_mod]
  apply Int32.toInt_inj.mp
  have h1 := j32_toInt (Int32.ofInt x % Int32.ofInt y)
  rw [Int32.toInt_mod, jof_toInt hx, jof_toInt hy] at h1 ⊢
  exact jof_toInt h1
theorem j32_rem (x y : Int) (hx : j32 x) (hy : j32 y) : j32 (x.tmod y) := by
  have h1 := j32_toInt (Int32.ofInt x % Int32.ofInt y)
  rwa [Int32.toInt_mod, jof_toInt hx, jof_toInt hy] at h1
/-! locals -/
def jll (E : jE) (ls : jS) : List (Nat × Value) := ls.zipIdx.filterMap (fun q => q.1.map (fun v => (q.2, jcv E v)))
theorem jll_mem {E : jE} {ls : jS} {q : Nat × Value} : q ∈ jll E ls ↔ ∃ v, ls[q.1]? = some (some v) ∧ q.2 = jcv E v := by
  unfold jll
  rw [List.mem_filterMap]
  constructor
  · rintro ⟨⟨o, i⟩, h1, h2⟩
    have h3 := List.mem_zipIdx_iff_getElem?.mp h1
    cases o with
    | none => cases h2
    | some v => cases h2; exact ⟨v, h3, rfl⟩
  · rintro ⟨v, h1, h2⟩
    refine ⟨(some v, q.1), List.mem_zipIdx_iff_getElem?.mpr h1, ?_⟩
    obtain ⟨a, b⟩ := q
    simp only at h2
    subst h2
    rfl
def jLs (E : jE) (nL : Nat) (lsc : Array Slot) (ls : jS) : Prop := ls.length = nL ∧ lv_has lsc nL (jll E ls) ∧ ∀ v, some v ∈ ls → jgd v
theorem jLs.get {E : jE} {nL : Nat} {lsc : Array Slot} {ls : jS} (h : jLs E nL lsc ls) {i : Nat} {v : jV} (hi : ls[i]? = some (some v)) : lsc[i]? = some (.val (jcv E v)) ∧ jgd v :=
  ⟨h.2.1.2.2 (i, jcv E v) (jll_mem.mpr ⟨v, hi, rfl⟩), h.2.2 v (List.mem_of_getElem? hi)⟩
theorem jcv_cat {E : jE} (hz : E.2.2.2.1 = .null ∨ ∃ t, E.2.2.2.1 = .ref t) (v : jV) : (jcv E v).category = 1 := by
  match v with
  | .inl x => rfl
  | .inr (k, i) =>
    show (bif Nat.beq k 75 then E.2.2.2.1 else .ref (E.2.2.1 k i)).category = 1
    cases Nat.beq k 75 with
    | false => rfl
    | true =>
      rcases hz with h | ⟨t, h⟩
      · rw [cond_true, h]; rfl
      · rw [cond_true, h]; rfl
theorem jLs.set {E : jE} (hz : E.2.2.2.1 = .null ∨ ∃ t, E.2.2.2.1 = .ref t) {nL : Nat} {lsc ls' : Array Slot} {ls : jS} (h : jLs E nL lsc ls) {i : Nat} {v : jV} (hv : jgd v) (h' : lv_has ls' nL ((i, jcv E v) :: (jll E ls).filter (fun q => !(q.1 == i) && !(q.1 + 1 == i && q.2.category == 2)))) (hi : i < nL) : jLs E nL ls' (ls.set i (some v)) := by
  refine ⟨by rw [List.length_set]; exact h.1, ⟨h'.1, h'.2.1, fun q hq => ?_⟩, fun w hw => ?_⟩
  · obtain ⟨w, h1, h2⟩ := jll_mem.mp hq
    obtain ⟨a, b⟩ := q
    simp only at h1 h2
    subst h2
    rw [List.getElem?_set] at h1
    by_cases e : i = a
    · subst e
      rw [if_pos rfl, if_pos (by rw [h.1]; exact hi)] at h1
      cases h1
      exact h'.2.2 _ List.mem_cons_self
    · rw [if_neg e] at h1
      refine h'.2.2 (a, jcv E w) (List.mem_cons_of_mem _ (List.mem_filter.mpr ⟨jll_mem.mpr ⟨w, h1, rfl⟩, ?_⟩))
      have hc := jcv_cat hz w
      simp [hc, Ne.symm e]
  · rcases List.mem_or_eq_of_mem_set hw with h1 | h1
    · exact h.2.2 w h1
    · cases h1; exact hv
/-! the world's list -/
theorem jWL_at (E : jE) (σ : jM) {k i : Nat} (hk : k < jNK) (hi : i < jcnt k) : (jWL E σ)[jpos k i]? = some (E.2.2.1 k i, jcell E (σ k i) k i) := by
  unfold jWL
  rw [List.getElem?_map, jpl_at hk hi]
  rfl
theorem jWL_set {E : jE} {σ σ' : jM} {k i : Nat} {e : va_E} (hk : k < jNK) (hi : i < jcnt k) (h1 : jcell E (σ' k i) k i = e) (h2 : ∀ k' i', ¬ (k' = k ∧ i' = i) → σ' k' i' = σ k' i') : (jWL E σ).set (jpos k i) (E.2.2.1 k i, e) = jWL E σ' := by
  apply List.ext_getElem?
  intro q
  rw [List.getElem?_set]
  unfold jWL
  rw [List.getElem?_map, List.getElem?_map, List.length_map]
  by_cases hq : jpos k i = q
  · subst hq
    have h := jpl_at hk hi
    rw [if_pos rfl, if_pos (List.getElem?_eq_some_iff.mp h).1, h]
    simp only [Option.map_some]
    rw [h1]
  · rw [if_neg hq]
    cases hx : jplaces[q]? with
    | none => rfl
    | some x =>
      simp only [Option.map_some]
      rw [h2 x.1 x.2 (fun e => hq (by rw [← e.1, ← e.2]; exact (jpl_inv hx).1))]
theorem jWL_D {E : jE} (hI : jInj E) (σ : jM) : va_D (jA E) (jWL E σ) := by
  have key : ∀ (q : Nat) (x : Nat × va_E), (jWL E σ)[q]? = some x → ∃ k i, jplaces[q]? = some (k, i) ∧ x.1 = E.2.2.1 k i := by
    intro q x hx
    unfold jWL at hx
    rw [List.getElem?_map] at hx
    cases hp : jplaces[q]? with
    | none => rw [hp] at hx; cases hx
    | some y => rw [hp] at hx; cases hx; exact ⟨y.1, y.2, rfl, rfl⟩
  refine ⟨fun a b p q hp hq e => ?_, fun a q hq => ?_⟩
  · obtain ⟨k, i, h1, h2⟩ := key a p hp
    obtain ⟨k', i', h3, h4⟩ := key b q hq
    obtain ⟨g1, g2, g3⟩ := jpl_inv h1
    obtain ⟨g4, g5, g6⟩ := jpl_inv h3
    obtain ⟨e1, e2⟩ := hI k i k' i' g2 g3 g5 g6 (by rw [← h2, ← h4, e])
    subst e1; subst e2
    rw [← g1, ← g4]
  · obtain ⟨k, i, h1, h2⟩ := key a q hq
    obtain ⟨-, g2, g3⟩ := jpl_inv h1
    exact ⟨k, i, g2, g3, h2⟩
theorem jup_at (σ : jM) (k i j : Nat) (v : Int) : jup σ k i j v k i = fun j' => if j' = j then v else σ k i j' := by
  funext j'
  simp [jup]
theorem jup_oth (σ : jM) (k i j : Nat) (v : Int) : ∀ k' i', ¬ (k' = k ∧ i' = i) → jup σ k i j v k' i' = σ k' i' := by
  intro k' i' h
  funext j'
  unfold jup
  exact if_neg (fun q => h ⟨q.1, q.2.1⟩)
theorem jup_rng {σ : jM} (h : jRng σ) (k i j : Nat) {v : Int} (hv : j32 v) : jRng (jup σ k i j v) := by
  intro a b c
  unfold jup
  split
  · exact hv
  · exact h a b c
theorem jScr_up {E : jE} {σ : jM} (h : jScr E σ) {k i j : Nat} {v : Int} (hk : k < jNK) : jScr E (jup σ k i j v) := by
  have hne : ∀ a b, jup σ k i j v 72 a b = σ 72 a b := fun a b => by
    rw [jup_ne (q := 72) (fun e => by rw [← e] at hk; exact absurd hk (by decide))]
  refine ⟨by rw [hne]; exact h.1, fun a ha => by rw [hne]; exact h.2 a ha⟩
theorem jcell_int {E : jE} {g : Nat → Int} {k i : Nat} (h1 : Nat.blt k 12 = false) (h2 : (jref k).isNone = true) : jcell E g k i = .inl (E.2.1 0, jiln k, .inl (fun j => Int32.ofInt (g j))) := by
  unfold jcell
  rw [h1, cond_false]
  cases h : jref k with
  | none => rfl
  | some x => rw [h] at h2; cases h2
theorem jcell_ref {E : jE} {g : Nat → Int} {k i t n kt : Nat} {f : Nat → Nat → Int → Nat} (h1 : Nat.blt k 12 = false) (h2 : jref k = some (t, n, kt, f)) : jcell E g k i = .inl (E.2.1 t, n, .inr (.inr (.inr (.inr (fun j => some (E.2.2.1 kt (f i j (g j)))))))) := by
  unfold jcell
  rw [h1, cond_false, h2]
theorem jcell_obj {E : jE} {g : Nat → Int} {k i : Nat} (h1 : Nat.blt k 12 = true) : jcell E g k i = .inr (k, (List.range (jnf k)).map (jfv E g k i)) := by
  unfold jcell
  rw [h1, cond_true]
theorem jfs_at {E : jE} {g : Nat → Int} {k i j : Nat} (h : j < jnf k) : ((List.range (jnf k)).map (jfv E g k i))[j]? = some (jfv E g k i j) := by
  rw [List.getElem?_map, List.getElem?_range h]
  rfl
theorem jfs_set {E : jE} {g : Nat → Int} {k i j : Nat} {v : Int} (hf : jfld k j = none) : ((List.range (jnf k)).map (jfv E g k i)).set j (.int (Int32.ofInt v)) = (List.range (jnf k)).map (jfv E (fun j' => if j' = j then v else g j') k i) := by
  apply List.ext_getElem?
  intro q
  rw [List.getElem?_set, List.getElem?_map, List.getElem?_map, List.length_map, List.length_range]
  by_cases hq : j = q
  · subst hq
    rw [if_pos rfl]
    by_cases hl : j < jnf k
    · rw [if_pos hl, List.getElem?_range hl]
      simp [jfv, hf]
    · rw [if_neg hl, List.getElem?_eq_none (by simp; omega)]
      rfl
  · rw [if_neg hq]
    cases h : (List.range (jnf k))[q]? with
    | none => rfl
    | some z =>
      have hz : z = q := by
        have hl : q < jnf k := by
          have := (List.getElem?_eq_some_iff.mp h).1
          simpa using this
        rw [List.getElem?_range hl] at h
        exact (Option.some.inj h).symm
      subst hz
      simp only [Option.map_some, jfv]
      cases jfld k z with
      | none => simp [Ne.symm hq]
      | some x => rfl
