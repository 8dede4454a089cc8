/-! THE START: what the Statement gives of the classes, the statics, the strings, the script -/
def zyY (j : Nat) : Int32 := Int32.ofInt (jyp j)
def zyZ (j : Nat) : Int32 := Int32.ofInt (jzp j)
def zgv : Cond := Jvm.Cond.and given_1 narrow_1
def zst (C n d : String) : Term := .static C n d
def zsk (i : Nat) : Nat := ([102, 108, 110, 112] : List Nat).getD i 0
def zsk2 (i : Nat) : Nat := ([263, 269, 270, 272] : List Nat).getD i 0
def zstx (i : Nat) : String := (["form", "line", "add", "zero"] : List String).getD i ""
def zbyt : List (List Int32) := [[102, 111, 114, 109], [108, 105, 110, 101], [97, 100, 100], [122, 101, 114, 111]]
def zlen : List Nat := [4, 4, 3, 4]
theorem zg_Y : ∀ j, j < 21 → Cond.eq (.elem (.static "KillingForms" "Y_POWERS" "[I") (.int (Int32.ofNat j))) (.int (zyY j)) ∈ flatC zgv := by decide +kernel
theorem zg_Z : ∀ j, j < 21 → Cond.eq (.elem (.static "KillingForms" "Z_POWERS" "[I") (.int (Int32.ofNat j))) (.int (zyZ j)) ∈ flatC zgv := by decide +kernel
theorem zg_s1 : ∀ i, i < 4 → Cond.exactly (.string "KillingForms$Reader" (zsk i)) "java/lang/String" ∈ flatC zgv := by decide +kernel
theorem zg_s2 : ∀ i, i < 4 → Cond.eq (.field (.string "KillingForms$Reader" (zsk i)) "java/lang/String" "coder" "B") (.int 0) ∈ flatC zgv := by decide +kernel
theorem zg_s3 : ∀ i, i < 4 → Cond.arrayOf (.field (.string "KillingForms$Reader" (zsk i)) "java/lang/String" "value" "[B") .byte ∈ flatC zgv := by decide +kernel
theorem zg_s4 : ∀ i, i < 4 → Cond.eq (.length (.field (.string "KillingForms$Reader" (zsk i)) "java/lang/String" "value" "[B")) (.int (Int32.ofNat (zlen.getD i 0))) ∈ flatC zgv := by decide +kernel
theorem zg_s5 : ∀ i, i < 4 → ∀ j, j < zlen.getD i 0 → Cond.eq (.elem (.field (.string "KillingForms$Reader" (zsk i)) "java/lang/String" "value" "[B") (.int (Int32.ofNat j))) (.int ((zbyt.getD i []).getD j 0)) ∈ flatC zgv := by decide +kernel
theorem zg_s6 : ∀ i, i < 4 → ∀ j, j < 4 → i ≠ j → Cond.not (Cond.eq (.string "KillingForms$Reader" (zsk i)) (.string "KillingForms$Reader" (zsk j))) ∈ flatC zgv ∨ Cond.not (Cond.eq (.string "KillingForms$Reader" (zsk j)) (.string "KillingForms$Reader" (zsk i))) ∈ flatC zgv := by decide +kernel
theorem zg_s7 : ∀ i, i < 4 → Cond.eq (.string "KillingForms$Reader" (zsk i)) (.string "KillingFormsModel" (zsk2 i)) ∈ flatC zgv := by decide +kernel
theorem zg_r1 : ∀ i, i < 4 → Cond.stringRef "KillingForms$Reader" (zsk i) (zstx i) ∈ lw_tbl := by decide +kernel
theorem zg_r2 : ∀ i, i < 4 → Cond.stringRef "KillingFormsModel" (zsk2 i) (zstx i) ∈ lw_tbl := by decide +kernel
theorem zsb_eq : ∀ i, i < 4 → (fun j => Value.int ((zbyt.getD i []).getD j 0)) = fun j => Value.int (Int32.ofInt (jsb i j)) := by
  intro i hi
  funext j
  rcases (show i = 0 ∨ i = 1 ∨ i = 2 ∨ i = 3 by omega) with rfl | rfl | rfl | rfl <;> (match j with
    | 0 => rfl
    | 1 => rfl
    | 2 => rfl
    | 3 => rfl
    | (_ + 4) => rfl)
theorem zsl_eq : ∀ i, i < 4 → zlen.getD i 0 = jsl i := by decide +kernel
theorem zsref_eq : jsref = ((List.range 4).map fun i => ("KillingForms$Reader", zsk i, zstx i, i)) ++ ((List.range 4).map fun i => ("KillingFormsModel", zsk2 i, zstx i, i)) := by decide +kernel
theorem znest_on : ∀ w ∈ jnest, w.onTables = true := fun w hw => List.all_eq_true.mp (show jnest.all Cond.onTables = true by decide +kernel) w hw
def zext (tY tZ b : Nat) (adK adV : Nat → Nat) : Nat → Nat → Nat := fun k i => if k = 70 then tY else if k = 71 then tZ else if k = 72 then b else if k = 73 then adK i else if k = 74 then adV i else 0
theorem z_world {s : State} {b L : Nat} {xs : Nat → Int32} (hL : L ≤ 2560) (hts : ∀ w ∈ lw_tbl, w.before #[Value.ref b] s = true) (hX : va_X b L xs s s.heap) (hbl : b < s.heap.size) (hgv : zgv.before #[Value.ref b] s = true) :
    ∃ (E : jE) (ext : Nat → Nat → Nat), E.2.2.1 = zAd s.heap.size ext ∧ E.2.2.2.2.1 = L ∧ E.2.2.2.2.2 = xs ∧ E.2.2.1 72 0 = b ∧ jWd E s s.heap ∧ zWd E s ∧ ∀ q, jA E q → s.heap.size ≤ q := by
  have hf : ∀ c ∈ flatC zgv, c.before #[Value.ref b] s = true := flat_of_before _ hgv
  have htj : ∀ w ∈ jgt, w.before #[Value.ref b] s = true := fun w hw => hts w (List.mem_filter.mp hw).1
  have hA0 : ∀ a : Nat, a < s.heap.size → ¬ (fun q : Nat => s.heap.size ≤ q) a := fun a h h2 => by omega
  obtain ⟨c0, i0, kn0⟩ := u_known (C := RX0) (T := TX0) (N := 4) (n := 4) hts inX0 (hts (Jvm.Cond.instantiable "KillingForms$Bench" (4 : Nat)) (List.mem_of_getElem? (i := 102) (by decide +kernel)))
  obtain ⟨c1, i1, kn1⟩ := u_known (C := RX1) (T := TX1) (N := 2) (n := 2) hts inX1 (hts (Jvm.Cond.instantiable "KillingForms$Form" (2 : Nat)) (List.mem_of_getElem? (i := 109) (by decide +kernel)))
  obtain ⟨c2, i2, kn2⟩ := u_known (C := RX2) (T := TX2) (N := 5) (n := 5) hts inX2 (hts (Jvm.Cond.instantiable "KillingForms$Parts" (5 : Nat)) (List.mem_of_getElem? (i := 298) (by decide +kernel)))
  obtain ⟨c3, i3, kn3⟩ := u_known (C := RX3) (T := TX3) (N := 8) (n := 8) hts inX3 (hts (Jvm.Cond.instantiable "KillingForms$Reader" (8 : Nat)) (List.mem_of_getElem? (i := 230) (by decide +kernel)))
  obtain ⟨c4, i4, kn4⟩ := u_known (C := RX4) (T := TX4) (N := 2) (n := 2) hts inX4 (hts (Jvm.Cond.instantiable "KillingForms$Rows" (2 : Nat)) (List.mem_of_getElem? (i := 199) (by decide +kernel)))
  obtain ⟨c5, i5, kn5⟩ := u_known (C := RX5) (T := TX5) (N := 3) (n := 3) hts inX5 (hts (Jvm.Cond.instantiable "KillingForms$Step" (3 : Nat)) (List.mem_of_getElem? (i := 164) (by decide +kernel)))
  obtain ⟨c6, i6, kn6⟩ := u_known (C := RX6) (T := TX6) (N := 3) (n := 3) hts inX6 (hts (Jvm.Cond.instantiable "KillingForms$Steps" (3 : Nat)) (List.mem_of_getElem? (i := 157) (by decide +kernel)))
  obtain ⟨c7, i7, kn7⟩ := u_known (C := RX7) (T := TX7) (N := 4) (n := 4) hts inX7 (hts (Jvm.Cond.instantiable "KillingForms$Table" (4 : Nat)) (List.mem_of_getElem? (i := 278) (by decide +kernel)))
  obtain ⟨c8, i8, kn8⟩ := u_known (C := RX8) (T := TX8) (N := 2) (n := 2) hts inX8 (hts (Jvm.Cond.instantiable "KillingForms$Tape" (2 : Nat)) (List.mem_of_getElem? (i := 214) (by decide +kernel)))
  obtain ⟨c9, i9, kn9⟩ := u_known (C := RX9) (T := TX9) (N := 2) (n := 2) hts inX9 (hts (Jvm.Cond.instantiable "KillingForms$Writer" (2 : Nat)) (List.mem_of_getElem? (i := 265) (by decide +kernel)))
  obtain ⟨c10, i10, kn10⟩ := u_known (C := RX10) (T := TX10) (N := 11) (n := 11) hts inX10 (hts (Jvm.Cond.instantiable "KillingForms" (11 : Nat)) (List.mem_of_getElem? (i := 94) (by decide +kernel)))
  obtain ⟨c11, i11, kn11⟩ := u_known (C := RX11) (T := TX11) (N := 46) (n := 46) hts inX11 (hts (Jvm.Cond.instantiable "KillingFormsModel" (46 : Nat)) (List.mem_of_getElem? (i := 1040) (by decide +kernel)))
  obtain ⟨dC, dI, hKc⟩ : ∃ (dC : Nat → ClassId) (dI : Nat → Nat → Nat), ∀ (k : Nat) (q : vw_C), vwCl[k]? = some q → u_Kn s q.1 q.2.1 q.2.2 (dC k) (dI k) := by
    refine ⟨fun k => ([c0, c1, c2, c3, c4, c5, c6, c7, c8, c9, c10, c11] : List ClassId).getD k c0, fun k => ([i0, i1, i2, i3, i4, i5, i6, i7, i8, i9, i10, i11] : List (Nat → Nat)).getD k i0, ?_⟩
    intro k q hq
    match k, hq with
    | 0, hq => cases hq; exact kn0
    | 1, hq => cases hq; exact kn1
    | 2, hq => cases hq; exact kn2
    | 3, hq => cases hq; exact kn3
    | 4, hq => cases hq; exact kn4
    | 5, hq => cases hq; exact kn5
    | 6, hq => cases hq; exact kn6
    | 7, hq => cases hq; exact kn7
    | 8, hq => cases hq; exact kn8
    | 9, hq => cases hq; exact kn9
    | 10, hq => cases hq; exact kn10
    | 11, hq => cases hq; exact kn11
    | k + 12, hq => simp [vwCl] at hq
  obtain ⟨cI, kI, compI, nI1, nI2, nI3⟩ := Cond.arrayClass_spec (htj _ wz_126)
  have aoF := hts (Jvm.Cond.arrayOver (Jvm.ClassFile.FieldType.object "KillingForms$Form")) (List.mem_of_getElem? (i := 108) (by decide +kernel))
  have aoS := hts (Jvm.Cond.arrayOver (Jvm.ClassFile.FieldType.object "KillingForms$Step")) (List.mem_of_getElem? (i := 163) (by decide +kernel))
  have aoI := hts (Jvm.Cond.arrayOver (Jvm.ClassFile.FieldType.array Jvm.ClassFile.FieldType.int)) (List.mem_of_getElem? (i := 205) (by decide +kernel))
  obtain ⟨compF, cF, kF, nF1, nF2, nF3, nF4, nF5⟩ := Cond.arrayOver_spec aoF
  obtain ⟨compS, cS, kS, nS1, nS2, nS3, nS4, nS5⟩ := Cond.arrayOver_spec aoS
  obtain ⟨compJ, cJ, kJ, nJ1, nJ2, nJ3, nJ4, nJ5⟩ := arrayOverA_spec aoI
  have eJ : compJ = cI := Option.some.inj (nJ1.symm.trans nI1)
  obtain ⟨tY, hY, tYT⟩ := va_Tof (tm := .static "KillingForms" "Y_POWERS" "[I") (ty := .int) (N := 21) (f := fun j => .int (zyY j)) (A := fun q : Nat => s.heap.size ≤ q) (by decide) (hf (.arrayOf (.static "KillingForms" "Y_POWERS" "[I") .int) (by decide +kernel)) (va_eqt (hf (.eq (.length (.static "KillingForms" "Y_POWERS" "[I")) (.int 21)) (by decide +kernel))) (fun j hj => va_eqt (hf _ (zg_Y j hj))) hA0
  obtain ⟨tZ, hZ, tZT⟩ := va_Tof (tm := .static "KillingForms" "Z_POWERS" "[I") (ty := .int) (N := 21) (f := fun j => .int (zyZ j)) (A := fun q : Nat => s.heap.size ≤ q) (by decide) (hf (.arrayOf (.static "KillingForms" "Z_POWERS" "[I") .int) (by decide +kernel)) (va_eqt (hf (.eq (.length (.static "KillingForms" "Z_POWERS" "[I")) (.int 21)) (by decide +kernel))) (fun j hj => va_eqt (hf _ (zg_Z j hj))) hA0
  have hini := hts (Jvm.Cond.initialized "KillingForms") (List.mem_of_getElem? (i := 74) (by decide +kernel))
  have zY := va_Zref (A := fun q : Nat => s.heap.size ≤ q) (hts (Jvm.Cond.laysStatic "KillingForms" "Y_POWERS" "[I") (List.mem_of_getElem? (i := 470) (by decide +kernel))) hini hY hA0
  have zZ := va_Zref (A := fun q : Nat => s.heap.size ≤ q) (hts (Jvm.Cond.laysStatic "KillingForms" "Z_POWERS" "[I") (List.mem_of_getElem? (i := 445) (by decide +kernel))) hini hZ hA0
  have zC := va_Zof (A := fun q : Nat => s.heap.size ≤ q) (hts (Jvm.Cond.laysStatic "java/lang/String" "COMPACT_STRINGS" "Z") (List.mem_of_getElem? (i := 870) (by decide +kernel))) (hts (Jvm.Cond.initialized "java/lang/String") (List.mem_of_getElem? (i := 89) (by decide +kernel))) (va_eqi (z := 1) (hf _ (by decide +kernel))) hA0
  have zF := va_Zqof (A := fun q : Nat => s.heap.size ≤ q) (hts (Jvm.Cond.laysStatic "jdk/internal/util/Preconditions" "SIOOBE_FORMATTER" "Ljava/util/function/BiFunction;") (List.mem_of_getElem? (i := 886) (by decide +kernel))) (hts (Jvm.Cond.initialized "jdk/internal/util/Preconditions") (List.mem_of_getElem? (i := 91) (by decide +kernel))) (hf _ (by decide +kernel)) hA0
  obtain ⟨zv, hzv, zF⟩ : ∃ zv : Value, (zv = .null ∨ ∃ t, zv = .ref t) ∧ va_Z "jdk/internal/util/Preconditions" "SIOOBE_FORMATTER" "Ljava/util/function/BiFunction;" zv (fun q : Nat => s.heap.size ≤ q) s s.heap := by
    rcases zF with h | ⟨t, h⟩
    · exact ⟨_, Or.inl rfl, h⟩
    · exact ⟨_, Or.inr ⟨t, rfl⟩, h⟩
  obtain ⟨adK, adV, ⟨hS, -⟩, hSe⟩ := vk_Sof (args := #[Value.ref b]) (s := s) (N := 4) (tm := fun i => .string "KillingForms$Reader" (zsk i)) (len := zlen) (byt := zbyt) (A := fun q : Nat => s.heap.size ≤ q) (by decide) (fun i hi => hf _ (zg_s1 i hi)) (fun i hi => hf _ (zg_s2 i hi)) (fun i hi => hf _ (zg_s3 i hi)) (fun i hi => hf _ (zg_s4 i hi)) (fun i hi j hj => hf _ (zg_s5 i hi j hj)) (fun i j hi hj hij => (zg_s6 i hi j hj hij).imp (hf _) (hf _)) hA0
  let E : jE := ((dC, dI), (fun t => ([cI, cF, cS, cJ] : List ClassId).getD t cI), zAd s.heap.size (zext tY tZ b adK adV), zv, L, xs)
  have hAE : ∀ q, jA E q → s.heap.size ≤ q := by
    rintro q ⟨k, i, hk, hi, rfl⟩
    show s.heap.size ≤ zAd s.heap.size (zext tY tZ b adK adV) k i
    rw [zAd_lt hk]
    exact Nat.le_add_right _ _
  have hK : va_K E.1 vwCl (jtys E) s := by
    refine ⟨hKc, fun k q hq => ?_⟩
    match k, hq with
    | 0, hq => cases hq; exact ⟨fun N z => ⟨(fun k h => by cases h), kI, nI2, compI, nI3⟩, nI1⟩
    | 1, hq => cases hq; exact ⟨fun N z => ⟨(fun k h => by cases h), kF, nF3, compF, nF4⟩, kF, compF, nF3, nF4, nF1, nF5⟩
    | 2, hq => cases hq; exact ⟨fun N z => ⟨(fun k h => by cases h), kS, nS3, compS, nS4⟩, kS, compS, nS3, nS4, nS1, nS5⟩
    | 3, hq => cases hq; exact ⟨fun N z => ⟨(fun k h => by cases h), kJ, nJ3, compJ, nJ4⟩, nJ5⟩
    | k + 4, hq => simp [jtys] at hq
  have hnest : ∀ w ∈ jnest, va_Nw w s := fun w hw => va_Nw.of (znest_on w hw) (hts w (jnest_in w hw))
  have hscr : ¬ jA E b := fun h => by have := hAE b h; omega
  refine ⟨E, zext tY tZ b adK adV, rfl, rfl, rfl, rfl, ⟨hK, hzv, ⟨zY.narrow hAE, tYT.narrow hAE⟩, ⟨zZ.narrow hAE, tZT.narrow hAE⟩, zC.narrow hAE, zF.narrow hAE, fun i hi => ?_, fun q hq => ?_, hnest, ⟨hX, hscr, hL⟩, kJ, nJ3, ?_⟩, ⟨hK, va_AO.of aoF, va_AO.of aoS, over_moved (Vm.Alike.refl s.vm) aoI, hnest⟩, hAE⟩
  · obtain ⟨h1, h2, h3, h4⟩ := hS i hi
    refine ⟨h1.narrow hAE, h2.narrow hAE, h3.narrow hAE, ?_⟩
    rw [zsb_eq i hi, zsl_eq i hi] at h4
    exact h4.narrow hAE
  · rw [zsref_eq] at hq
    rcases List.mem_append.mp hq with h | h
    · obtain ⟨i, hi, rfl⟩ := List.mem_map.mp h
      have hi := List.mem_range.mp hi
      exact vk_R.of (hts _ (zg_r1 i hi)) (hSe i hi)
    · obtain ⟨i, hi, rfl⟩ := List.mem_map.mp h
      have hi := List.mem_range.mp hi
      exact vk_R.of (hts _ (zg_r2 i hi)) (va_eqR (hf _ (zg_s7 i hi)) (hSe i hi))
  · rw [nJ4, eJ]
    rfl
