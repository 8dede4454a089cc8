/-! THE MAKING MACHINE: constructors, run on closed data: cells in the order in which they are made, from the address B on -/
abbrev zV : Type := Int ⊕ Option Nat
abbrev zC : Type := (Nat × List zV) ⊕ (Nat × List zV)
abbrev zM : Type := List zC
abbrev zU : Type := zM × Nat × Nat
abbrev zS : Type := List (Option zV)
abbrev zL : Type := Nat → List zV → zM → Option zM
abbrev zK : Type := Nat → zS → List zV → zU → Option zM
abbrev zO : Type := zS → List zV → zU → zL → zK → Option zM
def zmc (y : Nat) : Nat := ([1, 0, 0, 0, 2, 25, 5, 1, 3, 1, 23, 2, 48, 167, 29] : List Nat).getD y 0
def zms (y : Nat) : Nat := ([21, 0, 0, 0, 23, 216, 126, 80, 27, 200, 483, 13, 540, 2282, 3021] : List Nat).getD y 0
def znm (y : Nat) : MethodName := ([yX1_init, yX1_clear, yX1_set, yX1_becomeLine, yX5_init, yX6_init, yX4_init, yX8_init, yX3_init, yX9_init, yX7_init, yX2_init, yX0_init, yX10_init, yX11_init] : List MethodName).getD y yX1_init
def zby (y : Nat) : ByteArray := ([cX1_init, cX1_clear, cX1_set, cX1_becomeLine, cX5_init, cX6_init, cX4_init, cX8_init, cX3_init, cX9_init, cX7_init, cX2_init, cX0_init, cX10_init, cX11_init] : List ByteArray).getD y cX1_init
def zml (y : Nat) : Nat := ([1, 3, 3, 4, 1, 2, 1, 1, 2, 1, 1, 2, 2, 1, 2] : List Nat).getD y 1
def zrm (y : Nat) : Room := { frames := ([1, 0, 0, 1, 2, 3, 1, 1, 2, 1, 1, 1, 2, 4, 1] : List Nat).getD y 1, cells := zmc y, slots := zms y, locals := ([12, 0, 0, 22, 32, 52, 12, 12, 32, 12, 12, 12, 45, 73, 12] : List Nat).getD y 12 }
def z_stk : zO := fun _ _ _ _ _ => none
def z_li (nx i : Nat) : zO := fun ls st u _ k => match ls[i]? with
  | some (some (.inl x)) => k nx ls (.inl x :: st) u
  | _ => none
def z_la (nx i : Nat) : zO := fun ls st u _ k => match ls[i]? with
  | some (some (.inr (some q))) => k nx ls (.inr (some q) :: st) u
  | _ => none
def z_si (nx i : Nat) : zO := fun ls st u _ k => match st with
  | .inl x :: r => k nx (ls.set i (some (.inl x))) r u
  | _ => none
def z_sa (nx i : Nat) : zO := fun ls st u _ k => match st with
  | .inr (some x) :: r => k nx (ls.set i (some (.inr (some x)))) r u
  | _ => none
def z_const (nx : Nat) (c : Int) : zO := fun ls st u _ k => k nx ls (.inl c :: st) u
def z_iinc (nx i : Nat) (c : Int) : zO := fun ls st u _ k => match ls[i]? with
  | some (some (.inl x)) => k nx (ls.set i (some (.inl (jw (x + c))))) st u
  | _ => none
def z_goto (tg : Nat) : zO := fun ls st u _ k => k tg ls st u
def z_iflt (nx tg : Nat) : zO := fun ls st u _ k => match st with
  | .inl x :: r => if -2147483648 ≤ x ∧ x < 2147483648 then (if x < 0 then k tg ls r u else k nx ls r u) else none
  | _ => none
def z_icge (nx tg : Nat) : zO := fun ls st u _ k => match st with
  | .inl y :: .inl x :: r => if (-2147483648 ≤ x ∧ x < 2147483648) ∧ (-2147483648 ≤ y ∧ y < 2147483648) then (if y ≤ x then k tg ls r u else k nx ls r u) else none
  | _ => none
def z_dup (nx : Nat) : zO := fun ls st u _ k => match st with
  | v :: r => k nx ls (v :: v :: r) u
  | _ => none
def z_get (nx ci j : Nat) : zO := fun ls st u _ k => match st with
  | .inr (some q) :: r => match u.1[q]? with
    | some (.inl (c, fs)) => if c = ci then (match fs[j]? with | some v => k nx ls (v :: r) u | none => none) else none
    | _ => none
  | _ => none
def z_put (nx ci j : Nat) (ok : zV → Bool) : zO := fun ls st u _ k => match st with
  | v :: .inr (some q) :: r => match u.1[q]? with
    | some (.inl (c, fs)) => if (c = ci ∧ j < fs.length) ∧ ok v = true then k nx ls r (u.1.set q (.inl (ci, fs.set j v)), u.2) else none
    | _ => none
  | _ => none
def z_new (nx ci N : Nat) (fs : List zV) (mc ms : Nat) : zO := fun ls st u _ k => if u.2.1 + 1 ≤ mc ∧ u.2.2 + N ≤ ms then k nx ls (.inr (some u.1.length) :: st) (u.1 ++ [.inl (ci, fs)], u.2.1 + 1, u.2.2 + N) else none
def z_newI (nx mc ms : Nat) : zO := fun ls st u _ k => match st with
  | .inl n :: r => if (0 ≤ n ∧ n < 1000) ∧ u.2.1 + 1 ≤ mc ∧ u.2.2 + n.toNat ≤ ms then k nx ls (.inr (some u.1.length) :: r) (u.1 ++ [.inr (0, List.replicate n.toNat (.inl 0))], u.2.1 + 1, u.2.2 + n.toNat) else none
  | _ => none
def z_newA (nx t mc ms : Nat) : zO := fun ls st u _ k => match st with
  | .inl n :: r => if (0 ≤ n ∧ n < 1000) ∧ u.2.1 + 1 ≤ mc ∧ u.2.2 + n.toNat ≤ ms then k nx ls (.inr (some u.1.length) :: r) (u.1 ++ [.inr (t, List.replicate n.toNat (.inr none))], u.2.1 + 1, u.2.2 + n.toNat) else none
  | _ => none
def z_mna (nx mc ms : Nat) : zO := fun ls st u _ k => match st with
  | .inl m :: .inl n :: r => if ((0 ≤ n ∧ n < 1000) ∧ (0 ≤ m ∧ m < 1000)) ∧ u.2.1 + (1 + n.toNat) ≤ mc ∧ u.2.2 + (n.toNat + n.toNat * m.toNat) ≤ ms then k nx ls (.inr (some u.1.length) :: r) ((u.1 ++ [.inr (3, (List.range n.toNat).map (fun i => .inr (some (u.1.length + 1 + i))))]) ++ List.replicate n.toNat (.inr (0, List.replicate m.toNat (.inl 0))), u.2.1 + 1 + n.toNat, u.2.2 + n.toNat + n.toNat * m.toNat) else none
  | _ => none
def z_aald (nx t : Nat) : zO := fun ls st u _ k => match st with
  | .inl j :: .inr (some q) :: r => match u.1[q]? with
    | some (.inr (t', es)) => if t' = t ∧ 0 ≤ j ∧ j < 1000 then (match es[j.toNat]? with | some (.inr (some x)) => k nx ls (.inr (some x) :: r) u | _ => none) else none
    | _ => none
  | _ => none
def z_aast (nx t ci : Nat) : zO := fun ls st u _ k => match st with
  | .inr (some v) :: .inl j :: .inr (some q) :: r => match u.1[q]?, u.1[v]? with
    | some (.inr (t', es)), some (.inl (c, _)) => if t' = t ∧ c = ci ∧ 0 ≤ j ∧ j < 1000 ∧ j.toNat < es.length then k nx ls r (u.1.set q (.inr (t, es.set j.toNat (.inr (some v)))), u.2) else none
    | _, _ => none
  | _ => none
def z_iast (nx : Nat) : zO := fun ls st u _ k => match st with
  | .inl v :: .inl j :: .inr (some q) :: r => match u.1[q]? with
    | some (.inr (t', es)) => if t' = 0 ∧ 0 ≤ j ∧ j < 1000 ∧ j.toNat < es.length then k nx ls r (u.1.set q (.inr (0, es.set j.toNat (.inl v))), u.2) else none
    | _ => none
  | _ => none
def z_call (nx y n mc ms : Nat) : zO := fun ls st u call k => if (n + 1 ≤ st.length ∧ (st.drop (n + 1)).length ≤ 8) ∧ u.2.1 + zmc y ≤ mc ∧ u.2.2 + zms y ≤ ms then (match (st.take (n + 1)).reverse with
  | .inr (some q) :: as => match call y (.inr (some q) :: as) u.1 with
    | some M' => k nx ls (st.drop (n + 1)) (M', u.2.1 + zmc y, u.2.2 + zms y)
    | none => none
  | _ => none) else none
def z_callV (nx y n ci mc ms : Nat) : zO := fun ls st u call k => if (n + 1 ≤ st.length ∧ (st.drop (n + 1)).length ≤ 8) ∧ u.2.1 + zmc y ≤ mc ∧ u.2.2 + zms y ≤ ms then (match (st.take (n + 1)).reverse with
  | .inr (some q) :: as => match u.1[q]? with
    | some (.inl (c, _)) => if c = ci then (match call y (.inr (some q) :: as) u.1 with
      | some M' => k nx ls (st.drop (n + 1)) (M', u.2.1 + zmc y, u.2.2 + zms y)
      | none => none) else none
    | _ => none
  | _ => none) else none
def z_obj (nx : Nat) : zO := fun ls st u _ k => match st with
  | [.inr (some _)] => k nx ls [] u
  | _ => none
def z_vret (mc ms : Nat) : zO := fun _ st u _ _ => match st with
  | [] => if u.2.1 ≤ mc ∧ u.2.2 ≤ ms then some u.1 else none
  | _ => none
def zent (n : Nat) (as : List zV) : zS := as.map some ++ List.replicate (n - as.length) none
def zrun (C : Nat → Nat → zO) (ml : Nat → Nat) : Nat → Nat → Nat → zS → List zV → zU → Option zM
  | 0, _, _, _, _, _ => none
  | n + 1, y, pc, ls, st, u => C y pc ls st u (fun y' as M' => zrun C ml n y' 0 (zent (ml y') as) [] (M', 0, 0)) (fun pc' ls' st' u' => zrun C ml n y pc' ls' st' u')
/-! in the heap -/
def zcv (B : Nat) : zV → Value
  | .inl x => .int (Int32.ofInt x)
  | .inr none => .null
  | .inr (some i) => .ref (B + i)
def zint : zV → Int32
  | .inl x => Int32.ofInt x
  | .inr _ => 0
def zrf (B : Nat) : zV → Option Nat
  | .inl _ => none
  | .inr o => o.map (fun i => B + i)
def zcell (E : jE) (B : Nat) : zC → va_E
  | .inl (ci, fs) => .inr (ci, fs.map (zcv B))
  | .inr (t, es) => bif Nat.beq t 0 then .inl (E.2.1 0, es.length, .inl (fun j => zint (es.getD j (.inl 0)))) else .inl (E.2.1 t, es.length, .inr (.inr (.inr (.inr (fun j => zrf B (es.getD j (.inr none)))))))
def zWL (E : jE) (B : Nat) (M : zM) : va_W := M.zipIdx.map (fun q => (B + q.2, zcell E B q.1))
def zA (B : Nat) : Nat → Prop := fun q => B ≤ q
def zRel (E : jE) (B : Nat) (M : zM) (H : Heap) : Prop := H.size = B + M.length ∧ va_P E.1 vwCl (zWL E B M) H
theorem zWL_get (E : jE) (B : Nat) (M : zM) (i : Nat) : (zWL E B M)[i]? = (M[i]?).map (fun c => (B + i, zcell E B c)) := by
  unfold zWL
  rw [List.getElem?_map, List.getElem?_zipIdx]
  cases M[i]? with
  | none => rfl
  | some c => simp
theorem zWL_at {E : jE} {B : Nat} {M : zM} {i : Nat} {c : zC} (h : M[i]? = some c) : (zWL E B M)[i]? = some (B + i, zcell E B c) := by rw [zWL_get, h]; rfl
theorem zWL_len (E : jE) (B : Nat) (M : zM) : (zWL E B M).length = M.length := by simp [zWL]
theorem zWL_app (E : jE) (B : Nat) (M : zM) (c : zC) : zWL E B (M ++ [c]) = zWL E B M ++ [(B + M.length, zcell E B c)] := by
  apply List.ext_getElem?
  intro i
  rw [zWL_get, List.getElem?_append, List.getElem?_append, zWL_len]
  by_cases h : i < M.length
  · rw [if_pos h, if_pos h, zWL_get]
  · rw [if_neg h, if_neg h]
    by_cases h2 : i = M.length
    · subst h2; simp
    · have : 1 ≤ i - M.length := by omega
      rw [List.getElem?_eq_none (by simpa using this), List.getElem?_eq_none (by simpa using this)]
      rfl
theorem zWL_set {E : jE} {B : Nat} {M : zM} {i : Nat} {c : zC} : (zWL E B M).set i (B + i, zcell E B c) = zWL E B (M.set i c) := by
  apply List.ext_getElem?
  intro j
  rw [List.getElem?_set, zWL_get, zWL_get, List.getElem?_set, zWL_len]
  by_cases h : i = j
  · subst h
    rw [if_pos rfl, if_pos rfl]
    by_cases h2 : i < M.length
    · rw [if_pos h2, if_pos h2]; rfl
    · rw [if_neg h2, if_neg h2]; rfl
  · rw [if_neg h, if_neg h]
theorem zWL_D (E : jE) (B : Nat) (M : zM) : va_D (zA B) (zWL E B M) := by
  refine ⟨fun i j p q hp hq e => ?_, fun i q hq => ?_⟩
  · rw [zWL_get] at hp hq
    cases hi : M[i]? with
    | none => rw [hi] at hp; cases hp
    | some a =>
      cases hj : M[j]? with
      | none => rw [hj] at hq; cases hq
      | some b =>
        rw [hi] at hp; rw [hj] at hq
        cases hp; cases hq
        have e : B + i = B + j := e
        omega
  · rw [zWL_get] at hq
    cases hi : M[i]? with
    | none => rw [hi] at hq; cases hq
    | some a => rw [hi] at hq; cases hq; exact Nat.le_add_right _ _
theorem zcv_rf (B : Nat) (o : Option Nat) : zcv B (.inr o) = va_rf (o.map (fun i => B + i)) := by cases o <;> rfl
theorem zcv_cat (B : Nat) (v : zV) : (zcv B v).category = 1 := by
  match v with
  | .inl x => rfl
  | .inr none => rfl
  | .inr (some i) => rfl
def zll (B : Nat) (ls : zS) : List (Nat × Value) := ls.zipIdx.filterMap (fun q => q.1.map (fun v => (q.2, zcv B v)))
theorem zll_mem {B : Nat} {ls : zS} {q : Nat × Value} : q ∈ zll B ls ↔ ∃ v, ls[q.1]? = some (some v) ∧ q.2 = zcv B v := by
  unfold zll
  rw [List.mem_filterMap]
  constructor
  · rintro ⟨⟨o, i⟩, h1, h2⟩
    have h3 := List.mem_zipIdx_iff_getElem?.mp h1
    cases o with
    | none => cases h2
    | some v => cases h2; exact ⟨v, h3, rfl⟩
  · rintro ⟨v, h1, h2⟩
    refine ⟨(some v, q.1), List.mem_zipIdx_iff_getElem?.mpr h1, ?_⟩
    obtain ⟨a, b⟩ := q
    simp only at h2
    subst h2
    rfl
def zLs (B nL : Nat) (lsc : Array Slot) (ls : zS) : Prop := ls.length = nL ∧ lv_has lsc nL (zll B ls)
theorem zLs.get {B nL : Nat} {lsc : Array Slot} {ls : zS} (h : zLs B nL lsc ls) {i : Nat} {v : zV} (hi : ls[i]? = some (some v)) : lsc[i]? = some (.val (zcv B v)) :=
  h.2.2.2 (i, zcv B v) (zll_mem.mpr ⟨v, hi, rfl⟩)
theorem zLs.set {B nL : Nat} {lsc ls' : Array Slot} {ls : zS} (h : zLs B nL lsc ls) {i : Nat} {v : zV} (h' : lv_has ls' nL ((i, zcv B v) :: (zll B ls).filter (fun q => !(q.1 == i) && !(q.1 + 1 == i && q.2.category == 2)))) (hi : i < nL) : zLs B nL ls' (ls.set i (some v)) := by
  refine ⟨by rw [List.length_set]; exact h.1, h'.1, h'.2.1, fun q hq => ?_⟩
  obtain ⟨w, h1, h2⟩ := zll_mem.mp hq
  obtain ⟨a, b⟩ := q
  simp only at h1 h2
  subst h2
  rw [List.getElem?_set] at h1
  by_cases e : i = a
  · subst e
    rw [if_pos rfl, if_pos (by rw [h.1]; exact hi)] at h1
    cases h1
    exact h'.2.2 _ List.mem_cons_self
  · rw [if_neg e] at h1
    refine h'.2.2 (a, zcv B w) (List.mem_cons_of_mem _ (List.mem_filter.mpr ⟨zll_mem.mpr ⟨w, h1, rfl⟩, ?_⟩))
    have hc := zcv_cat B w
    simp [hc, Ne.symm e]
theorem zargs1 (B : Nat) : ∀ (as : List zV) (i : Nat), (lg_sl (as.map (zcv B))).length = as.length ∧ ∀ q, q ∈ lv_args i (as.map (zcv B)) ↔ ∃ j v, q.1 = i + j ∧ as[j]? = some v ∧ q.2 = zcv B v
  | [], i => ⟨rfl, fun q => ⟨fun h => (by cases h), fun ⟨j, v, h1, h2, h3⟩ => (by simp at h2)⟩⟩
  | v :: vs, i => by
    have hc : ¬ (zcv B v).category = 2 := by rw [zcv_cat]; decide
    obtain ⟨h1, h2⟩ := zargs1 B vs (i + 1)
    refine ⟨?_, fun q => ?_⟩
    · rw [List.map_cons, lg_sl, List.flatMap_cons, if_neg hc, List.length_append, List.length_cons, List.length_cons, List.length_nil]
      have h1 : (List.flatMap (fun v => if v.category = 2 then [Slot.val v, Slot.second] else [Slot.val v]) (vs.map (zcv B))).length = vs.length := h1
      omega
    · rw [List.map_cons, lv_args, if_neg hc, List.mem_cons, h2 q]
      constructor
      · rintro (rfl | ⟨j, w, e1, e2, e3⟩)
        · exact ⟨0, v, rfl, rfl, rfl⟩
        · exact ⟨j + 1, w, by omega, by simpa using e2, e3⟩
      · rintro ⟨j, w, e1, e2, e3⟩
        cases j with
        | zero =>
          left
          cases e2
          obtain ⟨a, b⟩ := q
          simp only at e1 e3
          subst e1
          subst e3
          rfl
        | succ j => exact Or.inr ⟨j, w, by omega, by simpa using e2, e3⟩
theorem zArgs (B : Nat) (as : List zV) : (lg_sl (as.map (zcv B))).length = as.length ∧ ∀ q, q ∈ lv_args 0 (as.map (zcv B)) ↔ ∃ v, as[q.1]? = some v ∧ q.2 = zcv B v := by
  obtain ⟨h1, h2⟩ := zargs1 B as 0
  refine ⟨h1, fun q => (h2 q).trans ⟨fun ⟨j, v, e1, e2, e3⟩ => ⟨v, ?_, e3⟩, fun ⟨v, e2, e3⟩ => ⟨q.1, v, by omega, e2, e3⟩⟩⟩
  rw [e1, Nat.zero_add]
  exact e2
theorem zP_of {E : jE} {B : Nat} {M : zM} {H : Heap} (h : ∀ (i : Nat) (c : zC), M[i]? = some c → va_at E.1 vwCl (B + i, zcell E B c) H) : va_P E.1 vwCl (zWL E B M) H := by
  intro k q hk
  rw [zWL_get] at hk
  cases hM : M[k]? with
  | none => rw [hM] at hk; cases hk
  | some c => rw [hM] at hk; cases hk; exact h k c hM
theorem zP_at {E : jE} {B : Nat} {M : zM} {H : Heap} (h : va_P E.1 vwCl (zWL E B M) H) {i : Nat} {c : zC} (hi : M[i]? = some c) : va_at E.1 vwCl (B + i, zcell E B c) H := h i _ (zWL_at hi)
theorem zrep {α : Type} (n j : Nat) (x : α) : (List.replicate n x).getD j x = x := by
  rw [List.getD_eq_getElem?_getD, List.getElem?_replicate]
  by_cases h : j < n
  · rw [if_pos h]; rfl
  · rw [if_neg h]; rfl
/-! world facts, contracts, goals -/
def zAOA (U : State) : Prop := (Cond.arrayOver (.array .int)).before #[] U = true
def zWd (E : jE) (U : State) : Prop := va_K E.1 vwCl (jtys E) U ∧ va_AO "KillingForms$Form" U ∧ va_AO "KillingForms$Step" U ∧ zAOA U ∧ (∀ w ∈ jnest, va_Nw w U)
theorem zWd.moved {E : jE} {s U : State} (hW : s.WarmedH U.vm) (h : zWd E s) : zWd E U := by
  obtain ⟨h1, h2, h3, h4, h11⟩ := h
  have hv := hW.alike
  refine ⟨va_K.moved hv h1, h2.moved hv, h3.moved hv, over_moved hv h4, fun w hw => ?_⟩
  have hn := h11 w hw
  have hk : (∃ a i b n d h, w = .fieldLinkNest a i b n d h) ∨ ∃ a i x h, w = .methodLinkNest a i x h := by
    have h0 : (jnest.all fun w => match w with | .fieldLinkNest .. => true | .methodLinkNest .. => true | _ => false) = true := by decide +kernel
    have h1 := List.all_eq_true.mp h0 w hw
    cases w <;> first | exact Or.inl ⟨_, _, _, _, _, _, rfl⟩ | exact Or.inr ⟨_, _, _, _, rfl⟩ | (simp at h1)
  rcases hk with ⟨a, i, b, n, d, h, rfl⟩ | ⟨a, i, x, h, rfl⟩
  · exact va_Nw.warmF hW hn
  · exact va_Nw.warmM hW hn
theorem zty (E : jE) {s : State} (h : zWd E s) (t : Nat) (C : String) (ht : (jtys E)[t]? = some (E.2.1 t, .object C)) : s.vm.findClass ("[" ++ (FieldType.object C).toString) = some (E.2.1 t) := by
  obtain ⟨-, kA, comp, -, -, -, h⟩ := h.1.2 t _ ht
  exact h
theorem zty0 (E : jE) {s : State} (h : zWd E s) : s.vm.findClass ("[" ++ FieldType.int.toString) = some (E.2.1 0) := (h.1.2 0 (E.2.1 0, .int) rfl).2
theorem zty3 (E : jE) {s : State} (h : zWd E s) : s.vm.findClass ("[" ++ (FieldType.array .int).toString) = some (E.2.1 3) := (h.1.2 3 (E.2.1 3, .array .int) rfl).2
def zws (y : Nat) : List Cond := Cond.code (znm y) (zby y) (zml y) none :: jgt
def zPc (E : jE) (B : Nat) (as : List zV) (M : zM) : Array Value → State → Prop := fun v U => v = (as.map (zcv B)).toArray ∧ zRel E B M U.heap ∧ zWd E U
def zQc (E : jE) (B : Nat) (M : zM) : Array Value → State → Outcome → State → Prop := fun _ st o t => o = .returned none ∧ zRel E B M t.heap ∧ va_F (zA B) st t
def zMet (l : Launch) (E : jE) (B y : Nat) (as : List zV) (M M' : zM) : Prop := Met l (znm y) (zws y) (zrm y) (zPc E B as M) (zQc E B M') (zmc y) (zms y) (zA B)
def zCs (l : Launch) (E : jE) (B : Nat) (call : zL) : Prop := ∀ y as M M', call y as M = some M' → as.length ≤ zml y → zMet l E B y as M M'
def zX (E : jE) (p : Program) (s : State) (m : MethodId) (args : Array Value) (meth : Method) (c : Code) (cc : ByteArray) (own : String) (nL : Nat) (ini : Bool) : Prop :=
  p.tables.exec = Jvm.exec ∧ c.code = cc ∧ c.maxLocals = nL ∧ s.vm.findClass own = some m.cls ∧ (∀ w ∈ jgt, w.before args s = true) ∧ zWd E s ∧ (ini = true → meth.name = "<init>")
def zW (l : Launch) (E : jE) (B : Nat) (p : Program) (e : Env) (R : Room) (s : State) (m : MethodId) (args : Array Value) (below : List Frame) (meth : Method) (c : Code) (Q : State → Prop) (nL : Nat) (pc : Nat) (ls : zS) (st : List zV) (u : zU) : Prop :=
  ∀ (H : Heap) (locs : List Loc) (lsc : Array Slot), zRel E B u.1 H → va_S (zA B) s.heap H locs → zLs B nL lsc ls → W p l e R s m args below meth c H locs u.2.1 u.2.2 Q (F0 m pc lsc (st.map (zcv B)))
def zEnd (l : Launch) (E : jE) (B : Nat) (p : Program) (e : Env) (R : Room) (s : State) (m : MethodId) (args : Array Value) (below : List Frame) (meth : Method) (c : Code) (Q : State → Prop) (cc : ByteArray) (M : zM) : Prop :=
  ∀ (pc : Nat) (H : Heap) (locs : List Loc) (lsc : Array Slot) (cells slots : Nat), zRel E B M H → va_S (zA B) s.heap H locs → cells ≤ R.cells → slots ≤ R.slots → decode cc pc = .ok (.return_, 1) → W p l e R s m args below meth c H locs cells slots Q (F0 m pc lsc [])
def zOk (l : Launch) (E : jE) (B : Nat) (cc : ByteArray) (own : String) (nL : Nat) (ini : Bool) (R : Room) (pc : Nat) (op : zO) : Prop :=
  ∀ (p : Program) (e : Env) (s : State) (m : MethodId) (args : Array Value) (below : List Frame) (meth : Method) (c : Code) (Q : State → Prop),
    zX E p s m args meth c cc own nL ini →
    ∀ (ls : zS) (st : List zV) (u : zU) (call : zL) (k : zK) (r : zM), op ls st u call k = some r → zCs l E B call →
      (∀ pc' ls' st' u', k pc' ls' st' u' = some r → zW l E B p e R s m args below meth c Q nL pc' ls' st' u') →
      zEnd l E B p e R s m args below meth c Q cc r →
      zW l E B p e R s m args below meth c Q nL pc ls st u
section ZW
variable {l : Launch} {E : jE} {B : Nat} {p : Program} {e : Env} {R : Room} {s : State} {m : MethodId} {args : Array Value} {below : List Frame} {meth : Method} {c : Code} {H : Heap} {locs : List Loc} {cells slots : Nat} {Q : State → Prop} {cc : ByteArray} {own : String} {nL : Nat} {ini : Bool} {pc : Nat}
theorem zw_new {idx ci N : Nat} {C : String} {T : u_T} {ty : Nat → FieldType} {fs : List zV} (X : zX E p s m args meth c cc own nL ini) (hty : ∀ k, k < N → parseFieldDescriptor (T k).2.2.1 = some (ty k)) (hd : decode cc pc = .ok (.new idx, 3)) (hc : vwCl[ci]? = some (C, T, N)) (hin : ∀ w ∈ u_ws C T N, w ∈ jgt) (hl : Cond.classLink own idx C ∈ jgt) (hi : Cond.instantiable C N ∈ jgt) (hini : Cond.initialized C ∈ jgt)
    (hfs : ∀ j, j < N → defaultValue (ty j) = vp_V (fs.map (zcv 0)) j) (hz : fs.map (zcv B) = fs.map (zcv 0)) {M : zM} (hR : zRel E B M H) (hS : va_S (zA B) s.heap H locs) (hcl : cells + 1 ≤ R.cells) (hsl : slots + N ≤ R.slots) {lsc : Array Slot} {rest : List Value}
    (kk : ∀ H1 : Heap, zRel E B (M ++ [.inl (ci, fs)]) H1 → va_S (zA B) s.heap H1 locs → W p l e R s m args below meth c H1 locs (cells + 1) (slots + N) Q (F0 m (pc + 3) lsc (.ref (B + M.length) :: rest))) : W p l e R s m args below meth c H locs cells slots Q (F0 m pc lsc rest) := by
  obtain ⟨hx, hb, hml, hown, hts, hW, -⟩ := X
  obtain ⟨hsz, hP⟩ := hR
  have hKn := hW.1.1 ci _ hc
  refine W.newcK hx hb hown (hts _ hl) (hts _ hi) (hts _ hini) rfl hd hcl hsl hKn.2.1 hsz fun H1 kC hkC e1 z1 o1 => ?_
  refine W.eq (g2 := F0 m (pc + 3) lsc (.ref (B + M.length) :: rest)) rfl (kk H1 ⟨by rw [z1, List.length_append]; rfl, zP_of fun i x hx2 => ?_⟩ ⟨Nat.le_trans hS.1 (by omega), fun x h1 h2 => (o1 x (by have := hS.1; omega)).trans (hS.2.1 x h1 h2), hS.2.2⟩)
  rw [List.getElem?_append] at hx2
  split at hx2
  · rename_i hlt
    exact (zP_at hP hx2).kept (o1 _ (by show B + i < B + M.length; omega))
  · rename_i hlt
    have h0 : i - M.length < 1 := (List.getElem?_eq_some_iff.mp hx2).1
    have h1 : i = M.length := by omega
    subst h1
    rw [Nat.sub_self] at hx2
    cases hx2
    refine ⟨_, hc, (u_born ty hts hin hKn hkC e1 hty).to (fun j hj => ?_)⟩
    rw [hz]
    exact hfs j hj
theorem z_after {pc : Nat} {lsc : Array Slot} {rest st0 : List Value} {a : Array Value} {M : zM} {mc ms : Nat} (hr : va_Run p l e R s m args below meth c H locs cells slots mc ms (F0 m pc lsc st0) rest (zQc E B M a) (zA B)) (hS : va_S (zA B) s.heap H locs)
    (kk : ∀ (H1 : Heap) (locs1 : List Loc), zRel E B M H1 → va_S (zA B) s.heap H1 locs1 → W p l e R s m args below meth c H1 locs1 (cells + mc) (slots + ms) Q (F0 m (pc + 3) lsc rest)) : W p l e R s m args below meth c H locs cells slots Q (F0 m pc lsc st0) := by
  intro T hT X
  obtain ⟨v, st₀, t, T', L, h0, X', hL, e1, e2, ⟨hv, hRel, ⟨hz, hk⟩⟩, st⟩ := hr T hT X
  cases hv
  rw [h0] at hz hk
  obtain ⟨t2, a1, b1⟩ := kk T'.heap (locs ++ L) (by rw [e1]; exact hRel)
    ⟨Nat.le_trans hS.1 (by rw [e1]; exact hz), fun q h1 h2 => by rw [e1, hk q (Nat.lt_of_lt_of_le h1 hS.1) h2]; exact hS.2.1 q h1 h2, fun q hq => by
      rcases List.mem_append.mp hq with h | h
      · exact hS.2.2 q h
      · exact hL q h⟩ T' rfl X'
  exact ⟨t2, st t2 a1, b1⟩
theorem zblind (E : jE) (B : Nat) (as : List zV) (M : zM) : FrameBlind (zPc E B as M) := fun a U g mk q => ⟨q.1, q.2.1, zWd.moved (s := U) (U := U.calling g mk a) (State.WarmedH.refl U) q.2.2⟩
def zYok (y n : Nat) : Prop := Cond.code (znm y) (zby y) (zml y) none ∈ jgt ∧ Cond.initialized (znm y).cls ∈ jgt ∧ ((znm y).cls ≠ "java/lang/invoke/MethodHandle" ∧ (znm y).cls ≠ "java/lang/invoke/VarHandle") ∧ (parseMethodDescriptor (znm y).desc).map (fun d => d.parameters.length) = some n ∧ Cond.instanceMethod (znm y) ∈ jgt
def zRoom (R : Room) (y : Nat) : Prop := (zrm y).frames + 1 ≤ R.frames ∧ 8 + (zml y + 11) + (zrm y).locals ≤ R.locals
theorem zws_good {y : Nat} (h : Cond.code (znm y) (zby y) (zml y) none ∈ jgt) : GoodIn jgt (zws y) := by
  intro w hw
  rcases List.mem_cons.mp hw with rfl | hw
  · exact jgt_good _ h
  · exact jgt_good _ hw
theorem zcat (B : Nat) : ∀ l : List zV, ((l.map (zcv B)).map fun v => v.category).sum = l.length
  | [] => rfl
  | a :: b => by rw [List.map_cons, List.map_cons, List.sum_cons, zcat B b, zcv_cat B, List.length_cons]; omega
theorem zhPc (X : zX E p s m args meth c cc own nL ini) {M : zM} (hR : zRel E B M H) {as : List zV} : ∀ U : State, U.heap = H → s.WarmedH U.vm → zPc E B as M ((as.map (zcv B)).toArray) U := fun U hU hWU => ⟨rfl, by rw [hU]; exact hR, zWd.moved hWU X.2.2.2.2.2.1⟩
/-- a constructor is called -/
theorem zw_init {y n q : Nat} {as : List zV} {M M' : zM} (X : zX E p s m args meth c cc own nL ini) (hRm : zRoom R y) (hY : zYok y n) (hnm : (znm y).name = "<init>") {idx : Nat} (hd : decode cc pc = .ok (.invokespecial idx, 3)) (hl : Cond.methodLink own idx (znm y) ∈ jgt ∨ ∃ host, Cond.methodLinkNest own idx (znm y) host ∈ jnest) (hM : zMet l E B y (.inr (some q) :: as) M M')
    (hn : as.length = n) {lsc : Array Slot} (hls : lsc.size = nL) {rest : List Value} (hr8 : (rest.map fun v => v.category).sum ≤ 8) (hcl : cells + zmc y ≤ R.cells) (hsl : slots + zms y ≤ R.slots) (hR : zRel E B M H) (hS : va_S (zA B) s.heap H locs) {st0 : List Value} (hst : st0 = (as.map (zcv B)).reverse ++ .ref (B + q) :: rest)
    (kk : ∀ (H1 : Heap) (locs1 : List Loc), zRel E B M' H1 → va_S (zA B) s.heap H1 locs1 → W p l e R s m args below meth c H1 locs1 (cells + zmc y) (slots + zms y) Q (F0 m (pc + 3) lsc rest)) : W p l e R s m args below meth c H locs cells slots Q (F0 m pc lsc st0) := by
  have hPc := zhPc X hR (as := .inr (some q) :: as)
  obtain ⟨hx, hb, hml, hown, hts, hW, -⟩ := X
  obtain ⟨y1, y2, y3, y4, y5⟩ := hY
  have hAs : (as.map (zcv B)).length = n := by rw [List.length_map]; exact hn
  have hroom : 2 * (F0 m pc lsc st0).monitorRoom + (rest.map fun v => v.category).sum ≤ 8 := by show 2 * 0 + _ ≤ 8; omega
  rcases hl with hl | ⟨host, hl⟩
  · exact z_after (va_runI (bytes := zby y) (maxL := zml y) ⟨hx, hb, hml, hown, hts⟩ hM ⟨callB_of n hts (zws_good y1) rfl rfl rfl (hts _ y2) (hts _ hl) ⟨y3.1, y3.2, y4⟩ hRm, hnm, hts _ y5⟩ ⟨zblind E B _ M, hPc⟩ rfl hAs hls hst hroom hd ⟨hcl, hsl⟩) hS kk
  · exact z_after (va_runIN (bytes := zby y) (maxL := zml y) ⟨hx, hb, hml, hown, hts⟩ hM ⟨va_cnB n hts (zws_good y1) rfl rfl rfl (hW.2.2.2.2 _ hl) (hts _ y2) ⟨y3.1, y3.2, y4⟩ hRm, hnm, hts _ y5⟩ ⟨zblind E B _ M, hPc⟩ rfl hAs hls hst hroom hd ⟨hcl, hsl⟩) hS kk
/-- a method of the object -/
theorem zw_virt {y n q ci N : Nat} {T : u_T} {fs : List zV} {as : List zV} {M M' : zM} (X : zX E p s m args meth c cc own nL ini) (hRm : zRoom R y) (hY : zYok y n) (hsel : Cond.selects (znm y).cls (znm y) (znm y) ∈ jgt) (hc : vwCl[ci]? = some ((znm y).cls, T, N)) (hq : M[q]? = some (.inl (ci, fs))) {idx : Nat} (hd : decode cc pc = .ok (.invokevirtual idx, 3)) (hl : Cond.methodLink own idx (znm y) ∈ jgt) (hM : zMet l E B y (.inr (some q) :: as) M M')
    (hn : as.length = n) {lsc : Array Slot} (hls : lsc.size = nL) {rest : List Value} (hr8 : (rest.map fun v => v.category).sum ≤ 8) (hcl : cells + zmc y ≤ R.cells) (hsl : slots + zms y ≤ R.slots) (hR : zRel E B M H) (hS : va_S (zA B) s.heap H locs) {st0 : List Value} (hst : st0 = (as.map (zcv B)).reverse ++ .ref (B + q) :: rest)
    (kk : ∀ (H1 : Heap) (locs1 : List Loc), zRel E B M' H1 → va_S (zA B) s.heap H1 locs1 → W p l e R s m args below meth c H1 locs1 (cells + zmc y) (slots + zms y) Q (F0 m (pc + 3) lsc rest)) : W p l e R s m args below meth c H locs cells slots Q (F0 m pc lsc st0) := by
  have hPc := zhPc X hR (as := .inr (some q) :: as)
  obtain ⟨hx, hb, hml, hown, hts, hW, -⟩ := X
  obtain ⟨y1, y2, y3, y4, y5⟩ := hY
  have hAs : (as.map (zcv B)).length = n := by rw [List.length_map]; exact hn
  have hroom : 2 * (F0 m pc lsc st0).monitorRoom + (rest.map fun v => v.category).sum ≤ 8 := by show 2 * 0 + _ ≤ 8; omega
  have he : (zWL E B M)[q]? = some (B + q, .inr (ci, fs.map (zcv B))) := zWL_at hq
  have hrecv := va_recv hW.1 hR.2 hc he
  exact z_after (va_runV (bytes := zby y) (maxL := zml y) (ret := none) (C := (znm y).cls) ⟨hx, hb, hml, hown, hts⟩ hM ⟨callB_of n hts (zws_good y1) rfl rfl rfl (hts _ y2) (hts _ hl) ⟨y3.1, y3.2, y4⟩ hRm, hts _ y5, hts _ hsel⟩ ⟨zblind E B _ M, hrecv, hPc⟩ rfl hAs hls hst hroom hd ⟨hcl, hsl⟩) hS kk
end ZW
section ZOPS
variable {l : Launch} {E : jE} {B : Nat} {cc : ByteArray} {own : String} {nL : Nat} {ini : Bool} {R : Room} {pc nx tg : Nat}
theorem zok_stk : zOk l E B cc own nL ini R pc z_stk := by
  intro p e s m args below meth c Q X ls st u call k r h
  cases h
theorem zok_iconst {n v : Int} (hd : decode cc pc = .ok (.iconst n, 1)) (hn : pc + 1 = nx) (hv : Int32.ofInt n = Int32.ofInt v) : zOk l E B cc own nL ini R pc (z_const nx v) := by
  subst hn
  intro p e s m args below meth c Q X ls st u call k r h hC hk he H locs lsc hR hS hL
  exact lv_iconst X.1 X.2.1 hd hv (hk _ _ _ _ h H locs lsc hR hS hL)
theorem zok_bipush {n v : Int} (hd : decode cc pc = .ok (.bipush n, 2)) (hn : pc + 2 = nx) (hv : (Int8.ofInt n).toInt32 = Int32.ofInt v) : zOk l E B cc own nL ini R pc (z_const nx v) := by
  subst hn
  intro p e s m args below meth c Q X ls st u call k r h hC hk he H locs lsc hR hS hL
  exact lv_bipush X.1 X.2.1 hd hv (hk _ _ _ _ h H locs lsc hR hS hL)
theorem zok_sipush {n v : Int} (hd : decode cc pc = .ok (.sipush n, 3)) (hn : pc + 3 = nx) (hv : (Int16.ofInt n).toInt32 = Int32.ofInt v) : zOk l E B cc own nL ini R pc (z_const nx v) := by
  subst hn
  intro p e s m args below meth c Q X ls st u call k r h hC hk he H locs lsc hR hS hL
  exact lv_sipush X.1 X.2.1 hd hv (hk _ _ _ _ h H locs lsc hR hS hL)
theorem zok_iload_n {kk : Fin 4} {i : Nat} (hd : decode cc pc = .ok (.iload_n kk, 1)) (hi : (kk : Nat) = i) (hn : pc + 1 = nx) : zOk l E B cc own nL ini R pc (z_li nx i) := by
  subst hn
  intro p e s m args below meth c Q X ls st u call k r h hC hk he H locs lsc hR hS hL
  unfold z_li at h
  split at h
  · rename_i x hv
    exact lv_iload_n X.1 X.2.1 hd hi (hL.get hv) (hk _ _ _ _ h H locs lsc hR hS hL)
  · cases h
theorem zok_aload_n {kk : Fin 4} {i : Nat} (hd : decode cc pc = .ok (.aload_n kk, 1)) (hi : (kk : Nat) = i) (hn : pc + 1 = nx) : zOk l E B cc own nL ini R pc (z_la nx i) := by
  subst hn
  intro p e s m args below meth c Q X ls st u call k r h hC hk he H locs lsc hR hS hL
  unfold z_la at h
  split at h
  · rename_i q hv
    exact lv_aload_n X.1 X.2.1 hd hi (hL.get hv) (hk _ _ _ _ h H locs lsc hR hS hL)
  · cases h
theorem zok_istore_n {kk : Fin 4} {i : Nat} (hd : decode cc pc = .ok (.istore_n kk, 1)) (hi : (kk : Nat) = i) (hn : pc + 1 = nx) (hl : i < nL) : zOk l E B cc own nL ini R pc (z_si nx i) := by
  subst hn
  intro p e s m args below meth c Q X ls st u call k r h hC hk he H locs lsc hR hS hL
  unfold z_si at h
  split at h
  · rename_i x rest
    exact lv_istore_n X.1 X.2.1 hd hi hL.2 hl rfl (fun ls' h' => hk _ _ _ _ h H locs ls' hR hS (hL.set (v := .inl x) h' hl))
  · cases h
theorem zok_iinc {i : Nat} {n : Int} (hd : decode cc pc = .ok (.iinc i n, 3)) (hn : pc + 3 = nx) (hl : i < nL) : zOk l E B cc own nL ini R pc (z_iinc nx i n) := by
  subst hn
  intro p e s m args below meth c Q X ls st u call k r h hC hk he H locs lsc hR hS hL
  unfold z_iinc at h
  split at h
  · rename_i x hv
    have hm : (i, Value.int (Int32.ofInt x)) ∈ zll B ls := zll_mem.mpr ⟨.inl x, hv, rfl⟩
    obtain ⟨q, hq⟩ := List.getElem?_of_mem hm
    exact lv_iinc X.1 X.2.1 hd hL.2 hq (v := Int32.ofInt (jw (x + n))) (by rw [jw_of, Int32.ofInt_add]) hl rfl (fun ls' h' => hk _ _ _ _ h H locs ls' hR hS (hL.set (v := .inl (jw (x + n))) h' hl))
  · cases h
theorem zok_goto {off : Int} (hd : decode cc pc = .ok (.goto off, 3)) (ht : (pc : Int) + off = (tg : Int)) : zOk l E B cc own nL ini R pc (z_goto tg) := by
  intro p e s m args below meth c Q X ls st u call k r h hC hk he H locs lsc hR hS hL
  exact lv_goto X.1 X.2.1 hd ht (hk _ _ _ _ h H locs lsc hR hS hL)
theorem zok_iflt {off : Int} (hd : decode cc pc = .ok (.ifCond .lt off, 3)) (hn : pc + 3 = nx) (ht : (pc : Int) + off = (tg : Int)) : zOk l E B cc own nL ini R pc (z_iflt nx tg) := by
  subst hn
  intro p e s m args below meth c Q X ls st u call k r h hC hk he H locs lsc hR hS hL
  unfold z_iflt at h
  split at h
  · rename_i x rest
    by_cases gx : -2147483648 ≤ x ∧ x < 2147483648
    · rw [if_pos gx] at h
      have ex : (Int32.ofInt x < 0) ↔ x < 0 := by rw [jof_0, jof_lt gx j32_0]
      refine lv_if_lt X.1 X.2.1 hd ht (fun q => ?_) (fun q => ?_)
      · rw [if_pos (ex.mp q)] at h
        exact hk _ _ _ _ h H locs lsc hR hS hL
      · rw [if_neg (fun z => q (ex.mpr z))] at h
        exact hk _ _ _ _ h H locs lsc hR hS hL
    · rw [if_neg gx] at h; cases h
  · cases h
theorem zok_icge {off : Int} (hd : decode cc pc = .ok (.if_icmp .ge off, 3)) (hn : pc + 3 = nx) (ht : (pc : Int) + off = (tg : Int)) : zOk l E B cc own nL ini R pc (z_icge nx tg) := by
  subst hn
  intro p e s m args below meth c Q X ls st u call k r h hC hk he H locs lsc hR hS hL
  unfold z_icge at h
  split at h
  · rename_i y x rest
    by_cases g : (-2147483648 ≤ x ∧ x < 2147483648) ∧ (-2147483648 ≤ y ∧ y < 2147483648)
    · rw [if_pos g] at h
      have ex : (Int32.ofInt y ≤ Int32.ofInt x) ↔ y ≤ x := jof_le g.2 g.1
      refine lv_icmp_ge X.1 X.2.1 hd ht (fun q => ?_) (fun q => ?_)
      · rw [if_pos (ex.mp q)] at h
        exact hk _ _ _ _ h H locs lsc hR hS hL
      · rw [if_neg (fun z => q (ex.mpr z))] at h
        exact hk _ _ _ _ h H locs lsc hR hS hL
    · rw [if_neg g] at h; cases h
  · cases h
theorem zok_dup (hd : decode cc pc = .ok (.dup, 1)) (hn : pc + 1 = nx) : zOk l E B cc own nL ini R pc (z_dup nx) := by
  subst hn
  intro p e s m args below meth c Q X ls st u call k r h hC hk he H locs lsc hR hS hL
  unfold z_dup at h
  split at h
  · rename_i v rest
    exact lv_dup X.1 X.2.1 hd (zcv_cat B v) (hk _ _ _ _ h H locs lsc hR hS hL)
  · cases h
theorem zok_get {idx ci j N : Nat} {C : String} {T : u_T} (hd : decode cc pc = .ok (.getfield idx, 3)) (hn : pc + 3 = nx) (hc : vwCl[ci]? = some (C, T, N)) (hin : ∀ w ∈ u_ws C T N, w ∈ jgt) (hj : j < N) (hl : Cond.fieldLink own idx (T j).1 (T j).2.1 (T j).2.2.1 ∈ jgt) : zOk l E B cc own nL ini R pc (z_get nx ci j) := by
  subst hn
  intro p e s m args below meth c Q X ls st u call k r h hC hk he H locs lsc hR hS hL
  obtain ⟨hx, hb, hml, hown, hts, hW, hi⟩ := X
  unfold z_get at h
  split at h
  · rename_i q rest
    split at h
    · rename_i c' fs hM
      by_cases z : c' = ci
      · rw [if_pos z] at h
        subst z
        split at h
        · rename_i v hf
          have he : (zWL E B u.1)[q]? = some (B + q, .inr (c', fs.map (zcv B))) := zWL_at hM
          exact va_get hx hb hts hin hown hW.1 hR.2 q he hc j hj (hts _ hl) (fun _ h9 => h9) (v := zcv B v) (by rw [List.getElem?_map, hf]; rfl) hd (hk _ _ _ _ h H locs lsc hR hS hL)
        · cases h
      · rw [if_neg z] at h; cases h
    · cases h
  · cases h
def zkI : zV → Bool
  | .inl _ => true
  | _ => false
def zkZ : zV → Bool
  | .inl x => decide (x = 0)
  | _ => false
def zkR : zV → Bool
  | .inr (some _) => true
  | _ => false
def zVal (ty : FieldType) (ok : zV → Bool) : Prop := ∀ (B : Nat) (v : zV), ok v = true → narrow ty (zcv B v) = zcv B v ∧ fits ty (zcv B v) = true
theorem zval_I : zVal .int zkI := fun B v h => by
  match v with
  | .inl x => exact ⟨rfl, rfl⟩
  | .inr none => cases h
  | .inr (some _) => cases h
theorem zval_Z : zVal .boolean zkZ := fun B v h => by
  match v with
  | .inl x =>
    have h : x = 0 := of_decide_eq_true h
    subst h
    show narrow .boolean (.int 0) = .int 0 ∧ fits .boolean (.int 0) = true
    exact ⟨by decide, by decide⟩
  | .inr none => cases h
  | .inr (some _) => cases h
theorem zval_O (C : String) : zVal (.object C) zkR := fun B v h => by
  match v with
  | .inl x => cases h
  | .inr none => cases h
  | .inr (some _) => exact ⟨rfl, rfl⟩
theorem zval_A (t : FieldType) : zVal (.array t) zkR := fun B v h => by
  match v with
  | .inl x => cases h
  | .inr none => cases h
  | .inr (some _) => exact ⟨rfl, rfl⟩
theorem zok_put {idx ci j N : Nat} {C : String} {T : u_T} {ok : zV → Bool} (ty0 : Nat → FieldType) (hty : ∀ k, k < N → parseFieldDescriptor (T k).2.2.1 = some (ty0 k)) (hnm : ∀ a, a < N → ∀ b, b < N → a ≠ b → (T a).2.1 ≠ (T b).2.1) (hd : decode cc pc = .ok (.putfield idx, 3)) (hn : pc + 3 = nx) (hc : vwCl[ci]? = some (C, T, N)) (hin : ∀ w ∈ u_ws C T N, w ∈ jgt) (hj : j < N) (hl : Cond.fieldLink own idx (T j).1 (T j).2.1 (T j).2.2.1 ∈ jgt)
    (hfin : (T j).2.2.2 = false ∨ ((T j).2.2.2 = true ∧ ini = true ∧ (T j).1 = own)) (hval : zVal (ty0 j) ok) : zOk l E B cc own nL ini R pc (z_put nx ci j ok) := by
  subst hn
  intro p e s m args below meth c Q X ls st u call k r h hC hk he H locs lsc hR hS hL
  obtain ⟨hx, hb, hml, hown, hts, hW, hini⟩ := X
  unfold z_put at h
  split at h
  · rename_i v q rest
    split at h
    · rename_i c' fs hM
      by_cases z : (c' = ci ∧ j < fs.length) ∧ ok v = true
      · rw [if_pos z] at h
        obtain ⟨⟨rfl, hl2⟩, hv⟩ := z
        obtain ⟨hnar, hfit⟩ := hval B v hv
        have hp := hty j hj
        have hP := hR.2
        have hD := zWL_D E B u.1
        have he : (zWL E B u.1)[q]? = some (B + q, .inr (c', fs.map (zcv B))) := zWL_at hM
        have hap := va_apart (own := own) hts hin ty0 hty hnm hW.1 hc
        obtain ⟨r1, h1, cell, q1, q2, q3, q4⟩ := hP q _ he
        have hr : r1 = (C, T, N) := Option.some.inj (h1.symm.trans hc)
        subst hr
        obtain ⟨hSS, hfc, kC, hkC, hkind⟩ := hW.1.1 c' _ hc
        obtain ⟨cf, kf, fi, f, hi, hsl⟩ := hSS j hj
        have hlay := hts _ (hin _ (u_in_lay hj))
        have hst := (u_facts hfc hkC (u_lays hts hin hj) hi).1
        have fin : ∀ H' : Heap, H'[B + q]? = some (cell.setSlot f.slot (zcv B v)) → H'.size = H.size → (∀ a, a ≠ B + q → H'[a]? = H[a]?) → W p l e R s m args below meth c H' (locs ++ [⟨B + q, f.slot⟩]) u.2.1 u.2.2 Q (F0 m (pc + 3) lsc (rest.map (zcv B))) := by
          intro H' e1 e2 e3
          rw [hsl] at e1 ⊢
          refine hk _ _ _ _ h H' _ lsc ⟨by rw [e2, List.length_set]; exact hR.1, ?_⟩ (hS.put e2 e3 (Nat.le_add_right _ _)) hL
          have g := hP.set (e := .inr (c', (fs.set j v).map (zcv B))) hD he ⟨_, hc, t_OB.to (V := updV (vp_V (fs.map (zcv B))) j (zcv B v)) ⟨_, e1, q2, q3, t_set q4 hap hj (zcv B v)⟩ (fun x _ => by rw [List.map_set]; exact vp_updV_set (by rw [List.length_map]; exact hl2) (zcv B v) x)⟩ e3
          have g2 := zWL_set (E := E) (B := B) (M := u.1) (i := q) (c := .inl (c', fs.set j v))
          show va_P E.1 vwCl (zWL E B (u.1.set q (.inl (c', fs.set j v)))) H'
          rw [← g2]
          exact g
        rcases hfin with hfin | ⟨hfin, hi2, hdecl⟩
        · unfold u_lay at hlay
          rw [if_neg (by rw [hfin]; decide)] at hlay
          have h6 := u_store hfc hkC hkind hlay hi hp hnar hfit
          exact W.putK hx hb (f := f) ⟨hown, hts _ hl, ⟨_, _, _, hi⟩, hst⟩ (by rw [q2]; exact h6) q1 q3 (by rw [hsl]; exact k2_hasslot (q4 j hj)) rfl rfl hd fin
        · unfold u_lay at hlay
          rw [if_pos hfin] at hlay
          have hcf : m.cls = cf := by
            obtain ⟨_, _, c2, _, _, _, -, -, hf', -, -, -, hown2, -⟩ := Cond.laysFinal_spec hlay
            have e1 : c2 = cf := by have := hi.symm.trans hf'; simp at this; exact this.1.symm
            rw [hdecl] at hown2
            rw [← e1]; exact Option.some.inj (hown.symm.trans hown2)
          have h6 := u_fits hfc hkC hkind (Or.inr hlay) hi hp hnar hfit
          exact W.putFinK hx hb hown (hts _ hl) hi hst hcf (hini hi2) (by rw [q2]; exact h6) q1 q3 (by rw [hsl]; exact k2_hasslot (q4 j hj)) rfl rfl hd fin
      · rw [if_neg z] at h; cases h
    · cases h
  · cases h
def zfree : zV → Bool
  | .inr (some _) => false
  | _ => true
theorem zfree_eq (B : Nat) : ∀ fs : List zV, fs.all zfree = true → fs.map (zcv B) = fs.map (zcv 0)
  | [], _ => rfl
  | v :: r, h => by
    rw [List.all_cons, Bool.and_eq_true] at h
    rw [List.map_cons, List.map_cons, zfree_eq B r h.2]
    congr 1
    match v, h.1 with
    | .inl x, _ => rfl
    | .inr none, _ => rfl
theorem zok_new {idx ci N mc ms : Nat} {C : String} {T : u_T} {ty : Nat → FieldType} {fs : List zV} (hty : ∀ k, k < N → parseFieldDescriptor (T k).2.2.1 = some (ty k)) (hd : decode cc pc = .ok (.new idx, 3)) (hn : pc + 3 = nx) (hc : vwCl[ci]? = some (C, T, N)) (hin : ∀ w ∈ u_ws C T N, w ∈ jgt) (hl : Cond.classLink own idx C ∈ jgt) (hi : Cond.instantiable C N ∈ jgt) (hini : Cond.initialized C ∈ jgt)
    (hfs : ∀ j, j < N → defaultValue (ty j) = vp_V (fs.map (zcv 0)) j) (hz : fs.all zfree = true) (hmc : mc ≤ R.cells) (hms : ms ≤ R.slots) : zOk l E B cc own nL ini R pc (z_new nx ci N fs mc ms) := by
  subst hn
  intro p e s m args below meth c Q X ls st u call k r h hC hk he H locs lsc hR hS hL
  unfold z_new at h
  by_cases z : u.2.1 + 1 ≤ mc ∧ u.2.2 + N ≤ ms
  · rw [if_pos z] at h
    exact zw_new X hty hd hc hin hl hi hini hfs (zfree_eq B fs hz) hR hS (by omega) (by omega) (fun H1 hR1 hS1 => hk _ _ _ _ h H1 locs lsc hR1 hS1 hL)
  · rw [if_neg z] at h; cases h
theorem zint_in {n : Int} (h : 0 ≤ n ∧ n < 1000) : j32 n := ⟨by omega, by omega⟩
theorem zneg {n : Int} (h : 0 ≤ n ∧ n < 1000) : ¬ Int32.ofInt n < 0 := by
  rw [jof_0, jof_lt (zint_in h) j32_0]; omega
theorem zkeep {M : zM} {H H1 : Heap} (hP : va_P E.1 vwCl (zWL E B M) H) (hk : ∀ q, q < B + M.length → H1[q]? = H[q]?) {i : Nat} {x : zC} (hx : M[i]? = some x) : va_at E.1 vwCl (B + i, zcell E B x) H1 := (zP_at hP hx).kept (hk _ (by have := (List.getElem?_eq_some_iff.mp hx).1; show B + i < _; omega))
theorem zok_newI {mc ms : Nat} (hd : decode cc pc = .ok (.newarray .int, 2)) (hn : pc + 2 = nx) (hca : Cond.arrayClass .int ∈ jgt) (hmc : mc ≤ R.cells) (hms : ms ≤ R.slots) : zOk l E B cc own nL ini R pc (z_newI nx mc ms) := by
  subst hn
  intro p e s m args below meth c Q X ls st u call k r h hC hk he H locs lsc hR hS hL
  obtain ⟨hx, hb, hml, hown, hts, hW, hi⟩ := X
  unfold z_newI at h
  split at h
  · rename_i n rest
    by_cases z : (0 ≤ n ∧ n < 1000) ∧ u.2.1 + 1 ≤ mc ∧ u.2.2 + n.toNat ≤ ms
    · rw [if_pos z] at h
      obtain ⟨z0, z1, z2⟩ := z
      obtain ⟨hsz, hP⟩ := hR
      refine va_newaK (atype := .int) hx hb (hts _ hca) rfl hd rfl (zneg z0) (jof_nat (zint_in z0)) (by show n.toNat * 4 ≤ _; omega) (by omega) (by omega) hsz fun H1 cA e1 w1 o1 hAr hNm => ?_
      have hcA : cA = E.2.1 0 := Option.some.inj (hNm.symm.trans (zty0 E hW))
      subst hcA
      refine W.eq (g2 := F0 m (pc + 2) lsc (.ref (B + u.1.length) :: rest.map (zcv B))) rfl (hk _ _ _ _ h H1 locs lsc ⟨by rw [w1, List.length_append]; rfl, zP_of fun i x hx2 => ?_⟩ ⟨Nat.le_trans hS.1 (by omega), fun x h1 h2 => (o1 x (by have := hS.1; omega)).trans (hS.2.1 x h1 h2), hS.2.2⟩ hL)
      rw [List.getElem?_append] at hx2
      split at hx2
      · exact zkeep hP o1 hx2
      · have h0 : i - u.1.length < 1 := (List.getElem?_eq_some_iff.mp hx2).1
        have h1 : i = u.1.length := by omega
        subst h1
        rw [Nat.sub_self] at hx2
        cases hx2
        show H1[B + u.1.length]? = some (arrV (E.2.1 0) (List.replicate n.toNat (Sum.inl 0 : zV)).length (fun j => .int (zint ((List.replicate n.toNat (Sum.inl 0 : zV)).getD j (.inl 0)))))
        rw [e1, List.length_replicate]
        congr 2
        funext j
        rw [zrep]
        rfl
    · rw [if_neg z] at h; cases h
  · cases h
theorem zok_newA {idx t mc ms : Nat} {C : String} (hd : decode cc pc = .ok (.anewarray idx, 3)) (hn : pc + 3 = nx) (hl : Cond.classLink own idx C ∈ jgt) (ht0 : Nat.beq t 0 = false) (hao : ∀ s, zWd E s → va_AO C s) (ht : (jtys E)[t]? = some (E.2.1 t, .object C)) (hmc : mc ≤ R.cells) (hms : ms ≤ R.slots) : zOk l E B cc own nL ini R pc (z_newA nx t mc ms) := by
  subst hn
  intro p e s m args below meth c Q X ls st u call k r h hC hk he H locs lsc hR hS hL
  obtain ⟨hx, hb, hml, hown, hts, hW, hi⟩ := X
  unfold z_newA at h
  split at h
  · rename_i n rest
    by_cases z : (0 ≤ n ∧ n < 1000) ∧ u.2.1 + 1 ≤ mc ∧ u.2.2 + n.toNat ≤ ms
    · rw [if_pos z] at h
      obtain ⟨z0, z1, z2⟩ := z
      obtain ⟨hsz, hP⟩ := hR
      have en := jof_nat (zint_in z0)
      refine W.anew hx hb hown (hts _ hl) (va_AO.use (hao s hW)) rfl hd rfl (zneg z0) (by rw [en]; omega) (by omega) (by rw [en]; omega) fun cA kA comp f1 f2 f3 f4 => ?_
      rw [en]
      have hcA : cA = E.2.1 t := Option.some.inj (f1.symm.trans (zty E hW t C ht))
      subst hcA
      generalize hH1 : H.push ({ cls := E.2.1 t, slots := Array.replicate n.toNat .null, vm := .none } : Cell) = H1
      have w1 : H1.size = B + u.1.length + 1 := by rw [← hH1, Array.size_push, hsz]
      have e1 : H1[B + u.1.length]? = some (arrV (E.2.1 t) n.toNat (fun _ => .null)) := by rw [← hH1, ← hsz, Array.getElem?_push_size, ← arrV_new]
      have o1 : ∀ q : Nat, q < B + u.1.length → H1[q]? = H[q]? := fun q hq => by rw [← hH1, Array.getElem?_push, if_neg (by omega)]
      refine W.eq (g2 := F0 m (pc + 3) lsc (.ref (B + u.1.length) :: rest.map (zcv B))) (by rw [← hsz]) (hk _ _ _ _ h H1 locs lsc ⟨by rw [w1, List.length_append]; rfl, zP_of fun i x hx2 => ?_⟩ ⟨Nat.le_trans hS.1 (by omega), fun x h1 h2 => (o1 x (by have := hS.1; omega)).trans (hS.2.1 x h1 h2), hS.2.2⟩ hL)
      rw [List.getElem?_append] at hx2
      split at hx2
      · exact zkeep hP o1 hx2
      · have h0 : i - u.1.length < 1 := (List.getElem?_eq_some_iff.mp hx2).1
        have h1 : i = u.1.length := by omega
        subst h1
        rw [Nat.sub_self] at hx2
        cases hx2
        show va_at E.1 vwCl (B + u.1.length, bif Nat.beq t 0 then _ else _) H1
        rw [ht0, cond_false]
        show H1[B + u.1.length]? = some (arrV (E.2.1 t) (List.replicate n.toNat (Sum.inr none : zV)).length (fun j => va_rf (zrf B ((List.replicate n.toNat (Sum.inr none : zV)).getD j (.inr none)))))
        rw [e1, List.length_replicate]
        congr 2
        funext j
        rw [zrep]
        rfl
    · rw [if_neg z] at h; cases h
  · cases h
theorem zok_mna {idx mc ms : Nat} (hd : decode cc pc = .ok (.multianewarray idx 2, 4)) (hn : pc + 4 = nx) (hl : Cond.classLink own idx ("[" ++ (FieldType.array .int).toString) ∈ jgt) (hca : Cond.arrayClass .int ∈ jgt) (hmc : mc ≤ R.cells) (hms : ms ≤ R.slots) : zOk l E B cc own nL ini R pc (z_mna nx mc ms) := by
  subst hn
  intro p e s m args below meth c Q X ls st u call k r h hC hk he H locs lsc hR hS hL
  obtain ⟨hx, hb, hml, hown, hts, hW, hi⟩ := X
  unfold z_mna at h
  split at h
  · rename_i mm n rest
    by_cases z : ((0 ≤ n ∧ n < 1000) ∧ (0 ≤ mm ∧ mm < 1000)) ∧ u.2.1 + (1 + n.toNat) ≤ mc ∧ u.2.2 + (n.toNat + n.toNat * mm.toNat) ≤ ms
    · rw [if_pos z] at h
      obtain ⟨⟨z0, z1⟩, z2, z3⟩ := z
      obtain ⟨hsz, hP⟩ := hR
      refine mq_W hx hb hown (hts _ hl) hW.2.2.2.1 (hts _ hca) hd (zneg z0) (zneg z1) (jof_nat (zint_in z0)) (jof_nat (zint_in z1)) (by omega) (by omega) (by omega) (by omega) fun cA cB H1 locs1 f1 f2 w1 e1 e2 o1 hlo => ?_
      have hcA : cA = E.2.1 3 := Option.some.inj (f1.symm.trans (zty3 E hW))
      have hcB : cB = E.2.1 0 := Option.some.inj (f2.symm.trans (zty0 E hW))
      subst hcA; subst hcB
      rw [hsz] at e1 e2 o1 w1 hlo ⊢
      refine hk _ _ _ _ h H1 locs1 lsc ⟨by rw [w1, List.length_append, List.length_append, List.length_replicate, List.length_singleton]; omega, zP_of fun i x hx2 => ?_⟩ ⟨Nat.le_trans hS.1 (by omega), fun x h1 h2 => (o1 x (by have := hS.1; omega)).trans (hS.2.1 x h1 h2), fun x hx3 => ?_⟩ hL
      · rw [List.getElem?_append] at hx2
        split at hx2
        · rw [List.getElem?_append] at hx2
          split at hx2
          · exact zkeep hP o1 hx2
          · have h0 : i - u.1.length < 1 := (List.getElem?_eq_some_iff.mp hx2).1
            have h1 : i = u.1.length := by omega
            subst h1
            rw [Nat.sub_self] at hx2
            cases hx2
            show H1[B + u.1.length]? = some (arrV (E.2.1 3) ((List.range n.toNat).map (fun i => (Sum.inr (some (u.1.length + 1 + i)) : zV))).length (fun j => va_rf (zrf B (((List.range n.toNat).map (fun i => (Sum.inr (some (u.1.length + 1 + i)) : zV))).getD j (.inr none)))))
            rw [e1, List.length_map, List.length_range]
            unfold mq_o
            congr 2
            funext j
            rw [List.getD_eq_getElem?_getD, List.getElem?_map]
            by_cases hj : j < n.toNat
            · rw [if_pos hj, List.getElem?_range hj]
              show Value.ref (B + u.1.length + 1 + j) = Value.ref (B + (u.1.length + 1 + j))
              rw [show B + u.1.length + 1 + j = B + (u.1.length + 1 + j) by omega]
            · rw [if_neg hj, List.getElem?_eq_none (by rw [List.length_range]; omega)]
              rfl
        · rename_i hlt
          rw [List.length_append, List.length_singleton] at hx2 hlt
          rw [List.getElem?_replicate] at hx2
          split at hx2
          · rename_i hlt2
            cases hx2
            have e3 := e2 (i - (u.1.length + 1)) hlt2
            rw [show B + u.1.length + 1 + (i - (u.1.length + 1)) = B + i by omega] at e3
            show H1[B + i]? = some (arrV (E.2.1 0) (List.replicate mm.toNat (Sum.inl 0 : zV)).length (fun j => .int (zint ((List.replicate mm.toNat (Sum.inl 0 : zV)).getD j (.inl 0)))))
            rw [e3, List.length_replicate]
            unfold mq_i
            congr 2
            funext j
            rw [zrep]
            rfl
          · cases hx2
      · rcases hlo x hx3 with h4 | h4
        · exact hS.2.2 x h4
        · show B ≤ x.base
          rw [h4]
          exact Nat.le_add_right _ _
    · rw [if_neg z] at h; cases h
  · cases h
theorem zok_aald {t : Nat} {C : String} (hd : decode cc pc = .ok (.aaload, 1)) (hn : pc + 1 = nx) (ht0 : Nat.beq t 0 = false) (ht : (jtys E)[t]? = some (E.2.1 t, .object C)) : zOk l E B cc own nL ini R pc (z_aald nx t) := by
  subst hn
  intro p e s m args below meth c Q X ls st u call k r h hC hk he H locs lsc hR hS hL
  obtain ⟨hx, hb, hml, hown, hts, hW, hi⟩ := X
  unfold z_aald at h
  split at h
  · rename_i j q rest
    split at h
    · rename_i t' es hM
      by_cases z : t' = t ∧ 0 ≤ j ∧ j < 1000
      · rw [if_pos z] at h
        obtain ⟨rfl, z0⟩ := z
        split at h
        · rename_i x hx2
          have he := zWL_at (E := E) (B := B) hM
          unfold zcell at he
          dsimp only at he
          rw [ht0, cond_false] at he
          have en := jof_nat (zint_in z0)
          have hlt := (List.getElem?_eq_some_iff.mp hx2).1
          refine va_aldq hx hb hW.1 hR.2 q t' he ht (jin (zint_in z0) ⟨z0.1, by omega⟩) hd ?_
          rw [en]
          have e9 : va_rf (zrf B (es.getD j.toNat (.inr none))) = .ref (B + x) := by
            rw [List.getD_eq_getElem?_getD, hx2]; rfl
          rw [e9]
          exact hk _ _ _ _ h H locs lsc hR hS hL
        · cases h
      · rw [if_neg z] at h; cases h
    · cases h
  · cases h
theorem zok_iast (hd : decode cc pc = .ok (.iastore, 1)) (hn : pc + 1 = nx) : zOk l E B cc own nL ini R pc (z_iast nx) := by
  subst hn
  intro p e s m args below meth c Q X ls st u call k r h hC hk he H locs lsc hR hS hL
  obtain ⟨hx, hb, hml, hown, hts, hW, hi⟩ := X
  unfold z_iast at h
  split at h
  · rename_i v j q rest
    split at h
    · rename_i t' es hM
      by_cases z : t' = 0 ∧ 0 ≤ j ∧ j < 1000 ∧ j.toNat < es.length
      · rw [if_pos z] at h
        obtain ⟨rfl, z0, z1, z2⟩ := z
        have en := jof_nat (zint_in ⟨z0, z1⟩)
        have ha : va_at E.1 vwCl (B + q, zcell E B (.inr (0, es))) H := zP_at hR.2 hM
        have ha : H[B + q]? = some (arrV (E.2.1 0) es.length (fun j => .int (zint (es.getD j (.inl 0))))) := ha
        refine W.iast hx hb ha ((hW.1.2 0 (E.2.1 0, .int) rfl).1 es.length _) (fun q => by cases q) (by rw [arrV_size]; exact jin (zint_in ⟨z0, z1⟩) ⟨z0, by omega⟩) rfl rfl hd fun H1 e1 w1 oq => ?_
        refine W.eq (g2 := F0 m (pc + 1) lsc (rest.map (zcv B))) rfl (hk _ _ _ _ h H1 _ lsc ⟨by rw [w1, List.length_set]; exact hR.1, zP_of fun i x hx2 => ?_⟩ (hS.put w1 oq (Nat.le_add_right _ _)) hL)
        rw [List.getElem?_set] at hx2
        by_cases hqi : q = i
        · subst hqi
          rw [if_pos rfl] at hx2
          split at hx2
          · cases hx2
            show H1[B + q]? = some (arrV (E.2.1 0) (es.set j.toNat (.inl v)).length (fun j' => .int (zint ((es.set j.toNat (.inl v)).getD j' (.inl 0)))))
            rw [e1, arrV_store, en, List.length_set]
            congr 2
            funext j'
            unfold updV
            rw [List.getD_eq_getElem?_getD, List.getElem?_set]
            by_cases hj : j' = j.toNat
            · subst hj
              rw [if_pos rfl, if_pos rfl, if_pos z2]
              rfl
            · rw [if_neg hj, if_neg (fun z => hj z.symm)]
              show Value.int (zint (es.getD j' (.inl 0))) = _
              rw [List.getD_eq_getElem?_getD]
          · cases hx2
        · rw [if_neg hqi] at hx2
          exact (zP_at hR.2 hx2).kept (oq _ (by show B + i ≠ B + q; omega))
      · rw [if_neg z] at h; cases h
    · cases h
  · cases h
theorem zok_aast {t ci : Nat} {rr : vw_C} (hd : decode cc pc = .ok (.aastore, 1)) (hn : pc + 1 = nx) (ht0 : Nat.beq t 0 = false) (hc : vwCl[ci]? = some rr) (ht : (jtys E)[t]? = some (E.2.1 t, .object rr.1)) : zOk l E B cc own nL ini R pc (z_aast nx t ci) := by
  subst hn
  intro p e s m args below meth c Q X ls st u call k r h hC hk he H locs lsc hR hS hL
  obtain ⟨hx, hb, hml, hown, hts, hW, hi⟩ := X
  unfold z_aast at h
  split at h
  · rename_i v j q rest
    split at h
    · rename_i t' es c' fs hM hM2
      by_cases z : t' = t ∧ c' = ci ∧ 0 ≤ j ∧ j < 1000 ∧ j.toNat < es.length
      · rw [if_pos z] at h
        obtain ⟨rfl, rfl, z0, z1, z2⟩ := z
        have en := jof_nat (zint_in ⟨z0, z1⟩)
        have hj32 := zint_in ⟨z0, z1⟩
        have ha : va_at E.1 vwCl (B + q, zcell E B (.inr (t', es))) H := zP_at hR.2 hM
        unfold zcell at ha
        dsimp only at ha
        rw [ht0, cond_false] at ha
        have ha : H[B + q]? = some (arrV (E.2.1 t') es.length (fun j => va_rf (zrf B (es.getD j (.inr none))))) := ha
        have hv : (zWL E B u.1)[v]? = some (B + v, .inr (c', fs.map (zcv B))) := zWL_at hM2
        obtain ⟨r', hr', cellV, g1, g2, g3, -⟩ := hR.2 v _ hv
        have hcls := (hW.1.1 c' rr hc).2
        obtain ⟨kA, comp, k1, k2, k3, -⟩ := (hW.1.2 t' _ ht).2
        have hcomp : comp = E.1.1 c' := Option.some.inj (k3.symm.trans hcls.1)
        subst hcomp
        obtain ⟨kC, hkC, -⟩ := hcls.2
        have hjn := jin (n := es.length) hj32 ⟨z0, by omega⟩
        refine W.aast hx hb ha (fun q h => by cases h) (fun h => by cases h) k1 k2 rfl hkC ⟨fun q => hjn (Or.inl q), by rw [arrV_size, en]; exact z2⟩ g1 (fun q h => by rw [g3] at h; cases h) (by rw [g2]; exact hkC) (by rw [g2]; exact va_assign hcls) rfl rfl hd fun H1 e1 w1 oq => ?_
        refine W.eq (g2 := F0 m (pc + 1) lsc (rest.map (zcv B))) rfl (hk _ _ _ _ h H1 _ lsc ⟨by rw [w1, List.length_set]; exact hR.1, zP_of fun i x hx2 => ?_⟩ (hS.put w1 oq (Nat.le_add_right _ _)) hL)
        rw [List.getElem?_set] at hx2
        by_cases hqi : q = i
        · subst hqi
          rw [if_pos rfl] at hx2
          split at hx2
          · cases hx2
            show va_at E.1 vwCl (B + q, bif Nat.beq t' 0 then _ else _) H1
            rw [ht0, cond_false]
            show H1[B + q]? = some (arrV (E.2.1 t') (es.set j.toNat (.inr (some v))).length (fun j' => va_rf (zrf B ((es.set j.toNat (.inr (some v))).getD j' (.inr none)))))
            rw [e1, arrV_store, en, List.length_set]
            congr 2
            funext j'
            unfold updV
            rw [List.getD_eq_getElem?_getD, List.getElem?_set]
            by_cases hj : j' = j.toNat
            · subst hj
              rw [if_pos rfl, if_pos rfl, if_pos z2]
              rfl
            · rw [if_neg hj, if_neg (fun z => hj z.symm)]
              show va_rf (zrf B (es.getD j' (.inr none))) = _
              rw [List.getD_eq_getElem?_getD]
          · cases hx2
        · rw [if_neg hqi] at hx2
          exact (zP_at hR.2 hx2).kept (oq _ (by show B + i ≠ B + q; omega))
      · rw [if_neg z] at h; cases h
    · cases h
  · cases h
theorem zok_obj {idx : Nat} (hd : decode cc pc = .ok (.invokespecial idx, 3)) (hn : pc + 3 = nx) (h1 : Cond.methodLink own idx objectInit ∈ jgt) (h2 : Cond.instanceMethod objectInit ∈ jgt) (h3 : Cond.code objectInit ⟨#[0xb1]⟩ 1 none ∈ jgt) (hf : 1 ≤ R.frames) (hlo : 12 ≤ R.locals) : zOk l E B cc own nL ini R pc (z_obj nx) := by
  subst hn
  intro p e s m args below meth c Q X ls st u call k r h hC hk he H locs lsc hR hS hL
  obtain ⟨hx, hb, hml, hown, hts, hW, hi⟩ := X
  unfold z_obj at h
  split at h
  · rename_i q
    refine W.objInit hx hb hown (hts _ h1) (hts _ h2) (hts _ h3) (g := F0 m pc lsc [.ref (B + q)]) rfl (by rw [hml]; exact hL.2.1) rfl hd hf (by show 2 * 0 + 0 + 12 ≤ R.locals; omega) ?_
    exact W.eq (g2 := F0 m (pc + 3) lsc []) rfl (hk _ _ _ _ h H locs lsc hR hS hL)
  · cases h
theorem zok_vret {mc ms : Nat} (hd : decode cc pc = .ok (.return_, 1)) (hmc : mc ≤ R.cells) (hms : ms ≤ R.slots) : zOk l E B cc own nL ini R pc (z_vret mc ms) := by
  intro p e s m args below meth c Q X ls st u call k r h hC hk he H locs lsc hR hS hL
  unfold z_vret at h
  split at h
  · by_cases z : u.2.1 ≤ mc ∧ u.2.2 ≤ ms
    · rw [if_pos z] at h
      cases h
      exact he pc H locs lsc _ _ hR hS (by omega) (by omega) hd
    · rw [if_neg z] at h; cases h
  · cases h
theorem zstk {st : List zV} {n : Nat} (hn : n + 1 ≤ st.length) {v : zV} {as : List zV} (h : (st.take (n + 1)).reverse = v :: as) : as.length = n ∧ st.map (zcv B) = (as.map (zcv B)).reverse ++ zcv B v :: (st.drop (n + 1)).map (zcv B) := by
  have hlen : (st.take (n + 1)).length = n + 1 := by rw [List.length_take]; omega
  have h1 := congrArg List.length h
  rw [List.length_reverse, hlen, List.length_cons] at h1
  have h2 : st.take (n + 1) = as.reverse ++ [v] := by rw [← List.reverse_reverse (st.take (n + 1)), h, List.reverse_cons]
  refine ⟨by omega, ?_⟩
  have h3 : st.map (zcv B) = (st.take (n + 1)).map (zcv B) ++ (st.drop (n + 1)).map (zcv B) := by rw [← List.map_append, List.take_append_drop]
  rw [h3, h2, List.map_append, List.map_reverse, List.append_assoc, List.map_cons, List.map_nil]
  rfl
theorem zok_init {idx y n mc ms : Nat} (hd : decode cc pc = .ok (.invokespecial idx, 3)) (hn : pc + 3 = nx) (hRm : zRoom R y) (hml : n + 1 ≤ zml y) (hY : zYok y n) (hnm : (znm y).name = "<init>") (hl : Cond.methodLink own idx (znm y) ∈ jgt ∨ ∃ host, Cond.methodLinkNest own idx (znm y) host ∈ jnest) (hmc : mc ≤ R.cells) (hms : ms ≤ R.slots) : zOk l E B cc own nL ini R pc (z_call nx y n mc ms) := by
  subst hn
  intro p e s m args below meth c Q X ls st u call k r h hC hk he H locs lsc hR hS hL
  unfold z_call at h
  by_cases z : (n + 1 ≤ st.length ∧ (st.drop (n + 1)).length ≤ 8) ∧ u.2.1 + zmc y ≤ mc ∧ u.2.2 + zms y ≤ ms
  · rw [if_pos z] at h
    obtain ⟨⟨z0, z1⟩, z2, z3⟩ := z
    split at h
    · rename_i q as hrev
      split at h
      · rename_i M' hM'
        obtain ⟨a1, a2⟩ := zstk (B := B) z0 hrev
        exact zw_init X hRm hY hnm hd hl (hC y _ u.1 M' hM' (by rw [List.length_cons]; omega)) a1 hL.2.1 (by rw [zcat]; exact z1) (by omega) (by omega) hR hS a2 (fun H1 locs1 hR1 hS1 => hk _ _ _ _ h H1 locs1 lsc hR1 hS1 hL)
      · cases h
    · cases h
  · rw [if_neg z] at h; cases h
theorem zok_virt {idx y n ci N mc ms : Nat} {T : u_T} (hd : decode cc pc = .ok (.invokevirtual idx, 3)) (hn : pc + 3 = nx) (hRm : zRoom R y) (hml : n + 1 ≤ zml y) (hY : zYok y n) (hsel : Cond.selects (znm y).cls (znm y) (znm y) ∈ jgt) (hc : vwCl[ci]? = some ((znm y).cls, T, N)) (hl : Cond.methodLink own idx (znm y) ∈ jgt) (hmc : mc ≤ R.cells) (hms : ms ≤ R.slots) : zOk l E B cc own nL ini R pc (z_callV nx y n ci mc ms) := by
  subst hn
  intro p e s m args below meth c Q X ls st u call k r h hC hk he H locs lsc hR hS hL
  unfold z_callV at h
  by_cases z : (n + 1 ≤ st.length ∧ (st.drop (n + 1)).length ≤ 8) ∧ u.2.1 + zmc y ≤ mc ∧ u.2.2 + zms y ≤ ms
  · rw [if_pos z] at h
    obtain ⟨⟨z0, z1⟩, z2, z3⟩ := z
    split at h
    · rename_i q as hrev
      split at h
      · rename_i c' fs hq
        by_cases zc : c' = ci
        · rw [if_pos zc] at h
          subst zc
          split at h
          · rename_i M' hM'
            obtain ⟨a1, a2⟩ := zstk (B := B) z0 hrev
            exact zw_virt X hRm hY hsel hc hq hd hl (hC y _ u.1 M' hM' (by rw [List.length_cons]; omega)) a1 hL.2.1 (by rw [zcat]; exact z1) (by omega) (by omega) hR hS a2 (fun H1 locs1 hR1 hS1 => hk _ _ _ _ h H1 locs1 lsc hR1 hS1 hL)
          · cases h
        · rw [if_neg zc] at h; cases h
      · cases h
    · cases h
  · rw [if_neg z] at h; cases h
end ZOPS
section ZSOUND
variable {l : Launch} {E : jE} {B : Nat} {C : Nat → Nat → zO}
def zini (y : Nat) : Bool := decide ((znm y).name = "<init>")
def zAll (l : Launch) (E : jE) (B : Nat) (C : Nat → Nat → zO) : Prop := ∀ y pc, zOk l E B (zby y) (znm y).cls (zml y) (zini y) (zrm y) pc (C y pc)
theorem z_sound (hT : zAll l E B C) (hRet : ∀ y, plainName (znm y).cls = true) : ∀ (n y pc : Nat) (ls : zS) (st : List zV) (u : zU) (r : zM), zrun C zml n y pc ls st u = some r →
    ∀ (p : Program) (e : Env) (s : State) (m : MethodId) (args : Array Value) (below : List Frame) (meth : Method) (c : Code) (Q : State → Prop), zX E p s m args meth c (zby y) (znm y).cls (zml y) (zini y) →
      zEnd l E B p e (zrm y) s m args below meth c Q (zby y) r → zW l E B p e (zrm y) s m args below meth c Q (zml y) pc ls st u
  | 0, _, _, _, _, _, _, h => by cases h
  | n + 1, y, pc, ls, st, u, r, h => by
    intro p e s m args below meth c Q X he
    rw [zrun] at h
    refine hT y pc p e s m args below meth c Q X ls st u _ _ r h ?_ (fun pc' ls' st' u' h' => z_sound hT hRet n y pc' ls' st' u' r h' p e s m args below meth c Q X he) he
    intro y' as M M' h' hlen
    refine Met.ofW (cc := zby y') (maxL := zml y') (ret := none) (hRet y') rfl ?_
    intro p e s m args below meth c s₁ B0 hml hv
    obtain ⟨hargs, hR, hW⟩ := hv
    subst hargs
    have hts0 := atoms_spec (ws := zws y') B0.pre
    have hts : ∀ w ∈ jgt, w.before (as.map (zcv B)).toArray s = true := fun w hw => hts0 w (List.mem_cons_of_mem _ hw)
    have X' : zX E p s m (as.map (zcv B)).toArray meth c (zby y') (znm y').cls (zml y') (zini y') := ⟨B0.exec, B0.bytes, hml, findClass_of_methodNamed B0.named, hts, hW, fun hi => by rw [(name_of_methodNamed B0.named B0.method).1]; exact of_decide_eq_true hi⟩
    have hlocks := B0.notSynchronized
    have hret := B0.returns
    obtain ⟨a1, a2⟩ := zArgs B as
    have hl := lv_entry (as.map (zcv B)) (n := zml y') (by rw [a1]; exact hlen)
    rw [lg_entry_eq]
    generalize (lg_sl (as.map (zcv B)) ++ List.replicate (zml y' - (lg_sl (as.map (zcv B))).length) Slot.unset).toArray = lsc at hl ⊢
    have hLs : zLs B (zml y') lsc (zent (zml y') as) := by
      refine ⟨by unfold zent; rw [List.length_append, List.length_map, List.length_replicate]; omega, hl.1, hl.2.1, fun q hq => hl.2.2 q ((a2 q).mpr ?_)⟩
      obtain ⟨v, h1, h2⟩ := zll_mem.mp hq
      refine ⟨v, ?_, h2⟩
      unfold zent at h1
      rw [List.getElem?_append] at h1
      split at h1
      · rw [List.getElem?_map] at h1
        cases hz : as[q.1]? with
        | none => rw [hz] at h1; cases h1
        | some w => rw [hz] at h1; cases h1; rfl
      · have := List.mem_of_getElem? h1
        rw [List.mem_replicate] at this
        cases this.2
    have hend : zEnd l E B p e (zrm y') s m (as.map (zcv B)).toArray below meth c (MQ below (zQc E B M') (as.map (zcv B)).toArray s (zmc y') (zms y') (zA B)) (zby y') M' := by
      intro pc H locs lsc cells slots hR hS hcl hsl hd
      exact W.widen (k := zmc y') (n := zms y') hcl hsl (W.vret B0.exec B0.bytes hret (fun t ht _ => ⟨rfl, by rw [ht]; exact hR, hS.F ht⟩) hS.2.2 hd)
    exact z_sound hT hRet n y' 0 _ [] (M, 0, 0) M' h' p e s m _ below meth c _ X' hend s.heap [] lsc hR va_S.rf hLs
/-- what a run says, as a contract -/
theorem z_met (hT : zAll l E B C) (hRet : ∀ y, plainName (znm y).cls = true) {n y : Nat} {as : List zV} {M M' : zM} (h' : zrun C zml n y 0 (zent (zml y) as) [] (M, 0, 0) = some M') (hlen : as.length ≤ zml y) : zMet l E B y as M M' := by
  refine Met.ofW (cc := zby y) (maxL := zml y) (ret := none) (hRet y) rfl ?_
  intro p e s m args below meth c s₁ B0 hml hv
  obtain ⟨hargs, hR, hW⟩ := hv
  subst hargs
  have hts0 := atoms_spec (ws := zws y) B0.pre
  have hts : ∀ w ∈ jgt, w.before (as.map (zcv B)).toArray s = true := fun w hw => hts0 w (List.mem_cons_of_mem _ hw)
  have X' : zX E p s m (as.map (zcv B)).toArray meth c (zby y) (znm y).cls (zml y) (zini y) := ⟨B0.exec, B0.bytes, hml, findClass_of_methodNamed B0.named, hts, hW, fun hi => by rw [(name_of_methodNamed B0.named B0.method).1]; exact of_decide_eq_true hi⟩
  have hlocks := B0.notSynchronized
  have hret := B0.returns
  obtain ⟨a1, a2⟩ := zArgs B as
  have hl := lv_entry (as.map (zcv B)) (n := zml y) (by rw [a1]; exact hlen)
  rw [lg_entry_eq]
  generalize (lg_sl (as.map (zcv B)) ++ List.replicate (zml y - (lg_sl (as.map (zcv B))).length) Slot.unset).toArray = lsc at hl ⊢
  have hLs : zLs B (zml y) lsc (zent (zml y) as) := by
    refine ⟨by unfold zent; rw [List.length_append, List.length_map, List.length_replicate]; omega, hl.1, hl.2.1, fun q hq => hl.2.2 q ((a2 q).mpr ?_)⟩
    obtain ⟨v, h1, h2⟩ := zll_mem.mp hq
    refine ⟨v, ?_, h2⟩
    unfold zent at h1
    rw [List.getElem?_append] at h1
    split at h1
    · rw [List.getElem?_map] at h1
      cases hz : as[q.1]? with
      | none => rw [hz] at h1; cases h1
      | some w => rw [hz] at h1; cases h1; rfl
    · have := List.mem_of_getElem? h1
      rw [List.mem_replicate] at this
      cases this.2
  have hend : zEnd l E B p e (zrm y) s m (as.map (zcv B)).toArray below meth c (MQ below (zQc E B M') (as.map (zcv B)).toArray s (zmc y) (zms y) (zA B)) (zby y) M' := by
    intro pc H locs lsc cells slots hR hS hcl hsl hd
    exact W.widen (k := zmc y) (n := zms y) hcl hsl (W.vret B0.exec B0.bytes hret (fun t ht _ => ⟨rfl, by rw [ht]; exact hR, hS.F ht⟩) hS.2.2 hd)
  exact z_sound hT hRet n y 0 _ [] (M, 0, 0) M' h' p e s m _ below meth c _ X' hend s.heap [] lsc hR va_S.rf hLs
end ZSOUND
