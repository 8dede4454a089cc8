/-! THE SMALL MACHINE: ints as whole numbers within 32 bits, references as places (kind, index), a memory of numbers by kind, index, slot.
An op is a function with the rest of the run as an argument; what a run of ops answers the machine itself answers (part 05). -/
abbrev jV : Type := Int ⊕ (Nat × Nat)
abbrev jM : Type := Nat → Nat → Nat → Int
abbrev jR : Type := Option jV × jM
abbrev jS : Type := List (Option jV)
abbrev jC : Type := Nat → List jV → jM → Option jR
abbrev jK : Type := Nat → jS → List jV → jM → Option jR
abbrev jO : Type := jS → List jV → jM → jC → jK → Option jR
def jw (x : Int) : Int := Int.bmod x 4294967296
def jup (σ : jM) (k i j : Nat) (v : Int) : jM := fun k' i' j' => if k' = k ∧ i' = i ∧ j' = j then v else σ k' i' j'
def jcp (σ : jM) (k i0 i1 n : Nat) : jM := fun k' i' j' => if k' = k ∧ i' = i1 ∧ j' < n then σ k i0 j' else σ k' i' j'
def jbI (o : Option jR) (f : Int → jM → Option jR) : Option jR := match o with
  | some (some (.inl x), s) => f x s
  | _ => none
def jbV (o : Option jR) (f : jM → Option jR) : Option jR := match o with
  | some (none, s) => f s
  | _ => none
def jbR (o : Option jR) (q : Nat) (f : Nat → jM → Option jR) : Option jR := match o with
  | some (some (.inr (k, i)), s) => bif Nat.beq k q then f i s else none
  | _ => none
def jand (x y : Int) : Int := (Int32.ofInt x &&& Int32.ofInt y).toInt
def jshr (x y : Int) : Int := (Int32.ofInt x >>> (Int32.ofInt y &&& 31)).toInt
def jushr (x y : Int) : Int := ((Int32.ofInt x).toUInt32 >>> ((Int32.ofInt y).toUInt32 &&& Int32.toUInt32 31)).toInt32.toInt
def ji2c (x : Int) : Int := ((Int32.ofInt x).toUInt32 % 65536).toInt32.toInt
def jsw (x lo : Int) : List Nat → Nat → (Nat → Option jR) → Option jR
  | [], d, f => f d
  | t :: ts, d, f => if x = lo then f t else jsw x (lo + 1) ts d f
def jrk (rk : Nat) (as : List jV) : Bool := match as with
  | .inr (q, _) :: _ => Nat.beq q rk
  | _ => false
def jstk : jO := fun _ _ _ _ _ => none
def o_li (nx i : Nat) : jO := fun ls st σ _ k => match ls[i]? with
  | some (some (.inl x)) => k nx ls (.inl x :: st) σ
  | _ => none
def o_la (nx i : Nat) : jO := fun ls st σ _ k => match ls[i]? with
  | some (some (.inr (q, j))) => bif Nat.beq q 75 then none else k nx ls (.inr (q, j) :: st) σ
  | _ => none
def o_si (nx i : Nat) : jO := fun ls st σ _ k => match st with
  | .inl x :: r => k nx (ls.set i (some (.inl x))) r σ
  | _ => none
def o_sa (nx i : Nat) : jO := fun ls st σ _ k => match st with
  | .inr (q, j) :: r => bif Nat.beq q 75 then none else k nx (ls.set i (some (.inr (q, j)))) r σ
  | _ => none
def o_const (nx : Nat) (c : Int) : jO := fun ls st σ _ k => k nx ls (.inl c :: st) σ
def o_iinc (nx i : Nat) (c : Int) : jO := fun ls st σ _ k => match ls[i]? with
  | some (some (.inl x)) => k nx (ls.set i (some (.inl (jw (x + c))))) st σ
  | _ => none
def o_add (nx : Nat) : jO := fun ls st σ _ k => match st with
  | .inl y :: .inl x :: r => k nx ls (.inl (jw (x + y)) :: r) σ
  | _ => none
def o_sub (nx : Nat) : jO := fun ls st σ _ k => match st with
  | .inl y :: .inl x :: r => k nx ls (.inl (jw (x - y)) :: r) σ
  | _ => none
def o_mul (nx : Nat) : jO := fun ls st σ _ k => match st with
  | .inl y :: .inl x :: r => k nx ls (.inl (jw (x * y)) :: r) σ
  | _ => none
def o_neg (nx : Nat) : jO := fun ls st σ _ k => match st with
  | .inl x :: r => k nx ls (.inl (jw (-x)) :: r) σ
  | _ => none
def o_div (nx : Nat) : jO := fun ls st σ _ k => match st with
  | .inl y :: .inl x :: r => if y = 0 then none else k nx ls (.inl (jw (x.tdiv y)) :: r) σ
  | _ => none
def o_rem (nx : Nat) : jO := fun ls st σ _ k => match st with
  | .inl y :: .inl x :: r => if y = 0 then none else k nx ls (.inl (x.tmod y) :: r) σ
  | _ => none
def o_and (nx : Nat) : jO := fun ls st σ _ k => match st with
  | .inl y :: .inl x :: r => k nx ls (.inl (jand x y) :: r) σ
  | _ => none
def o_shr (nx : Nat) : jO := fun ls st σ _ k => match st with
  | .inl y :: .inl x :: r => k nx ls (.inl (jshr x y) :: r) σ
  | _ => none
def o_ushr (nx : Nat) : jO := fun ls st σ _ k => match st with
  | .inl y :: .inl x :: r => k nx ls (.inl (jushr x y) :: r) σ
  | _ => none
def o_i2c (nx : Nat) : jO := fun ls st σ _ k => match st with
  | .inl x :: r => k nx ls (.inl (ji2c x) :: r) σ
  | _ => none
def o_dup (nx : Nat) : jO := fun ls st σ _ k => match st with
  | v :: r => k nx ls (v :: v :: r) σ
  | _ => none
def o_pop (nx : Nat) : jO := fun ls st σ _ k => match st with
  | _ :: r => k nx ls r σ
  | _ => none
def o_goto (tg : Nat) : jO := fun ls st σ _ k => k tg ls st σ
def o_iflt (nx tg : Nat) : jO := fun ls st σ _ k => match st with
  | .inl x :: r => if x < 0 then k tg ls r σ else k nx ls r σ
  | _ => none
def o_ifge (nx tg : Nat) : jO := fun ls st σ _ k => match st with
  | .inl x :: r => if x < 0 then k nx ls r σ else k tg ls r σ
  | _ => none
def o_ifgt (nx tg : Nat) : jO := fun ls st σ _ k => match st with
  | .inl x :: r => if 0 < x then k tg ls r σ else k nx ls r σ
  | _ => none
def o_ifle (nx tg : Nat) : jO := fun ls st σ _ k => match st with
  | .inl x :: r => if 0 < x then k nx ls r σ else k tg ls r σ
  | _ => none
def o_ifeq (nx tg : Nat) : jO := fun ls st σ _ k => match st with
  | .inl x :: r => if x = 0 then k tg ls r σ else k nx ls r σ
  | _ => none
def o_ifne (nx tg : Nat) : jO := fun ls st σ _ k => match st with
  | .inl x :: r => if x = 0 then k nx ls r σ else k tg ls r σ
  | _ => none
def o_iclt (nx tg : Nat) : jO := fun ls st σ _ k => match st with
  | .inl y :: .inl x :: r => if x < y then k tg ls r σ else k nx ls r σ
  | _ => none
def o_icge (nx tg : Nat) : jO := fun ls st σ _ k => match st with
  | .inl y :: .inl x :: r => if x < y then k nx ls r σ else k tg ls r σ
  | _ => none
def o_icgt (nx tg : Nat) : jO := fun ls st σ _ k => match st with
  | .inl y :: .inl x :: r => if y < x then k tg ls r σ else k nx ls r σ
  | _ => none
def o_icle (nx tg : Nat) : jO := fun ls st σ _ k => match st with
  | .inl y :: .inl x :: r => if y < x then k nx ls r σ else k tg ls r σ
  | _ => none
def o_iceq (nx tg : Nat) : jO := fun ls st σ _ k => match st with
  | .inl y :: .inl x :: r => if x = y then k tg ls r σ else k nx ls r σ
  | _ => none
def o_icne (nx tg : Nat) : jO := fun ls st σ _ k => match st with
  | .inl y :: .inl x :: r => if x = y then k nx ls r σ else k tg ls r σ
  | _ => none
def o_tsw (lo : Int) (ts : List Nat) (d : Nat) : jO := fun ls st σ _ k => match st with
  | .inl x :: r => jsw x lo ts d (fun t => k t ls r σ)
  | _ => none
def o_getI (nx kd j : Nat) : jO := fun ls st σ _ k => match st with
  | .inr (q, i) :: r => bif Nat.beq q kd then k nx ls (.inl (σ kd i j) :: r) σ else none
  | _ => none
def o_getP (nx kd kt : Nat) (f : Nat → Nat) : jO := fun ls st σ _ k => match st with
  | .inr (q, i) :: r => bif Nat.beq q kd then k nx ls (.inr (kt, f i) :: r) σ else none
  | _ => none
def o_getC (nx kd : Nat) (v : Int) : jO := fun ls st σ _ k => match st with
  | .inr (q, _) :: r => bif Nat.beq q kd then k nx ls (.inl v :: r) σ else none
  | _ => none
def o_putI (nx kd j : Nat) : jO := fun ls st σ _ k => match st with
  | .inl v :: .inr (q, i) :: r => bif Nat.beq q kd then k nx ls r (jup σ kd i j v) else none
  | _ => none
def o_putZ (nx kd j : Nat) : jO := fun ls st σ _ k => match st with
  | .inl v :: .inr (q, i) :: r => bif Nat.beq q kd then (if v = 0 ∨ v = 1 then k nx ls r (jup σ kd i j v) else none) else none
  | _ => none
def o_stat (nx : Nat) (v : jV) : jO := fun ls st σ _ k => k nx ls (v :: st) σ
def o_ald (nx kd : Nat) (n : Int) : jO := fun ls st σ _ k => match st with
  | .inl j :: .inr (q, i) :: r => bif Nat.beq q kd then (if 0 ≤ j ∧ j < n then k nx ls (.inl (σ kd i j.toNat) :: r) σ else none) else none
  | _ => none
def o_aldC (nx kd : Nat) (n : Nat → Int) (f : Nat → Nat → Int) : jO := fun ls st σ _ k => match st with
  | .inl j :: .inr (q, i) :: r => bif Nat.beq q kd then (if 0 ≤ j ∧ j < n i then k nx ls (.inl (f i j.toNat) :: r) σ else none) else none
  | _ => none
def o_aldS (nx : Nat) : jO := fun ls st σ _ k => match st with
  | .inl j :: .inr (q, _) :: r => bif Nat.beq q 72 then (if 0 ≤ j ∧ j < σ 72 1 0 then k nx ls (.inl (σ 72 0 j.toNat) :: r) σ else none) else none
  | _ => none
def o_ast (nx kd : Nat) (n : Int) : jO := fun ls st σ _ k => match st with
  | .inl v :: .inl j :: .inr (q, i) :: r => bif Nat.beq q kd then (if 0 ≤ j ∧ j < n then k nx ls r (jup σ kd i j.toNat v) else none) else none
  | _ => none
def o_aaP (nx kd : Nat) (n : Int) (kt : Nat) (f : Nat → Nat → Int → Nat) : jO := fun ls st σ _ k => match st with
  | .inl j :: .inr (q, i) :: r => bif Nat.beq q kd then (if 0 ≤ j ∧ j < n then k nx ls (.inr (kt, f i j.toNat (σ kd i j.toNat)) :: r) σ else none) else none
  | _ => none
def o_aaS (nx : Nat) : jO := fun ls st σ _ k => match st with
  | .inr (q2, t) :: .inl j :: .inr (q, i) :: r => bif Nat.beq q 24 && Nat.beq q2 25 then (if 0 ≤ j ∧ j < 21 then k nx ls r (jup σ 24 i j.toNat (t : Int)) else none) else none
  | _ => none
def o_alen (nx kd : Nat) (n : Int) : jO := fun ls st σ _ k => match st with
  | .inr (q, _) :: r => bif Nat.beq q kd then k nx ls (.inl n :: r) σ else none
  | _ => none
def o_alenC (nx kd : Nat) (f : Nat → Int) : jO := fun ls st σ _ k => match st with
  | .inr (q, i) :: r => bif Nat.beq q kd then k nx ls (.inl (f i) :: r) σ else none
  | _ => none
def o_alenS (nx : Nat) : jO := fun ls st σ _ k => match st with
  | .inr (q, _) :: r => bif Nat.beq q 72 then k nx ls (.inl (σ 72 1 0) :: r) σ else none
  | _ => none
def jcok (rk n : Nat) (st : List jV) : Bool := (Nat.ble n st.length && Nat.ble (st.drop n).length 8) && (Nat.beq rk 99 || jrk rk (st.take n).reverse)
def o_calI (nx y n rk : Nat) : jO := fun ls st σ call k => bif jcok rk n st then jbI (call y (st.take n).reverse σ) (fun x s => k nx ls (.inl x :: st.drop n) s) else none
def o_calV (nx y n rk : Nat) : jO := fun ls st σ call k => bif jcok rk n st then jbV (call y (st.take n).reverse σ) (fun s => k nx ls (st.drop n) s) else none
def o_calR (nx y n rk kt : Nat) : jO := fun ls st σ call k => bif jcok rk n st then jbR (call y (st.take n).reverse σ) kt (fun i s => k nx ls (.inr (kt, i) :: st.drop n) s) else none
def o_min (nx : Nat) : jO := fun ls st σ _ k => match st with
  | .inl y :: .inl x :: r => bif Nat.ble r.length 8 then k nx ls (.inl (if y < x then y else x) :: r) σ else none
  | _ => none
def o_max (nx : Nat) : jO := fun ls st σ _ k => match st with
  | .inl y :: .inl x :: r => bif Nat.ble r.length 8 then k nx ls (.inl (if x < y then y else x) :: r) σ else none
  | _ => none
def o_copy (nx kd n : Nat) : jO := fun ls st σ _ k => match st with
  | [.inl m, .inl dp, .inr (q1, i1), .inl sp, .inr (q0, i0)] => bif Nat.beq q0 kd && Nat.beq q1 kd then (if sp = 0 ∧ dp = 0 ∧ m = n then k nx ls [] (jcp σ kd i0 i1 n) else none) else none
  | _ => none
def o_retI : jO := fun _ st σ _ _ => match st with
  | [.inl v] => some (some (.inl v), σ)
  | _ => none
def o_retA : jO := fun _ st σ _ _ => match st with
  | [.inr (q, i)] => bif Nat.beq q 75 then none else some (some (.inr (q, i)), σ)
  | _ => none
def o_retZ : jO := fun _ st σ _ _ => match st with
  | [.inl v] => if v = 0 ∨ v = 1 then some (some (.inl v), σ) else none
  | _ => none
def o_retB (a b : Int) : jO := fun _ st σ _ _ => match st with
  | [.inl v] => if a ≤ v ∧ v ≤ b then some (some (.inl v), σ) else none
  | _ => none
def o_vret : jO := fun _ st σ _ _ => match st with
  | [] => some (none, σ)
  | _ => none
def jent (n : Nat) (as : List jV) : jS := as.map some ++ List.replicate (n - as.length) none
/-- what a method may write: its own side's kinds (methods below 200: the class; 200 .. 299: the other; 300 .. 399: the library; then the law) -/
def jwr (y q : Nat) : Bool := bif Nat.blt y 200 then (Nat.blt q 29 && !(Nat.beq q 11)) else bif Nat.blt y 300 then (Nat.beq q 11 || (Nat.ble 29 q && Nat.blt q 58)) else bif Nat.blt y 400 then false else Nat.blt q 58
/-! the shape of an op: it stops, goes on, calls and goes on, or answers; what it writes lies in the kinds of wr -/
def jSh (wr : Nat → Bool) (op : jO) : Prop := ∀ (ls : jS) (st : List jV) (σ : jM),
  (∀ call k, op ls st σ call k = none) ∨
  (∃ pc' ls' st' σ', (∀ q, wr q = false → σ' q = σ q) ∧ ∀ call k, op ls st σ call k = k pc' ls' st' σ') ∨
  (∃ (y : Nat) (as : List jV) (f : jR → Option (Nat × jS × List jV)), (∀ q, wr q = false → jwr y q = false) ∧ ∀ (call : jC) (k : jK), op ls st σ call k = (call y as σ).bind fun r => (f r).bind fun q => k q.1 q.2.1 q.2.2 r.2) ∨
  (∃ v, ∀ call k, op ls st σ call k = some (v, σ))
theorem jSh.no {wr : Nat → Bool} {op : jO} {ls : jS} {st : List jV} {σ : jM} (h : ∀ call k, op ls st σ call k = none) : (∀ call k, op ls st σ call k = none) ∨ (∃ pc' ls' st' σ', (∀ q, wr q = false → σ' q = σ q) ∧ ∀ call k, op ls st σ call k = k pc' ls' st' σ') ∨ (∃ (y : Nat) (as : List jV) (f : jR → Option (Nat × jS × List jV)), (∀ q, wr q = false → jwr y q = false) ∧ ∀ (call : jC) (k : jK), op ls st σ call k = (call y as σ).bind fun r => (f r).bind fun q => k q.1 q.2.1 q.2.2 r.2) ∨ (∃ v, ∀ call k, op ls st σ call k = some (v, σ)) := Or.inl h
theorem jSh.go {wr : Nat → Bool} {op : jO} {ls : jS} {st : List jV} {σ : jM} (pc' : Nat) (ls' : jS) (st' : List jV) (σ' : jM) (hw : ∀ q, wr q = false → σ' q = σ q) (h : ∀ call k, op ls st σ call k = k pc' ls' st' σ') : (∀ call k, op ls st σ call k = none) ∨ (∃ pc' ls' st' σ', (∀ q, wr q = false → σ' q = σ q) ∧ ∀ call k, op ls st σ call k = k pc' ls' st' σ') ∨ (∃ (y : Nat) (as : List jV) (f : jR → Option (Nat × jS × List jV)), (∀ q, wr q = false → jwr y q = false) ∧ ∀ (call : jC) (k : jK), op ls st σ call k = (call y as σ).bind fun r => (f r).bind fun q => k q.1 q.2.1 q.2.2 r.2) ∨ (∃ v, ∀ call k, op ls st σ call k = some (v, σ)) := Or.inr (Or.inl ⟨pc', ls', st', σ', hw, h⟩)
theorem jup_ne {σ : jM} {k i j : Nat} {v : Int} {q : Nat} (h : q ≠ k) : jup σ k i j v q = σ q := by
  funext a b
  simp [jup, h]
theorem jcp_ne {σ : jM} {k i j n : Nat} {q : Nat} (h : q ≠ k) : jcp σ k i j n q = σ q := by
  funext a b
  simp [jcp, h]
theorem sh_wr {wr : Nat → Bool} {kd : Nat} (h : wr kd = true) : ∀ q, wr q = false → q ≠ kd := fun q hq e => by rw [e, h] at hq; cases hq
section SH
variable {wr : Nat → Bool}
theorem sh_stk : jSh wr jstk := fun _ _ _ => Or.inl fun _ _ => rfl
theorem sh_li {nx i : Nat} : jSh wr (o_li nx i) := by
  intro ls st σ
  by_cases h : ∃ v, ls[i]? = some (some (.inl v))
  · obtain ⟨v, hv⟩ := h
    exact jSh.go nx ls (.inl v :: st) σ (fun _ _ => rfl) (fun call k => by simp [o_li, hv])
  · refine Or.inl fun call k => ?_
    unfold o_li
    split
    · rename_i v hv
      exact absurd ⟨v, hv⟩ h
    · rfl
theorem sh_la {nx i : Nat} : jSh wr (o_la nx i) := by
  intro ls st σ
  by_cases h : ∃ q j, ls[i]? = some (some (.inr (q, j)))
  · obtain ⟨q, j, hv⟩ := h
    by_cases h5 : Nat.beq q 75 = true
    · exact Or.inl fun call k => by simp only [o_la, hv, h5, cond_true]
    · exact jSh.go nx ls (.inr (q, j) :: st) σ (fun _ _ => rfl) (fun call k => by simp only [o_la, hv, h5, cond_false])
  · refine Or.inl fun call k => ?_
    unfold o_la
    split
    · rename_i q j hv
      exact absurd ⟨q, j, hv⟩ h
    · rfl
theorem sh_si {nx i : Nat} : jSh wr (o_si nx i) := by
  intro ls st σ
  match st with
  | [] => exact Or.inl fun _ _ => rfl
  | .inr _ :: _ => exact Or.inl fun _ _ => rfl
  | .inl x :: r => exact jSh.go nx (ls.set i (some (.inl x))) r σ (fun _ _ => rfl) (fun _ _ => rfl)
theorem sh_sa {nx i : Nat} : jSh wr (o_sa nx i) := by
  intro ls st σ
  match st with
  | [] => exact Or.inl fun _ _ => rfl
  | .inl _ :: _ => exact Or.inl fun _ _ => rfl
  | .inr (q, j) :: r =>
    by_cases h5 : Nat.beq q 75 = true
    · exact Or.inl fun call k => by simp only [o_sa, h5, cond_true]
    · exact jSh.go nx (ls.set i (some (.inr (q, j)))) r σ (fun _ _ => rfl) (fun _ _ => by simp only [o_sa, h5, cond_false])
theorem sh_const {nx : Nat} {c : Int} : jSh wr (o_const nx c) := fun ls st σ => jSh.go nx ls (.inl c :: st) σ (fun _ _ => rfl) (fun _ _ => rfl)
theorem sh_stat {nx : Nat} {v : jV} : jSh wr (o_stat nx v) := fun ls st σ => jSh.go nx ls (v :: st) σ (fun _ _ => rfl) (fun _ _ => rfl)
theorem sh_goto {tg : Nat} : jSh wr (o_goto tg) := fun ls st σ => jSh.go tg ls st σ (fun _ _ => rfl) (fun _ _ => rfl)
theorem sh_iinc {nx i : Nat} {c : Int} : jSh wr (o_iinc nx i c) := by
  intro ls st σ
  by_cases h : ∃ x, ls[i]? = some (some (.inl x))
  · obtain ⟨v, hv⟩ := h
    exact jSh.go nx (ls.set i (some (.inl (jw (v + c))))) st σ (fun _ _ => rfl) (fun call k => by simp [o_iinc, hv])
  · refine Or.inl fun call k => ?_
    unfold o_iinc
    split
    · rename_i v hv
      exact absurd ⟨v, hv⟩ h
    · rfl
theorem sh_dup {nx : Nat} : jSh wr (o_dup nx) := by
  intro ls st σ
  match st with
  | [] => exact Or.inl fun _ _ => rfl
  | v :: r => exact jSh.go nx ls (v :: v :: r) σ (fun _ _ => rfl) (fun _ _ => rfl)
theorem sh_pop {nx : Nat} : jSh wr (o_pop nx) := by
  intro ls st σ
  match st with
  | [] => exact Or.inl fun _ _ => rfl
  | v :: r => exact jSh.go nx ls r σ (fun _ _ => rfl) (fun _ _ => rfl)
theorem sh_neg {nx : Nat} : jSh wr (o_neg nx) := by
  intro ls st σ
  match st with
  | [] => exact Or.inl fun _ _ => rfl
  | .inr _ :: _ => exact Or.inl fun _ _ => rfl
  | .inl x :: r => exact jSh.go nx ls (.inl (jw (-x)) :: r) σ (fun _ _ => rfl) (fun _ _ => rfl)
theorem sh_i2c {nx : Nat} : jSh wr (o_i2c nx) := by
  intro ls st σ
  match st with
  | [] => exact Or.inl fun _ _ => rfl
  | .inr _ :: _ => exact Or.inl fun _ _ => rfl
  | .inl x :: r => exact jSh.go nx ls (.inl (ji2c x) :: r) σ (fun _ _ => rfl) (fun _ _ => rfl)
theorem sh_add {nx : Nat} : jSh wr (o_add nx) := by
  intro ls st σ
  match st with
  | [] => exact Or.inl fun _ _ => rfl
  | .inr _ :: _ => exact Or.inl fun _ _ => rfl
  | [.inl _] => exact Or.inl fun _ _ => rfl
  | .inl _ :: .inr _ :: _ => exact Or.inl fun _ _ => rfl
  | .inl y :: .inl x :: r => exact jSh.go nx ls (.inl (jw (x + y)) :: r) σ (fun _ _ => rfl) (fun _ _ => rfl)
theorem sh_sub {nx : Nat} : jSh wr (o_sub nx) := by
  intro ls st σ
  match st with
  | [] => exact Or.inl fun _ _ => rfl
  | .inr _ :: _ => exact Or.inl fun _ _ => rfl
  | [.inl _] => exact Or.inl fun _ _ => rfl
  | .inl _ :: .inr _ :: _ => exact Or.inl fun _ _ => rfl
  | .inl y :: .inl x :: r => exact jSh.go nx ls (.inl (jw (x - y)) :: r) σ (fun _ _ => rfl) (fun _ _ => rfl)
theorem sh_mul {nx : Nat} : jSh wr (o_mul nx) := by
  intro ls st σ
  match st with
  | [] => exact Or.inl fun _ _ => rfl
  | .inr _ :: _ => exact Or.inl fun _ _ => rfl
  | [.inl _] => exact Or.inl fun _ _ => rfl
  | .inl _ :: .inr _ :: _ => exact Or.inl fun _ _ => rfl
  | .inl y :: .inl x :: r => exact jSh.go nx ls (.inl (jw (x * y)) :: r) σ (fun _ _ => rfl) (fun _ _ => rfl)
theorem sh_and {nx : Nat} : jSh wr (o_and nx) := by
  intro ls st σ
  match st with
  | [] => exact Or.inl fun _ _ => rfl
  | .inr _ :: _ => exact Or.inl fun _ _ => rfl
  | [.inl _] => exact Or.inl fun _ _ => rfl
  | .inl _ :: .inr _ :: _ => exact Or.inl fun _ _ => rfl
  | .inl y :: .inl x :: r => exact jSh.go nx ls (.inl (jand x y) :: r) σ (fun _ _ => rfl) (fun _ _ => rfl)
theorem sh_shr {nx : Nat} : jSh wr (o_shr nx) := by
  intro ls st σ
  match st with
  | [] => exact Or.inl fun _ _ => rfl
  | .inr _ :: _ => exact Or.inl fun _ _ => rfl
  | [.inl _] => exact Or.inl fun _ _ => rfl
  | .inl _ :: .inr _ :: _ => exact Or.inl fun _ _ => rfl
  | .inl y :: .inl x :: r => exact jSh.go nx ls (.inl (jshr x y) :: r) σ (fun _ _ => rfl) (fun _ _ => rfl)
theorem sh_ushr {nx : Nat} : jSh wr (o_ushr nx) := by
  intro ls st σ
  match st with
  | [] => exact Or.inl fun _ _ => rfl
  | .inr _ :: _ => exact Or.inl fun _ _ => rfl
  | [.inl _] => exact Or.inl fun _ _ => rfl
  | .inl _ :: .inr _ :: _ => exact Or.inl fun _ _ => rfl
  | .inl y :: .inl x :: r => exact jSh.go nx ls (.inl (jushr x y) :: r) σ (fun _ _ => rfl) (fun _ _ => rfl)
theorem sh_div {nx : Nat} : jSh wr (o_div nx) := by
  intro ls st σ
  match st with
  | [] => exact Or.inl fun _ _ => rfl
  | .inr _ :: _ => exact Or.inl fun _ _ => rfl
  | [.inl _] => exact Or.inl fun _ _ => rfl
  | .inl _ :: .inr _ :: _ => exact Or.inl fun _ _ => rfl
  | .inl y :: .inl x :: r =>
    by_cases h : y = 0
    · exact Or.inl fun _ _ => (by simp [o_div, h])
    · exact jSh.go nx ls (.inl (jw (x.tdiv y)) :: r) σ (fun _ _ => rfl) (fun _ _ => (by simp [o_div, h]))
theorem sh_rem {nx : Nat} : jSh wr (o_rem nx) := by
  intro ls st σ
  match st with
  | [] => exact Or.inl fun _ _ => rfl
  | .inr _ :: _ => exact Or.inl fun _ _ => rfl
  | [.inl _] => exact Or.inl fun _ _ => rfl
  | .inl _ :: .inr _ :: _ => exact Or.inl fun _ _ => rfl
  | .inl y :: .inl x :: r =>
    by_cases h : y = 0
    · exact Or.inl fun _ _ => (by simp [o_rem, h])
    · exact jSh.go nx ls (.inl (x.tmod y) :: r) σ (fun _ _ => rfl) (fun _ _ => (by simp [o_rem, h]))
theorem sh_iflt {nx tg : Nat} : jSh wr (o_iflt nx tg) := by
  intro ls st σ
  match st with
  | [] => exact Or.inl fun _ _ => rfl
  | .inr _ :: _ => exact Or.inl fun _ _ => rfl
  | .inl x :: r =>
    by_cases h : x < 0
    · exact jSh.go tg ls r σ (fun _ _ => rfl) (fun _ _ => (by simp [o_iflt, h]))
    · exact jSh.go nx ls r σ (fun _ _ => rfl) (fun _ _ => (by simp [o_iflt, h]))
theorem sh_ifge {nx tg : Nat} : jSh wr (o_ifge nx tg) := by
  intro ls st σ
  match st with
  | [] => exact Or.inl fun _ _ => rfl
  | .inr _ :: _ => exact Or.inl fun _ _ => rfl
  | .inl x :: r =>
    by_cases h : x < 0
    · exact jSh.go nx ls r σ (fun _ _ => rfl) (fun _ _ => (by simp [o_ifge, h]))
    · exact jSh.go tg ls r σ (fun _ _ => rfl) (fun _ _ => (by simp [o_ifge, h]))
theorem sh_ifgt {nx tg : Nat} : jSh wr (o_ifgt nx tg) := by
  intro ls st σ
  match st with
  | [] => exact Or.inl fun _ _ => rfl
  | .inr _ :: _ => exact Or.inl fun _ _ => rfl
  | .inl x :: r =>
    by_cases h : 0 < x
    · exact jSh.go tg ls r σ (fun _ _ => rfl) (fun _ _ => (by simp [o_ifgt, h]))
    · exact jSh.go nx ls r σ (fun _ _ => rfl) (fun _ _ => (by simp [o_ifgt, h]))
theorem sh_ifle {nx tg : Nat} : jSh wr (o_ifle nx tg) := by
  intro ls st σ
  match st with
  | [] => exact Or.inl fun _ _ => rfl
  | .inr _ :: _ => exact Or.inl fun _ _ => rfl
  | .inl x :: r =>
    by_cases h : 0 < x
    · exact jSh.go nx ls r σ (fun _ _ => rfl) (fun _ _ => (by simp [o_ifle, h]))
    · exact jSh.go tg ls r σ (fun _ _ => rfl) (fun _ _ => (by simp [o_ifle, h]))
theorem sh_ifeq {nx tg : Nat} : jSh wr (o_ifeq nx tg) := by
  intro ls st σ
  match st with
  | [] => exact Or.inl fun _ _ => rfl
  | .inr _ :: _ => exact Or.inl fun _ _ => rfl
  | .inl x :: r =>
    by_cases h : x = 0
    · exact jSh.go tg ls r σ (fun _ _ => rfl) (fun _ _ => (by simp [o_ifeq, h]))
    · exact jSh.go nx ls r σ (fun _ _ => rfl) (fun _ _ => (by simp [o_ifeq, h]))
theorem sh_ifne {nx tg : Nat} : jSh wr (o_ifne nx tg) := by
  intro ls st σ
  match st with
  | [] => exact Or.inl fun _ _ => rfl
  | .inr _ :: _ => exact Or.inl fun _ _ => rfl
  | .inl x :: r =>
    by_cases h : x = 0
    · exact jSh.go nx ls r σ (fun _ _ => rfl) (fun _ _ => (by simp [o_ifne, h]))
    · exact jSh.go tg ls r σ (fun _ _ => rfl) (fun _ _ => (by simp [o_ifne, h]))
theorem sh_iclt {nx tg : Nat} : jSh wr (o_iclt nx tg) := by
  intro ls st σ
  match st with
  | [] => exact Or.inl fun _ _ => rfl
  | .inr _ :: _ => exact Or.inl fun _ _ => rfl
  | [.inl _] => exact Or.inl fun _ _ => rfl
  | .inl _ :: .inr _ :: _ => exact Or.inl fun _ _ => rfl
  | .inl y :: .inl x :: r =>
    by_cases h : x < y
    · exact jSh.go tg ls r σ (fun _ _ => rfl) (fun _ _ => (by simp [o_iclt, h]))
    · exact jSh.go nx ls r σ (fun _ _ => rfl) (fun _ _ => (by simp [o_iclt, h]))
theorem sh_icge {nx tg : Nat} : jSh wr (o_icge nx tg) := by
  intro ls st σ
  match st with
  | [] => exact Or.inl fun _ _ => rfl
  | .inr _ :: _ => exact Or.inl fun _ _ => rfl
  | [.inl _] => exact Or.inl fun _ _ => rfl
  | .inl _ :: .inr _ :: _ => exact Or.inl fun _ _ => rfl
  | .inl y :: .inl x :: r =>
    by_cases h : x < y
    · exact jSh.go nx ls r σ (fun _ _ => rfl) (fun _ _ => (by simp [o_icge, h]))
    · exact jSh.go tg ls r σ (fun _ _ => rfl) (fun _ _ => (by simp [o_icge, h]))
theorem sh_icgt {nx tg : Nat} : jSh wr (o_icgt nx tg) := by
  intro ls st σ
  match st with
  | [] => exact Or.inl fun _ _ => rfl
  | .inr _ :: _ => exact Or.inl fun _ _ => rfl
  | [.inl _] => exact Or.inl fun _ _ => rfl
  | .inl _ :: .inr _ :: _ => exact Or.inl fun _ _ => rfl
  | .inl y :: .inl x :: r =>
    by_cases h : y < x
    · exact jSh.go tg ls r σ (fun _ _ => rfl) (fun _ _ => (by simp [o_icgt, h]))
    · exact jSh.go nx ls r σ (fun _ _ => rfl) (fun _ _ => (by simp [o_icgt, h]))
theorem sh_icle {nx tg : Nat} : jSh wr (o_icle nx tg) := by
  intro ls st σ
  match st with
  | [] => exact Or.inl fun _ _ => rfl
  | .inr _ :: _ => exact Or.inl fun _ _ => rfl
  | [.inl _] => exact Or.inl fun _ _ => rfl
  | .inl _ :: .inr _ :: _ => exact Or.inl fun _ _ => rfl
  | .inl y :: .inl x :: r =>
    by_cases h : y < x
    · exact jSh.go nx ls r σ (fun _ _ => rfl) (fun _ _ => (by simp [o_icle, h]))
    · exact jSh.go tg ls r σ (fun _ _ => rfl) (fun _ _ => (by simp [o_icle, h]))
theorem sh_iceq {nx tg : Nat} : jSh wr (o_iceq nx tg) := by
  intro ls st σ
  match st with
  | [] => exact Or.inl fun _ _ => rfl
  | .inr _ :: _ => exact Or.inl fun _ _ => rfl
  | [.inl _] => exact Or.inl fun _ _ => rfl
  | .inl _ :: .inr _ :: _ => exact Or.inl fun _ _ => rfl
  | .inl y :: .inl x :: r =>
    by_cases h : x = y
    · exact jSh.go tg ls r σ (fun _ _ => rfl) (fun _ _ => (by simp [o_iceq, h]))
    · exact jSh.go nx ls r σ (fun _ _ => rfl) (fun _ _ => (by simp [o_iceq, h]))
theorem sh_icne {nx tg : Nat} : jSh wr (o_icne nx tg) := by
  intro ls st σ
  match st with
  | [] => exact Or.inl fun _ _ => rfl
  | .inr _ :: _ => exact Or.inl fun _ _ => rfl
  | [.inl _] => exact Or.inl fun _ _ => rfl
  | .inl _ :: .inr _ :: _ => exact Or.inl fun _ _ => rfl
  | .inl y :: .inl x :: r =>
    by_cases h : x = y
    · exact jSh.go nx ls r σ (fun _ _ => rfl) (fun _ _ => (by simp [o_icne, h]))
    · exact jSh.go tg ls r σ (fun _ _ => rfl) (fun _ _ => (by simp [o_icne, h]))
theorem sh_jsw (x : Int) (ls : jS) (r : List jV) (σ : jM) : ∀ (ts : List Nat) (lo : Int) (d : Nat), ∃ t, ∀ k : jK, jsw x lo ts d (fun t => k t ls r σ) = k t ls r σ
  | [], _, d => ⟨d, fun _ => rfl⟩
  | t :: ts, lo, d => by
    by_cases h : x = lo
    · exact ⟨t, fun k => by simp [jsw, h]⟩
    · obtain ⟨t2, ht⟩ := sh_jsw x ls r σ ts (lo + 1) d
      exact ⟨t2, fun k => by rw [jsw, if_neg h]; exact ht k⟩
theorem sh_tsw {lo : Int} {ts : List Nat} {d : Nat} : jSh wr (o_tsw lo ts d) := by
  intro ls st σ
  match st with
  | [] => exact Or.inl fun _ _ => rfl
  | .inr _ :: _ => exact Or.inl fun _ _ => rfl
  | .inl x :: r =>
    obtain ⟨t, ht⟩ := sh_jsw x ls r σ ts lo d
    exact jSh.go t ls r σ (fun _ _ => rfl) (fun _ k => ht k)
theorem sh_getI {nx kd j : Nat} : jSh wr (o_getI nx kd j) := by
  intro ls st σ
  match st with
  | [] => exact Or.inl fun _ _ => rfl
  | .inl _ :: _ => exact Or.inl fun _ _ => rfl
  | .inr (q, i) :: r =>
    by_cases h : Nat.beq q kd = true
    · exact jSh.go nx ls (.inl (σ kd i j) :: r) σ (fun _ _ => rfl) (fun _ _ => (by simp only [o_getI, h, cond_true]))
    · exact Or.inl fun _ _ => (by simp only [o_getI, h, cond_false])
theorem sh_getP {nx kd kt : Nat} {f : Nat → Nat} : jSh wr (o_getP nx kd kt f) := by
  intro ls st σ
  match st with
  | [] => exact Or.inl fun _ _ => rfl
  | .inl _ :: _ => exact Or.inl fun _ _ => rfl
  | .inr (q, i) :: r =>
    by_cases h : Nat.beq q kd = true
    · exact jSh.go nx ls (.inr (kt, f i) :: r) σ (fun _ _ => rfl) (fun _ _ => (by simp only [o_getP, h, cond_true]))
    · exact Or.inl fun _ _ => (by simp only [o_getP, h, cond_false])
theorem sh_getC {nx kd : Nat} {v : Int} : jSh wr (o_getC nx kd v) := by
  intro ls st σ
  match st with
  | [] => exact Or.inl fun _ _ => rfl
  | .inl _ :: _ => exact Or.inl fun _ _ => rfl
  | .inr (q, i) :: r =>
    by_cases h : Nat.beq q kd = true
    · exact jSh.go nx ls (.inl v :: r) σ (fun _ _ => rfl) (fun _ _ => (by simp only [o_getC, h, cond_true]))
    · exact Or.inl fun _ _ => (by simp only [o_getC, h, cond_false])
theorem sh_alen {nx kd : Nat} {n : Int} : jSh wr (o_alen nx kd n) := by
  intro ls st σ
  match st with
  | [] => exact Or.inl fun _ _ => rfl
  | .inl _ :: _ => exact Or.inl fun _ _ => rfl
  | .inr (q, i) :: r =>
    by_cases h : Nat.beq q kd = true
    · exact jSh.go nx ls (.inl n :: r) σ (fun _ _ => rfl) (fun _ _ => (by simp only [o_alen, h, cond_true]))
    · exact Or.inl fun _ _ => (by simp only [o_alen, h, cond_false])
theorem sh_alenC {nx kd : Nat} {f : Nat → Int} : jSh wr (o_alenC nx kd f) := by
  intro ls st σ
  match st with
  | [] => exact Or.inl fun _ _ => rfl
  | .inl _ :: _ => exact Or.inl fun _ _ => rfl
  | .inr (q, i) :: r =>
    by_cases h : Nat.beq q kd = true
    · exact jSh.go nx ls (.inl (f i) :: r) σ (fun _ _ => rfl) (fun _ _ => (by simp only [o_alenC, h, cond_true]))
    · exact Or.inl fun _ _ => (by simp only [o_alenC, h, cond_false])
theorem sh_alenS {nx : Nat} : jSh wr (o_alenS nx) := by
  intro ls st σ
  match st with
  | [] => exact Or.inl fun _ _ => rfl
  | .inl _ :: _ => exact Or.inl fun _ _ => rfl
  | .inr (q, i) :: r =>
    by_cases h : Nat.beq q 72 = true
    · exact jSh.go nx ls (.inl (σ 72 1 0) :: r) σ (fun _ _ => rfl) (fun _ _ => (by simp only [o_alenS, h, cond_true]))
    · exact Or.inl fun _ _ => (by simp only [o_alenS, h, cond_false])
theorem sh_ald {nx kd : Nat} {n : Int} : jSh wr (o_ald nx kd n) := by
  intro ls st σ
  match st with
  | [] => exact Or.inl fun _ _ => rfl
  | .inr _ :: _ => exact Or.inl fun _ _ => rfl
  | [.inl _] => exact Or.inl fun _ _ => rfl
  | .inl _ :: .inl _ :: _ => exact Or.inl fun _ _ => rfl
  | .inl j :: .inr (q, i) :: r =>
    by_cases h : Nat.beq q kd = true
    · by_cases h2 : 0 ≤ j ∧ j < n
      · exact jSh.go nx ls (.inl (σ kd i j.toNat) :: r) σ (fun _ _ => rfl) (fun _ _ => (by simp only [o_ald, h, cond_true, if_pos h2]))
      · exact Or.inl fun _ _ => (by simp only [o_ald, h, cond_true, if_neg h2])
    · exact Or.inl fun _ _ => (by simp only [o_ald, h, cond_false])
theorem sh_aldC {nx kd : Nat} {n : Nat → Int} {f : Nat → Nat → Int} : jSh wr (o_aldC nx kd n f) := by
  intro ls st σ
  match st with
  | [] => exact Or.inl fun _ _ => rfl
  | .inr _ :: _ => exact Or.inl fun _ _ => rfl
  | [.inl _] => exact Or.inl fun _ _ => rfl
  | .inl _ :: .inl _ :: _ => exact Or.inl fun _ _ => rfl
  | .inl j :: .inr (q, i) :: r =>
    by_cases h : Nat.beq q kd = true
    · by_cases h2 : 0 ≤ j ∧ j < n i
      · exact jSh.go nx ls (.inl (f i j.toNat) :: r) σ (fun _ _ => rfl) (fun _ _ => (by simp only [o_aldC, h, cond_true, if_pos h2]))
      · exact Or.inl fun _ _ => (by simp only [o_aldC, h, cond_true, if_neg h2])
    · exact Or.inl fun _ _ => (by simp only [o_aldC, h, cond_false])
theorem sh_aldS {nx : Nat} : jSh wr (o_aldS nx) := by
  intro ls st σ
  match st with
  | [] => exact Or.inl fun _ _ => rfl
  | .inr _ :: _ => exact Or.inl fun _ _ => rfl
  | [.inl _] => exact Or.inl fun _ _ => rfl
  | .inl _ :: .inl _ :: _ => exact Or.inl fun _ _ => rfl
  | .inl j :: .inr (q, i) :: r =>
    by_cases h : Nat.beq q 72 = true
    · by_cases h2 : 0 ≤ j ∧ j < σ 72 1 0
      · exact jSh.go nx ls (.inl (σ 72 0 j.toNat) :: r) σ (fun _ _ => rfl) (fun _ _ => (by simp only [o_aldS, h, cond_true, if_pos h2]))
      · exact Or.inl fun _ _ => (by simp only [o_aldS, h, cond_true, if_neg h2])
    · exact Or.inl fun _ _ => (by simp only [o_aldS, h, cond_false])
theorem sh_aaP {nx kd : Nat} {n : Int} {kt : Nat} {f : Nat → Nat → Int → Nat} : jSh wr (o_aaP nx kd n kt f) := by
  intro ls st σ
  match st with
  | [] => exact Or.inl fun _ _ => rfl
  | .inr _ :: _ => exact Or.inl fun _ _ => rfl
  | [.inl _] => exact Or.inl fun _ _ => rfl
  | .inl _ :: .inl _ :: _ => exact Or.inl fun _ _ => rfl
  | .inl j :: .inr (q, i) :: r =>
    by_cases h : Nat.beq q kd = true
    · by_cases h2 : 0 ≤ j ∧ j < n
      · exact jSh.go nx ls (.inr (kt, f i j.toNat (σ kd i j.toNat)) :: r) σ (fun _ _ => rfl) (fun _ _ => (by simp only [o_aaP, h, cond_true, if_pos h2]))
      · exact Or.inl fun _ _ => (by simp only [o_aaP, h, cond_true, if_neg h2])
    · exact Or.inl fun _ _ => (by simp only [o_aaP, h, cond_false])
theorem sh_putI {nx kd j : Nat} (hw : wr kd = true) : jSh wr (o_putI nx kd j) := by
  intro ls st σ
  match st with
  | [] => exact Or.inl fun _ _ => rfl
  | .inr _ :: _ => exact Or.inl fun _ _ => rfl
  | [.inl _] => exact Or.inl fun _ _ => rfl
  | .inl _ :: .inl _ :: _ => exact Or.inl fun _ _ => rfl
  | .inl v :: .inr (q, i) :: r =>
    by_cases h : Nat.beq q kd = true
    · exact jSh.go nx ls r (jup σ kd i j v) (fun a ha => jup_ne (sh_wr hw a ha)) (fun _ _ => (by simp only [o_putI, h, cond_true]))
    · exact Or.inl fun _ _ => (by simp only [o_putI, h, cond_false])
theorem sh_putZ {nx kd j : Nat} (hw : wr kd = true) : jSh wr (o_putZ nx kd j) := by
  intro ls st σ
  match st with
  | [] => exact Or.inl fun _ _ => rfl
  | .inr _ :: _ => exact Or.inl fun _ _ => rfl
  | [.inl _] => exact Or.inl fun _ _ => rfl
  | .inl _ :: .inl _ :: _ => exact Or.inl fun _ _ => rfl
  | .inl v :: .inr (q, i) :: r =>
    by_cases h : Nat.beq q kd = true
    · by_cases h2 : v = 0 ∨ v = 1
      · exact jSh.go nx ls r (jup σ kd i j v) (fun a ha => jup_ne (sh_wr hw a ha)) (fun _ _ => (by simp only [o_putZ, h, cond_true, if_pos h2]))
      · exact Or.inl fun _ _ => (by simp only [o_putZ, h, cond_true, if_neg h2])
    · exact Or.inl fun _ _ => (by simp only [o_putZ, h, cond_false])
theorem sh_ast {nx kd : Nat} {n : Int} (hw : wr kd = true) : jSh wr (o_ast nx kd n) := by
  intro ls st σ
  match st with
  | [] => exact Or.inl fun _ _ => rfl
  | .inr _ :: _ => exact Or.inl fun _ _ => rfl
  | [.inl _] => exact Or.inl fun _ _ => rfl
  | .inl _ :: .inr _ :: _ => exact Or.inl fun _ _ => rfl
  | [.inl _, .inl _] => exact Or.inl fun _ _ => rfl
  | .inl _ :: .inl _ :: .inl _ :: _ => exact Or.inl fun _ _ => rfl
  | .inl v :: .inl j :: .inr (q, i) :: r =>
    by_cases h : Nat.beq q kd = true
    · by_cases h2 : 0 ≤ j ∧ j < n
      · exact jSh.go nx ls r (jup σ kd i j.toNat v) (fun a ha => jup_ne (sh_wr hw a ha)) (fun _ _ => (by simp only [o_ast, h, cond_true, if_pos h2]))
      · exact Or.inl fun _ _ => (by simp only [o_ast, h, cond_true, if_neg h2])
    · exact Or.inl fun _ _ => (by simp only [o_ast, h, cond_false])
theorem sh_aaS {nx : Nat} (hw : wr 24 = true) : jSh wr (o_aaS nx) := by
  intro ls st σ
  match st with
  | [] => exact Or.inl fun _ _ => rfl
  | .inl _ :: _ => exact Or.inl fun _ _ => rfl
  | [.inr _] => exact Or.inl fun _ _ => rfl
  | .inr _ :: .inr _ :: _ => exact Or.inl fun _ _ => rfl
  | [.inr _, .inl _] => exact Or.inl fun _ _ => rfl
  | .inr _ :: .inl _ :: .inl _ :: _ => exact Or.inl fun _ _ => rfl
  | .inr (q2, t) :: .inl j :: .inr (q, i) :: r =>
    by_cases h : (Nat.beq q 24 && Nat.beq q2 25) = true
    · by_cases h2 : 0 ≤ j ∧ j < 21
      · exact jSh.go nx ls r (jup σ 24 i j.toNat (t : Int)) (fun a ha => jup_ne (sh_wr hw a ha)) (fun _ _ => (by simp only [o_aaS, h, cond_true, if_pos h2]))
      · exact Or.inl fun _ _ => (by simp only [o_aaS, h, cond_true, if_neg h2])
    · exact Or.inl fun _ _ => (by simp only [o_aaS, h, cond_false])
theorem sh_copy {nx kd n : Nat} (hw : wr kd = true) : jSh wr (o_copy nx kd n) := by
  intro ls st σ
  by_cases h0 : ∃ m dp q1 i1 sp q0 i0, st = [.inl m, .inl dp, .inr (q1, i1), .inl sp, .inr (q0, i0)]
  · obtain ⟨m, dp, q1, i1, sp, q0, i0, rfl⟩ := h0
    by_cases h : (Nat.beq q0 kd && Nat.beq q1 kd) = true
    · by_cases h2 : sp = 0 ∧ dp = 0 ∧ m = n
      · exact jSh.go nx ls [] (jcp σ kd i0 i1 n) (fun a ha => jcp_ne (sh_wr hw a ha)) (fun _ _ => (by simp only [o_copy, h, cond_true, if_pos h2]))
      · exact Or.inl fun _ _ => (by simp only [o_copy, h, cond_true, if_neg h2])
    · exact Or.inl fun _ _ => (by simp only [o_copy, h, cond_false])
  · refine Or.inl fun call k => ?_
    unfold o_copy
    split
    · rename_i m dp q1 i1 sp q0 i0
      exact absurd ⟨m, dp, q1, i1, sp, q0, i0, rfl⟩ h0
    · rfl
theorem sh_calI {nx y n rk : Nat} (hy : ∀ q, wr q = false → jwr y q = false) : jSh wr (o_calI nx y n rk) := by
  intro ls st σ
  by_cases h : jcok rk n st = true
  · refine Or.inr (Or.inr (Or.inl ⟨y, (st.take n).reverse, fun r => match r.1 with | some (.inl x) => some (nx, ls, .inl x :: st.drop n) | _ => none, hy, fun call k => ?_⟩))
    simp only [o_calI, h, cond_true]
    match call y (st.take n).reverse σ with
    | none => rfl
    | some (none, s) => rfl
    | some (some (.inl x), s) => rfl
    | some (some (.inr x), s) => rfl
  · exact Or.inl fun _ _ => (by simp only [o_calI, h, cond_false])
theorem sh_calV {nx y n rk : Nat} (hy : ∀ q, wr q = false → jwr y q = false) : jSh wr (o_calV nx y n rk) := by
  intro ls st σ
  by_cases h : jcok rk n st = true
  · refine Or.inr (Or.inr (Or.inl ⟨y, (st.take n).reverse, fun r => match r.1 with | none => some (nx, ls, st.drop n) | _ => none, hy, fun call k => ?_⟩))
    simp only [o_calV, h, cond_true]
    match call y (st.take n).reverse σ with
    | none => rfl
    | some (none, s) => rfl
    | some (some x, s) => rfl
  · exact Or.inl fun _ _ => (by simp only [o_calV, h, cond_false])
theorem sh_calR {nx y n rk kt : Nat} (hy : ∀ q, wr q = false → jwr y q = false) : jSh wr (o_calR nx y n rk kt) := by
  intro ls st σ
  by_cases h : jcok rk n st = true
  · refine Or.inr (Or.inr (Or.inl ⟨y, (st.take n).reverse, fun r => match r.1 with | some (.inr (q, i)) => bif Nat.beq q kt then some (nx, ls, .inr (kt, i) :: st.drop n) else none | _ => none, hy, fun call k => ?_⟩))
    simp only [o_calR, h, cond_true]
    match call y (st.take n).reverse σ with
    | none => rfl
    | some (none, s) => rfl
    | some (some (.inl x), s) => rfl
    | some (some (.inr (q, i)), s) =>
      simp only [jbR, Option.bind_some]
      cases Nat.beq q kt <;> rfl
  · exact Or.inl fun _ _ => (by simp only [o_calR, h, cond_false])
theorem sh_retI : jSh wr o_retI := by
  intro ls st σ
  match st with
  | [] => exact Or.inl fun _ _ => rfl
  | [.inl v] => exact Or.inr (Or.inr (Or.inr ⟨some (.inl v), fun _ _ => rfl⟩))
  | [.inr _] => exact Or.inl fun _ _ => rfl
  | .inl _ :: _ :: _ => exact Or.inl fun _ _ => rfl
  | .inr _ :: _ :: _ => exact Or.inl fun _ _ => rfl
theorem sh_retA : jSh wr o_retA := by
  intro ls st σ
  match st with
  | [] => exact Or.inl fun _ _ => rfl
  | [.inl v] => exact Or.inl fun _ _ => rfl
  | [.inr (q, i)] =>
    cases h : Nat.beq q 75 with
    | true => exact Or.inl fun _ _ => by simp only [o_retA, h, cond_true]
    | false => exact Or.inr (Or.inr (Or.inr ⟨some (.inr (q, i)), fun _ _ => by simp only [o_retA, h, cond_false]⟩))
  | .inl _ :: _ :: _ => exact Or.inl fun _ _ => rfl
  | .inr _ :: _ :: _ => exact Or.inl fun _ _ => rfl
theorem sh_vret : jSh wr o_vret := by
  intro ls st σ
  match st with
  | [] => exact Or.inr (Or.inr (Or.inr ⟨none, fun _ _ => rfl⟩))
  | _ :: _ => exact Or.inl fun _ _ => rfl
theorem sh_retZ : jSh wr o_retZ := by
  intro ls st σ
  match st with
  | [] => exact Or.inl fun _ _ => rfl
  | [.inl v] =>
    by_cases h : v = 0 ∨ v = 1
    · exact Or.inr (Or.inr (Or.inr ⟨some (.inl v), fun _ _ => (by simp only [o_retZ, if_pos h])⟩))
    · exact Or.inl fun _ _ => (by simp only [o_retZ, if_neg h])
  | [.inr _] => exact Or.inl fun _ _ => rfl
  | .inl _ :: _ :: _ => exact Or.inl fun _ _ => rfl
  | .inr _ :: _ :: _ => exact Or.inl fun _ _ => rfl
theorem sh_retB {a b : Int} : jSh wr (o_retB a b) := by
  intro ls st σ
  match st with
  | [] => exact Or.inl fun _ _ => rfl
  | [.inl v] =>
    by_cases h : a ≤ v ∧ v ≤ b
    · exact Or.inr (Or.inr (Or.inr ⟨some (.inl v), fun _ _ => (by simp only [o_retB, if_pos h])⟩))
    · exact Or.inl fun _ _ => (by simp only [o_retB, if_neg h])
  | [.inr _] => exact Or.inl fun _ _ => rfl
  | .inl _ :: _ :: _ => exact Or.inl fun _ _ => rfl
  | .inr _ :: _ :: _ => exact Or.inl fun _ _ => rfl
theorem sh_min {nx : Nat} : jSh wr (o_min nx) := by
  intro ls st σ
  match st with
  | [] => exact Or.inl fun _ _ => rfl
  | .inr _ :: _ => exact Or.inl fun _ _ => rfl
  | [.inl _] => exact Or.inl fun _ _ => rfl
  | .inl _ :: .inr _ :: _ => exact Or.inl fun _ _ => rfl
  | .inl y :: .inl x :: r =>
    by_cases h : Nat.ble r.length 8 = true
    · exact jSh.go nx ls (.inl (if y < x then y else x) :: r) σ (fun _ _ => rfl) (fun _ _ => (by simp only [o_min, h, cond_true]))
    · exact Or.inl fun _ _ => (by simp only [o_min, h, cond_false])
theorem sh_max {nx : Nat} : jSh wr (o_max nx) := by
  intro ls st σ
  match st with
  | [] => exact Or.inl fun _ _ => rfl
  | .inr _ :: _ => exact Or.inl fun _ _ => rfl
  | [.inl _] => exact Or.inl fun _ _ => rfl
  | .inl _ :: .inr _ :: _ => exact Or.inl fun _ _ => rfl
  | .inl y :: .inl x :: r =>
    by_cases h : Nat.ble r.length 8 = true
    · exact jSh.go nx ls (.inl (if x < y then y else x) :: r) σ (fun _ _ => rfl) (fun _ _ => (by simp only [o_max, h, cond_true]))
    · exact Or.inl fun _ _ => (by simp only [o_max, h, cond_false])
end SH
