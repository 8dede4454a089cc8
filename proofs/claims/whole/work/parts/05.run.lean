/-! RUNS of the small machine: with a bound (jrun), and without one (jev); the equations of jev -/
section RUN
variable (C : Nat → Nat → jO) (ml : Nat → Nat)
def jrun : Nat → Nat → Nat → jS → List jV → jM → Option jR
  | 0, _, _, _, _, _ => none
  | n + 1, y, pc, ls, st, σ => C y pc ls st σ (fun y' as σ' => jrun n y' 0 (jent (ml y') as) [] σ') (fun pc' ls' st' σ' => jrun n y pc' ls' st' σ')
noncomputable def jev (y pc : Nat) (ls : jS) (st : List jV) (σ : jM) : Option jR := @dite _ (∃ n r, jrun C ml n y pc ls st σ = some r) (Classical.propDecidable _) (fun h => jrun C ml h.choose y pc ls st σ) (fun _ => none)
noncomputable def jcl (y : Nat) (as : List jV) (σ : jM) : Option jR := jev C ml y 0 (jent (ml y) as) [] σ
def jrg : (Nat → Bool) → (Nat → jO) → jC → jK → Nat → jK
  | _, _, _, ev, 0, pc, ls, st, σ => ev pc ls st σ
  | cut, Cy, cl, ev, n + 1, pc, ls, st, σ => Cy pc ls st σ cl (fun pc' ls' st' σ' => bif cut pc' then ev pc' ls' st' σ' else jrg cut Cy cl ev n pc' ls' st' σ')
end RUN
theorem jop_mono {wr : Nat → Bool} {op : jO} (h : jSh wr op) {ls : jS} {st : List jV} {σ : jM} {c1 c2 : jC} {k1 k2 : jK} {r : jR} (hc : ∀ y as σ r, c1 y as σ = some r → c2 y as σ = some r) (hk : ∀ a b c d r, k1 a b c d = some r → k2 a b c d = some r) (h1 : op ls st σ c1 k1 = some r) : op ls st σ c2 k2 = some r := by
  rcases h ls st σ with h | ⟨pc', ls', st', σ', -, h⟩ | ⟨y, as, f, -, h⟩ | ⟨v, h⟩
  · rw [h] at h1; cases h1
  · rw [h] at h1 ⊢; exact hk _ _ _ _ _ h1
  · rw [h] at h1 ⊢
    obtain ⟨r1, e1, h2⟩ := Option.bind_eq_some_iff.mp h1
    obtain ⟨q, e2, h3⟩ := Option.bind_eq_some_iff.mp h2
    rw [hc _ _ _ _ e1, Option.bind_some, e2, Option.bind_some]
    exact hk _ _ _ _ _ h3
  · rw [h] at h1 ⊢; exact h1
section RUN2
variable {C : Nat → Nat → jO} {ml : Nat → Nat}
theorem jrun_succ (hC : ∀ y pc, jSh (jwr y) (C y pc)) : ∀ (n y pc : Nat) (ls : jS) (st : List jV) (σ : jM) (r : jR), jrun C ml n y pc ls st σ = some r → jrun C ml (n + 1) y pc ls st σ = some r
  | 0, _, _, _, _, _, _, h => by cases h
  | n + 1, y, pc, ls, st, σ, r, h => by
    rw [jrun] at h ⊢
    exact jop_mono (hC y pc) (fun y' as σ' r' h' => jrun_succ hC n y' 0 _ _ _ _ h') (fun a b c d r' h' => jrun_succ hC n y a b c d r' h') h
theorem jrun_le (hC : ∀ y pc, jSh (jwr y) (C y pc)) {n m : Nat} (hnm : n ≤ m) {y pc : Nat} {ls : jS} {st : List jV} {σ : jM} {r : jR} (h : jrun C ml n y pc ls st σ = some r) : jrun C ml m y pc ls st σ = some r := by
  induction hnm with
  | refl => exact h
  | step _ ih => exact jrun_succ hC _ _ _ _ _ _ _ ih
theorem jev_iff (hC : ∀ y pc, jSh (jwr y) (C y pc)) {y pc : Nat} {ls : jS} {st : List jV} {σ : jM} {r : jR} : jev C ml y pc ls st σ = some r ↔ ∃ n, jrun C ml n y pc ls st σ = some r := by
  unfold jev
  by_cases h : ∃ n r, jrun C ml n y pc ls st σ = some r
  · rw [dif_pos h]
    obtain ⟨r', hr'⟩ := h.choose_spec
    refine ⟨fun q => ⟨_, q⟩, fun ⟨n, q⟩ => ?_⟩
    have a := jrun_le hC (Nat.le_max_left h.choose n) hr'
    have b := jrun_le hC (Nat.le_max_right h.choose n) q
    rw [hr', ← a, b]
  · rw [dif_neg h]
    exact ⟨fun q => (nomatch q), fun ⟨n, q⟩ => absurd ⟨n, r, q⟩ h⟩
theorem jev_step (hC : ∀ y pc, jSh (jwr y) (C y pc)) (y pc : Nat) (ls : jS) (st : List jV) (σ : jM) : jev C ml y pc ls st σ = C y pc ls st σ (jcl C ml) (jev C ml y) := by
  apply Option.ext
  intro r
  constructor
  · intro h
    obtain ⟨n, hn⟩ := (jev_iff hC).mp h
    match n with
    | 0 => cases hn
    | n + 1 =>
      rw [jrun] at hn
      exact jop_mono (hC y pc) (fun y' as σ' r' h' => (jev_iff hC).mpr ⟨n, h'⟩) (fun a b c d r' h' => (jev_iff hC).mpr ⟨n, h'⟩) hn
  · intro h
    rcases hC y pc ls st σ with g | ⟨pc', ls', st', σ', -, g⟩ | ⟨y', as, f, -, g⟩ | ⟨v, g⟩
    · rw [g] at h; cases h
    · rw [g] at h
      obtain ⟨n, hn⟩ := (jev_iff hC).mp h
      exact (jev_iff hC).mpr ⟨n + 1, by rw [jrun, g]; exact hn⟩
    · rw [g] at h
      obtain ⟨r1, e1, h2⟩ := Option.bind_eq_some_iff.mp h
      obtain ⟨q, e2, h3⟩ := Option.bind_eq_some_iff.mp h2
      obtain ⟨n1, hn1⟩ := (jev_iff hC).mp e1
      obtain ⟨n2, hn2⟩ := (jev_iff hC).mp h3
      refine (jev_iff hC).mpr ⟨max n1 n2 + 1, ?_⟩
      rw [jrun, g, jrun_le hC (Nat.le_max_left n1 n2) hn1, Option.bind_some, e2, Option.bind_some]
      exact jrun_le hC (Nat.le_max_right n1 n2) hn2
    · rw [g] at h
      exact (jev_iff hC).mpr ⟨1, by rw [jrun, g]; exact h⟩
theorem jev_rk (hC : ∀ y pc, jSh (jwr y) (C y pc)) (cut : Nat → Bool) (y : Nat) : ∀ (n pc : Nat) (ls : jS) (st : List jV) (σ : jM), jev C ml y pc ls st σ = jrg cut (C y) (jcl C ml) (jev C ml y) n pc ls st σ
  | 0, _, _, _, _ => rfl
  | n + 1, pc, ls, st, σ => by
    rw [jev_step hC, jrg]
    congr 1
    funext a b c d
    cases cut a with
    | true => rfl
    | false => exact jev_rk hC cut y n a b c d
/-- what isn't its side's stays -/
theorem jrun_keeps (hC : ∀ y pc, jSh (jwr y) (C y pc)) : ∀ (n y pc : Nat) (ls : jS) (st : List jV) (σ : jM) (r : jR), jrun C ml n y pc ls st σ = some r → ∀ q, jwr y q = false → r.2 q = σ q
  | 0, _, _, _, _, _, _, h => by cases h
  | n + 1, y, pc, ls, st, σ, r, h => by
    intro q hq
    rw [jrun] at h
    rcases hC y pc ls st σ with g | ⟨pc', ls', st', σ', hw, g⟩ | ⟨y', as, f, hy, g⟩ | ⟨v, g⟩
    · rw [g] at h; cases h
    · rw [g] at h
      rw [jrun_keeps hC n y pc' ls' st' σ' r h q hq, hw q hq]
    · rw [g] at h
      obtain ⟨r1, e1, h2⟩ := Option.bind_eq_some_iff.mp h
      obtain ⟨z, e2, h3⟩ := Option.bind_eq_some_iff.mp h2
      rw [jrun_keeps hC n y _ _ _ _ r h3 q hq, jrun_keeps hC n y' _ _ _ _ r1 e1 q (hy q hq)]
    · rw [g] at h
      cases h
      rfl
theorem jcl_keeps (hC : ∀ y pc, jSh (jwr y) (C y pc)) {y : Nat} {as : List jV} {σ : jM} {r : jR} (h : jcl C ml y as σ = some r) {q : Nat} (hq : jwr y q = false) : r.2 q = σ q := by
  obtain ⟨n, hn⟩ := (jev_iff hC).mp h
  exact jrun_keeps hC n y 0 _ _ σ r hn q hq
end RUN2
