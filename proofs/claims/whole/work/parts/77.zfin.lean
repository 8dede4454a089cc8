/-! WHAT IS MADE, IN THE SMALL MACHINE'S WORDS -/
def zpl : List Nat := [1, 50, 6, 8, 10, 12, 14, 16, 18, 20, 22, 24, 26, 28, 30, 32, 34, 36, 38, 40, 42, 44, 46, 48, 55, 57, 59, 61, 63, 65, 67, 69, 71, 73, 75, 77, 79, 81, 83, 85, 87, 89, 91, 93, 95, 97, 166, 135, 102, 105, 108, 111, 114, 117, 120, 123, 163, 133, 125, 101, 104, 107, 110, 113, 116, 119, 122, 99, 139, 131, 137, 0, 168, 2, 51, 3, 52, 4, 53, 5, 54, 7, 9, 11, 13, 15, 17, 19, 21, 23, 25, 27, 29, 31, 33, 35, 37, 39, 41, 43, 45, 47, 49, 56, 58, 60, 62, 64, 66, 68, 70, 72, 74, 76, 78, 80, 82, 84, 86, 88, 90, 92, 94, 96, 98, 167, 136, 103, 106, 109, 112, 115, 118, 121, 124, 164, 165, 134, 126, 127, 128, 129, 130, 100, 140, 141, 142, 143, 144, 145, 146, 147, 148, 149, 150, 151, 152, 153, 154, 155, 156, 157, 158, 159, 160, 161, 162, 132, 138, 169, 170, 171, 172, 173, 174, 175, 176, 177, 178, 179, 180, 181, 182, 183, 184, 185, 186, 187, 188, 189, 190, 191, 192, 193, 194, 195, 196, 197]
def zidx (k i : Nat) : Nat := zpl.getD (jpos k i) 0
def zinv : List (Nat × Nat) := [(10, 0), (0, 0), (12, 0), (13, 0), (14, 0), (15, 0), (1, 0), (16, 0), (1, 1), (16, 1), (1, 2), (16, 2), (1, 3), (16, 3), (1, 4), (16, 4), (1, 5), (16, 5), (1, 6), (16, 6), (1, 7), (16, 7), (1, 8), (16, 8), (1, 9), (16, 9), (1, 10), (16, 10), (1, 11), (16, 11), (1, 12), (16, 12), (1, 13), (16, 13), (1, 14), (16, 14), (1, 15), (16, 15), (1, 16), (16, 16), (1, 17), (16, 17), (1, 18), (16, 18), (1, 19), (16, 19), (1, 20), (16, 20), (1, 21), (16, 21), (0, 1), (12, 1), (13, 1), (14, 1), (15, 1), (1, 22), (16, 22), (1, 23), (16, 23), (1, 24), (16, 24), (1, 25), (16, 25), (1, 26), (16, 26), (1, 27), (16, 27), (1, 28), (16, 28), (1, 29), (16, 29), (1, 30), (16, 30), (1, 31), (16, 31), (1, 32), (16, 32), (1, 33), (16, 33), (1, 34), (16, 34), (1, 35), (16, 35), (1, 36), (16, 36), (1, 37), (16, 37), (1, 38), (16, 38), (1, 39), (16, 39), (1, 40), (16, 40), (1, 41), (16, 41), (1, 42), (16, 42), (1, 43), (16, 43), (6, 0), (23, 0), (5, 0), (1, 46), (16, 46), (5, 1), (1, 47), (16, 47), (5, 2), (1, 48), (16, 48), (5, 3), (1, 49), (16, 49), (5, 4), (1, 50), (16, 50), (5, 5), (1, 51), (16, 51), (5, 6), (1, 52), (16, 52), (5, 7), (1, 53), (16, 53), (4, 0), (20, 0), (21, 0), (21, 1), (21, 2), (22, 0), (8, 0), (27, 0), (3, 0), (19, 0), (1, 45), (16, 45), (9, 0), (28, 0), (7, 0), (24, 0), (25, 0), (25, 1), (25, 2), (25, 3), (25, 4), (25, 5), (25, 6), (25, 7), (25, 8), (25, 9), (25, 10), (25, 11), (25, 12), (25, 13), (25, 14), (25, 15), (25, 16), (25, 17), (25, 18), (25, 19), (25, 20), (26, 0), (2, 0), (17, 0), (18, 0), (1, 44), (16, 44), (11, 0), (29, 0), (30, 0), (31, 0), (32, 0), (33, 0), (34, 0), (35, 0), (36, 0), (37, 0), (38, 0), (39, 0), (40, 0), (41, 0), (42, 0), (43, 0), (44, 0), (45, 0), (46, 0), (47, 0), (48, 0), (49, 0), (50, 0), (51, 0), (52, 0), (53, 0), (54, 0), (55, 0), (56, 0), (57, 0)]
theorem zinv_ok0 : (jplaces.all fun x => decide (zinv[zidx x.1 x.2]? = some (x.1, x.2)) && Nat.blt (zidx x.1 x.2) 198) = true := by decide +kernel
def zt0 (k i j : Nat) : Int := if k = 24 then ((j % 21 : Nat) : Int) else if k = 15 then -2 else if k = 22 ∨ k = 32 ∨ k = 35 then -1 else if k = 3 ∧ 4 ≤ j ∧ j ≤ 6 then -1 else if k = 1 ∧ j = 1 ∧ (4 ≤ i ∧ i < 10 ∨ 26 ≤ i ∧ i < 32) then 1 else 0
def zs0 (L : Nat) (xs : Nat → Int32) : jM := fun k i j => if k = 72 then (if i = 0 then (xs j).toInt else (L : Int)) else zt0 k i j
def zfc (k i j : Nat) : Option (Nat × (Nat → Nat)) → zV → Bool
  | some (kt, f), .inr (some q) => Nat.beq q (zidx kt (f i)) && Nat.blt kt 58
  | none, .inl v => decide (v = zt0 k i j)
  | _, _ => false
def zac (k i j kt : Nat) (f : Nat → Nat → Int → Nat) : zV → Bool
  | .inr (some q) => Nat.beq q (zidx kt (f i j (zt0 k i j))) && Nat.blt kt 58
  | _ => false
def zic (k i j : Nat) : zV → Bool
  | .inl v => decide (v = zt0 k i j)
  | _ => false
def zch2 (k i t : Nat) (es : List zV) : Option (Nat × Nat × Nat × (Nat → Nat → Int → Nat)) → Bool
  | some (t', n, kt, f) => (Nat.beq t t' && !(Nat.beq t 0)) && Nat.beq es.length n && es.zipIdx.all (fun x => zac k i x.2 kt f x.1)
  | none => Nat.beq t 0 && Nat.beq es.length (jiln k) && es.zipIdx.all (fun x => zic k i x.2 x.1)
def zchk (k i : Nat) : Option zC → Bool
  | some (.inl (ci, fs)) => (Nat.blt k 12 && Nat.beq ci k) && Nat.beq fs.length (jnf k) && fs.zipIdx.all (fun x => zfc k i x.2 (jfld k x.2) x.1)
  | some (.inr (t, es)) => !(Nat.blt k 12) && zch2 k i t es (jref k)
  | none => false
def zMf : zM := zMa ++ zMb
theorem zchk_all : (jplaces.all fun x => zchk x.1 x.2 zMf[zidx x.1 x.2]?) = true := by decide +kernel
theorem zMf_len : zMf.length = 198 := by decide +kernel

theorem zarrV {c : ClassId} {n : Nat} {f g : Nat → Value} (h : ∀ j, j < n → f j = g j) : arrV c n f = arrV c n g := by
  unfold arrV
  have e : (fun j : Fin n => f j.val) = fun j => g j.val := funext fun j => h j.1 j.2
  rw [e]
theorem zs0_lt {L : Nat} {xs : Nat → Int32} {k : Nat} (hk : k < 58) (i j : Nat) : zs0 L xs k i j = zt0 k i j := if_neg (by omega)
def zAd (B : Nat) (ext : Nat → Nat → Nat) : Nat → Nat → Nat := fun k i => if k < 58 then B + zidx k i else ext k i
theorem zAd_lt {B : Nat} {ext : Nat → Nat → Nat} {k : Nat} (h : k < 58) (i : Nat) : zAd B ext k i = B + zidx k i := if_pos h
theorem zblt {a b : Nat} (h : Nat.blt a b = true) : a < b := Nat.le_of_ble_eq_true h
theorem z_place {E : jE} {B : Nat} {ext : Nat → Nat → Nat} {H : Heap} {L : Nat} {xs : Nat → Int32} (hE : E.2.2.1 = zAd B ext) (hR : zRel E B zMf H) {k i : Nat} (hk : k < 58) (hc : zchk k i zMf[zidx k i]? = true) : va_at E.1 vwCl (E.2.2.1 k i, jcell E (zs0 L xs k i) k i) H := by
  have e1 : E.2.2.1 k i = B + zidx k i := by rw [hE]; exact zAd_lt hk i
  rw [e1]
  cases hM : zMf[zidx k i]? with
  | none => rw [hM] at hc; cases hc
  | some c =>
    rw [hM] at hc
    have ha := zP_at hR.2 hM
    match c, hM, hc, ha with
    | .inl (ci, fs), hM, hc, ha =>
      obtain ⟨hc, h4⟩ := Bool.and_eq_true_iff.mp hc
      obtain ⟨hc, h3⟩ := Bool.and_eq_true_iff.mp hc
      obtain ⟨h1, h2⟩ := Bool.and_eq_true_iff.mp hc
      have h2 := jbeq h2
      have h3 := jbeq h3
      subst h2
      rw [jcell_obj h1]
      have e2 : (List.range (jnf ci)).map (jfv E (zs0 L xs ci i) ci i) = fs.map (zcv B) := by
        apply List.ext_getElem?
        intro j
        rw [List.getElem?_map, List.getElem?_map]
        by_cases hj : j < jnf ci
        · have hjl : j < fs.length := by omega
          have hg : fs[j]? = some fs[j] := List.getElem?_eq_getElem hjl
          have g := List.all_eq_true.mp h4 (fs[j], j) (List.mem_zipIdx_iff_getElem?.mpr hg)
          rw [List.getElem?_range hj, hg]
          generalize fs[j] = v at g ⊢
          show some (jfv E (zs0 L xs ci i) ci i j) = some (zcv B v)
          congr 1
          unfold jfv
          have g : zfc ci i j (jfld ci j) v = true := g
          cases hf : jfld ci j with
          | none =>
            rw [hf] at g
            match v, g with
            | .inl x, g =>
              have g : x = zt0 ci i j := of_decide_eq_true g
              show Value.int (Int32.ofInt (zs0 L xs ci i j)) = Value.int (Int32.ofInt x)
              rw [g, zs0_lt hk]
            | .inr none, g => cases g
            | .inr (some _), g => cases g
          | some x =>
            obtain ⟨kt, f⟩ := x
            rw [hf] at g
            match v, g with
            | .inr (some q), g =>
              obtain ⟨g1, g2⟩ := Bool.and_eq_true_iff.mp g
              show Value.ref (E.2.2.1 kt (f i)) = Value.ref (B + q)
              rw [hE, zAd_lt (zblt g2), jbeq g1]
            | .inl x, g => cases g
            | .inr none, g => cases g
        · rw [List.getElem?_eq_none (by rw [List.length_range]; omega), List.getElem?_eq_none (by omega)]
          rfl
      rw [e2]
      exact ha
    | .inr (t, es), hM, hc, ha =>
      obtain ⟨h1, h4⟩ := Bool.and_eq_true_iff.mp hc
      have h1 : Nat.blt k 12 = false := by
        cases hb : Nat.blt k 12 with
        | false => rfl
        | true => rw [hb] at h1; cases h1
      cases hf : jref k with
      | none =>
        rw [hf] at h4
        obtain ⟨h4, h5⟩ := Bool.and_eq_true_iff.mp h4
        obtain ⟨h6, h7⟩ := Bool.and_eq_true_iff.mp h4
        have h6 := jbeq h6
        have h7 := jbeq h7
        subst h6
        rw [jcell_int h1 (by rw [hf]; rfl)]
        have ha : H[B + zidx k i]? = some (arrV (E.2.1 0) es.length (fun j => .int (zint (es.getD j (.inl 0))))) := ha
        show H[B + zidx k i]? = some (arrV (E.2.1 0) (jiln k) (fun j => .int (Int32.ofInt (zs0 L xs k i j))))
        rw [ha, ← h7]
        congr 1
        apply zarrV
        intro j hj
        have hg : es[j]? = some es[j] := List.getElem?_eq_getElem hj
        have g := List.all_eq_true.mp h5 (es[j], j) (List.mem_zipIdx_iff_getElem?.mpr hg)
        rw [List.getD_eq_getElem?_getD, hg]
        generalize es[j] = v at g ⊢
        match v, g with
        | .inl x, g =>
          have g : x = zt0 k i j := of_decide_eq_true g
          show Value.int (Int32.ofInt x) = Value.int (Int32.ofInt (zs0 L xs k i j))
          rw [g, zs0_lt hk]
        | .inr none, g => cases g
        | .inr (some _), g => cases g
      | some x =>
        obtain ⟨t', n, kt, f⟩ := x
        rw [hf] at h4
        obtain ⟨h4, h5⟩ := Bool.and_eq_true_iff.mp h4
        obtain ⟨h4, h7⟩ := Bool.and_eq_true_iff.mp h4
        obtain ⟨h6, h8⟩ := Bool.and_eq_true_iff.mp h4
        have h6 := jbeq h6
        have h7 := jbeq h7
        subst h6
        have h8 : Nat.beq t 0 = false := by
          cases hb : Nat.beq t 0 with
          | false => rfl
          | true => rw [hb] at h8; cases h8
        rw [jcell_ref h1 hf]
        have ha : va_at E.1 vwCl (B + zidx k i, zcell E B (.inr (t, es))) H := ha
        unfold zcell at ha
        dsimp only at ha
        rw [h8, cond_false] at ha
        have ha : H[B + zidx k i]? = some (arrV (E.2.1 t) es.length (fun j => va_rf (zrf B (es.getD j (.inr none))))) := ha
        show H[B + zidx k i]? = some (arrV (E.2.1 t) n (fun j => va_rf (some (E.2.2.1 kt (f i j (zs0 L xs k i j))))))
        rw [ha, ← h7]
        congr 1
        apply zarrV
        intro j hj
        have hg : es[j]? = some es[j] := List.getElem?_eq_getElem hj
        have g := List.all_eq_true.mp h5 (es[j], j) (List.mem_zipIdx_iff_getElem?.mpr hg)
        rw [List.getD_eq_getElem?_getD, hg]
        generalize es[j] = v at g ⊢
        match v, g with
        | .inr (some q), g =>
          obtain ⟨g1, g2⟩ := Bool.and_eq_true_iff.mp g
          show Value.ref (B + q) = Value.ref (E.2.2.1 kt (f i j (zs0 L xs k i j)))
          rw [hE, zAd_lt (zblt g2), jbeq g1, zs0_lt hk]
        | .inl x, g => cases g
        | .inr none, g => cases g
theorem z_rel {E : jE} {B : Nat} {ext : Nat → Nat → Nat} {H : Heap} (hE : E.2.2.1 = zAd B ext) (hR : zRel E B zMf H) : jRel E (zs0 E.2.2.2.2.1 E.2.2.2.2.2) H := by
  refine ⟨fun n q hq => ?_, rfl, fun j hj => ?_⟩
  · unfold jWL at hq
    rw [List.getElem?_map] at hq
    cases hp : jplaces[n]? with
    | none => rw [hp] at hq; cases hq
    | some x =>
      rw [hp] at hq
      cases hq
      obtain ⟨k, i⟩ := x
      obtain ⟨-, hk, hi⟩ := jpl_inv hp
      exact z_place hE hR hk (List.all_eq_true.mp zchk_all (k, i) (List.mem_of_getElem? hp))
  · show Int32.ofInt (E.2.2.2.2.2 j).toInt = _
    exact Int32.ofInt_toInt _
theorem zplace {k i : Nat} (hk : k < jNK) (hi : i < jcnt k) : zinv[zidx k i]? = some (k, i) ∧ zidx k i < 198 := by
  have h := List.all_eq_true.mp zinv_ok0 (k, i) (List.mem_of_getElem? (jpl_at hk hi))
  obtain ⟨h1, h2⟩ := Bool.and_eq_true_iff.mp h
  exact ⟨of_decide_eq_true h1, zblt h2⟩
theorem z_inj {E : jE} {B : Nat} {ext : Nat → Nat → Nat} (hE : E.2.2.1 = zAd B ext) : jInj E := by
  intro k i k' i' hk hi hk' hi' e
  rw [hE, zAd_lt hk, zAd_lt hk'] at e
  have e2 : zidx k i = zidx k' i' := by omega
  have h1 := (zplace hk hi).1
  rw [e2, (zplace hk' hi').1] at h1
  cases h1
  exact ⟨rfl, rfl⟩
theorem z_rng {L : Nat} {xs : Nat → Int32} (hL : L ≤ 2560) : jRng (zs0 L xs) := by
  intro k i j
  unfold zs0
  split
  · split
    · exact j32_toInt _
    · exact ⟨by omega, by omega⟩
  · unfold zt0
    have hm : j % 21 < 21 := Nat.mod_lt _ (by decide)
    constructor <;> (repeat' split) <;> omega
theorem FW_0 {d : Int} (h : 0 ≤ d ∧ d ≤ 5) {g : Nat → Int} (hg : ∀ j, g j = 0) : FW d g := ⟨h.1, h.2, fun j _ => by rw [hg]; exact ⟨by decide, by decide⟩, fun j _ _ => hg j⟩
theorem z_zero (L : Nat) (xs : Nat → Int32) {k : Nat} (h : k ≠ 72 ∧ k ≠ 24 ∧ k ≠ 15 ∧ k ≠ 22 ∧ k ≠ 32 ∧ k ≠ 35 ∧ k ≠ 3 ∧ k ≠ 1) (i j : Nat) : zs0 L xs k i j = 0 := by
  unfold zs0 zt0
  rw [if_neg h.1, if_neg h.2.1, if_neg h.2.2.1, if_neg (by omega), if_neg (by omega), if_neg (by omega)]
theorem z_15 (L : Nat) (xs : Nat → Int32) (i j : Nat) : zs0 L xs 15 i j = -2 := by
  unfold zs0 zt0
  rw [if_neg (by decide), if_neg (by decide), if_pos rfl]
theorem z_m1 (L : Nat) (xs : Nat → Int32) {k : Nat} (h : k = 22 ∨ k = 32 ∨ k = 35) (i j : Nat) : zs0 L xs k i j = -1 := by
  unfold zs0 zt0
  rw [if_neg (by omega), if_neg (by omega), if_neg (by omega), if_pos h]
theorem z_24 (L : Nat) (xs : Nat → Int32) (i j : Nat) : zs0 L xs 24 i j = ((j % 21 : Nat) : Int) := by
  unfold zs0 zt0
  rw [if_neg (by decide), if_pos rfl]
theorem z_1 (L : Nat) (xs : Nat → Int32) (i : Nat) : zs0 L xs 1 i 1 = if 4 ≤ i ∧ i < 10 ∨ 26 ≤ i ∧ i < 32 then 1 else 0 := by
  unfold zs0 zt0
  rw [if_neg (by decide), if_neg (by decide), if_neg (by decide), if_neg (by decide), if_neg (by decide)]
  by_cases c : 4 ≤ i ∧ i < 10 ∨ 26 ≤ i ∧ i < 32
  · rw [if_pos ⟨rfl, rfl, c⟩, if_pos c]
  · rw [if_neg (fun h => c h.2.2), if_neg c]
theorem z_inv (L : Nat) (xs : Nat → Int32) : Inv (zs0 L xs) := by
  have hz : ∀ k i j, (k ≠ 72 ∧ k ≠ 24 ∧ k ≠ 15 ∧ k ≠ 22 ∧ k ≠ 32 ∧ k ≠ 35 ∧ k ≠ 3 ∧ k ≠ 1) → zs0 L xs k i j = 0 := fun k i j h => z_zero L xs h i j
  have h10 : ∀ i, i < 4 → zs0 L xs 1 i 1 = 0 := fun i hi => by rw [z_1, if_neg (by omega)]
  have h11 : ∀ i, 4 ≤ i → i < 10 → zs0 L xs 1 i 1 = 1 := fun i h1 h2 => by rw [z_1, if_pos (by omega)]
  have h15 := z_15 L xs
  have h22 := fun i j => z_m1 L xs (k := 22) (by decide) i j
  have h32 := fun i j => z_m1 L xs (k := 32) (by decide) i j
  have h35 := fun i j => z_m1 L xs (k := 35) (by decide) i j
  have h24 := z_24 L xs
  generalize zs0 L xs = s at *
  refine ⟨⟨fun r hr => ⟨?_, ?_, fun j _ => ?_⟩, fun k hk => ⟨?_, ?_, fun j _ => ?_⟩⟩, fun p _ => Or.inl ⟨h15 0 p, h32 0 p⟩, fun w _ => ⟨?_, ?_, ?_, fun i hi => ?_⟩, ⟨?_, ?_, ?_, fun i hi => ?_⟩, ⟨?_, ?_, fun h => ?_⟩, ⟨0, 0, ?_, ?_, by decide, ?_, by decide, fun t ht => absurd ht (Nat.not_lt_zero _)⟩, fun i hi j hj h => ?_⟩
  · rw [h10 (0 + r) (by omega), hz 29 _ _ (by decide)]
  · rw [h10 (0 + r) (by omega)]; exact FW_0 (by decide) (fun j => hz 16 _ _ (by decide))
  · rw [hz 16 _ _ (by decide), hz 30 _ _ (by decide)]
  · exact h11 (0 + 4 + k) (by omega) (by omega)
  · exact FW_0 (by decide) (fun j => hz 16 _ _ (by decide))
  · rw [hz 16 _ _ (by decide), hz 31 _ _ (by decide)]
  · rw [h22, h35]
  · rw [h22]; decide
  · rw [h22]; decide
  · rw [h22] at hi; omega
  · rw [hz 8 _ _ (by decide), hz 11 _ _ (by decide)]
  · rw [hz 8 _ _ (by decide)]; decide
  · rw [hz 8 _ _ (by decide)]; decide
  · rw [hz 8 _ _ (by decide)] at hi; omega
  · rw [hz 10 _ _ (by decide), hz 11 _ _ (by decide)]
  · exact Or.inl (hz 10 _ _ (by decide))
  · rw [hz 10 _ _ (by decide)] at h; exact absurd h (by decide)
  · exact hz 6 _ _ (by decide)
  · exact hz 11 _ _ (by decide)
  · exact hz 6 _ _ (by decide)
  · rw [h24, h24] at h; omega
