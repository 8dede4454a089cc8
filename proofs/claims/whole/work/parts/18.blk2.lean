/-! block equations, 2 -/
set_option maxRecDepth 100000 in
theorem bq_122 (s : jM) : jq 122 [.inr (6, 0)] s =
  some (none, (jup (jup s 6 0 1 (Int.tmod (jw ((jw ((s 6 0 1) + 8)) - 1)) 8)) 6 0 2 (if (jw ((s 6 0 2) - 1)) < 0 then 0 else jw ((s 6 0 2) - 1)))) := (jev_rg jcy_122 (fun q => false) 19 0 _ _ _).trans rfl
set_option maxRecDepth 100000 in
theorem bq_123 (v1 : Int) (v2 : Int) (s : jM) : jq 123 [.inr (7, 0), .inl v1, .inl v2] s =
  je 123 30 [some (.inr (7, 0)), some (.inl v1), some (.inl v2), some (.inl 0), none] [] (jup (jup s 7 0 2 (if 21 < (if v1 < 0 then 0 else v1) then 21 else if v1 < 0 then 0 else v1)) 7 0 3 (if 21 < (if v2 < 0 then 0 else v2) then 21 else if v2 < 0 then 0 else v2)) := (jev_rg jcy_123 (fun q => Nat.beq q 30 || Nat.beq q 41) 17 0 _ _ _).trans rfl
set_option maxRecDepth 100000 in
theorem be_123_30 (v1 : Int) (v2 : Int) (v3 : Int) (o4 : Option jV) (s : jM) : je 123 30 [some (.inr (7, 0)), some (.inl v1), some (.inl v2), some (.inl v3), o4] [] s =
  if v3 < (s 7 0 2) then
    je 123 41 [some (.inr (7, 0)), some (.inl v1), some (.inl v2), some (.inl v3), some (.inl 0)] [] s
  else
    some (none, s) := (jev_rg jcy_123 (fun q => Nat.beq q 30 || Nat.beq q 41) 7 30 _ _ _).trans rfl
set_option maxRecDepth 100000 in
theorem be_123_41 (v1 : Int) (v2 : Int) (v3 : Int) (v4 : Int) (s : jM) : je 123 41 [some (.inr (7, 0)), some (.inl v1), some (.inl v2), some (.inl v3), some (.inl v4)] [] s =
  if v4 < (s 7 0 3) then
    if 0 ≤ v3 ∧ v3 < 21 then
      if 0 ≤ v4 ∧ v4 < 21 then
        je 123 41 [some (.inr (7, 0)), some (.inl v1), some (.inl v2), some (.inl v3), some (.inl (jw (v4 + 1)))] [] (jup s 25 ((s 24 0 (Int.toNat v3)).toNat % 21) (Int.toNat v4) 0)
      else
        none
    else
      none
  else
    je 123 30 [some (.inr (7, 0)), some (.inl v1), some (.inl v2), some (.inl (jw (v3 + 1))), some (.inl v4)] [] s := (jev_rg jcy_123 (fun q => Nat.beq q 30 || Nat.beq q 41) 14 41 _ _ _).trans rfl
set_option maxRecDepth 100000 in
theorem bq_124 (v1 : Int) (v2 : Int) (v3 : Int) (s : jM) : jq 124 [.inr (7, 0), .inl v1, .inl v2, .inl v3] s =
  jbI (jq 38 [.inl v1, .inl (s 7 0 2)] s) fun x1 s1 =>
  if x1 = 0 then
    some (none, s1)
  else
    jbI (jq 38 [.inl v2, .inl (s1 7 0 3)] s1) fun x2 s2 =>
    if x2 = 0 then
      some (none, s2)
    else
      if 0 ≤ v1 ∧ v1 < 21 then
        if 0 ≤ v2 ∧ v2 < 21 then
          some (none, (jup s2 25 ((s2 24 0 (Int.toNat v1)).toNat % 21) (Int.toNat v2) v3))
        else
          none
      else
        none := (jev_rg jcy_124 (fun q => false) 18 0 _ _ _).trans rfl
set_option maxRecDepth 100000 in
theorem bq_125 (f1 : Nat) (v2 : Int) (s : jM) : jq 125 [.inr (7, 0), .inr (1, f1), .inl v2] s =
  jbI (jq 45 [.inl (jw ((s 1 f1 1) - v2))] s) fun x1 s1 =>
  jbI (jq 45 [.inl v2] s1) fun x2 s2 =>
  jbV (jq 123 [.inr (7, 0), .inl x1, .inl x2] s2) fun s3 =>
  je 125 22 [some (.inr (7, 0)), some (.inr (1, f1)), some (.inl v2), some (.inl (jw ((s 1 f1 1) - v2))), some (.inl 0), none, none] [] s3 := (jev_rg jcy_125 (fun q => Nat.beq q 22 || Nat.beq q 34) 14 0 _ _ _).trans rfl
set_option maxRecDepth 100000 in
theorem be_125_22 (f1 : Nat) (v2 : Int) (v3 : Int) (v4 : Int) (o5 : Option jV) (o6 : Option jV) (s : jM) : je 125 22 [some (.inr (7, 0)), some (.inr (1, f1)), some (.inl v2), some (.inl v3), some (.inl v4), o5, o6] [] s =
  if v4 < (s 7 0 2) then
    je 125 34 [some (.inr (7, 0)), some (.inr (1, f1)), some (.inl v2), some (.inl v3), some (.inl v4), some (.inl 0), o6] [] s
  else
    some (none, s) := (jev_rg jcy_125 (fun q => Nat.beq q 22 || Nat.beq q 34) 7 22 _ _ _).trans rfl
set_option maxRecDepth 100000 in
theorem be_125_34 (f1 : Nat) (v2 : Int) (v3 : Int) (v4 : Int) (v5 : Int) (o6 : Option jV) (s : jM) : je 125 34 [some (.inr (7, 0)), some (.inr (1, f1)), some (.inl v2), some (.inl v3), some (.inl v4), some (.inl v5), o6] [] s =
  if v5 < (s 7 0 3) then
    if 0 ≤ v4 ∧ v4 < 21 then
      if 0 ≤ v5 ∧ v5 < 21 then
        if 0 ≤ v4 ∧ v4 < 21 then
          if 0 ≤ v5 ∧ v5 < 21 then
            jbI (jq 46 [.inl (jw ((jyp (Int.toNat v4)) + (jyp (Int.toNat v5)))), .inl (jw ((jzp (Int.toNat v4)) + (jzp (Int.toNat v5))))] s) fun x1 s1 =>
            jbI (jq 62 [.inr (1, f1), .inl x1] s1) fun x2 s2 =>
            jbV (jq 124 [.inr (7, 0), .inl v4, .inl v5, .inl x2] s2) fun s3 =>
            je 125 34 [some (.inr (7, 0)), some (.inr (1, f1)), some (.inl v2), some (.inl v3), some (.inl v4), some (.inl (jw (v5 + 1))), some (.inl x1)] [] s3
          else
            none
        else
          none
      else
        none
    else
      none
  else
    je 125 22 [some (.inr (7, 0)), some (.inr (1, f1)), some (.inl v2), some (.inl v3), some (.inl (jw (v4 + 1))), some (.inl v5), o6] [] s := (jev_rg jcy_125 (fun q => Nat.beq q 22 || Nat.beq q 34) 30 34 _ _ _).trans rfl
set_option maxRecDepth 100000 in
theorem bq_126 (v1 : Int) (f2 : Nat) (v3 : Int) (s : jM) : jq 126 [.inr (7, 0), .inl v1, .inr (1, f2), .inl v3] s =
  je 126 3 [some (.inr (7, 0)), some (.inl v1), some (.inr (1, f2)), some (.inl v3), some (.inl 0), none, none, none] [] s := (jev_rg jcy_126 (fun q => Nat.beq q 3 || Nat.beq q 66 || Nat.beq q 98) 3 0 _ _ _).trans rfl
set_option maxRecDepth 100000 in
theorem be_126_3 (v1 : Int) (f2 : Nat) (v3 : Int) (v4 : Int) (o5 : Option jV) (o6 : Option jV) (o7 : Option jV) (s : jM) : je 126 3 [some (.inr (7, 0)), some (.inl v1), some (.inr (1, f2)), some (.inl v3), some (.inl v4), o5, o6, o7] [] s =
  if v4 < (s 7 0 3) then
    jbI (jq 47 [.inl v3, .inl v4] s) fun x1 s1 =>
    if 0 ≤ v4 ∧ v4 < 21 then
      if 0 ≤ v4 ∧ v4 < 21 then
        if 0 < x1 then
          jbI (jq 50 [.inr (1, f2), .inl (jw (x1 - 1)), .inl (jyp (Int.toNat v4)), .inl (jzp (Int.toNat v4))] s1) fun x2 s2 =>
          jbV (jq 124 [.inr (7, 0), .inl v1, .inl v4, .inl (Int.tmod (jw (x1 * x2)) 101)] s2) fun s3 =>
          je 126 66 [some (.inr (7, 0)), some (.inl v1), some (.inr (1, f2)), some (.inl v3), some (.inl v4), some (.inl x1), some (.inl (jyp (Int.toNat v4))), some (.inl (jzp (Int.toNat v4)))] [] s3
        else
          je 126 66 [some (.inr (7, 0)), some (.inl v1), some (.inr (1, f2)), some (.inl v3), some (.inl v4), some (.inl x1), some (.inl (jyp (Int.toNat v4))), some (.inl (jzp (Int.toNat v4)))] [] s1
      else
        none
    else
      none
  else
    some (none, s) := (jev_rg jcy_126 (fun q => Nat.beq q 3 || Nat.beq q 66 || Nat.beq q 98) 34 3 _ _ _).trans rfl
set_option maxRecDepth 100000 in
theorem be_126_66 (v1 : Int) (f2 : Nat) (v3 : Int) (v4 : Int) (v5 : Int) (v6 : Int) (v7 : Int) (s : jM) : je 126 66 [some (.inr (7, 0)), some (.inl v1), some (.inr (1, f2)), some (.inl v3), some (.inl v4), some (.inl v5), some (.inl v6), some (.inl v7)] [] s =
  if 0 < v6 then
    jbI (jq 50 [.inr (1, f2), .inl v5, .inl (jw (v6 - 1)), .inl v7] s) fun x1 s1 =>
    jbV (jq 124 [.inr (7, 0), .inl (jw (v1 + 1)), .inl v4, .inl (Int.tmod (jw (v6 * x1)) 101)] s1) fun s2 =>
    je 126 98 [some (.inr (7, 0)), some (.inl v1), some (.inr (1, f2)), some (.inl v3), some (.inl v4), some (.inl v5), some (.inl v6), some (.inl v7)] [] s2
  else
    je 126 98 [some (.inr (7, 0)), some (.inl v1), some (.inr (1, f2)), some (.inl v3), some (.inl v4), some (.inl v5), some (.inl v6), some (.inl v7)] [] s := (jev_rg jcy_126 (fun q => Nat.beq q 3 || Nat.beq q 66 || Nat.beq q 98) 20 66 _ _ _).trans rfl
set_option maxRecDepth 100000 in
theorem be_126_98 (v1 : Int) (f2 : Nat) (v3 : Int) (v4 : Int) (v5 : Int) (v6 : Int) (v7 : Int) (s : jM) : je 126 98 [some (.inr (7, 0)), some (.inl v1), some (.inr (1, f2)), some (.inl v3), some (.inl v4), some (.inl v5), some (.inl v6), some (.inl v7)] [] s =
  if 0 < v7 then
    jbI (jq 50 [.inr (1, f2), .inl v5, .inl v6, .inl (jw (v7 - 1))] s) fun x1 s1 =>
    jbV (jq 124 [.inr (7, 0), .inl (jw (v1 + 2)), .inl v4, .inl (Int.tmod (jw (v7 * x1)) 101)] s1) fun s2 =>
    je 126 3 [some (.inr (7, 0)), some (.inl v1), some (.inr (1, f2)), some (.inl v3), some (.inl (jw (v4 + 1))), some (.inl v5), some (.inl v6), some (.inl v7)] [] s2
  else
    je 126 3 [some (.inr (7, 0)), some (.inl v1), some (.inr (1, f2)), some (.inl v3), some (.inl (jw (v4 + 1))), some (.inl v5), some (.inl v6), some (.inl v7)] [] s := (jev_rg jcy_126 (fun q => Nat.beq q 3 || Nat.beq q 66 || Nat.beq q 98) 22 98 _ _ _).trans rfl
set_option maxRecDepth 100000 in
theorem bq_127 (s : jM) : jq 127 [.inr (7, 0)] s =
  je 127 4 [some (.inr (7, 0)), some (.inl 0), some (.inl 0), none] [] s := (jev_rg jcy_127 (fun q => Nat.beq q 4) 5 0 _ _ _).trans rfl
set_option maxRecDepth 100000 in
theorem be_127_4 (v1 : Int) (v2 : Int) (o3 : Option jV) (s : jM) : je 127 4 [some (.inr (7, 0)), some (.inl v1), some (.inl v2), o3] [] s =
  if v2 < (s 7 0 3) then
    jbI (jq 128 [.inr (7, 0), .inl v2, .inl v1] s) fun x1 s1 =>
    if x1 = (-1) then
      if 0 ≤ v2 ∧ v2 < 21 then
        if x1 = (-1) then
          je 127 4 [some (.inr (7, 0)), some (.inl v1), some (.inl (jw (v2 + 1))), some (.inl x1)] [] (jup s1 26 0 (Int.toNat v2) (-1))
        else
          jbV (jq 129 [.inr (7, 0), .inl x1, .inl v1] (jup s1 26 0 (Int.toNat v2) (-1))) fun s2 =>
          jbV (jq 130 [.inr (7, 0), .inl v1, .inl v2] s2) fun s3 =>
          jbV (jq 131 [.inr (7, 0), .inl v1, .inl v2] s3) fun s4 =>
          je 127 4 [some (.inr (7, 0)), some (.inl (jw (v1 + 1))), some (.inl (jw (v2 + 1))), some (.inl x1)] [] s4
      else
        none
    else
      if 0 ≤ v2 ∧ v2 < 21 then
        if x1 = (-1) then
          je 127 4 [some (.inr (7, 0)), some (.inl v1), some (.inl (jw (v2 + 1))), some (.inl x1)] [] (jup s1 26 0 (Int.toNat v2) v1)
        else
          jbV (jq 129 [.inr (7, 0), .inl x1, .inl v1] (jup s1 26 0 (Int.toNat v2) v1)) fun s5 =>
          jbV (jq 130 [.inr (7, 0), .inl v1, .inl v2] s5) fun s6 =>
          jbV (jq 131 [.inr (7, 0), .inl v1, .inl v2] s6) fun s7 =>
          je 127 4 [some (.inr (7, 0)), some (.inl (jw (v1 + 1))), some (.inl (jw (v2 + 1))), some (.inl x1)] [] s7
      else
        none
  else
    some (some (.inl v1), s) := (jev_rg jcy_127 (fun q => Nat.beq q 4) 37 4 _ _ _).trans rfl
set_option maxRecDepth 100000 in
theorem bq_128 (v1 : Int) (v2 : Int) (s : jM) : jq 128 [.inr (7, 0), .inl v1, .inl v2] s =
  je 128 2 [some (.inr (7, 0)), some (.inl v1), some (.inl v2), some (.inl v2)] [] s := (jev_rg jcy_128 (fun q => Nat.beq q 2) 3 0 _ _ _).trans rfl
set_option maxRecDepth 100000 in
theorem be_128_2 (v1 : Int) (v2 : Int) (v3 : Int) (s : jM) : je 128 2 [some (.inr (7, 0)), some (.inl v1), some (.inl v2), some (.inl v3)] [] s =
  if v3 < (s 7 0 2) then
    if 0 ≤ v3 ∧ v3 < 21 then
      if 0 ≤ v1 ∧ v1 < 21 then
        if (s 25 ((s 24 0 (Int.toNat v3)).toNat % 21) (Int.toNat v1)) = 0 then
          je 128 2 [some (.inr (7, 0)), some (.inl v1), some (.inl v2), some (.inl (jw (v3 + 1)))] [] s
        else
          some (some (.inl v3), s)
      else
        none
    else
      none
  else
    some (some (.inl (-1)), s) := (jev_rg jcy_128 (fun q => Nat.beq q 2) 14 2 _ _ _).trans rfl
set_option maxRecDepth 100000 in
theorem bq_129 (v1 : Int) (v2 : Int) (s : jM) : jq 129 [.inr (7, 0), .inl v1, .inl v2] s =
  if 0 ≤ v1 ∧ v1 < 21 then
    if 0 ≤ v2 ∧ v2 < 21 then
      if 0 ≤ v1 ∧ v1 < 21 then
        if 0 ≤ v2 ∧ v2 < 21 then
          some (none, (jup (jup s 24 0 (Int.toNat v1) ((((s 24 0 (Int.toNat v2)).toNat % 21 : Nat)) : Int)) 24 0 (Int.toNat v2) ((((s 24 0 (Int.toNat v1)).toNat % 21 : Nat)) : Int)))
        else
          none
      else
        none
    else
      none
  else
    none := (jev_rg jcy_129 (fun q => false) 19 0 _ _ _).trans rfl
set_option maxRecDepth 100000 in
theorem bq_130 (v1 : Int) (v2 : Int) (s : jM) : jq 130 [.inr (7, 0), .inl v1, .inl v2] s =
  if 0 ≤ v1 ∧ v1 < 21 then
    if 0 ≤ v2 ∧ v2 < 21 then
      jbI (jq 48 [.inl (s 25 ((s 24 0 (Int.toNat v1)).toNat % 21) (Int.toNat v2)), .inl 99] s) fun x1 s1 =>
      je 130 17 [some (.inr (7, 0)), some (.inl v1), some (.inl v2), some (.inl x1), some (.inl v2)] [] s1
    else
      none
  else
    none := (jev_rg jcy_130 (fun q => Nat.beq q 17) 12 0 _ _ _).trans rfl
set_option maxRecDepth 100000 in
theorem be_130_17 (v1 : Int) (v2 : Int) (v3 : Int) (v4 : Int) (s : jM) : je 130 17 [some (.inr (7, 0)), some (.inl v1), some (.inl v2), some (.inl v3), some (.inl v4)] [] s =
  if v4 < (s 7 0 3) then
    if 0 ≤ v1 ∧ v1 < 21 then
      if 0 ≤ v1 ∧ v1 < 21 then
        if 0 ≤ v4 ∧ v4 < 21 then
          if 0 ≤ v4 ∧ v4 < 21 then
            je 130 17 [some (.inr (7, 0)), some (.inl v1), some (.inl v2), some (.inl v3), some (.inl (jw (v4 + 1)))] [] (jup s 25 ((s 24 0 (Int.toNat v1)).toNat % 21) (Int.toNat v4) (Int.tmod (jw ((s 25 ((s 24 0 (Int.toNat v1)).toNat % 21) (Int.toNat v4)) * v3)) 101))
          else
            none
        else
          none
      else
        none
    else
      none
  else
    some (none, s) := (jev_rg jcy_130 (fun q => Nat.beq q 17) 23 17 _ _ _).trans rfl
set_option maxRecDepth 100000 in
theorem bq_131 (v1 : Int) (v2 : Int) (s : jM) : jq 131 [.inr (7, 0), .inl v1, .inl v2] s =
  je 131 2 [some (.inr (7, 0)), some (.inl v1), some (.inl v2), some (.inl 0), none, none] [] s := (jev_rg jcy_131 (fun q => Nat.beq q 2 || Nat.beq q 36) 3 0 _ _ _).trans rfl
set_option maxRecDepth 100000 in
theorem be_131_2 (v1 : Int) (v2 : Int) (v3 : Int) (o4 : Option jV) (o5 : Option jV) (s : jM) : je 131 2 [some (.inr (7, 0)), some (.inl v1), some (.inl v2), some (.inl v3), o4, o5] [] s =
  if v3 < (s 7 0 2) then
    if 0 ≤ v3 ∧ v3 < 21 then
      if 0 ≤ v2 ∧ v2 < 21 then
        jbI (jq 49 [.inl (s 25 ((s 24 0 (Int.toNat v3)).toNat % 21) (Int.toNat v2))] s) fun x1 s1 =>
        if v3 = v1 then
          je 131 2 [some (.inr (7, 0)), some (.inl v1), some (.inl v2), some (.inl (jw (v3 + 1))), some (.inl x1), o5] [] s1
        else
          if x1 = 0 then
            je 131 2 [some (.inr (7, 0)), some (.inl v1), some (.inl v2), some (.inl (jw (v3 + 1))), some (.inl x1), o5] [] s1
          else
            je 131 36 [some (.inr (7, 0)), some (.inl v1), some (.inl v2), some (.inl v3), some (.inl x1), some (.inl v2)] [] s1
      else
        none
    else
      none
  else
    some (none, s) := (jev_rg jcy_131 (fun q => Nat.beq q 2 || Nat.beq q 36) 20 2 _ _ _).trans rfl
set_option maxRecDepth 100000 in
theorem be_131_36 (v1 : Int) (v2 : Int) (v3 : Int) (v4 : Int) (v5 : Int) (s : jM) : je 131 36 [some (.inr (7, 0)), some (.inl v1), some (.inl v2), some (.inl v3), some (.inl v4), some (.inl v5)] [] s =
  if v5 < (s 7 0 3) then
    if 0 ≤ v3 ∧ v3 < 21 then
      if 0 ≤ v3 ∧ v3 < 21 then
        if 0 ≤ v5 ∧ v5 < 21 then
          if 0 ≤ v1 ∧ v1 < 21 then
            if 0 ≤ v5 ∧ v5 < 21 then
              if 0 ≤ v5 ∧ v5 < 21 then
                je 131 36 [some (.inr (7, 0)), some (.inl v1), some (.inl v2), some (.inl v3), some (.inl v4), some (.inl (jw (v5 + 1)))] [] (jup s 25 ((s 24 0 (Int.toNat v3)).toNat % 21) (Int.toNat v5) (Int.tmod (jw ((s 25 ((s 24 0 (Int.toNat v3)).toNat % 21) (Int.toNat v5)) + (jw (v4 * (s 25 ((s 24 0 (Int.toNat v1)).toNat % 21) (Int.toNat v5)))))) 101))
              else
                none
            else
              none
          else
            none
        else
          none
      else
        none
    else
      none
  else
    je 131 2 [some (.inr (7, 0)), some (.inl v1), some (.inl v2), some (.inl (jw (v3 + 1))), some (.inl v4), some (.inl v5)] [] s := (jev_rg jcy_131 (fun q => Nat.beq q 2 || Nat.beq q 36) 30 36 _ _ _).trans rfl
set_option maxRecDepth 100000 in
theorem bq_132 (v1 : Int) (s : jM) : jq 132 [.inr (7, 0), .inl v1] s =
  je 132 4 [some (.inr (7, 0)), some (.inl v1), some (.inl 0), some (.inl 0)] [] s := (jev_rg jcy_132 (fun q => Nat.beq q 4) 5 0 _ _ _).trans rfl
set_option maxRecDepth 100000 in
theorem be_132_4 (v1 : Int) (v2 : Int) (v3 : Int) (s : jM) : je 132 4 [some (.inr (7, 0)), some (.inl v1), some (.inl v2), some (.inl v3)] [] s =
  if v3 < (s 7 0 3) then
    if 0 ≤ v3 ∧ v3 < 21 then
      if (s 26 0 (Int.toNat v3)) = (-1) then
        if v2 = v1 then
          some (some (.inl v3), s)
        else
          if 0 ≤ v3 ∧ v3 < 21 then
            if (s 26 0 (Int.toNat v3)) = (-1) then
              je 132 4 [some (.inr (7, 0)), some (.inl v1), some (.inl (jw (v2 + 1))), some (.inl (jw (v3 + 1)))] [] s
            else
              je 132 4 [some (.inr (7, 0)), some (.inl v1), some (.inl v2), some (.inl (jw (v3 + 1)))] [] s
          else
            none
      else
        if 0 ≤ v3 ∧ v3 < 21 then
          if (s 26 0 (Int.toNat v3)) = (-1) then
            je 132 4 [some (.inr (7, 0)), some (.inl v1), some (.inl (jw (v2 + 1))), some (.inl (jw (v3 + 1)))] [] s
          else
            je 132 4 [some (.inr (7, 0)), some (.inl v1), some (.inl v2), some (.inl (jw (v3 + 1)))] [] s
        else
          none
    else
      none
  else
    some (some (.inl (-1)), s) := (jev_rg jcy_132 (fun q => Nat.beq q 4) 23 4 _ _ _).trans rfl
set_option maxRecDepth 100000 in
theorem bq_133 (s : jM) : jq 133 [.inr (7, 0)] s =
  je 133 7 [some (.inr (7, 0)), some (.inl (jw ((s 7 0 3) - 1)))] [] s := (jev_rg jcy_133 (fun q => Nat.beq q 7) 6 0 _ _ _).trans rfl
set_option maxRecDepth 100000 in
theorem be_133_7 (v1 : Int) (s : jM) : je 133 7 [some (.inr (7, 0)), some (.inl v1)] [] s =
  if v1 < 0 then
    some (some (.inl (-1)), s)
  else
    if 0 ≤ v1 ∧ v1 < 21 then
      if (s 26 0 (Int.toNat v1)) = (-1) then
        some (some (.inl v1), s)
      else
        je 133 7 [some (.inr (7, 0)), some (.inl (jw (v1 + (-1))))] [] s
    else
      none := (jev_rg jcy_133 (fun q => Nat.beq q 7) 11 7 _ _ _).trans rfl
set_option maxRecDepth 100000 in
theorem bq_134 (v1 : Int) (v2 : Int) (s : jM) : jq 134 [.inr (7, 0), .inl v1, .inl v2] s =
  jbI (jq 38 [.inl v1, .inl (s 7 0 3)] s) fun x1 s1 =>
  if x1 = 0 then
    some (some (.inl 0), s1)
  else
    jbI (jq 38 [.inl v2, .inl (s1 7 0 3)] s1) fun x2 s2 =>
    if x2 = 0 then
      some (some (.inl 0), s2)
    else
      if 0 ≤ v2 ∧ v2 < 21 then
        if (s2 26 0 (Int.toNat v2)) = (-1) then
          if v2 = v1 then
            some (some (.inl 1), s2)
          else
            some (some (.inl 0), s2)
        else
          if 0 ≤ v2 ∧ v2 < 21 then
            if 0 ≤ (s2 26 0 (Int.toNat v2)) ∧ (s2 26 0 (Int.toNat v2)) < 21 then
              if 0 ≤ v1 ∧ v1 < 21 then
                jbI (jq 49 [.inl (s2 25 ((s2 24 0 (Int.toNat (s2 26 0 (Int.toNat v2)))).toNat % 21) (Int.toNat v1))] s2) fun x3 s3 =>
                some (some (.inl x3), s3)
              else
                none
            else
              none
          else
            none
      else
        none := (jev_rg jcy_134 (fun q => false) 27 0 _ _ _).trans rfl
set_option maxRecDepth 100000 in
theorem bq_135 (v1 : Int) (s : jM) : jq 135 [.inr (8, 0), .inl v1] s =
  if (s 8 0 1) < 80 then
    if 0 ≤ (s 8 0 1) ∧ (s 8 0 1) < 80 then
      some (none, (jup (jup s 27 0 (Int.toNat (s 8 0 1)) v1) 8 0 1 (jw ((s 8 0 1) + 1))))
    else
      none
  else
    some (none, s) := (jev_rg jcy_135 (fun q => false) 17 0 _ _ _).trans rfl
set_option maxRecDepth 100000 in
theorem bq_136 (v1 : Int) (s : jM) : jq 136 [.inr (8, 0), .inl v1] s =
  if v1 < 0 then
    some (some (.inl (-1)), s)
  else
    if v1 < (s 8 0 1) then
      if 0 ≤ v1 ∧ v1 < 80 then
        some (some (.inl (s 27 0 (Int.toNat v1))), s)
      else
        none
    else
      some (some (.inl (-1)), s) := (jev_rg jcy_136 (fun q => false) 12 0 _ _ _).trans rfl
set_option maxRecDepth 100000 in
theorem bq_137 (v1 : Int) (s : jM) : jq 137 [.inr (9, 0), .inl v1] s =
  jbI (jq 38 [.inl v1, .inl (s 9 0 1)] s) fun x1 s1 =>
  if x1 = 0 then
    some (some (.inl 0), s1)
  else
    if 0 ≤ v1 ∧ v1 < 200 then
      some (some (.inl (s1 28 0 (Int.toNat v1))), s1)
    else
      none := (jev_rg jcy_137 (fun q => false) 11 0 _ _ _).trans rfl
set_option maxRecDepth 100000 in
theorem bq_138 (f1 : Nat) (s : jM) : jq 138 [.inr (9, 0), .inr (1, f1)] s =
  je 138 7 [some (.inr (9, 0)), some (.inr (1, f1)), some (.inl 0)] [] (jup s 9 0 1 0) := (jev_rg jcy_138 (fun q => Nat.beq q 7) 6 0 _ _ _).trans rfl
set_option maxRecDepth 100000 in
theorem be_138_7 (f1 : Nat) (v2 : Int) (s : jM) : je 138 7 [some (.inr (9, 0)), some (.inr (1, f1)), some (.inl v2)] [] s =
  jbI (jq 61 [.inr (1, f1)] s) fun x1 s1 =>
  if v2 < x1 then
    jbI (jq 62 [.inr (1, f1), .inl v2] s1) fun x2 s2 =>
    if x2 = 0 then
      je 138 7 [some (.inr (9, 0)), some (.inr (1, f1)), some (.inl (jw (v2 + 1)))] [] s2
    else
      jbV (jq 139 [.inr (9, 0), .inr (1, f1), .inl v2] s2) fun s3 =>
      je 138 7 [some (.inr (9, 0)), some (.inr (1, f1)), some (.inl (jw (v2 + 1)))] [] s3
  else
    if (s1 9 0 1) = 0 then
      jbV (jq 142 [.inr (9, 0), .inl 48] s1) fun s4 =>
      some (some (.inl (s4 9 0 1)), s4)
    else
      some (some (.inl (s1 9 0 1)), s1) := (jev_rg jcy_138 (fun q => Nat.beq q 7) 15 7 _ _ _).trans rfl
set_option maxRecDepth 100000 in
theorem bq_139 (f1 : Nat) (v2 : Int) (s : jM) : jq 139 [.inr (9, 0), .inr (1, f1), .inl v2] s =
  if 0 < (s 9 0 1) then
    jbV (jq 142 [.inr (9, 0), .inl 43] s) fun s1 =>
    je 139 13 [some (.inr (9, 0)), some (.inr (1, f1)), some (.inl v2)] [] s1
  else
    je 139 13 [some (.inr (9, 0)), some (.inr (1, f1)), some (.inl v2)] [] s := (jev_rg jcy_139 (fun q => Nat.beq q 13 || Nat.beq q 38) 7 0 _ _ _).trans rfl
set_option maxRecDepth 100000 in
theorem be_139_13 (f1 : Nat) (v2 : Int) (s : jM) : je 139 13 [some (.inr (9, 0)), some (.inr (1, f1)), some (.inl v2)] [] s =
  jbI (jq 62 [.inr (1, f1), .inl v2] s) fun x1 s1 =>
  if x1 = 1 then
    if (s1 1 f1 1) = 0 then
      jbI (jq 62 [.inr (1, f1), .inl v2] s1) fun x2 s2 =>
      jbV (jq 141 [.inr (9, 0), .inl x2] s2) fun s3 =>
      je 139 38 [some (.inr (9, 0)), some (.inr (1, f1)), some (.inl v2)] [] s3
    else
      je 139 38 [some (.inr (9, 0)), some (.inr (1, f1)), some (.inl v2)] [] s1
  else
    jbI (jq 62 [.inr (1, f1), .inl v2] s1) fun x4 s4 =>
    jbV (jq 141 [.inr (9, 0), .inl x4] s4) fun s5 =>
    je 139 38 [some (.inr (9, 0)), some (.inr (1, f1)), some (.inl v2)] [] s5 := (jev_rg jcy_139 (fun q => Nat.beq q 13 || Nat.beq q 38) 14 13 _ _ _).trans rfl
set_option maxRecDepth 100000 in
theorem be_139_38 (f1 : Nat) (v2 : Int) (s : jM) : je 139 38 [some (.inr (9, 0)), some (.inr (1, f1)), some (.inl v2)] [] s =
  jbI (jq 47 [.inl (s 1 f1 1), .inl v2] s) fun x1 s1 =>
  jbV (jq 140 [.inr (9, 0), .inl 120, .inl x1] s1) fun s2 =>
  if 0 ≤ v2 ∧ v2 < 21 then
    jbV (jq 140 [.inr (9, 0), .inl 121, .inl (jyp (Int.toNat v2))] s2) fun s3 =>
    if 0 ≤ v2 ∧ v2 < 21 then
      jbV (jq 140 [.inr (9, 0), .inl 122, .inl (jzp (Int.toNat v2))] s3) fun s4 =>
      some (none, s4)
    else
      none
  else
    none := (jev_rg jcy_139 (fun q => Nat.beq q 13 || Nat.beq q 38) 20 38 _ _ _).trans rfl
set_option maxRecDepth 100000 in
theorem bq_140 (v1 : Int) (v2 : Int) (s : jM) : jq 140 [.inr (9, 0), .inl v1, .inl v2] s =
  if 0 < v2 then
    jbV (jq 142 [.inr (9, 0), .inl v1] s) fun s1 =>
    if 1 < v2 then
      jbV (jq 141 [.inr (9, 0), .inl v2] s1) fun s2 =>
      some (none, s2)
    else
      some (none, s1)
  else
    if 1 < v2 then
      jbV (jq 141 [.inr (9, 0), .inl v2] s) fun s3 =>
      some (none, s3)
    else
      some (none, s) := (jev_rg jcy_140 (fun q => false) 12 0 _ _ _).trans rfl
set_option maxRecDepth 100000 in
theorem bq_141 (v1 : Int) (s : jM) : jq 141 [.inr (9, 0), .inl v1] s =
  if v1 < 100 then
    je 141 17 [some (.inr (9, 0)), some (.inl v1)] [] s
  else
    jbV (jq 142 [.inr (9, 0), .inl (jw (48 + (jw (Int.tdiv v1 100))))] s) fun s1 =>
    je 141 17 [some (.inr (9, 0)), some (.inl v1)] [] s1 := (jev_rg jcy_141 (fun q => Nat.beq q 17) 11 0 _ _ _).trans rfl
set_option maxRecDepth 100000 in
theorem be_141_17 (v1 : Int) (s : jM) : je 141 17 [some (.inr (9, 0)), some (.inl v1)] [] s =
  if v1 < 10 then
    jbV (jq 142 [.inr (9, 0), .inl (jw (48 + (Int.tmod v1 10)))] s) fun s1 =>
    some (none, s1)
  else
    jbV (jq 142 [.inr (9, 0), .inl (jw (48 + (Int.tmod (jw (Int.tdiv v1 10)) 10)))] s) fun s2 =>
    jbV (jq 142 [.inr (9, 0), .inl (jw (48 + (Int.tmod v1 10)))] s2) fun s3 =>
    some (none, s3) := (jev_rg jcy_141 (fun q => Nat.beq q 17) 20 17 _ _ _).trans rfl
set_option maxRecDepth 100000 in
theorem bq_142 (v1 : Int) (s : jM) : jq 142 [.inr (9, 0), .inl v1] s =
  if (s 9 0 1) < 200 then
    if 0 ≤ (s 9 0 1) ∧ (s 9 0 1) < 200 then
      some (none, (jup (jup s 28 0 (Int.toNat (s 9 0 1)) v1) 9 0 1 (jw ((s 9 0 1) + 1))))
    else
      none
  else
    some (none, s) := (jev_rg jcy_142 (fun q => false) 19 0 _ _ _).trans rfl
set_option maxRecDepth 100000 in
theorem bq_200 (v0 : Int) (v1 : Int) (v2 : Int) (s : jM) : jq 200 [.inl v0, .inl v1, .inl v2] s =
  if v0 < v1 then
    some (some (.inl 0), s)
  else
    if v2 < v0 then
      some (some (.inl 0), s)
    else
      some (some (.inl 1), s) := (jev_rg jcy_200 (fun q => false) 9 0 _ _ _).trans rfl
set_option maxRecDepth 100000 in
theorem bq_201 (v0 : Int) (s : jM) : jq 201 [.inl v0] s =
  jbI (jq 200 [.inl v0, .inl 0, .inl 3] s) fun x1 s1 =>
  if x1 = 0 ∨ x1 = 1 then some (some (.inl x1), s1) else none := (jev_rg jcy_201 (fun q => false) 5 0 _ _ _).trans rfl
set_option maxRecDepth 100000 in
theorem bq_202 (v0 : Int) (s : jM) : jq 202 [.inl v0] s =
  jbI (jq 200 [.inl v0, .inl 0, .inl 5] s) fun x1 s1 =>
  if x1 = 0 ∨ x1 = 1 then some (some (.inl x1), s1) else none := (jev_rg jcy_202 (fun q => false) 5 0 _ _ _).trans rfl
set_option maxRecDepth 100000 in
theorem bq_203 (v0 : Int) (s : jM) : jq 203 [.inl v0] s =
  some (some (.inl (jw (Int.tdiv (jw ((jw (v0 + 1)) * (jw (v0 + 2)))) 2))), s) := (jev_rg jcy_203 (fun q => false) 10 0 _ _ _).trans rfl
set_option maxRecDepth 100000 in
theorem bq_204 (v0 : Int) (v1 : Int) (v2 : Int) (s : jM) : jq 204 [.inl v0, .inl v1, .inl v2] s =
  some (some (.inl (jw ((jw ((jw (Int.tdiv (jw ((jw (v0 - v1)) * (jw ((jw (v0 - v1)) + 1)))) 2)) + (jw (v0 - v1)))) - v2))), s) := (jev_rg jcy_204 (fun q => false) 16 0 _ _ _).trans rfl
set_option maxRecDepth 100000 in
theorem bq_205 (v0 : Int) (v1 : Int) (s : jM) : jq 205 [.inl v0, .inl v1] s =
  je 205 4 [some (.inl v0), some (.inl v1), some (.inl v0), some (.inl v1)] [] s := (jev_rg jcy_205 (fun q => Nat.beq q 4) 5 0 _ _ _).trans rfl
set_option maxRecDepth 100000 in
theorem be_205_4 (v0 : Int) (v1 : Int) (v2 : Int) (v3 : Int) (s : jM) : je 205 4 [some (.inl v0), some (.inl v1), some (.inl v2), some (.inl v3)] [] s =
  if (jw (v0 - v2)) < v3 then
    je 205 4 [some (.inl v0), some (.inl v1), some (.inl (jw (v2 + (-1)))), some (.inl (jw (v3 - (jw ((jw (v0 - v2)) + 1)))))] [] s
  else
    some (some (.inl v2), s) := (jev_rg jcy_205 (fun q => Nat.beq q 4) 16 4 _ _ _).trans rfl
set_option maxRecDepth 100000 in
theorem bq_206 (v0 : Int) (v1 : Int) (s : jM) : jq 206 [.inl v0, .inl v1] s =
  jbI (jq 205 [.inl v0, .inl v1] s) fun x1 s1 =>
  some (some (.inl (jw ((jw (v0 - x1)) - (jw (v1 - (jw (Int.tdiv (jw ((jw (v0 - x1)) * (jw ((jw (v0 - x1)) + 1)))) 2))))))), s1) := (jev_rg jcy_206 (fun q => false) 20 0 _ _ _).trans rfl
set_option maxRecDepth 100000 in
theorem bq_207 (v0 : Int) (v1 : Int) (s : jM) : jq 207 [.inl v0, .inl v1] s =
  je 207 4 [some (.inl v0), some (.inl v1), some (.inl 1), some (.inl 0)] [] s := (jev_rg jcy_207 (fun q => Nat.beq q 4) 5 0 _ _ _).trans rfl
set_option maxRecDepth 100000 in
theorem be_207_4 (v0 : Int) (v1 : Int) (v2 : Int) (v3 : Int) (s : jM) : je 207 4 [some (.inl v0), some (.inl v1), some (.inl v2), some (.inl v3)] [] s =
  if v3 < v1 then
    je 207 4 [some (.inl v0), some (.inl v1), some (.inl (Int.tmod (jw (v2 * v0)) 101)), some (.inl (jw (v3 + 1)))] [] s
  else
    some (some (.inl v2), s) := (jev_rg jcy_207 (fun q => Nat.beq q 4) 12 4 _ _ _).trans rfl
set_option maxRecDepth 100000 in
theorem bq_208 (v0 : Int) (s : jM) : jq 208 [.inl v0] s =
  jbI (jq 207 [.inl v0, .inl 99] s) fun x1 s1 =>
  some (some (.inl x1), s1) := (jev_rg jcy_208 (fun q => false) 4 0 _ _ _).trans rfl
set_option maxRecDepth 100000 in
theorem bq_209 (v0 : Int) (s : jM) : jq 209 [.inl v0] s =
  if (Int.tmod v0 101) < 0 then
    some (some (.inl (jw ((Int.tmod v0 101) + 101))), s)
  else
    some (some (.inl (Int.tmod v0 101)), s) := (jev_rg jcy_209 (fun q => false) 11 0 _ _ _).trans rfl
set_option maxRecDepth 100000 in
theorem bq_210 (v1 : Int) (v2 : Int) (v3 : Int) (s : jM) : jq 210 [.inr (11, 0), .inl v1, .inl v2, .inl v3] s =
  jbI (jq 205 [.inl v1, .inl v2] s) fun x1 s1 =>
  jbI (jq 206 [.inl v1, .inl v2] s1) fun x2 s2 =>
  if 0 ≤ (jw (3 * v3)) ∧ (jw (3 * v3)) < 18 then
    jbI (jq 207 [.inl (s2 31 0 (Int.toNat (jw (3 * v3)))), .inl x1] s2) fun x3 s3 =>
    if 0 ≤ (jw ((jw (3 * v3)) + 1)) ∧ (jw ((jw (3 * v3)) + 1)) < 18 then
      jbI (jq 207 [.inl (s3 31 0 (Int.toNat (jw ((jw (3 * v3)) + 1)))), .inl x2] s3) fun x4 s4 =>
      if 0 ≤ (jw ((jw (3 * v3)) + 2)) ∧ (jw ((jw (3 * v3)) + 2)) < 18 then
        jbI (jq 207 [.inl (s4 31 0 (Int.toNat (jw ((jw (3 * v3)) + 2)))), .inl (jw ((jw (v1 - x1)) - x2))] s4) fun x5 s5 =>
        some (some (.inl (Int.tmod (jw ((Int.tmod (jw (x3 * x4)) 101) * x5)) 101)), s5)
      else
        none
    else
      none
  else
    none := (jev_rg jcy_210 (fun q => false) 47 0 _ _ _).trans rfl
set_option maxRecDepth 100000 in
theorem bq_211 (s : jM) : jq 211 [.inr (11, 0)] s =
  je 211 2 [some (.inr (11, 0)), some (.inl 0)] [] s := (jev_rg jcy_211 (fun q => Nat.beq q 2 || Nat.beq q 34 || Nat.beq q 68) 3 0 _ _ _).trans rfl
set_option maxRecDepth 100000 in
theorem be_211_2 (v1 : Int) (s : jM) : je 211 2 [some (.inr (11, 0)), some (.inl v1)] [] s =
  if v1 < 4 then
    if 0 ≤ v1 ∧ v1 < 4 then
      if 0 ≤ (jw ((jw (4 * (s 11 0 10))) + v1)) ∧ (jw ((jw (4 * (s 11 0 10))) + v1)) < 36 then
        je 211 2 [some (.inr (11, 0)), some (.inl (jw (v1 + 1)))] [] (jup s 38 0 (Int.toNat (jw ((jw (4 * (s 11 0 10))) + v1))) (s 29 0 (Int.toNat v1)))
      else
        none
    else
      none
  else
    je 211 34 [some (.inr (11, 0)), some (.inl 0)] [] s := (jev_rg jcy_211 (fun q => Nat.beq q 2 || Nat.beq q 34 || Nat.beq q 68) 19 2 _ _ _).trans rfl
set_option maxRecDepth 100000 in
theorem be_211_34 (v1 : Int) (s : jM) : je 211 34 [some (.inr (11, 0)), some (.inl v1)] [] s =
  if v1 < 84 then
    if 0 ≤ v1 ∧ v1 < 84 then
      if 0 ≤ (jw ((jw (84 * (s 11 0 10))) + v1)) ∧ (jw ((jw (84 * (s 11 0 10))) + v1)) < 756 then
        je 211 34 [some (.inr (11, 0)), some (.inl (jw (v1 + 1)))] [] (jup s 39 0 (Int.toNat (jw ((jw (84 * (s 11 0 10))) + v1))) (s 30 0 (Int.toNat v1)))
      else
        none
    else
      none
  else
    je 211 68 [some (.inr (11, 0)), some (.inl 0)] [] s := (jev_rg jcy_211 (fun q => Nat.beq q 2 || Nat.beq q 34 || Nat.beq q 68) 19 34 _ _ _).trans rfl
set_option maxRecDepth 100000 in
theorem be_211_68 (v1 : Int) (s : jM) : je 211 68 [some (.inr (11, 0)), some (.inl v1)] [] s =
  if v1 < 18 then
    if 0 ≤ v1 ∧ v1 < 18 then
      if 0 ≤ (jw ((jw (18 * (s 11 0 10))) + v1)) ∧ (jw ((jw (18 * (s 11 0 10))) + v1)) < 162 then
        je 211 68 [some (.inr (11, 0)), some (.inl (jw (v1 + 1)))] [] (jup s 40 0 (Int.toNat (jw ((jw (18 * (s 11 0 10))) + v1))) (s 31 0 (Int.toNat v1)))
      else
        none
    else
      none
  else
    some (none, s) := (jev_rg jcy_211 (fun q => Nat.beq q 2 || Nat.beq q 34 || Nat.beq q 68) 19 68 _ _ _).trans rfl
set_option maxRecDepth 100000 in
theorem bq_212 (s : jM) : jq 212 [.inr (11, 0)] s =
  je 212 2 [some (.inr (11, 0)), some (.inl 0), none] [] s := (jev_rg jcy_212 (fun q => Nat.beq q 2 || Nat.beq q 33 || Nat.beq q 95) 3 0 _ _ _).trans rfl
set_option maxRecDepth 100000 in
theorem be_212_2 (v1 : Int) (o2 : Option jV) (s : jM) : je 212 2 [some (.inr (11, 0)), some (.inl v1), o2] [] s =
  if v1 < 4 then
    if 0 ≤ v1 ∧ v1 < 4 then
      if 0 ≤ (jw ((jw (4 * (s 11 0 10))) + v1)) ∧ (jw ((jw (4 * (s 11 0 10))) + v1)) < 36 then
        if (s 29 0 (Int.toNat v1)) = (s 38 0 (Int.toNat (jw ((jw (4 * (s 11 0 10))) + v1)))) then
          je 212 33 [some (.inr (11, 0)), some (.inl v1), some (.inl 0)] [] s
        else
          some (some (.inl 1), s)
      else
        none
    else
      none
  else
    je 212 95 [some (.inr (11, 0)), some (.inl 0), o2] [] s := (jev_rg jcy_212 (fun q => Nat.beq q 2 || Nat.beq q 33 || Nat.beq q 95) 20 2 _ _ _).trans rfl
set_option maxRecDepth 100000 in
theorem be_212_33 (v1 : Int) (v2 : Int) (s : jM) : je 212 33 [some (.inr (11, 0)), some (.inl v1), some (.inl v2)] [] s =
  if 0 ≤ v1 ∧ v1 < 4 then
    jbI (jq 203 [.inl (s 29 0 (Int.toNat v1))] s) fun x1 s1 =>
    if v2 < x1 then
      if 0 ≤ (jw ((jw (21 * v1)) + v2)) ∧ (jw ((jw (21 * v1)) + v2)) < 84 then
        if 0 ≤ (jw ((jw ((jw (84 * (s1 11 0 10))) + (jw (21 * v1)))) + v2)) ∧ (jw ((jw ((jw (84 * (s1 11 0 10))) + (jw (21 * v1)))) + v2)) < 756 then
          if (s1 30 0 (Int.toNat (jw ((jw (21 * v1)) + v2)))) = (s1 39 0 (Int.toNat (jw ((jw ((jw (84 * (s1 11 0 10))) + (jw (21 * v1)))) + v2)))) then
            je 212 33 [some (.inr (11, 0)), some (.inl v1), some (.inl (jw (v2 + 1)))] [] s1
          else
            some (some (.inl 1), s1)
        else
          none
      else
        none
    else
      je 212 2 [some (.inr (11, 0)), some (.inl (jw (v1 + 1))), some (.inl v2)] [] s1
  else
    none := (jev_rg jcy_212 (fun q => Nat.beq q 2 || Nat.beq q 33 || Nat.beq q 95) 32 33 _ _ _).trans rfl
set_option maxRecDepth 100000 in
theorem be_212_95 (v1 : Int) (o2 : Option jV) (s : jM) : je 212 95 [some (.inr (11, 0)), some (.inl v1), o2] [] s =
  if v1 < 18 then
    if 0 ≤ v1 ∧ v1 < 18 then
      if 0 ≤ (jw ((jw (18 * (s 11 0 10))) + v1)) ∧ (jw ((jw (18 * (s 11 0 10))) + v1)) < 162 then
        if (s 31 0 (Int.toNat v1)) = (s 40 0 (Int.toNat (jw ((jw (18 * (s 11 0 10))) + v1)))) then
          je 212 95 [some (.inr (11, 0)), some (.inl (jw (v1 + 1))), o2] [] s
        else
          some (some (.inl 1), s)
      else
        none
    else
      none
  else
    some (some (.inl 0), s) := (jev_rg jcy_212 (fun q => Nat.beq q 2 || Nat.beq q 33 || Nat.beq q 95) 20 95 _ _ _).trans rfl
set_option maxRecDepth 100000 in
theorem bq_213 (s : jM) : jq 213 [.inr (11, 0)] s =
  jbI (jq 212 [.inr (11, 0)] s) fun x1 s1 =>
  if x1 = 0 then
    some (none, s1)
  else
    if (s1 11 0 10) < 8 then
      some (none, (jup s1 11 0 10 (jw ((s1 11 0 10) + 1))))
    else
      je 213 30 [some (.inr (11, 0)), some (.inl 0)] [] s1 := (jev_rg jcy_213 (fun q => Nat.beq q 30 || Nat.beq q 58 || Nat.beq q 88) 14 0 _ _ _).trans rfl
set_option maxRecDepth 100000 in
theorem be_213_30 (v1 : Int) (s : jM) : je 213 30 [some (.inr (11, 0)), some (.inl v1)] [] s =
  if v1 < 32 then
    if 0 ≤ (jw (v1 + 4)) ∧ (jw (v1 + 4)) < 36 then
      if 0 ≤ v1 ∧ v1 < 36 then
        je 213 30 [some (.inr (11, 0)), some (.inl (jw (v1 + 1)))] [] (jup s 38 0 (Int.toNat v1) (s 38 0 (Int.toNat (jw (v1 + 4)))))
      else
        none
    else
      none
  else
    je 213 58 [some (.inr (11, 0)), some (.inl 0)] [] s := (jev_rg jcy_213 (fun q => Nat.beq q 30 || Nat.beq q 58 || Nat.beq q 88) 16 30 _ _ _).trans rfl
set_option maxRecDepth 100000 in
theorem be_213_58 (v1 : Int) (s : jM) : je 213 58 [some (.inr (11, 0)), some (.inl v1)] [] s =
  if v1 < 672 then
    if 0 ≤ (jw (v1 + 84)) ∧ (jw (v1 + 84)) < 756 then
      if 0 ≤ v1 ∧ v1 < 756 then
        je 213 58 [some (.inr (11, 0)), some (.inl (jw (v1 + 1)))] [] (jup s 39 0 (Int.toNat v1) (s 39 0 (Int.toNat (jw (v1 + 84)))))
      else
        none
    else
      none
  else
    je 213 88 [some (.inr (11, 0)), some (.inl 0)] [] s := (jev_rg jcy_213 (fun q => Nat.beq q 30 || Nat.beq q 58 || Nat.beq q 88) 16 58 _ _ _).trans rfl
set_option maxRecDepth 100000 in
theorem be_213_88 (v1 : Int) (s : jM) : je 213 88 [some (.inr (11, 0)), some (.inl v1)] [] s =
  if v1 < 144 then
    if 0 ≤ (jw (v1 + 18)) ∧ (jw (v1 + 18)) < 162 then
      if 0 ≤ v1 ∧ v1 < 162 then
        je 213 88 [some (.inr (11, 0)), some (.inl (jw (v1 + 1)))] [] (jup s 40 0 (Int.toNat v1) (s 40 0 (Int.toNat (jw (v1 + 18)))))
      else
        none
    else
      none
  else
    some (none, s) := (jev_rg jcy_213 (fun q => Nat.beq q 30 || Nat.beq q 58 || Nat.beq q 88) 16 88 _ _ _).trans rfl
set_option maxRecDepth 100000 in
theorem bq_214 (v1 : Int) (s : jM) : jq 214 [.inr (11, 0), .inl v1] s =
  je 214 7 [some (.inr (11, 0)), some (.inl v1), some (.inl 0)] [] (jup s 11 0 21 v1) := (jev_rg jcy_214 (fun q => Nat.beq q 7) 6 0 _ _ _).trans rfl
set_option maxRecDepth 100000 in
theorem be_214_7 (v1 : Int) (v2 : Int) (s : jM) : je 214 7 [some (.inr (11, 0)), some (.inl v1), some (.inl v2)] [] s =
  if v2 < 21 then
    if 0 ≤ v2 ∧ v2 < 21 then
      je 214 7 [some (.inr (11, 0)), some (.inl v1), some (.inl (jw (v2 + 1)))] [] (jup s 47 0 (Int.toNat v2) 0)
    else
      none
  else
    some (none, s) := (jev_rg jcy_214 (fun q => Nat.beq q 7) 11 7 _ _ _).trans rfl
set_option maxRecDepth 100000 in
theorem bq_215 (v1 : Int) (s : jM) : jq 215 [.inr (11, 0), .inl v1] s =
  if 0 ≤ v1 ∧ v1 < 4 then
    je 215 12 [some (.inr (11, 0)), some (.inl v1), some (.inl 0)] [] (jup s 29 0 (Int.toNat v1) (s 11 0 21))
  else
    none := (jev_rg jcy_215 (fun q => Nat.beq q 12) 9 0 _ _ _).trans rfl
set_option maxRecDepth 100000 in
theorem be_215_12 (v1 : Int) (v2 : Int) (s : jM) : je 215 12 [some (.inr (11, 0)), some (.inl v1), some (.inl v2)] [] s =
  if v2 < 21 then
    jbI (jq 203 [.inl (s 11 0 21)] s) fun x1 s1 =>
    if v2 < x1 then
      if 0 ≤ v2 ∧ v2 < 21 then
        if 0 ≤ (jw ((jw (21 * v1)) + v2)) ∧ (jw ((jw (21 * v1)) + v2)) < 84 then
          je 215 12 [some (.inr (11, 0)), some (.inl v1), some (.inl (jw (v2 + 1)))] [] (jup s1 30 0 (Int.toNat (jw ((jw (21 * v1)) + v2))) (s1 47 0 (Int.toNat v2)))
        else
          none
      else
        none
    else
      if 0 ≤ (jw ((jw (21 * v1)) + v2)) ∧ (jw ((jw (21 * v1)) + v2)) < 84 then
        je 215 12 [some (.inr (11, 0)), some (.inl v1), some (.inl (jw (v2 + 1)))] [] (jup s1 30 0 (Int.toNat (jw ((jw (21 * v1)) + v2))) 0)
      else
        none
  else
    some (none, s) := (jev_rg jcy_215 (fun q => Nat.beq q 12) 24 12 _ _ _).trans rfl
set_option maxRecDepth 100000 in
theorem bq_216 (v1 : Int) (v2 : Int) (s : jM) : jq 216 [.inr (11, 0), .inl v1, .inl v2] s =
  jbI (jq 201 [.inl v1] s) fun x1 s1 =>
  if x1 = 0 then
    some (some (.inl (-1)), s1)
  else
    jbI (jq 200 [.inl v2, .inl 0, .inl 5] s1) fun x2 s2 =>
    if x2 = 0 then
      some (some (.inl (-1)), s2)
    else
      if 0 ≤ v1 ∧ v1 < 4 then
        jbV (jq 211 [.inr (11, 0)] s2) fun s3 =>
        jbV (jq 214 [.inr (11, 0), .inl v2] s3) fun s4 =>
        jbV (jq 215 [.inr (11, 0), .inl v1] s4) fun s5 =>
        jbV (jq 213 [.inr (11, 0)] s5) fun s6 =>
        some (some (.inl (s2 29 0 (Int.toNat v1))), s6)
      else
        none := (jev_rg jcy_216 (fun q => false) 25 0 _ _ _).trans rfl
set_option maxRecDepth 100000 in
theorem bq_217 (v1 : Int) (v2 : Int) (v3 : Int) (s : jM) : jq 217 [.inr (11, 0), .inl v1, .inl v2, .inl v3] s =
  jbI (jq 201 [.inl v1] s) fun x1 s1 =>
  if x1 = 0 then
    some (some (.inl 0), s1)
  else
    if v2 < 0 then
      some (some (.inl 0), s1)
    else
      if v3 < 0 then
        some (some (.inl 0), s1)
      else
        if 0 ≤ v1 ∧ v1 < 4 then
          if (s1 29 0 (Int.toNat v1)) < v2 then
            some (some (.inl 0), s1)
          else
            if 0 ≤ v1 ∧ v1 < 4 then
              if (jw ((s1 29 0 (Int.toNat v1)) - v2)) < v3 then
                some (some (.inl 0), s1)
              else
                some (some (.inl 1), s1)
            else
              none
        else
          none := (jev_rg jcy_217 (fun q => false) 24 0 _ _ _).trans rfl
set_option maxRecDepth 100000 in
theorem bq_218 (v1 : Int) (v2 : Int) (v3 : Int) (v4 : Int) (s : jM) : jq 218 [.inr (11, 0), .inl v1, .inl v2, .inl v3, .inl v4] s =
  jbI (jq 217 [.inr (11, 0), .inl v1, .inl v2, .inl v3] s) fun x1 s1 =>
  if x1 = 0 then
    some (some (.inl (-1)), s1)
  else
    jbI (jq 200 [.inl v4, .inl 0, .inl 100] s1) fun x2 s2 =>
    if x2 = 0 then
      some (some (.inl (-1)), s2)
    else
      if 0 ≤ v1 ∧ v1 < 4 then
        jbI (jq 204 [.inl (s2 29 0 (Int.toNat v1)), .inl v2, .inl v3] s2) fun x3 s3 =>
        if 0 ≤ (jw ((jw (21 * v1)) + x3)) ∧ (jw ((jw (21 * v1)) + x3)) < 84 then
          jbV (jq 211 [.inr (11, 0)] s3) fun s4 =>
          if 0 ≤ (jw ((jw (21 * v1)) + x3)) ∧ (jw ((jw (21 * v1)) + x3)) < 84 then
            jbV (jq 213 [.inr (11, 0)] (jup s4 30 0 (Int.toNat (jw ((jw (21 * v1)) + x3))) v4)) fun s5 =>
            some (some (.inl (s3 30 0 (Int.toNat (jw ((jw (21 * v1)) + x3))))), s5)
          else
            none
        else
          none
      else
        none := (jev_rg jcy_218 (fun q => false) 39 0 _ _ _).trans rfl
set_option maxRecDepth 100000 in
theorem bq_219 (v1 : Int) (v2 : Int) (v3 : Int) (s : jM) : jq 219 [.inr (11, 0), .inl v1, .inl v2, .inl v3] s =
  jbI (jq 217 [.inr (11, 0), .inl v1, .inl v2, .inl v3] s) fun x1 s1 =>
  if x1 = 0 then
    some (some (.inl (-1)), s1)
  else
    if 0 ≤ v1 ∧ v1 < 4 then
      jbI (jq 204 [.inl (s1 29 0 (Int.toNat v1)), .inl v2, .inl v3] s1) fun x2 s2 =>
      if 0 ≤ (jw ((jw (21 * v1)) + x2)) ∧ (jw ((jw (21 * v1)) + x2)) < 84 then
        some (some (.inl (s2 30 0 (Int.toNat (jw ((jw (21 * v1)) + x2))))), s2)
      else
        none
    else
      none := (jev_rg jcy_219 (fun q => false) 22 0 _ _ _).trans rfl
set_option maxRecDepth 100000 in
theorem bq_220 (v1 : Int) (s : jM) : jq 220 [.inr (11, 0), .inl v1] s =
  if 0 ≤ v1 ∧ v1 < 4 then
    je 220 9 [some (.inr (11, 0)), some (.inl v1), some (.inl (s 29 0 (Int.toNat v1))), some (.inl 0)] [] s
  else
    none := (jev_rg jcy_220 (fun q => Nat.beq q 9) 8 0 _ _ _).trans rfl
set_option maxRecDepth 100000 in
theorem be_220_9 (v1 : Int) (v2 : Int) (v3 : Int) (s : jM) : je 220 9 [some (.inr (11, 0)), some (.inl v1), some (.inl v2), some (.inl v3)] [] s =
  jbI (jq 203 [.inl v2] s) fun x1 s1 =>
  if v3 < x1 then
    if 0 ≤ (jw ((jw (21 * v1)) + v3)) ∧ (jw ((jw (21 * v1)) + v3)) < 84 then
      if (s1 30 0 (Int.toNat (jw ((jw (21 * v1)) + v3)))) = 0 then
        je 220 9 [some (.inr (11, 0)), some (.inl v1), some (.inl v2), some (.inl (jw (v3 + 1)))] [] s1
      else
        jbI (jq 205 [.inl v2, .inl v3] s1) fun x2 s2 =>
        jbI (jq 206 [.inl v2, .inl v3] s2) fun x3 s3 =>
        if (jw (x2 + x3)) < v2 then
          some (some (.inl 0), s3)
        else
          je 220 9 [some (.inr (11, 0)), some (.inl v1), some (.inl v2), some (.inl (jw (v3 + 1)))] [] s3
    else
      none
  else
    some (some (.inl 1), s1) := (jev_rg jcy_220 (fun q => Nat.beq q 9) 25 9 _ _ _).trans rfl
set_option maxRecDepth 100000 in
theorem bq_221 (v1 : Int) (s : jM) : jq 221 [.inr (11, 0), .inl v1] s =
  je 221 4 [some (.inr (11, 0)), some (.inl v1), some (.inl 0), some (.inl 0)] [] s := (jev_rg jcy_221 (fun q => Nat.beq q 4) 5 0 _ _ _).trans rfl
set_option maxRecDepth 100000 in
theorem be_221_4 (v1 : Int) (v2 : Int) (v3 : Int) (s : jM) : je 221 4 [some (.inr (11, 0)), some (.inl v1), some (.inl v2), some (.inl v3)] [] s =
  if 0 ≤ v1 ∧ v1 < 4 then
    jbI (jq 203 [.inl (s 29 0 (Int.toNat v1))] s) fun x1 s1 =>
    if v3 < x1 then
      if 0 ≤ (jw ((jw (21 * v1)) + v3)) ∧ (jw ((jw (21 * v1)) + v3)) < 84 then
        if (s1 30 0 (Int.toNat (jw ((jw (21 * v1)) + v3)))) = 0 then
          je 221 4 [some (.inr (11, 0)), some (.inl v1), some (.inl (jw (v2 + 0))), some (.inl (jw (v3 + 1)))] [] s1
        else
          je 221 4 [some (.inr (11, 0)), some (.inl v1), some (.inl (jw (v2 + 1))), some (.inl (jw (v3 + 1)))] [] s1
      else
        none
    else
      some (some (.inl v2), s1)
  else
    none := (jev_rg jcy_221 (fun q => Nat.beq q 4) 24 4 _ _ _).trans rfl
set_option maxRecDepth 100000 in
theorem bq_222 (v1 : Int) (v2 : Int) (s : jM) : jq 222 [.inr (11, 0), .inl v1, .inl v2] s =
  jbI (jq 201 [.inl v1] s) fun x1 s1 =>
  if x1 = 0 then
    some (some (.inl (-1)), s1)
  else
    jbI (jq 200 [.inl v2, .inl 0, .inl 3] s1) fun x2 s2 =>
    if x2 = 0 then
      some (some (.inl (-1)), s2)
    else
      if v2 = 0 then
        if 0 ≤ v1 ∧ v1 < 4 then
          some (some (.inl (s2 29 0 (Int.toNat v1))), s2)
        else
          none
      else
        if v2 = 1 then
          if 0 ≤ v1 ∧ v1 < 4 then
            jbI (jq 203 [.inl (s2 29 0 (Int.toNat v1))] s2) fun x3 s3 =>
            some (some (.inl x3), s3)
          else
            none
        else
          if v2 = 2 then
            jbI (jq 221 [.inr (11, 0), .inl v1] s2) fun x4 s4 =>
            some (some (.inl x4), s4)
          else
            jbI (jq 220 [.inr (11, 0), .inl v1] s2) fun x5 s5 =>
            if x5 = 0 then
              some (some (.inl 0), s5)
            else
              some (some (.inl 1), s5) := (jev_rg jcy_222 (fun q => false) 23 0 _ _ _).trans rfl
set_option maxRecDepth 100000 in
theorem bq_223 (v1 : Int) (v2 : Int) (v3 : Int) (v4 : Int) (s : jM) : jq 223 [.inr (11, 0), .inl v1, .inl v2, .inl v3, .inl v4] s =
  jbI (jq 201 [.inl v1] s) fun x1 s1 =>
  if x1 = 0 then
    some (some (.inl (-1)), s1)
  else
    jbI (jq 201 [.inl v2] s1) fun x2 s2 =>
    if x2 = 0 then
      some (some (.inl (-1)), s2)
    else
      jbI (jq 201 [.inl v3] s2) fun x3 s3 =>
      if x3 = 0 then
        some (some (.inl (-1)), s3)
      else
        jbI (jq 200 [.inl v4, .inl 0, .inl 100] s3) fun x4 s4 =>
        if x4 = 0 then
          some (some (.inl (-1)), s4)
        else
          if 0 ≤ v2 ∧ v2 < 4 then
            if 0 ≤ v3 ∧ v3 < 4 then
              if (s4 29 0 (Int.toNat v2)) = (s4 29 0 (Int.toNat v3)) then
                jbV (jq 211 [.inr (11, 0)] s4) fun s5 =>
                if 0 ≤ v2 ∧ v2 < 4 then
                  jbV (jq 214 [.inr (11, 0), .inl (s5 29 0 (Int.toNat v2))] s5) fun s6 =>
                  je 223 69 [some (.inr (11, 0)), some (.inl v1), some (.inl v2), some (.inl v3), some (.inl v4), some (.inl 0)] [] s6
                else
                  none
              else
                some (some (.inl (-5)), s4)
            else
              none
          else
            none := (jev_rg jcy_223 (fun q => Nat.beq q 69) 34 0 _ _ _).trans rfl
set_option maxRecDepth 100000 in
theorem be_223_69 (v1 : Int) (v2 : Int) (v3 : Int) (v4 : Int) (v5 : Int) (s : jM) : je 223 69 [some (.inr (11, 0)), some (.inl v1), some (.inl v2), some (.inl v3), some (.inl v4), some (.inl v5)] [] s =
  jbI (jq 203 [.inl (s 11 0 21)] s) fun x1 s1 =>
  if v5 < x1 then
    if 0 ≤ (jw ((jw (21 * v2)) + v5)) ∧ (jw ((jw (21 * v2)) + v5)) < 84 then
      if 0 ≤ (jw ((jw (21 * v3)) + v5)) ∧ (jw ((jw (21 * v3)) + v5)) < 84 then
        if 0 ≤ v5 ∧ v5 < 21 then
          je 223 69 [some (.inr (11, 0)), some (.inl v1), some (.inl v2), some (.inl v3), some (.inl v4), some (.inl (jw (v5 + 1)))] [] (jup s1 47 0 (Int.toNat v5) (Int.tmod (jw ((s1 30 0 (Int.toNat (jw ((jw (21 * v2)) + v5)))) + (jw (v4 * (s1 30 0 (Int.toNat (jw ((jw (21 * v3)) + v5)))))))) 101))
        else
          none
      else
        none
    else
      none
  else
    jbV (jq 215 [.inr (11, 0), .inl v1] s1) fun s2 =>
    jbV (jq 213 [.inr (11, 0)] s2) fun s3 =>
    if 0 ≤ v1 ∧ v1 < 4 then
      some (some (.inl (s3 29 0 (Int.toNat v1))), s3)
    else
      none := (jev_rg jcy_223 (fun q => Nat.beq q 69) 33 69 _ _ _).trans rfl
set_option maxRecDepth 100000 in
theorem bq_224 (v1 : Int) (v2 : Int) (s : jM) : jq 224 [.inr (11, 0), .inl v1, .inl v2] s =
  if 0 ≤ v1 ∧ v1 < 4 then
    if 0 ≤ v2 ∧ v2 < 4 then
      jbV (jq 214 [.inr (11, 0), .inl (jw ((s 29 0 (Int.toNat v2)) - (s 29 0 (Int.toNat v1))))] s) fun s1 =>
      je 224 26 [some (.inr (11, 0)), some (.inl v1), some (.inl v2), some (.inl (s 29 0 (Int.toNat v1))), some (.inl (s 29 0 (Int.toNat v2))), some (.inl 0), none, none, none, none] [] s1
    else
      none
  else
    none := (jev_rg jcy_224 (fun q => Nat.beq q 26 || Nat.beq q 38) 18 0 _ _ _).trans rfl
set_option maxRecDepth 100000 in
theorem be_224_26 (v1 : Int) (v2 : Int) (v3 : Int) (v4 : Int) (v5 : Int) (o6 : Option jV) (o7 : Option jV) (o8 : Option jV) (o9 : Option jV) (s : jM) : je 224 26 [some (.inr (11, 0)), some (.inl v1), some (.inl v2), some (.inl v3), some (.inl v4), some (.inl v5), o6, o7, o8, o9] [] s =
  jbI (jq 203 [.inl v3] s) fun x1 s1 =>
  if v5 < x1 then
    je 224 38 [some (.inr (11, 0)), some (.inl v1), some (.inl v2), some (.inl v3), some (.inl v4), some (.inl v5), some (.inl 0), o7, o8, o9] [] s1
  else
    some (none, s1) := (jev_rg jcy_224 (fun q => Nat.beq q 26 || Nat.beq q 38) 7 26 _ _ _).trans rfl
set_option maxRecDepth 100000 in
theorem be_224_38 (v1 : Int) (v2 : Int) (v3 : Int) (v4 : Int) (v5 : Int) (v6 : Int) (o7 : Option jV) (o8 : Option jV) (o9 : Option jV) (s : jM) : je 224 38 [some (.inr (11, 0)), some (.inl v1), some (.inl v2), some (.inl v3), some (.inl v4), some (.inl v5), some (.inl v6), o7, o8, o9] [] s =
  jbI (jq 203 [.inl v4] s) fun x1 s1 =>
  if v6 < x1 then
    jbI (jq 205 [.inl v4, .inl v6] s1) fun x2 s2 =>
    jbI (jq 205 [.inl v3, .inl v5] s2) fun x3 s3 =>
    jbI (jq 206 [.inl v4, .inl v6] s3) fun x4 s4 =>
    jbI (jq 206 [.inl v3, .inl v5] s4) fun x5 s5 =>
    if (jw (x2 - x3)) < 0 then
      je 224 38 [some (.inr (11, 0)), some (.inl v1), some (.inl v2), some (.inl v3), some (.inl v4), some (.inl v5), some (.inl (jw (v6 + 1))), some (.inl (jw (x2 - x3))), some (.inl (jw (x4 - x5))), o9] [] s5
    else
      if (jw (x4 - x5)) < 0 then
        je 224 38 [some (.inr (11, 0)), some (.inl v1), some (.inl v2), some (.inl v3), some (.inl v4), some (.inl v5), some (.inl (jw (v6 + 1))), some (.inl (jw (x2 - x3))), some (.inl (jw (x4 - x5))), o9] [] s5
      else
        if (jw (v4 - v3)) < (jw ((jw (x2 - x3)) + (jw (x4 - x5)))) then
          je 224 38 [some (.inr (11, 0)), some (.inl v1), some (.inl v2), some (.inl v3), some (.inl v4), some (.inl v5), some (.inl (jw (v6 + 1))), some (.inl (jw (x2 - x3))), some (.inl (jw (x4 - x5))), o9] [] s5
        else
          jbI (jq 204 [.inl (jw (v4 - v3)), .inl (jw (x2 - x3)), .inl (jw (x4 - x5))] s5) fun x6 s6 =>
          if 0 ≤ x6 ∧ x6 < 21 then
            if 0 ≤ (jw ((jw (21 * v1)) + v5)) ∧ (jw ((jw (21 * v1)) + v5)) < 84 then
              if 0 ≤ (jw ((jw (21 * v2)) + v6)) ∧ (jw ((jw (21 * v2)) + v6)) < 84 then
                if 0 ≤ x6 ∧ x6 < 21 then
                  je 224 38 [some (.inr (11, 0)), some (.inl v1), some (.inl v2), some (.inl v3), some (.inl v4), some (.inl v5), some (.inl (jw (v6 + 1))), some (.inl (jw (x2 - x3))), some (.inl (jw (x4 - x5))), some (.inl x6)] [] (jup s6 47 0 (Int.toNat x6) (Int.tmod (jw ((s6 47 0 (Int.toNat x6)) + (jw ((s6 30 0 (Int.toNat (jw ((jw (21 * v1)) + v5)))) * (s6 30 0 (Int.toNat (jw ((jw (21 * v2)) + v6)))))))) 101))
                else
                  none
              else
                none
            else
              none
          else
            none
  else
    je 224 26 [some (.inr (11, 0)), some (.inl v1), some (.inl v2), some (.inl v3), some (.inl v4), some (.inl (jw (v5 + 1))), some (.inl v6), o7, o8, o9] [] s1 := (jev_rg jcy_224 (fun q => Nat.beq q 26 || Nat.beq q 38) 69 38 _ _ _).trans rfl
set_option maxRecDepth 100000 in
theorem bq_225 (v1 : Int) (v2 : Int) (v3 : Int) (s : jM) : jq 225 [.inr (11, 0), .inl v1, .inl v2, .inl v3] s =
  jbI (jq 201 [.inl v1] s) fun x1 s1 =>
  if x1 = 0 then
    some (some (.inl (-1)), s1)
  else
    jbI (jq 201 [.inl v2] s1) fun x2 s2 =>
    if x2 = 0 then
      some (some (.inl (-1)), s2)
    else
      jbI (jq 201 [.inl v3] s2) fun x3 s3 =>
      if x3 = 0 then
        some (some (.inl (-1)), s3)
      else
        if 0 ≤ v2 ∧ v2 < 4 then
          if 0 ≤ v3 ∧ v3 < 4 then
            if (s3 29 0 (Int.toNat v3)) < (s3 29 0 (Int.toNat v2)) then
              some (some (.inl (-5)), s3)
            else
              jbV (jq 211 [.inr (11, 0)] s3) fun s4 =>
              jbV (jq 224 [.inr (11, 0), .inl v2, .inl v3] s4) fun s5 =>
              jbV (jq 215 [.inr (11, 0), .inl v1] s5) fun s6 =>
              jbV (jq 213 [.inr (11, 0)] s6) fun s7 =>
              if 0 ≤ v1 ∧ v1 < 4 then
                some (some (.inl (s7 29 0 (Int.toNat v1))), s7)
              else
                none
          else
            none
        else
          none := (jev_rg jcy_225 (fun q => false) 34 0 _ _ _).trans rfl
set_option maxRecDepth 100000 in
theorem bq_226 (v1 : Int) (v2 : Int) (v3 : Int) (s : jM) : jq 226 [.inr (11, 0), .inl v1, .inl v2, .inl v3] s =
  jbI (jq 201 [.inl v1] s) fun x1 s1 =>
  if x1 = 0 then
    some (some (.inl (-1)), s1)
  else
    jbI (jq 201 [.inl v2] s1) fun x2 s2 =>
    if x2 = 0 then
      some (some (.inl (-1)), s2)
    else
      jbI (jq 201 [.inl v3] s2) fun x3 s3 =>
      if x3 = 0 then
        some (some (.inl (-1)), s3)
      else
        if 0 ≤ v2 ∧ v2 < 4 then
          if 0 ≤ v3 ∧ v3 < 4 then
            if 5 < (jw ((s3 29 0 (Int.toNat v2)) + (s3 29 0 (Int.toNat v3)))) then
              some (some (.inl (-5)), s3)
            else
              jbV (jq 211 [.inr (11, 0)] s3) fun s4 =>
              jbV (jq 214 [.inr (11, 0), .inl (jw ((s3 29 0 (Int.toNat v3)) + (s3 29 0 (Int.toNat v2))))] s4) fun s5 =>
              je 226 67 [some (.inr (11, 0)), some (.inl v1), some (.inl v2), some (.inl v3), some (.inl (s3 29 0 (Int.toNat v2))), some (.inl (s3 29 0 (Int.toNat v3))), some (.inl 0), none, none] [] s5
          else
            none
        else
          none := (jev_rg jcy_226 (fun q => Nat.beq q 67 || Nat.beq q 80) 34 0 _ _ _).trans rfl
set_option maxRecDepth 100000 in
theorem be_226_67 (v1 : Int) (v2 : Int) (v3 : Int) (v4 : Int) (v5 : Int) (v6 : Int) (o7 : Option jV) (o8 : Option jV) (s : jM) : je 226 67 [some (.inr (11, 0)), some (.inl v1), some (.inl v2), some (.inl v3), some (.inl v4), some (.inl v5), some (.inl v6), o7, o8] [] s =
  jbI (jq 203 [.inl v4] s) fun x1 s1 =>
  if v6 < x1 then
    je 226 80 [some (.inr (11, 0)), some (.inl v1), some (.inl v2), some (.inl v3), some (.inl v4), some (.inl v5), some (.inl v6), some (.inl 0), o8] [] s1
  else
    jbV (jq 215 [.inr (11, 0), .inl v1] s1) fun s2 =>
    jbV (jq 213 [.inr (11, 0)] s2) fun s3 =>
    if 0 ≤ v1 ∧ v1 < 4 then
      some (some (.inl (s3 29 0 (Int.toNat v1))), s3)
    else
      none := (jev_rg jcy_226 (fun q => Nat.beq q 67 || Nat.beq q 80) 14 67 _ _ _).trans rfl
set_option maxRecDepth 100000 in
theorem be_226_80 (v1 : Int) (v2 : Int) (v3 : Int) (v4 : Int) (v5 : Int) (v6 : Int) (v7 : Int) (o8 : Option jV) (s : jM) : je 226 80 [some (.inr (11, 0)), some (.inl v1), some (.inl v2), some (.inl v3), some (.inl v4), some (.inl v5), some (.inl v6), some (.inl v7), o8] [] s =
  jbI (jq 203 [.inl v5] s) fun x1 s1 =>
  if v7 < x1 then
    jbI (jq 205 [.inl v5, .inl v7] s1) fun x2 s2 =>
    jbI (jq 205 [.inl v4, .inl v6] s2) fun x3 s3 =>
    jbI (jq 206 [.inl v5, .inl v7] s3) fun x4 s4 =>
    jbI (jq 206 [.inl v4, .inl v6] s4) fun x5 s5 =>
    jbI (jq 204 [.inl (jw (v5 + v4)), .inl (jw (x2 + x3)), .inl (jw (x4 + x5))] s5) fun x6 s6 =>
    if 0 ≤ x6 ∧ x6 < 21 then
      if 0 ≤ (jw ((jw (21 * v2)) + v6)) ∧ (jw ((jw (21 * v2)) + v6)) < 84 then
        if 0 ≤ (jw ((jw (21 * v3)) + v7)) ∧ (jw ((jw (21 * v3)) + v7)) < 84 then
          if 0 ≤ x6 ∧ x6 < 21 then
            je 226 80 [some (.inr (11, 0)), some (.inl v1), some (.inl v2), some (.inl v3), some (.inl v4), some (.inl v5), some (.inl v6), some (.inl (jw (v7 + 1))), some (.inl x6)] [] (jup s6 47 0 (Int.toNat x6) (Int.tmod (jw ((s6 47 0 (Int.toNat x6)) + (jw ((s6 30 0 (Int.toNat (jw ((jw (21 * v2)) + v6)))) * (s6 30 0 (Int.toNat (jw ((jw (21 * v3)) + v7)))))))) 101))
          else
            none
        else
          none
      else
        none
    else
      none
  else
    je 226 67 [some (.inr (11, 0)), some (.inl v1), some (.inl v2), some (.inl v3), some (.inl v4), some (.inl v5), some (.inl (jw (v6 + 1))), some (.inl v7), o8] [] s1 := (jev_rg jcy_226 (fun q => Nat.beq q 67 || Nat.beq q 80) 54 80 _ _ _).trans rfl
set_option maxRecDepth 100000 in
theorem bq_227 (v1 : Int) (v2 : Int) (v3 : Int) (v4 : Int) (s : jM) : jq 227 [.inr (11, 0), .inl v1, .inl v2, .inl v3, .inl v4] s =
  jbI (jq 202 [.inl v1] s) fun x1 s1 =>
  if x1 = 0 then
    some (some (.inl (-1)), s1)
  else
    jbI (jq 200 [.inl v2, .inl 0, .inl 100] s1) fun x2 s2 =>
    if x2 = 0 then
      some (some (.inl (-1)), s2)
    else
      jbI (jq 200 [.inl v3, .inl 0, .inl 100] s2) fun x3 s3 =>
      if x3 = 0 then
        some (some (.inl (-1)), s3)
      else
        jbI (jq 200 [.inl v4, .inl 0, .inl 100] s3) fun x4 s4 =>
        if x4 = 0 then
          some (some (.inl (-1)), s4)
        else
          jbV (jq 211 [.inr (11, 0)] s4) fun s5 =>
          if 0 ≤ (jw (3 * v1)) ∧ (jw (3 * v1)) < 18 then
            if 0 ≤ (jw ((jw (3 * v1)) + 1)) ∧ (jw ((jw (3 * v1)) + 1)) < 18 then
              if 0 ≤ (jw ((jw (3 * v1)) + 2)) ∧ (jw ((jw (3 * v1)) + 2)) < 18 then
                jbV (jq 213 [.inr (11, 0)] (jup (jup (jup s5 31 0 (Int.toNat (jw (3 * v1))) v2) 31 0 (Int.toNat (jw ((jw (3 * v1)) + 1))) v3) 31 0 (Int.toNat (jw ((jw (3 * v1)) + 2))) v4)) fun s6 =>
                some (some (.inl 1), s6)
              else
                none
            else
              none
          else
            none := (jev_rg jcy_227 (fun q => false) 49 0 _ _ _).trans rfl
set_option maxRecDepth 100000 in
theorem bq_228 (v1 : Int) (v2 : Int) (s : jM) : jq 228 [.inr (11, 0), .inl v1, .inl v2] s =
  jbI (jq 202 [.inl v1] s) fun x1 s1 =>
  if x1 = 0 then
    some (some (.inl (-1)), s1)
  else
    jbI (jq 200 [.inl v2, .inl 0, .inl 2] s1) fun x2 s2 =>
    if x2 = 0 then
      some (some (.inl (-1)), s2)
    else
      if 0 ≤ (jw ((jw (3 * v1)) + v2)) ∧ (jw ((jw (3 * v1)) + v2)) < 18 then
        some (some (.inl (s2 31 0 (Int.toNat (jw ((jw (3 * v1)) + v2))))), s2)
      else
        none := (jev_rg jcy_228 (fun q => false) 18 0 _ _ _).trans rfl
set_option maxRecDepth 100000 in
theorem bq_229 (v1 : Int) (v2 : Int) (v3 : Int) (s : jM) : jq 229 [.inr (11, 0), .inl v1, .inl v2, .inl v3] s =
  jbI (jq 201 [.inl v1] s) fun x1 s1 =>
  if x1 = 0 then
    some (some (.inl (-1)), s1)
  else
    jbI (jq 202 [.inl v2] s1) fun x2 s2 =>
    if x2 = 0 then
      some (some (.inl (-1)), s2)
    else
      jbI (jq 200 [.inl v3, .inl 0, .inl 5] s2) fun x3 s3 =>
      if x3 = 0 then
        some (some (.inl (-1)), s3)
      else
        jbV (jq 211 [.inr (11, 0)] s3) fun s4 =>
        jbV (jq 214 [.inr (11, 0), .inl v3] s4) fun s5 =>
        je 229 37 [some (.inr (11, 0)), some (.inl v1), some (.inl v2), some (.inl v3), some (.inl 0)] [] s5 := (jev_rg jcy_229 (fun q => Nat.beq q 37) 19 0 _ _ _).trans rfl
set_option maxRecDepth 100000 in
theorem be_229_37 (v1 : Int) (v2 : Int) (v3 : Int) (v4 : Int) (s : jM) : je 229 37 [some (.inr (11, 0)), some (.inl v1), some (.inl v2), some (.inl v3), some (.inl v4)] [] s =
  jbI (jq 203 [.inl v3] s) fun x1 s1 =>
  if v4 < x1 then
    jbI (jq 210 [.inr (11, 0), .inl v3, .inl v4, .inl v2] s1) fun x2 s2 =>
    if 0 ≤ v4 ∧ v4 < 21 then
      je 229 37 [some (.inr (11, 0)), some (.inl v1), some (.inl v2), some (.inl v3), some (.inl (jw (v4 + 1)))] [] (jup s2 47 0 (Int.toNat v4) x2)
    else
      none
  else
    jbV (jq 215 [.inr (11, 0), .inl v1] s1) fun s3 =>
    jbV (jq 213 [.inr (11, 0)] s3) fun s4 =>
    some (some (.inl v3), s4) := (jev_rg jcy_229 (fun q => Nat.beq q 37) 16 37 _ _ _).trans rfl
set_option maxRecDepth 100000 in
theorem bq_230 (v1 : Int) (v2 : Int) (v3 : Int) (s : jM) : jq 230 [.inr (11, 0), .inl v1, .inl v2, .inl v3] s =
  je 230 3 [some (.inr (11, 0)), some (.inl v1), some (.inl v2), some (.inl v3), some (.inl 0)] [] s := (jev_rg jcy_230 (fun q => Nat.beq q 3) 3 0 _ _ _).trans rfl
set_option maxRecDepth 100000 in
theorem be_230_3 (v1 : Int) (v2 : Int) (v3 : Int) (v4 : Int) (s : jM) : je 230 3 [some (.inr (11, 0)), some (.inl v1), some (.inl v2), some (.inl v3), some (.inl v4)] [] s =
  if 0 ≤ v1 ∧ v1 < 4 then
    jbI (jq 203 [.inl (s 29 0 (Int.toNat v1))] s) fun x1 s1 =>
    if v4 < x1 then
      if 0 ≤ (jw ((jw (21 * v1)) + v4)) ∧ (jw ((jw (21 * v1)) + v4)) < 84 then
        if 0 ≤ v1 ∧ v1 < 4 then
          jbI (jq 210 [.inr (11, 0), .inl (s1 29 0 (Int.toNat v1)), .inl v4, .inl v2] s1) fun x2 s2 =>
          if 0 ≤ (jw ((jw (21 * v1)) + v4)) ∧ (jw ((jw (21 * v1)) + v4)) < 84 then
            je 230 3 [some (.inr (11, 0)), some (.inl v1), some (.inl v2), some (.inl v3), some (.inl (jw (v4 + 1)))] [] (jup s2 30 0 (Int.toNat (jw ((jw (21 * v1)) + v4))) (Int.tmod (jw ((s1 30 0 (Int.toNat (jw ((jw (21 * v1)) + v4)))) + (jw (v3 * x2)))) 101))
          else
            none
        else
          none
      else
        none
    else
      some (none, s1)
  else
    none := (jev_rg jcy_230 (fun q => Nat.beq q 3) 39 3 _ _ _).trans rfl
set_option maxRecDepth 100000 in
theorem bq_231 (v1 : Int) (v2 : Int) (v3 : Int) (s : jM) : jq 231 [.inr (11, 0), .inl v1, .inl v2, .inl v3] s =
  jbI (jq 201 [.inl v1] s) fun x1 s1 =>
  if x1 = 0 then
    some (some (.inl (-1)), s1)
  else
    jbI (jq 202 [.inl v2] s1) fun x2 s2 =>
    if x2 = 0 then
      some (some (.inl (-1)), s2)
    else
      jbI (jq 200 [.inl v3, .inl 0, .inl 100] s2) fun x3 s3 =>
      if x3 = 0 then
        some (some (.inl (-1)), s3)
      else
        jbV (jq 211 [.inr (11, 0)] s3) fun s4 =>
        jbV (jq 230 [.inr (11, 0), .inl v1, .inl v2, .inl v3] s4) fun s5 =>
        jbV (jq 213 [.inr (11, 0)] s5) fun s6 =>
        if 0 ≤ v1 ∧ v1 < 4 then
          some (some (.inl (s6 29 0 (Int.toNat v1))), s6)
        else
          none := (jev_rg jcy_231 (fun q => false) 25 0 _ _ _).trans rfl
set_option maxRecDepth 100000 in
theorem bq_232 (v1 : Int) (v2 : Int) (s : jM) : jq 232 [.inr (11, 0), .inl v1, .inl v2] s =
  je 232 5 [some (.inr (11, 0)), some (.inl v1), some (.inl v2), some (.inl 0), some (.inl 0)] [] s := (jev_rg jcy_232 (fun q => Nat.beq q 5) 5 0 _ _ _).trans rfl
set_option maxRecDepth 100000 in
theorem be_232_5 (v1 : Int) (v2 : Int) (v3 : Int) (v4 : Int) (s : jM) : je 232 5 [some (.inr (11, 0)), some (.inl v1), some (.inl v2), some (.inl v3), some (.inl v4)] [] s =
  if 0 ≤ v1 ∧ v1 < 4 then
    jbI (jq 203 [.inl (s 29 0 (Int.toNat v1))] s) fun x1 s1 =>
    if v4 < x1 then
      if 0 ≤ (jw ((jw (21 * v1)) + v4)) ∧ (jw ((jw (21 * v1)) + v4)) < 84 then
        if 0 ≤ v1 ∧ v1 < 4 then
          jbI (jq 210 [.inr (11, 0), .inl (s1 29 0 (Int.toNat v1)), .inl v4, .inl v2] s1) fun x2 s2 =>
          je 232 5 [some (.inr (11, 0)), some (.inl v1), some (.inl v2), some (.inl (Int.tmod (jw (v3 + (jw ((s1 30 0 (Int.toNat (jw ((jw (21 * v1)) + v4)))) * x2)))) 101)), some (.inl (jw (v4 + 1)))] [] s2
        else
          none
      else
        none
    else
      some (some (.inl v3), s1)
  else
    none := (jev_rg jcy_232 (fun q => Nat.beq q 5) 32 5 _ _ _).trans rfl
set_option maxRecDepth 100000 in
theorem bq_233 (v1 : Int) (v2 : Int) (s : jM) : jq 233 [.inr (11, 0), .inl v1, .inl v2] s =
  jbI (jq 201 [.inl v1] s) fun x1 s1 =>
  if x1 = 0 then
    some (some (.inl (-1)), s1)
  else
    jbI (jq 202 [.inl v2] s1) fun x2 s2 =>
    if x2 = 0 then
      some (some (.inl (-1)), s2)
    else
      jbI (jq 232 [.inr (11, 0), .inl v1, .inl v2] s2) fun x3 s3 =>
      some (some (.inl x3), s3) := (jev_rg jcy_233 (fun q => false) 12 0 _ _ _).trans rfl
set_option maxRecDepth 100000 in
theorem bq_234 (v1 : Int) (v2 : Int) (s : jM) : jq 234 [.inr (11, 0), .inl v1, .inl v2] s =
  jbI (jq 201 [.inl v1] s) fun x1 s1 =>
  if x1 = 0 then
    some (some (.inl (-1)), s1)
  else
    jbI (jq 201 [.inl v2] s1) fun x2 s2 =>
    if x2 = 0 then
      some (some (.inl (-1)), s2)
    else
      if 0 ≤ v1 ∧ v1 < 4 then
        if 0 ≤ v2 ∧ v2 < 4 then
          if (s2 29 0 (Int.toNat v2)) < (s2 29 0 (Int.toNat v1)) then
            some (some (.inl (-5)), s2)
          else
            jbV (jq 224 [.inr (11, 0), .inl v1, .inl v2] s2) fun s3 =>
            je 234 42 [some (.inr (11, 0)), some (.inl v1), some (.inl v2), some (.inl 0)] [] s3
        else
          none
      else
        none := (jev_rg jcy_234 (fun q => Nat.beq q 42) 22 0 _ _ _).trans rfl
set_option maxRecDepth 100000 in
theorem be_234_42 (v1 : Int) (v2 : Int) (v3 : Int) (s : jM) : je 234 42 [some (.inr (11, 0)), some (.inl v1), some (.inl v2), some (.inl v3)] [] s =
  jbI (jq 203 [.inl (s 11 0 21)] s) fun x1 s1 =>
  if v3 < x1 then
    if 0 ≤ v3 ∧ v3 < 21 then
      if (s1 47 0 (Int.toNat v3)) = 0 then
        je 234 42 [some (.inr (11, 0)), some (.inl v1), some (.inl v2), some (.inl (jw (v3 + 1)))] [] s1
      else
        some (some (.inl 0), s1)
    else
      none
  else
    some (some (.inl 1), s1) := (jev_rg jcy_234 (fun q => Nat.beq q 42) 13 42 _ _ _).trans rfl
set_option maxRecDepth 100000 in
theorem bq_235 (v1 : Int) (s : jM) : jq 235 [.inr (11, 0), .inl v1] s =
  je 235 2 [some (.inr (11, 0)), some (.inl v1), some (.inl 0), none, none] [] s := (jev_rg jcy_235 (fun q => Nat.beq q 2 || Nat.beq q 25 || Nat.beq q 76 || Nat.beq q 133 || Nat.beq q 173 || Nat.beq q 215) 3 0 _ _ _).trans rfl
set_option maxRecDepth 100000 in
theorem be_235_2 (v1 : Int) (v2 : Int) (o3 : Option jV) (o4 : Option jV) (s : jM) : je 235 2 [some (.inr (11, 0)), some (.inl v1), some (.inl v2), o3, o4] [] s =
  if v2 < (s 11 0 23) then
    if 0 ≤ v2 ∧ v2 < 21 then
      if 0 ≤ (s 48 0 (Int.toNat v2)) ∧ (s 48 0 (Int.toNat v2)) < 21 then
        je 235 25 [some (.inr (11, 0)), some (.inl v1), some (.inl v2), some (.inl (s 51 0 (Int.toNat (s 48 0 (Int.toNat v2))))), some (.inl 0)] [] s
      else
        none
    else
      none
  else
    je 235 133 [some (.inr (11, 0)), some (.inl v1), some (.inl 0), o3, o4] [] s := (jev_rg jcy_235 (fun q => Nat.beq q 2 || Nat.beq q 25 || Nat.beq q 76 || Nat.beq q 133 || Nat.beq q 173 || Nat.beq q 215) 15 2 _ _ _).trans rfl
set_option maxRecDepth 100000 in
theorem be_235_25 (v1 : Int) (v2 : Int) (v3 : Int) (v4 : Int) (s : jM) : je 235 25 [some (.inr (11, 0)), some (.inl v1), some (.inl v2), some (.inl v3), some (.inl v4)] [] s =
  if v4 < v1 then
    if v3 = 0 then
      je 235 76 [some (.inr (11, 0)), some (.inl v1), some (.inl v2), some (.inl v3), some (.inl 0)] [] s
    else
      if 0 ≤ v4 ∧ v4 < 21 then
        if 0 ≤ (jw ((jw (21 * v2)) + v4)) ∧ (jw ((jw (21 * v2)) + v4)) < 441 then
          jbI (jq 209 [.inl (jw ((s 51 0 (Int.toNat v4)) - (jw (v3 * (s 49 0 (Int.toNat (jw ((jw (21 * v2)) + v4))))))))] s) fun x1 s1 =>
          if 0 ≤ v4 ∧ v4 < 21 then
            je 235 25 [some (.inr (11, 0)), some (.inl v1), some (.inl v2), some (.inl v3), some (.inl (jw (v4 + 1)))] [] (jup s1 51 0 (Int.toNat v4) x1)
          else
            none
        else
          none
      else
        none
  else
    je 235 76 [some (.inr (11, 0)), some (.inl v1), some (.inl v2), some (.inl v3), some (.inl 0)] [] s := (jev_rg jcy_235 (fun q => Nat.beq q 2 || Nat.beq q 25 || Nat.beq q 76 || Nat.beq q 133 || Nat.beq q 173 || Nat.beq q 215) 28 25 _ _ _).trans rfl
set_option maxRecDepth 100000 in
theorem be_235_76 (v1 : Int) (v2 : Int) (v3 : Int) (v4 : Int) (s : jM) : je 235 76 [some (.inr (11, 0)), some (.inl v1), some (.inl v2), some (.inl v3), some (.inl v4)] [] s =
  if v4 < 21 then
    if v3 = 0 then
      je 235 2 [some (.inr (11, 0)), some (.inl v1), some (.inl (jw (v2 + 1))), some (.inl v3), some (.inl v4)] [] s
    else
      if 0 ≤ v4 ∧ v4 < 21 then
        if 0 ≤ (jw ((jw (21 * v2)) + v4)) ∧ (jw ((jw (21 * v2)) + v4)) < 441 then
          jbI (jq 209 [.inl (jw ((s 52 0 (Int.toNat v4)) - (jw (v3 * (s 50 0 (Int.toNat (jw ((jw (21 * v2)) + v4))))))))] s) fun x1 s1 =>
          if 0 ≤ v4 ∧ v4 < 21 then
            je 235 76 [some (.inr (11, 0)), some (.inl v1), some (.inl v2), some (.inl v3), some (.inl (jw (v4 + 1)))] [] (jup s1 52 0 (Int.toNat v4) x1)
          else
            none
        else
          none
      else
        none
  else
    je 235 2 [some (.inr (11, 0)), some (.inl v1), some (.inl (jw (v2 + 1))), some (.inl v3), some (.inl v4)] [] s := (jev_rg jcy_235 (fun q => Nat.beq q 2 || Nat.beq q 25 || Nat.beq q 76 || Nat.beq q 133 || Nat.beq q 173 || Nat.beq q 215) 28 76 _ _ _).trans rfl
set_option maxRecDepth 100000 in
theorem be_235_133 (v1 : Int) (v2 : Int) (o3 : Option jV) (o4 : Option jV) (s : jM) : je 235 133 [some (.inr (11, 0)), some (.inl v1), some (.inl v2), o3, o4] [] s =
  if v2 < v1 then
    if 0 ≤ v2 ∧ v2 < 21 then
      if (s 51 0 (Int.toNat v2)) = 0 then
        je 235 133 [some (.inr (11, 0)), some (.inl v1), some (.inl (jw (v2 + 1))), o3, o4] [] s
      else
        if v2 = v1 then
          some (some (.inl 0), s)
        else
          if 0 ≤ v2 ∧ v2 < 21 then
            jbI (jq 208 [.inl (s 51 0 (Int.toNat v2))] s) fun x1 s1 =>
            je 235 173 [some (.inr (11, 0)), some (.inl v1), some (.inl v2), some (.inl x1), some (.inl 0)] [] s1
          else
            none
    else
      none
  else
    if v2 = v1 then
      some (some (.inl 0), s)
    else
      if 0 ≤ v2 ∧ v2 < 21 then
        jbI (jq 208 [.inl (s 51 0 (Int.toNat v2))] s) fun x2 s2 =>
        je 235 173 [some (.inr (11, 0)), some (.inl v1), some (.inl v2), some (.inl x2), some (.inl 0)] [] s2
      else
        none := (jev_rg jcy_235 (fun q => Nat.beq q 2 || Nat.beq q 25 || Nat.beq q 76 || Nat.beq q 133 || Nat.beq q 173 || Nat.beq q 215) 20 133 _ _ _).trans rfl
set_option maxRecDepth 100000 in
theorem be_235_173 (v1 : Int) (v2 : Int) (v3 : Int) (v4 : Int) (s : jM) : je 235 173 [some (.inr (11, 0)), some (.inl v1), some (.inl v2), some (.inl v3), some (.inl v4)] [] s =
  if v4 < v1 then
    if 0 ≤ v4 ∧ v4 < 21 then
      if 0 ≤ (jw ((jw (21 * (s 11 0 23))) + v4)) ∧ (jw ((jw (21 * (s 11 0 23))) + v4)) < 441 then
        je 235 173 [some (.inr (11, 0)), some (.inl v1), some (.inl v2), some (.inl v3), some (.inl (jw (v4 + 1)))] [] (jup s 49 0 (Int.toNat (jw ((jw (21 * (s 11 0 23))) + v4))) (Int.tmod (jw ((s 51 0 (Int.toNat v4)) * v3)) 101))
      else
        none
    else
      none
  else
    je 235 215 [some (.inr (11, 0)), some (.inl v1), some (.inl v2), some (.inl v3), some (.inl 0)] [] s := (jev_rg jcy_235 (fun q => Nat.beq q 2 || Nat.beq q 25 || Nat.beq q 76 || Nat.beq q 133 || Nat.beq q 173 || Nat.beq q 215) 23 173 _ _ _).trans rfl
set_option maxRecDepth 100000 in
theorem be_235_215 (v1 : Int) (v2 : Int) (v3 : Int) (v4 : Int) (s : jM) : je 235 215 [some (.inr (11, 0)), some (.inl v1), some (.inl v2), some (.inl v3), some (.inl v4)] [] s =
  if v4 < 21 then
    if 0 ≤ v4 ∧ v4 < 21 then
      if 0 ≤ (jw ((jw (21 * (s 11 0 23))) + v4)) ∧ (jw ((jw (21 * (s 11 0 23))) + v4)) < 441 then
        je 235 215 [some (.inr (11, 0)), some (.inl v1), some (.inl v2), some (.inl v3), some (.inl (jw (v4 + 1)))] [] (jup s 50 0 (Int.toNat (jw ((jw (21 * (s 11 0 23))) + v4))) (Int.tmod (jw ((s 52 0 (Int.toNat v4)) * v3)) 101))
      else
        none
    else
      none
  else
    if 0 ≤ (s 11 0 23) ∧ (s 11 0 23) < 21 then
      some (some (.inl 1), (jup (jup s 48 0 (Int.toNat (s 11 0 23)) v2) 11 0 23 (jw ((s 11 0 23) + 1))))
    else
      none := (jev_rg jcy_235 (fun q => Nat.beq q 2 || Nat.beq q 25 || Nat.beq q 76 || Nat.beq q 133 || Nat.beq q 173 || Nat.beq q 215) 23 215 _ _ _).trans rfl
set_option maxRecDepth 100000 in
theorem bq_236 (v1 : Int) (v2 : Int) (v3 : Int) (s : jM) : jq 236 [.inr (11, 0), .inl v1, .inl v2, .inl v3] s =
  if 0 ≤ v1 ∧ v1 < 4 then
    je 236 11 [some (.inr (11, 0)), some (.inl v1), some (.inl v2), some (.inl v3), some (.inl (s 29 0 (Int.toNat v1))), some (.inl 0), none, none] [] s
  else
    none := (jev_rg jcy_236 (fun q => Nat.beq q 11 || Nat.beq q 53) 8 0 _ _ _).trans rfl
set_option maxRecDepth 100000 in
theorem be_236_11 (v1 : Int) (v2 : Int) (v3 : Int) (v4 : Int) (v5 : Int) (o6 : Option jV) (o7 : Option jV) (s : jM) : je 236 11 [some (.inr (11, 0)), some (.inl v1), some (.inl v2), some (.inl v3), some (.inl v4), some (.inl v5), o6, o7] [] s =
  if v5 < 21 then
    if 0 ≤ v5 ∧ v5 < 21 then
      if v5 = v3 then
        if 0 ≤ v5 ∧ v5 < 21 then
          je 236 11 [some (.inr (11, 0)), some (.inl v1), some (.inl v2), some (.inl v3), some (.inl v4), some (.inl (jw (v5 + 1))), o6, o7] [] (jup (jup s 51 0 (Int.toNat v5) 0) 52 0 (Int.toNat v5) 1)
        else
          none
      else
        if 0 ≤ v5 ∧ v5 < 21 then
          je 236 11 [some (.inr (11, 0)), some (.inl v1), some (.inl v2), some (.inl v3), some (.inl v4), some (.inl (jw (v5 + 1))), o6, o7] [] (jup (jup s 51 0 (Int.toNat v5) 0) 52 0 (Int.toNat v5) 0)
        else
          none
    else
      none
  else
    je 236 53 [some (.inr (11, 0)), some (.inl v1), some (.inl v2), some (.inl v3), some (.inl v4), some (.inl 0), o6, o7] [] s := (jev_rg jcy_236 (fun q => Nat.beq q 11 || Nat.beq q 53) 20 11 _ _ _).trans rfl
set_option maxRecDepth 100000 in
theorem be_236_53 (v1 : Int) (v2 : Int) (v3 : Int) (v4 : Int) (v5 : Int) (o6 : Option jV) (o7 : Option jV) (s : jM) : je 236 53 [some (.inr (11, 0)), some (.inl v1), some (.inl v2), some (.inl v3), some (.inl v4), some (.inl v5), o6, o7] [] s =
  jbI (jq 203 [.inl v4] s) fun x1 s1 =>
  if v5 < x1 then
    jbI (jq 205 [.inl v4, .inl v5] s1) fun x2 s2 =>
    jbI (jq 205 [.inl v2, .inl v3] s2) fun x3 s3 =>
    jbI (jq 206 [.inl v4, .inl v5] s3) fun x4 s4 =>
    jbI (jq 206 [.inl v2, .inl v3] s4) fun x5 s5 =>
    if (jw (x2 - x3)) < 0 then
      je 236 53 [some (.inr (11, 0)), some (.inl v1), some (.inl v2), some (.inl v3), some (.inl v4), some (.inl (jw (v5 + 1))), some (.inl (jw (x2 - x3))), some (.inl (jw (x4 - x5)))] [] s5
    else
      if (jw (x4 - x5)) < 0 then
        je 236 53 [some (.inr (11, 0)), some (.inl v1), some (.inl v2), some (.inl v3), some (.inl v4), some (.inl (jw (v5 + 1))), some (.inl (jw (x2 - x3))), some (.inl (jw (x4 - x5)))] [] s5
      else
        if (jw (v4 - v2)) < (jw ((jw (x2 - x3)) + (jw (x4 - x5)))) then
          je 236 53 [some (.inr (11, 0)), some (.inl v1), some (.inl v2), some (.inl v3), some (.inl v4), some (.inl (jw (v5 + 1))), some (.inl (jw (x2 - x3))), some (.inl (jw (x4 - x5)))] [] s5
        else
          jbI (jq 204 [.inl (jw (v4 - v2)), .inl (jw (x2 - x3)), .inl (jw (x4 - x5))] s5) fun x6 s6 =>
          if 0 ≤ (jw ((jw (21 * v1)) + v5)) ∧ (jw ((jw (21 * v1)) + v5)) < 84 then
            if 0 ≤ x6 ∧ x6 < 21 then
              je 236 53 [some (.inr (11, 0)), some (.inl v1), some (.inl v2), some (.inl v3), some (.inl v4), some (.inl (jw (v5 + 1))), some (.inl (jw (x2 - x3))), some (.inl (jw (x4 - x5)))] [] (jup s6 51 0 (Int.toNat x6) (s6 30 0 (Int.toNat (jw ((jw (21 * v1)) + v5)))))
            else
              none
          else
            none
  else
    some (none, s1) := (jev_rg jcy_236 (fun q => Nat.beq q 11 || Nat.beq q 53) 51 53 _ _ _).trans rfl
set_option maxRecDepth 100000 in
theorem bq_237 (v1 : Int) (v2 : Int) (s : jM) : jq 237 [.inr (11, 0), .inl v1, .inl v2] s =
  jbI (jq 201 [.inl v1] s) fun x1 s1 =>
  if x1 = 0 then
    some (some (.inl (-1)), s1)
  else
    if 0 ≤ v1 ∧ v1 < 4 then
      jbI (jq 200 [.inl v2, .inl 0, .inl (s1 29 0 (Int.toNat v1))] s1) fun x2 s2 =>
      if x2 = 0 then
        some (some (.inl (-1)), s2)
      else
        je 237 30 [some (.inr (11, 0)), some (.inl v1), some (.inl v2), some (.inl 0)] [] (jup s2 11 0 23 0)
    else
      none := (jev_rg jcy_237 (fun q => Nat.beq q 30) 17 0 _ _ _).trans rfl
set_option maxRecDepth 100000 in
theorem be_237_30 (v1 : Int) (v2 : Int) (v3 : Int) (s : jM) : je 237 30 [some (.inr (11, 0)), some (.inl v1), some (.inl v2), some (.inl v3)] [] s =
  jbI (jq 203 [.inl v2] s) fun x1 s1 =>
  if v3 < x1 then
    jbV (jq 236 [.inr (11, 0), .inl v1, .inl v2, .inl v3] s1) fun s2 =>
    if 0 ≤ v1 ∧ v1 < 4 then
      jbI (jq 203 [.inl (jw ((s2 29 0 (Int.toNat v1)) - v2))] s2) fun x3 s3 =>
      jbI (jq 235 [.inr (11, 0), .inl x3] s3) fun x4 s4 =>
      je 237 30 [some (.inr (11, 0)), some (.inl v1), some (.inl v2), some (.inl (jw (v3 + 1)))] [] s4
    else
      none
  else
    some (some (.inl (s1 11 0 23)), s1) := (jev_rg jcy_237 (fun q => Nat.beq q 30) 22 30 _ _ _).trans rfl
set_option maxRecDepth 100000 in
theorem bq_238 (v1 : Int) (v2 : Int) (v3 : Int) (v4 : Int) (s : jM) : jq 238 [.inr (11, 0), .inl v1, .inl v2, .inl v3, .inl v4] s =
  jbI (jq 201 [.inl v1] s) fun x1 s1 =>
  if x1 = 0 then
    some (some (.inl (-1)), s1)
  else
    if 0 ≤ v1 ∧ v1 < 4 then
      jbI (jq 200 [.inl v2, .inl 0, .inl (s1 29 0 (Int.toNat v1))] s1) fun x2 s2 =>
      if x2 = 0 then
        some (some (.inl (-1)), s2)
      else
        if v3 < (-1) then
          some (some (.inl (-1)), s2)
        else
          if v3 < 0 then
            je 238 58 [some (.inr (11, 0)), some (.inl v1), some (.inl v2), some (.inl v3), some (.inl v4), some (.inl 0), some (.inl 0)] [] (jup s2 11 0 23 0)
          else
            jbI (jq 203 [.inl v2] s2) fun x3 s3 =>
            jbI (jq 200 [.inl v4, .inl 0, .inl (jw (x3 - 1))] s3) fun x4 s4 =>
            if x4 = 0 then
              some (some (.inl (-1)), s4)
            else
              je 238 58 [some (.inr (11, 0)), some (.inl v1), some (.inl v2), some (.inl v3), some (.inl v4), some (.inl 0), some (.inl 0)] [] (jup s4 11 0 23 0)
    else
      none := (jev_rg jcy_238 (fun q => Nat.beq q 58) 32 0 _ _ _).trans rfl
set_option maxRecDepth 100000 in
theorem be_238_58 (v1 : Int) (v2 : Int) (v3 : Int) (v4 : Int) (v5 : Int) (v6 : Int) (s : jM) : je 238 58 [some (.inr (11, 0)), some (.inl v1), some (.inl v2), some (.inl v3), some (.inl v4), some (.inl v5), some (.inl v6)] [] s =
  jbI (jq 203 [.inl v2] s) fun x1 s1 =>
  if v6 < x1 then
    jbV (jq 236 [.inr (11, 0), .inl v1, .inl v2, .inl v6] s1) fun s2 =>
    if 0 ≤ v1 ∧ v1 < 4 then
      jbI (jq 203 [.inl (jw ((s2 29 0 (Int.toNat v1)) - v2))] s2) fun x3 s3 =>
      jbI (jq 235 [.inr (11, 0), .inl x3] s3) fun x4 s4 =>
      if x4 = 0 then
        if v5 = v3 then
          if 0 ≤ v4 ∧ v4 < 21 then
            some (some (.inl (s4 52 0 (Int.toNat v4))), s4)
          else
            none
        else
          je 238 58 [some (.inr (11, 0)), some (.inl v1), some (.inl v2), some (.inl v3), some (.inl v4), some (.inl (jw (v5 + 1))), some (.inl (jw (v6 + 1)))] [] s4
      else
        je 238 58 [some (.inr (11, 0)), some (.inl v1), some (.inl v2), some (.inl v3), some (.inl v4), some (.inl v5), some (.inl (jw (v6 + 1)))] [] s4
    else
      none
  else
    if v3 = (-1) then
      some (some (.inl v5), s1)
    else
      some (some (.inl (-2)), s1) := (jev_rg jcy_238 (fun q => Nat.beq q 58) 27 58 _ _ _).trans rfl
set_option maxRecDepth 100000 in
theorem bq_239 (v1 : Int) (v2 : Int) (s : jM) : jq 239 [.inr (11, 0), .inl v1, .inl v2] s =
  if 0 ≤ v1 ∧ v1 < 4 then
    jbI (jq 204 [.inl (s 29 0 (Int.toNat v1)), .inl (jw ((s 29 0 (Int.toNat v1)) - v2)), .inl v2] s) fun x1 s1 =>
    if 0 ≤ (jw ((jw (21 * v1)) + x1)) ∧ (jw ((jw (21 * v1)) + x1)) < 84 then
      some (some (.inl (s1 30 0 (Int.toNat (jw ((jw (21 * v1)) + x1))))), s1)
    else
      none
  else
    none := (jev_rg jcy_239 (fun q => false) 19 0 _ _ _).trans rfl
set_option maxRecDepth 100000 in
theorem bq_240 (v1 : Int) (v2 : Int) (s : jM) : jq 240 [.inr (11, 0), .inl v1, .inl v2] s =
  if 0 ≤ v1 ∧ v1 < 4 then
    if (s 29 0 (Int.toNat v1)) < v2 then
      je 240 15 [some (.inr (11, 0)), some (.inl v1), some (.inl v2), some (.inl (s 29 0 (Int.toNat v1))), some (.inl 1), none, none] [] s
    else
      je 240 55 [some (.inr (11, 0)), some (.inl v1), some (.inl v2), some (.inl (s 29 0 (Int.toNat v1))), some (.inl 0), some (.inl v2), none] [] (jup s 11 0 23 0)
  else
    none := (jev_rg jcy_240 (fun q => Nat.beq q 15 || Nat.beq q 55 || Nat.beq q 63 || Nat.beq q 142) 16 0 _ _ _).trans rfl
set_option maxRecDepth 100000 in
theorem be_240_15 (v1 : Int) (v2 : Int) (v3 : Int) (v4 : Int) (o5 : Option jV) (o6 : Option jV) (s : jM) : je 240 15 [some (.inr (11, 0)), some (.inl v1), some (.inl v2), some (.inl v3), some (.inl v4), o5, o6] [] s =
  if v2 < v4 then
    some (some (.inl 1), (jup s 53 0 (Int.toNat 0) 1))
  else
    if 0 ≤ v4 ∧ v4 < 7 then
      je 240 15 [some (.inr (11, 0)), some (.inl v1), some (.inl v2), some (.inl v3), some (.inl (jw (v4 + 1))), o5, o6] [] (jup s 53 0 (Int.toNat v4) 0)
    else
      none := (jev_rg jcy_240 (fun q => Nat.beq q 15 || Nat.beq q 55 || Nat.beq q 63 || Nat.beq q 142) 11 15 _ _ _).trans rfl
set_option maxRecDepth 100000 in
theorem be_240_55 (v1 : Int) (v2 : Int) (v3 : Int) (v4 : Int) (v5 : Int) (o6 : Option jV) (s : jM) : je 240 55 [some (.inr (11, 0)), some (.inl v1), some (.inl v2), some (.inl v3), some (.inl v4), some (.inl v5), o6] [] s =
  if v5 < 0 then
    if v4 = 0 ∨ v4 = 1 then some (some (.inl v4), s) else none
  else
    je 240 63 [some (.inr (11, 0)), some (.inl v1), some (.inl v2), some (.inl v3), some (.inl v4), some (.inl v5), some (.inl 0)] [] s := (jev_rg jcy_240 (fun q => Nat.beq q 15 || Nat.beq q 55 || Nat.beq q 63 || Nat.beq q 142) 5 55 _ _ _).trans rfl
set_option maxRecDepth 100000 in
theorem be_240_63 (v1 : Int) (v2 : Int) (v3 : Int) (v4 : Int) (v5 : Int) (v6 : Int) (s : jM) : je 240 63 [some (.inr (11, 0)), some (.inl v1), some (.inl v2), some (.inl v3), some (.inl v4), some (.inl v5), some (.inl v6)] [] s =
  if v6 < 21 then
    if (jw (v3 - v2)) < v6 then
      if 0 ≤ v6 ∧ v6 < 21 then
        if v6 = v5 then
          if 0 ≤ v6 ∧ v6 < 21 then
            je 240 63 [some (.inr (11, 0)), some (.inl v1), some (.inl v2), some (.inl v3), some (.inl v4), some (.inl v5), some (.inl (jw (v6 + 1)))] [] (jup (jup s 51 0 (Int.toNat v6) 0) 52 0 (Int.toNat v6) 1)
          else
            none
        else
          if 0 ≤ v6 ∧ v6 < 21 then
            je 240 63 [some (.inr (11, 0)), some (.inl v1), some (.inl v2), some (.inl v3), some (.inl v4), some (.inl v5), some (.inl (jw (v6 + 1)))] [] (jup (jup s 51 0 (Int.toNat v6) 0) 52 0 (Int.toNat v6) 0)
          else
            none
      else
        none
    else
      jbI (jq 239 [.inr (11, 0), .inl v1, .inl (jw (v6 + v5))] s) fun x1 s1 =>
      if 0 ≤ v6 ∧ v6 < 21 then
        if v6 = v5 then
          if 0 ≤ v6 ∧ v6 < 21 then
            je 240 63 [some (.inr (11, 0)), some (.inl v1), some (.inl v2), some (.inl v3), some (.inl v4), some (.inl v5), some (.inl (jw (v6 + 1)))] [] (jup (jup s1 51 0 (Int.toNat v6) x1) 52 0 (Int.toNat v6) 1)
          else
            none
        else
          if 0 ≤ v6 ∧ v6 < 21 then
            je 240 63 [some (.inr (11, 0)), some (.inl v1), some (.inl v2), some (.inl v3), some (.inl v4), some (.inl v5), some (.inl (jw (v6 + 1)))] [] (jup (jup s1 51 0 (Int.toNat v6) x1) 52 0 (Int.toNat v6) 0)
          else
            none
      else
        none
  else
    jbI (jq 235 [.inr (11, 0), .inl (jw ((jw (v3 - v2)) + 1))] s) fun x2 s2 =>
    if x2 = 0 then
      je 240 142 [some (.inr (11, 0)), some (.inl v1), some (.inl v2), some (.inl v3), some (.inl 1), some (.inl v5), some (.inl 0)] [] s2
    else
      je 240 55 [some (.inr (11, 0)), some (.inl v1), some (.inl v2), some (.inl v3), some (.inl v4), some (.inl (jw (v5 + (-1)))), some (.inl v6)] [] s2 := (jev_rg jcy_240 (fun q => Nat.beq q 15 || Nat.beq q 55 || Nat.beq q 63 || Nat.beq q 142) 31 63 _ _ _).trans rfl
set_option maxRecDepth 100000 in
theorem be_240_142 (v1 : Int) (v2 : Int) (v3 : Int) (v4 : Int) (v5 : Int) (v6 : Int) (s : jM) : je 240 142 [some (.inr (11, 0)), some (.inl v1), some (.inl v2), some (.inl v3), some (.inl v4), some (.inl v5), some (.inl v6)] [] s =
  if v2 < v6 then
    je 240 55 [some (.inr (11, 0)), some (.inl v1), some (.inl v2), some (.inl v3), some (.inl v4), some (.inl (jw (v5 + (-1)))), some (.inl v6)] [] s
  else
    if 0 ≤ v6 ∧ v6 < 21 then
      if 0 ≤ v6 ∧ v6 < 7 then
        je 240 142 [some (.inr (11, 0)), some (.inl v1), some (.inl v2), some (.inl v3), some (.inl v4), some (.inl v5), some (.inl (jw (v6 + 1)))] [] (jup s 53 0 (Int.toNat v6) (s 52 0 (Int.toNat v6)))
      else
        none
    else
      none := (jev_rg jcy_240 (fun q => Nat.beq q 15 || Nat.beq q 55 || Nat.beq q 63 || Nat.beq q 142) 14 142 _ _ _).trans rfl
set_option maxRecDepth 100000 in
theorem bq_241 (v1 : Int) (s : jM) : jq 241 [.inr (11, 0), .inl v1] s =
  jbI (jq 220 [.inr (11, 0), .inl v1] s) fun x1 s1 =>
  if x1 = 0 then
    some (some (.inl 0), s1)
  else
    jbI (jq 221 [.inr (11, 0), .inl v1] s1) fun x2 s2 =>
    if 0 < x2 then
      some (some (.inl 1), s2)
    else
      some (some (.inl 0), s2) := (jev_rg jcy_241 (fun q => false) 11 0 _ _ _).trans rfl
set_option maxRecDepth 100000 in
theorem bq_242 (v1 : Int) (s : jM) : jq 242 [.inr (11, 0), .inl v1] s =
  je 242 5 [some (.inr (11, 0)), some (.inl v1), none, none, none] [] (jup s 11 0 29 0) := (jev_rg jcy_242 (fun q => Nat.beq q 5 || Nat.beq q 37 || Nat.beq q 48) 4 0 _ _ _).trans rfl
set_option maxRecDepth 100000 in
theorem be_242_5 (v1 : Int) (o2 : Option jV) (o3 : Option jV) (o4 : Option jV) (s : jM) : je 242 5 [some (.inr (11, 0)), some (.inl v1), o2, o3, o4] [] s =
  jbI (jq 240 [.inr (11, 0), .inl v1, .inl (s 11 0 29)] s) fun x1 s1 =>
  if x1 = 0 then
    je 242 5 [some (.inr (11, 0)), some (.inl v1), o2, o3, o4] [] (jup s1 11 0 29 (jw ((s1 11 0 29) + 1)))
  else
    je 242 37 [some (.inr (11, 0)), some (.inl v1), some (.inl 0), o3, o4] [] (jup s1 11 0 31 0) := (jev_rg jcy_242 (fun q => Nat.beq q 5 || Nat.beq q 37 || Nat.beq q 48) 14 5 _ _ _).trans rfl
set_option maxRecDepth 100000 in
theorem be_242_37 (v1 : Int) (v2 : Int) (o3 : Option jV) (o4 : Option jV) (s : jM) : je 242 37 [some (.inr (11, 0)), some (.inl v1), some (.inl v2), o3, o4] [] s =
  if v2 < 101 then
    je 242 48 [some (.inr (11, 0)), some (.inl v1), some (.inl v2), some (.inl 0), some (.inl 0)] [] s
  else
    if 0 ≤ (s 11 0 29) ∧ (s 11 0 29) < 7 then
      if (s 53 0 (Int.toNat (s 11 0 29))) = 0 then
        if 0 ≤ (s 11 0 31) ∧ (s 11 0 31) < 7 then
          some (none, (jup (jup s 54 0 (Int.toNat (s 11 0 31)) 101) 11 0 31 (jw ((s 11 0 31) + 1))))
        else
          none
      else
        some (none, s)
    else
      none := (jev_rg jcy_242 (fun q => Nat.beq q 5 || Nat.beq q 37 || Nat.beq q 48) 22 37 _ _ _).trans rfl
set_option maxRecDepth 100000 in
theorem be_242_48 (v1 : Int) (v2 : Int) (v3 : Int) (v4 : Int) (s : jM) : je 242 48 [some (.inr (11, 0)), some (.inl v1), some (.inl v2), some (.inl v3), some (.inl v4)] [] s =
  if (s 11 0 29) < v4 then
    if v3 = 0 then
      if 0 ≤ (s 11 0 31) ∧ (s 11 0 31) < 7 then
        je 242 37 [some (.inr (11, 0)), some (.inl v1), some (.inl (jw (v2 + 1))), some (.inl v3), some (.inl v4)] [] (jup (jup s 54 0 (Int.toNat (s 11 0 31)) v2) 11 0 31 (jw ((s 11 0 31) + 1)))
      else
        none
    else
      je 242 37 [some (.inr (11, 0)), some (.inl v1), some (.inl (jw (v2 + 1))), some (.inl v3), some (.inl v4)] [] s
  else
    if 0 ≤ v4 ∧ v4 < 7 then
      jbI (jq 207 [.inl v2, .inl v4] s) fun x1 s1 =>
      je 242 48 [some (.inr (11, 0)), some (.inl v1), some (.inl v2), some (.inl (Int.tmod (jw (v3 + (jw ((s 53 0 (Int.toNat v4)) * x1)))) 101)), some (.inl (jw (v4 + 1)))] [] s1
    else
      none := (jev_rg jcy_242 (fun q => Nat.beq q 5 || Nat.beq q 37 || Nat.beq q 48) 21 48 _ _ _).trans rfl
set_option maxRecDepth 100000 in
theorem bq_243 (v1 : Int) (s : jM) : jq 243 [.inr (11, 0), .inl v1] s =
  jbI (jq 201 [.inl v1] s) fun x1 s1 =>
  if x1 = 0 then
    some (some (.inl (-1)), s1)
  else
    jbI (jq 241 [.inr (11, 0), .inl v1] s1) fun x2 s2 =>
    if x2 = 0 then
      some (some (.inl (-5)), s2)
    else
      jbV (jq 242 [.inr (11, 0), .inl v1] s2) fun s3 =>
      some (some (.inl (s3 11 0 29)), s3) := (jev_rg jcy_243 (fun q => false) 13 0 _ _ _).trans rfl
set_option maxRecDepth 100000 in
theorem bq_244 (v1 : Int) (v2 : Int) (s : jM) : jq 244 [.inr (11, 0), .inl v1, .inl v2] s =
  jbI (jq 201 [.inl v1] s) fun x1 s1 =>
  if x1 = 0 then
    some (some (.inl (-1)), s1)
  else
    if v2 < 0 then
      some (some (.inl (-1)), s1)
    else
      jbI (jq 241 [.inr (11, 0), .inl v1] s1) fun x2 s2 =>
      if x2 = 0 then
        some (some (.inl (-5)), s2)
      else
        jbV (jq 242 [.inr (11, 0), .inl v1] s2) fun s3 =>
        if (s3 11 0 29) < v2 then
          some (some (.inl (-1)), s3)
        else
          if 0 ≤ v2 ∧ v2 < 7 then
            some (some (.inl (s3 53 0 (Int.toNat v2))), s3)
          else
            none := (jev_rg jcy_244 (fun q => false) 22 0 _ _ _).trans rfl
set_option maxRecDepth 100000 in
theorem bq_245 (v1 : Int) (v2 : Int) (s : jM) : jq 245 [.inr (11, 0), .inl v1, .inl v2] s =
  jbI (jq 201 [.inl v1] s) fun x1 s1 =>
  if x1 = 0 then
    some (some (.inl (-1)), s1)
  else
    if v2 < (-1) then
      some (some (.inl (-1)), s1)
    else
      jbI (jq 241 [.inr (11, 0), .inl v1] s1) fun x2 s2 =>
      if x2 = 0 then
        some (some (.inl (-5)), s2)
      else
        jbV (jq 242 [.inr (11, 0), .inl v1] s2) fun s3 =>
        if v2 = (-1) then
          some (some (.inl (s3 11 0 31)), s3)
        else
          if v2 < (s3 11 0 31) then
            if 0 ≤ v2 ∧ v2 < 7 then
              some (some (.inl (s3 54 0 (Int.toNat v2))), s3)
            else
              none
          else
            some (some (.inl (-2)), s3) := (jev_rg jcy_245 (fun q => false) 26 0 _ _ _).trans rfl
set_option maxRecDepth 100000 in
theorem bq_246 (v1 : Int) (v2 : Int) (v3 : Int) (s : jM) : jq 246 [.inr (11, 0), .inl v1, .inl v2, .inl v3] s =
  if 0 ≤ v1 ∧ v1 < 7 then
    if (s 54 0 (Int.toNat v1)) = 101 then
      if v3 = v2 then
        some (some (.inl 1), s)
      else
        some (some (.inl 0), s)
    else
      if 0 ≤ v1 ∧ v1 < 7 then
        jbI (jq 207 [.inl (s 54 0 (Int.toNat v1)), .inl v3] s) fun x1 s1 =>
        some (some (.inl x1), s1)
      else
        none
  else
    none := (jev_rg jcy_246 (fun q => false) 13 0 _ _ _).trans rfl
set_option maxRecDepth 100000 in
theorem bq_247 (v1 : Int) (v2 : Int) (s : jM) : jq 247 [.inr (11, 0), .inl v1, .inl v2] s =
  if 0 ≤ v1 ∧ v1 < 4 then
    je 247 15 [some (.inr (11, 0)), some (.inl v1), some (.inl v2), some (.inl (s 29 0 (Int.toNat v1))), some (.inl 0), none] [] (jup s 11 0 23 0)
  else
    none := (jev_rg jcy_247 (fun q => Nat.beq q 15 || Nat.beq q 27 || Nat.beq q 102) 11 0 _ _ _).trans rfl
set_option maxRecDepth 100000 in
theorem be_247_15 (v1 : Int) (v2 : Int) (v3 : Int) (v4 : Int) (o5 : Option jV) (s : jM) : je 247 15 [some (.inr (11, 0)), some (.inl v1), some (.inl v2), some (.inl v3), some (.inl v4), o5] [] s =
  if v4 < (s 11 0 31) then
    je 247 27 [some (.inr (11, 0)), some (.inl v1), some (.inl v2), some (.inl v3), some (.inl v4), some (.inl 0)] [] s
  else
    je 247 102 [some (.inr (11, 0)), some (.inl v1), some (.inl v2), some (.inl v3), some (.inl 0), o5] [] s := (jev_rg jcy_247 (fun q => Nat.beq q 15 || Nat.beq q 27 || Nat.beq q 102) 7 15 _ _ _).trans rfl
set_option maxRecDepth 100000 in
theorem be_247_27 (v1 : Int) (v2 : Int) (v3 : Int) (v4 : Int) (v5 : Int) (s : jM) : je 247 27 [some (.inr (11, 0)), some (.inl v1), some (.inl v2), some (.inl v3), some (.inl v4), some (.inl v5)] [] s =
  if v5 < 21 then
    if v3 < v5 then
      if 0 ≤ v5 ∧ v5 < 21 then
        if v5 = v4 then
          if 0 ≤ v5 ∧ v5 < 21 then
            je 247 27 [some (.inr (11, 0)), some (.inl v1), some (.inl v2), some (.inl v3), some (.inl v4), some (.inl (jw (v5 + 1)))] [] (jup (jup s 51 0 (Int.toNat v5) 0) 52 0 (Int.toNat v5) 1)
          else
            none
        else
          if 0 ≤ v5 ∧ v5 < 21 then
            je 247 27 [some (.inr (11, 0)), some (.inl v1), some (.inl v2), some (.inl v3), some (.inl v4), some (.inl (jw (v5 + 1)))] [] (jup (jup s 51 0 (Int.toNat v5) 0) 52 0 (Int.toNat v5) 0)
          else
            none
      else
        none
    else
      jbI (jq 246 [.inr (11, 0), .inl v4, .inl v3, .inl v5] s) fun x1 s1 =>
      if 0 ≤ v5 ∧ v5 < 21 then
        if v5 = v4 then
          if 0 ≤ v5 ∧ v5 < 21 then
            je 247 27 [some (.inr (11, 0)), some (.inl v1), some (.inl v2), some (.inl v3), some (.inl v4), some (.inl (jw (v5 + 1)))] [] (jup (jup s1 51 0 (Int.toNat v5) x1) 52 0 (Int.toNat v5) 1)
          else
            none
        else
          if 0 ≤ v5 ∧ v5 < 21 then
            je 247 27 [some (.inr (11, 0)), some (.inl v1), some (.inl v2), some (.inl v3), some (.inl v4), some (.inl (jw (v5 + 1)))] [] (jup (jup s1 51 0 (Int.toNat v5) x1) 52 0 (Int.toNat v5) 0)
          else
            none
      else
        none
  else
    jbI (jq 235 [.inr (11, 0), .inl (jw (v3 + 1))] s) fun x2 s2 =>
    je 247 15 [some (.inr (11, 0)), some (.inl v1), some (.inl v2), some (.inl v3), some (.inl (jw (v4 + 1))), some (.inl v5)] [] s2 := (jev_rg jcy_247 (fun q => Nat.beq q 15 || Nat.beq q 27 || Nat.beq q 102) 28 27 _ _ _).trans rfl
set_option maxRecDepth 100000 in
theorem be_247_102 (v1 : Int) (v2 : Int) (v3 : Int) (v4 : Int) (o5 : Option jV) (s : jM) : je 247 102 [some (.inr (11, 0)), some (.inl v1), some (.inl v2), some (.inl v3), some (.inl v4), o5] [] s =
  if v4 < 21 then
    if v3 < v4 then
      if 0 ≤ v4 ∧ v4 < 21 then
        if 0 ≤ v4 ∧ v4 < 21 then
          je 247 102 [some (.inr (11, 0)), some (.inl v1), some (.inl v2), some (.inl v3), some (.inl (jw (v4 + 1))), o5] [] (jup (jup s 51 0 (Int.toNat v4) 0) 52 0 (Int.toNat v4) 0)
        else
          none
      else
        none
    else
      jbI (jq 239 [.inr (11, 0), .inl v1, .inl v4] s) fun x1 s1 =>
      if 0 ≤ v4 ∧ v4 < 21 then
        if 0 ≤ v4 ∧ v4 < 21 then
          je 247 102 [some (.inr (11, 0)), some (.inl v1), some (.inl v2), some (.inl v3), some (.inl (jw (v4 + 1))), o5] [] (jup (jup s1 51 0 (Int.toNat v4) x1) 52 0 (Int.toNat v4) 0)
        else
          none
      else
        none
  else
    jbI (jq 235 [.inr (11, 0), .inl (jw (v3 + 1))] s) fun x2 s2 =>
    if 0 ≤ v2 ∧ v2 < 21 then
      jbI (jq 209 [.inl (jw (-(s2 52 0 (Int.toNat v2))))] s2) fun x3 s3 =>
      some (some (.inl x3), s3)
    else
      none := (jev_rg jcy_247 (fun q => Nat.beq q 15 || Nat.beq q 27 || Nat.beq q 102) 23 102 _ _ _).trans rfl
set_option maxRecDepth 100000 in
theorem bq_248 (v1 : Int) (v2 : Int) (s : jM) : jq 248 [.inr (11, 0), .inl v1, .inl v2] s =
  jbI (jq 201 [.inl v1] s) fun x1 s1 =>
  if x1 = 0 then
    some (some (.inl (-1)), s1)
  else
    if v2 < 0 then
      some (some (.inl (-1)), s1)
    else
      jbI (jq 241 [.inr (11, 0), .inl v1] s1) fun x2 s2 =>
      if x2 = 0 then
        some (some (.inl (-5)), s2)
      else
        jbV (jq 242 [.inr (11, 0), .inl v1] s2) fun s3 =>
        if (s3 11 0 31) = (s3 11 0 29) then
          if 0 ≤ v1 ∧ v1 < 4 then
            if (s3 29 0 (Int.toNat v1)) < (s3 11 0 29) then
              some (some (.inl (-5)), s3)
            else
              if v2 < (s3 11 0 31) then
                jbI (jq 247 [.inr (11, 0), .inl v1, .inl v2] s3) fun x4 s4 =>
                some (some (.inl x4), s4)
              else
                some (some (.inl (-2)), s3)
          else
            none
        else
          some (some (.inl (-5)), s3) := (jev_rg jcy_248 (fun q => false) 34 0 _ _ _).trans rfl
set_option maxRecDepth 100000 in
theorem bq_249 (v1 : Int) (v2 : Int) (v3 : Int) (s : jM) : jq 249 [.inr (11, 0), .inl v1, .inl v2, .inl v3] s =
  je 249 3 [some (.inr (11, 0)), some (.inl v1), some (.inl v2), some (.inl v3), some (.inl 0), none, none, none, none, none, none, none] [] s := (jev_rg jcy_249 (fun q => Nat.beq q 3 || Nat.beq q 35) 3 0 _ _ _).trans rfl
set_option maxRecDepth 100000 in
theorem be_249_3 (v1 : Int) (v2 : Int) (v3 : Int) (v4 : Int) (o5 : Option jV) (o6 : Option jV) (o7 : Option jV) (o8 : Option jV) (o9 : Option jV) (o10 : Option jV) (o11 : Option jV) (s : jM) : je 249 3 [some (.inr (11, 0)), some (.inl v1), some (.inl v2), some (.inl v3), some (.inl v4), o5, o6, o7, o8, o9, o10, o11] [] s =
  if v4 < 21 then
    if 0 ≤ v4 ∧ v4 < 21 then
      if 0 ≤ v4 ∧ v4 < 21 then
        je 249 3 [some (.inr (11, 0)), some (.inl v1), some (.inl v2), some (.inl v3), some (.inl (jw (v4 + 1))), o5, o6, o7, o8, o9, o10, o11] [] (jup (jup s 51 0 (Int.toNat v4) 0) 52 0 (Int.toNat v4) 0)
      else
        none
    else
      none
  else
    je 249 35 [some (.inr (11, 0)), some (.inl v1), some (.inl v2), some (.inl v3), some (.inl 0), o5, o6, o7, o8, o9, o10, o11] [] s := (jev_rg jcy_249 (fun q => Nat.beq q 3 || Nat.beq q 35) 16 3 _ _ _).trans rfl
set_option maxRecDepth 100000 in
theorem be_249_35 (v1 : Int) (v2 : Int) (v3 : Int) (v4 : Int) (o5 : Option jV) (o6 : Option jV) (o7 : Option jV) (o8 : Option jV) (o9 : Option jV) (o10 : Option jV) (o11 : Option jV) (s : jM) : je 249 35 [some (.inr (11, 0)), some (.inl v1), some (.inl v2), some (.inl v3), some (.inl v4), o5, o6, o7, o8, o9, o10, o11] [] s =
  jbI (jq 203 [.inl v1] s) fun x1 s1 =>
  if v4 < x1 then
    jbI (jq 205 [.inl v1, .inl v4] s1) fun x2 s2 =>
    jbI (jq 206 [.inl v1, .inl v4] s2) fun x3 s3 =>
    if v3 = 0 then
      if 0 < x2 then
        if 0 ≤ (jw (3 * v2)) ∧ (jw (3 * v2)) < 18 then
          if v3 = 0 then
            jbI (jq 207 [.inl (s3 31 0 (Int.toNat (jw (3 * v2)))), .inl (jw (x2 - 1))] s3) fun x4 s4 =>
            if 0 ≤ (jw ((jw (3 * v2)) + 1)) ∧ (jw ((jw (3 * v2)) + 1)) < 18 then
              if v3 = 1 then
                jbI (jq 207 [.inl (s4 31 0 (Int.toNat (jw ((jw (3 * v2)) + 1)))), .inl (jw (x3 - 1))] s4) fun x5 s5 =>
                if 0 ≤ (jw ((jw (3 * v2)) + 2)) ∧ (jw ((jw (3 * v2)) + 2)) < 18 then
                  if v3 = 2 then
                    jbI (jq 207 [.inl (s5 31 0 (Int.toNat (jw ((jw (3 * v2)) + 2)))), .inl (jw ((jw ((jw (v1 - x2)) - x3)) - 1))] s5) fun x6 s6 =>
                    if 0 ≤ v4 ∧ v4 < 21 then
                      je 249 35 [some (.inr (11, 0)), some (.inl v1), some (.inl v2), some (.inl v3), some (.inl (jw (v4 + 1))), some (.inl x2), some (.inl x3), some (.inl (jw ((jw (v1 - x2)) - x3))), some (.inl x2), some (.inl x4), some (.inl x5), some (.inl x6)] [] (jup s6 51 0 (Int.toNat v4) (Int.tmod (jw ((Int.tmod (jw ((Int.tmod (jw (x2 * x4)) 101) * x5)) 101) * x6)) 101))
                    else
                      none
                  else
                    jbI (jq 207 [.inl (s5 31 0 (Int.toNat (jw ((jw (3 * v2)) + 2)))), .inl (jw ((jw (v1 - x2)) - x3))] s5) fun x7 s7 =>
                    if 0 ≤ v4 ∧ v4 < 21 then
                      je 249 35 [some (.inr (11, 0)), some (.inl v1), some (.inl v2), some (.inl v3), some (.inl (jw (v4 + 1))), some (.inl x2), some (.inl x3), some (.inl (jw ((jw (v1 - x2)) - x3))), some (.inl x2), some (.inl x4), some (.inl x5), some (.inl x7)] [] (jup s7 51 0 (Int.toNat v4) (Int.tmod (jw ((Int.tmod (jw ((Int.tmod (jw (x2 * x4)) 101) * x5)) 101) * x7)) 101))
                    else
                      none
                else
                  none
              else
                jbI (jq 207 [.inl (s4 31 0 (Int.toNat (jw ((jw (3 * v2)) + 1)))), .inl x3] s4) fun x8 s8 =>
                if 0 ≤ (jw ((jw (3 * v2)) + 2)) ∧ (jw ((jw (3 * v2)) + 2)) < 18 then
                  if v3 = 2 then
                    jbI (jq 207 [.inl (s8 31 0 (Int.toNat (jw ((jw (3 * v2)) + 2)))), .inl (jw ((jw ((jw (v1 - x2)) - x3)) - 1))] s8) fun x9 s9 =>
                    if 0 ≤ v4 ∧ v4 < 21 then
                      je 249 35 [some (.inr (11, 0)), some (.inl v1), some (.inl v2), some (.inl v3), some (.inl (jw (v4 + 1))), some (.inl x2), some (.inl x3), some (.inl (jw ((jw (v1 - x2)) - x3))), some (.inl x2), some (.inl x4), some (.inl x8), some (.inl x9)] [] (jup s9 51 0 (Int.toNat v4) (Int.tmod (jw ((Int.tmod (jw ((Int.tmod (jw (x2 * x4)) 101) * x8)) 101) * x9)) 101))
                    else
                      none
                  else
                    jbI (jq 207 [.inl (s8 31 0 (Int.toNat (jw ((jw (3 * v2)) + 2)))), .inl (jw ((jw (v1 - x2)) - x3))] s8) fun x10 s10 =>
                    if 0 ≤ v4 ∧ v4 < 21 then
                      je 249 35 [some (.inr (11, 0)), some (.inl v1), some (.inl v2), some (.inl v3), some (.inl (jw (v4 + 1))), some (.inl x2), some (.inl x3), some (.inl (jw ((jw (v1 - x2)) - x3))), some (.inl x2), some (.inl x4), some (.inl x8), some (.inl x10)] [] (jup s10 51 0 (Int.toNat v4) (Int.tmod (jw ((Int.tmod (jw ((Int.tmod (jw (x2 * x4)) 101) * x8)) 101) * x10)) 101))
                    else
                      none
                else
                  none
            else
              none
          else
            jbI (jq 207 [.inl (s3 31 0 (Int.toNat (jw (3 * v2)))), .inl x2] s3) fun x11 s11 =>
            if 0 ≤ (jw ((jw (3 * v2)) + 1)) ∧ (jw ((jw (3 * v2)) + 1)) < 18 then
              if v3 = 1 then
                jbI (jq 207 [.inl (s11 31 0 (Int.toNat (jw ((jw (3 * v2)) + 1)))), .inl (jw (x3 - 1))] s11) fun x12 s12 =>
                if 0 ≤ (jw ((jw (3 * v2)) + 2)) ∧ (jw ((jw (3 * v2)) + 2)) < 18 then
                  if v3 = 2 then
                    jbI (jq 207 [.inl (s12 31 0 (Int.toNat (jw ((jw (3 * v2)) + 2)))), .inl (jw ((jw ((jw (v1 - x2)) - x3)) - 1))] s12) fun x13 s13 =>
                    if 0 ≤ v4 ∧ v4 < 21 then
                      je 249 35 [some (.inr (11, 0)), some (.inl v1), some (.inl v2), some (.inl v3), some (.inl (jw (v4 + 1))), some (.inl x2), some (.inl x3), some (.inl (jw ((jw (v1 - x2)) - x3))), some (.inl x2), some (.inl x11), some (.inl x12), some (.inl x13)] [] (jup s13 51 0 (Int.toNat v4) (Int.tmod (jw ((Int.tmod (jw ((Int.tmod (jw (x2 * x11)) 101) * x12)) 101) * x13)) 101))
                    else
                      none
                  else
                    jbI (jq 207 [.inl (s12 31 0 (Int.toNat (jw ((jw (3 * v2)) + 2)))), .inl (jw ((jw (v1 - x2)) - x3))] s12) fun x14 s14 =>
                    if 0 ≤ v4 ∧ v4 < 21 then
                      je 249 35 [some (.inr (11, 0)), some (.inl v1), some (.inl v2), some (.inl v3), some (.inl (jw (v4 + 1))), some (.inl x2), some (.inl x3), some (.inl (jw ((jw (v1 - x2)) - x3))), some (.inl x2), some (.inl x11), some (.inl x12), some (.inl x14)] [] (jup s14 51 0 (Int.toNat v4) (Int.tmod (jw ((Int.tmod (jw ((Int.tmod (jw (x2 * x11)) 101) * x12)) 101) * x14)) 101))
                    else
                      none
                else
                  none
              else
                jbI (jq 207 [.inl (s11 31 0 (Int.toNat (jw ((jw (3 * v2)) + 1)))), .inl x3] s11) fun x15 s15 =>
                if 0 ≤ (jw ((jw (3 * v2)) + 2)) ∧ (jw ((jw (3 * v2)) + 2)) < 18 then
                  if v3 = 2 then
                    jbI (jq 207 [.inl (s15 31 0 (Int.toNat (jw ((jw (3 * v2)) + 2)))), .inl (jw ((jw ((jw (v1 - x2)) - x3)) - 1))] s15) fun x16 s16 =>
                    if 0 ≤ v4 ∧ v4 < 21 then
                      je 249 35 [some (.inr (11, 0)), some (.inl v1), some (.inl v2), some (.inl v3), some (.inl (jw (v4 + 1))), some (.inl x2), some (.inl x3), some (.inl (jw ((jw (v1 - x2)) - x3))), some (.inl x2), some (.inl x11), some (.inl x15), some (.inl x16)] [] (jup s16 51 0 (Int.toNat v4) (Int.tmod (jw ((Int.tmod (jw ((Int.tmod (jw (x2 * x11)) 101) * x15)) 101) * x16)) 101))
                    else
                      none
                  else
                    jbI (jq 207 [.inl (s15 31 0 (Int.toNat (jw ((jw (3 * v2)) + 2)))), .inl (jw ((jw (v1 - x2)) - x3))] s15) fun x17 s17 =>
                    if 0 ≤ v4 ∧ v4 < 21 then
                      je 249 35 [some (.inr (11, 0)), some (.inl v1), some (.inl v2), some (.inl v3), some (.inl (jw (v4 + 1))), some (.inl x2), some (.inl x3), some (.inl (jw ((jw (v1 - x2)) - x3))), some (.inl x2), some (.inl x11), some (.inl x15), some (.inl x17)] [] (jup s17 51 0 (Int.toNat v4) (Int.tmod (jw ((Int.tmod (jw ((Int.tmod (jw (x2 * x11)) 101) * x15)) 101) * x17)) 101))
                    else
                      none
                else
                  none
            else
              none
        else
          none
      else
        je 249 35 [some (.inr (11, 0)), some (.inl v1), some (.inl v2), some (.inl v3), some (.inl (jw (v4 + 1))), some (.inl x2), some (.inl x3), some (.inl (jw ((jw (v1 - x2)) - x3))), some (.inl x2), o9, o10, o11] [] s3
    else
      if v3 = 1 then
        if 0 < x3 then
          if 0 ≤ (jw (3 * v2)) ∧ (jw (3 * v2)) < 18 then
            if v3 = 0 then
              jbI (jq 207 [.inl (s3 31 0 (Int.toNat (jw (3 * v2)))), .inl (jw (x2 - 1))] s3) fun x18 s18 =>
              if 0 ≤ (jw ((jw (3 * v2)) + 1)) ∧ (jw ((jw (3 * v2)) + 1)) < 18 then
                if v3 = 1 then
                  jbI (jq 207 [.inl (s18 31 0 (Int.toNat (jw ((jw (3 * v2)) + 1)))), .inl (jw (x3 - 1))] s18) fun x19 s19 =>
                  if 0 ≤ (jw ((jw (3 * v2)) + 2)) ∧ (jw ((jw (3 * v2)) + 2)) < 18 then
                    if v3 = 2 then
                      jbI (jq 207 [.inl (s19 31 0 (Int.toNat (jw ((jw (3 * v2)) + 2)))), .inl (jw ((jw ((jw (v1 - x2)) - x3)) - 1))] s19) fun x20 s20 =>
                      if 0 ≤ v4 ∧ v4 < 21 then
                        je 249 35 [some (.inr (11, 0)), some (.inl v1), some (.inl v2), some (.inl v3), some (.inl (jw (v4 + 1))), some (.inl x2), some (.inl x3), some (.inl (jw ((jw (v1 - x2)) - x3))), some (.inl x3), some (.inl x18), some (.inl x19), some (.inl x20)] [] (jup s20 51 0 (Int.toNat v4) (Int.tmod (jw ((Int.tmod (jw ((Int.tmod (jw (x3 * x18)) 101) * x19)) 101) * x20)) 101))
                      else
                        none
                    else
                      jbI (jq 207 [.inl (s19 31 0 (Int.toNat (jw ((jw (3 * v2)) + 2)))), .inl (jw ((jw (v1 - x2)) - x3))] s19) fun x21 s21 =>
                      if 0 ≤ v4 ∧ v4 < 21 then
                        je 249 35 [some (.inr (11, 0)), some (.inl v1), some (.inl v2), some (.inl v3), some (.inl (jw (v4 + 1))), some (.inl x2), some (.inl x3), some (.inl (jw ((jw (v1 - x2)) - x3))), some (.inl x3), some (.inl x18), some (.inl x19), some (.inl x21)] [] (jup s21 51 0 (Int.toNat v4) (Int.tmod (jw ((Int.tmod (jw ((Int.tmod (jw (x3 * x18)) 101) * x19)) 101) * x21)) 101))
                      else
                        none
                  else
                    none
                else
                  jbI (jq 207 [.inl (s18 31 0 (Int.toNat (jw ((jw (3 * v2)) + 1)))), .inl x3] s18) fun x22 s22 =>
                  if 0 ≤ (jw ((jw (3 * v2)) + 2)) ∧ (jw ((jw (3 * v2)) + 2)) < 18 then
                    if v3 = 2 then
                      jbI (jq 207 [.inl (s22 31 0 (Int.toNat (jw ((jw (3 * v2)) + 2)))), .inl (jw ((jw ((jw (v1 - x2)) - x3)) - 1))] s22) fun x23 s23 =>
                      if 0 ≤ v4 ∧ v4 < 21 then
                        je 249 35 [some (.inr (11, 0)), some (.inl v1), some (.inl v2), some (.inl v3), some (.inl (jw (v4 + 1))), some (.inl x2), some (.inl x3), some (.inl (jw ((jw (v1 - x2)) - x3))), some (.inl x3), some (.inl x18), some (.inl x22), some (.inl x23)] [] (jup s23 51 0 (Int.toNat v4) (Int.tmod (jw ((Int.tmod (jw ((Int.tmod (jw (x3 * x18)) 101) * x22)) 101) * x23)) 101))
                      else
                        none
                    else
                      jbI (jq 207 [.inl (s22 31 0 (Int.toNat (jw ((jw (3 * v2)) + 2)))), .inl (jw ((jw (v1 - x2)) - x3))] s22) fun x24 s24 =>
                      if 0 ≤ v4 ∧ v4 < 21 then
                        je 249 35 [some (.inr (11, 0)), some (.inl v1), some (.inl v2), some (.inl v3), some (.inl (jw (v4 + 1))), some (.inl x2), some (.inl x3), some (.inl (jw ((jw (v1 - x2)) - x3))), some (.inl x3), some (.inl x18), some (.inl x22), some (.inl x24)] [] (jup s24 51 0 (Int.toNat v4) (Int.tmod (jw ((Int.tmod (jw ((Int.tmod (jw (x3 * x18)) 101) * x22)) 101) * x24)) 101))
                      else
                        none
                  else
                    none
              else
                none
            else
              jbI (jq 207 [.inl (s3 31 0 (Int.toNat (jw (3 * v2)))), .inl x2] s3) fun x25 s25 =>
              if 0 ≤ (jw ((jw (3 * v2)) + 1)) ∧ (jw ((jw (3 * v2)) + 1)) < 18 then
                if v3 = 1 then
                  jbI (jq 207 [.inl (s25 31 0 (Int.toNat (jw ((jw (3 * v2)) + 1)))), .inl (jw (x3 - 1))] s25) fun x26 s26 =>
                  if 0 ≤ (jw ((jw (3 * v2)) + 2)) ∧ (jw ((jw (3 * v2)) + 2)) < 18 then
                    if v3 = 2 then
                      jbI (jq 207 [.inl (s26 31 0 (Int.toNat (jw ((jw (3 * v2)) + 2)))), .inl (jw ((jw ((jw (v1 - x2)) - x3)) - 1))] s26) fun x27 s27 =>
                      if 0 ≤ v4 ∧ v4 < 21 then
                        je 249 35 [some (.inr (11, 0)), some (.inl v1), some (.inl v2), some (.inl v3), some (.inl (jw (v4 + 1))), some (.inl x2), some (.inl x3), some (.inl (jw ((jw (v1 - x2)) - x3))), some (.inl x3), some (.inl x25), some (.inl x26), some (.inl x27)] [] (jup s27 51 0 (Int.toNat v4) (Int.tmod (jw ((Int.tmod (jw ((Int.tmod (jw (x3 * x25)) 101) * x26)) 101) * x27)) 101))
                      else
                        none
                    else
                      jbI (jq 207 [.inl (s26 31 0 (Int.toNat (jw ((jw (3 * v2)) + 2)))), .inl (jw ((jw (v1 - x2)) - x3))] s26) fun x28 s28 =>
                      if 0 ≤ v4 ∧ v4 < 21 then
                        je 249 35 [some (.inr (11, 0)), some (.inl v1), some (.inl v2), some (.inl v3), some (.inl (jw (v4 + 1))), some (.inl x2), some (.inl x3), some (.inl (jw ((jw (v1 - x2)) - x3))), some (.inl x3), some (.inl x25), some (.inl x26), some (.inl x28)] [] (jup s28 51 0 (Int.toNat v4) (Int.tmod (jw ((Int.tmod (jw ((Int.tmod (jw (x3 * x25)) 101) * x26)) 101) * x28)) 101))
                      else
                        none
                  else
                    none
                else
                  jbI (jq 207 [.inl (s25 31 0 (Int.toNat (jw ((jw (3 * v2)) + 1)))), .inl x3] s25) fun x29 s29 =>
                  if 0 ≤ (jw ((jw (3 * v2)) + 2)) ∧ (jw ((jw (3 * v2)) + 2)) < 18 then
                    if v3 = 2 then
                      jbI (jq 207 [.inl (s29 31 0 (Int.toNat (jw ((jw (3 * v2)) + 2)))), .inl (jw ((jw ((jw (v1 - x2)) - x3)) - 1))] s29) fun x30 s30 =>
                      if 0 ≤ v4 ∧ v4 < 21 then
                        je 249 35 [some (.inr (11, 0)), some (.inl v1), some (.inl v2), some (.inl v3), some (.inl (jw (v4 + 1))), some (.inl x2), some (.inl x3), some (.inl (jw ((jw (v1 - x2)) - x3))), some (.inl x3), some (.inl x25), some (.inl x29), some (.inl x30)] [] (jup s30 51 0 (Int.toNat v4) (Int.tmod (jw ((Int.tmod (jw ((Int.tmod (jw (x3 * x25)) 101) * x29)) 101) * x30)) 101))
                      else
                        none
                    else
                      jbI (jq 207 [.inl (s29 31 0 (Int.toNat (jw ((jw (3 * v2)) + 2)))), .inl (jw ((jw (v1 - x2)) - x3))] s29) fun x31 s31 =>
                      if 0 ≤ v4 ∧ v4 < 21 then
                        je 249 35 [some (.inr (11, 0)), some (.inl v1), some (.inl v2), some (.inl v3), some (.inl (jw (v4 + 1))), some (.inl x2), some (.inl x3), some (.inl (jw ((jw (v1 - x2)) - x3))), some (.inl x3), some (.inl x25), some (.inl x29), some (.inl x31)] [] (jup s31 51 0 (Int.toNat v4) (Int.tmod (jw ((Int.tmod (jw ((Int.tmod (jw (x3 * x25)) 101) * x29)) 101) * x31)) 101))
                      else
                        none
                  else
                    none
              else
                none
          else
            none
        else
          je 249 35 [some (.inr (11, 0)), some (.inl v1), some (.inl v2), some (.inl v3), some (.inl (jw (v4 + 1))), some (.inl x2), some (.inl x3), some (.inl (jw ((jw (v1 - x2)) - x3))), some (.inl x3), o9, o10, o11] [] s3
      else
        if 0 < (jw ((jw (v1 - x2)) - x3)) then
          if 0 ≤ (jw (3 * v2)) ∧ (jw (3 * v2)) < 18 then
            if v3 = 0 then
              jbI (jq 207 [.inl (s3 31 0 (Int.toNat (jw (3 * v2)))), .inl (jw (x2 - 1))] s3) fun x32 s32 =>
              if 0 ≤ (jw ((jw (3 * v2)) + 1)) ∧ (jw ((jw (3 * v2)) + 1)) < 18 then
                if v3 = 1 then
                  jbI (jq 207 [.inl (s32 31 0 (Int.toNat (jw ((jw (3 * v2)) + 1)))), .inl (jw (x3 - 1))] s32) fun x33 s33 =>
                  if 0 ≤ (jw ((jw (3 * v2)) + 2)) ∧ (jw ((jw (3 * v2)) + 2)) < 18 then
                    if v3 = 2 then
                      jbI (jq 207 [.inl (s33 31 0 (Int.toNat (jw ((jw (3 * v2)) + 2)))), .inl (jw ((jw ((jw (v1 - x2)) - x3)) - 1))] s33) fun x34 s34 =>
                      if 0 ≤ v4 ∧ v4 < 21 then
                        je 249 35 [some (.inr (11, 0)), some (.inl v1), some (.inl v2), some (.inl v3), some (.inl (jw (v4 + 1))), some (.inl x2), some (.inl x3), some (.inl (jw ((jw (v1 - x2)) - x3))), some (.inl (jw ((jw (v1 - x2)) - x3))), some (.inl x32), some (.inl x33), some (.inl x34)] [] (jup s34 51 0 (Int.toNat v4) (Int.tmod (jw ((Int.tmod (jw ((Int.tmod (jw ((jw ((jw (v1 - x2)) - x3)) * x32)) 101) * x33)) 101) * x34)) 101))
                      else
                        none
                    else
                      jbI (jq 207 [.inl (s33 31 0 (Int.toNat (jw ((jw (3 * v2)) + 2)))), .inl (jw ((jw (v1 - x2)) - x3))] s33) fun x35 s35 =>
                      if 0 ≤ v4 ∧ v4 < 21 then
                        je 249 35 [some (.inr (11, 0)), some (.inl v1), some (.inl v2), some (.inl v3), some (.inl (jw (v4 + 1))), some (.inl x2), some (.inl x3), some (.inl (jw ((jw (v1 - x2)) - x3))), some (.inl (jw ((jw (v1 - x2)) - x3))), some (.inl x32), some (.inl x33), some (.inl x35)] [] (jup s35 51 0 (Int.toNat v4) (Int.tmod (jw ((Int.tmod (jw ((Int.tmod (jw ((jw ((jw (v1 - x2)) - x3)) * x32)) 101) * x33)) 101) * x35)) 101))
                      else
                        none
                  else
                    none
                else
                  jbI (jq 207 [.inl (s32 31 0 (Int.toNat (jw ((jw (3 * v2)) + 1)))), .inl x3] s32) fun x36 s36 =>
                  if 0 ≤ (jw ((jw (3 * v2)) + 2)) ∧ (jw ((jw (3 * v2)) + 2)) < 18 then
                    if v3 = 2 then
                      jbI (jq 207 [.inl (s36 31 0 (Int.toNat (jw ((jw (3 * v2)) + 2)))), .inl (jw ((jw ((jw (v1 - x2)) - x3)) - 1))] s36) fun x37 s37 =>
                      if 0 ≤ v4 ∧ v4 < 21 then
                        je 249 35 [some (.inr (11, 0)), some (.inl v1), some (.inl v2), some (.inl v3), some (.inl (jw (v4 + 1))), some (.inl x2), some (.inl x3), some (.inl (jw ((jw (v1 - x2)) - x3))), some (.inl (jw ((jw (v1 - x2)) - x3))), some (.inl x32), some (.inl x36), some (.inl x37)] [] (jup s37 51 0 (Int.toNat v4) (Int.tmod (jw ((Int.tmod (jw ((Int.tmod (jw ((jw ((jw (v1 - x2)) - x3)) * x32)) 101) * x36)) 101) * x37)) 101))
                      else
                        none
                    else
                      jbI (jq 207 [.inl (s36 31 0 (Int.toNat (jw ((jw (3 * v2)) + 2)))), .inl (jw ((jw (v1 - x2)) - x3))] s36) fun x38 s38 =>
                      if 0 ≤ v4 ∧ v4 < 21 then
                        je 249 35 [some (.inr (11, 0)), some (.inl v1), some (.inl v2), some (.inl v3), some (.inl (jw (v4 + 1))), some (.inl x2), some (.inl x3), some (.inl (jw ((jw (v1 - x2)) - x3))), some (.inl (jw ((jw (v1 - x2)) - x3))), some (.inl x32), some (.inl x36), some (.inl x38)] [] (jup s38 51 0 (Int.toNat v4) (Int.tmod (jw ((Int.tmod (jw ((Int.tmod (jw ((jw ((jw (v1 - x2)) - x3)) * x32)) 101) * x36)) 101) * x38)) 101))
                      else
                        none
                  else
                    none
              else
                none
            else
              jbI (jq 207 [.inl (s3 31 0 (Int.toNat (jw (3 * v2)))), .inl x2] s3) fun x39 s39 =>
              if 0 ≤ (jw ((jw (3 * v2)) + 1)) ∧ (jw ((jw (3 * v2)) + 1)) < 18 then
                if v3 = 1 then
                  jbI (jq 207 [.inl (s39 31 0 (Int.toNat (jw ((jw (3 * v2)) + 1)))), .inl (jw (x3 - 1))] s39) fun x40 s40 =>
                  if 0 ≤ (jw ((jw (3 * v2)) + 2)) ∧ (jw ((jw (3 * v2)) + 2)) < 18 then
                    if v3 = 2 then
                      jbI (jq 207 [.inl (s40 31 0 (Int.toNat (jw ((jw (3 * v2)) + 2)))), .inl (jw ((jw ((jw (v1 - x2)) - x3)) - 1))] s40) fun x41 s41 =>
                      if 0 ≤ v4 ∧ v4 < 21 then
                        je 249 35 [some (.inr (11, 0)), some (.inl v1), some (.inl v2), some (.inl v3), some (.inl (jw (v4 + 1))), some (.inl x2), some (.inl x3), some (.inl (jw ((jw (v1 - x2)) - x3))), some (.inl (jw ((jw (v1 - x2)) - x3))), some (.inl x39), some (.inl x40), some (.inl x41)] [] (jup s41 51 0 (Int.toNat v4) (Int.tmod (jw ((Int.tmod (jw ((Int.tmod (jw ((jw ((jw (v1 - x2)) - x3)) * x39)) 101) * x40)) 101) * x41)) 101))
                      else
                        none
                    else
                      jbI (jq 207 [.inl (s40 31 0 (Int.toNat (jw ((jw (3 * v2)) + 2)))), .inl (jw ((jw (v1 - x2)) - x3))] s40) fun x42 s42 =>
                      if 0 ≤ v4 ∧ v4 < 21 then
                        je 249 35 [some (.inr (11, 0)), some (.inl v1), some (.inl v2), some (.inl v3), some (.inl (jw (v4 + 1))), some (.inl x2), some (.inl x3), some (.inl (jw ((jw (v1 - x2)) - x3))), some (.inl (jw ((jw (v1 - x2)) - x3))), some (.inl x39), some (.inl x40), some (.inl x42)] [] (jup s42 51 0 (Int.toNat v4) (Int.tmod (jw ((Int.tmod (jw ((Int.tmod (jw ((jw ((jw (v1 - x2)) - x3)) * x39)) 101) * x40)) 101) * x42)) 101))
                      else
                        none
                  else
                    none
                else
                  jbI (jq 207 [.inl (s39 31 0 (Int.toNat (jw ((jw (3 * v2)) + 1)))), .inl x3] s39) fun x43 s43 =>
                  if 0 ≤ (jw ((jw (3 * v2)) + 2)) ∧ (jw ((jw (3 * v2)) + 2)) < 18 then
                    if v3 = 2 then
                      jbI (jq 207 [.inl (s43 31 0 (Int.toNat (jw ((jw (3 * v2)) + 2)))), .inl (jw ((jw ((jw (v1 - x2)) - x3)) - 1))] s43) fun x44 s44 =>
                      if 0 ≤ v4 ∧ v4 < 21 then
                        je 249 35 [some (.inr (11, 0)), some (.inl v1), some (.inl v2), some (.inl v3), some (.inl (jw (v4 + 1))), some (.inl x2), some (.inl x3), some (.inl (jw ((jw (v1 - x2)) - x3))), some (.inl (jw ((jw (v1 - x2)) - x3))), some (.inl x39), some (.inl x43), some (.inl x44)] [] (jup s44 51 0 (Int.toNat v4) (Int.tmod (jw ((Int.tmod (jw ((Int.tmod (jw ((jw ((jw (v1 - x2)) - x3)) * x39)) 101) * x43)) 101) * x44)) 101))
                      else
                        none
                    else
                      jbI (jq 207 [.inl (s43 31 0 (Int.toNat (jw ((jw (3 * v2)) + 2)))), .inl (jw ((jw (v1 - x2)) - x3))] s43) fun x45 s45 =>
                      if 0 ≤ v4 ∧ v4 < 21 then
                        je 249 35 [some (.inr (11, 0)), some (.inl v1), some (.inl v2), some (.inl v3), some (.inl (jw (v4 + 1))), some (.inl x2), some (.inl x3), some (.inl (jw ((jw (v1 - x2)) - x3))), some (.inl (jw ((jw (v1 - x2)) - x3))), some (.inl x39), some (.inl x43), some (.inl x45)] [] (jup s45 51 0 (Int.toNat v4) (Int.tmod (jw ((Int.tmod (jw ((Int.tmod (jw ((jw ((jw (v1 - x2)) - x3)) * x39)) 101) * x43)) 101) * x45)) 101))
                      else
                        none
                  else
                    none
              else
                none
          else
            none
        else
          je 249 35 [some (.inr (11, 0)), some (.inl v1), some (.inl v2), some (.inl v3), some (.inl (jw (v4 + 1))), some (.inl x2), some (.inl x3), some (.inl (jw ((jw (v1 - x2)) - x3))), some (.inl (jw ((jw (v1 - x2)) - x3))), o9, o10, o11] [] s3
  else
    some (none, s1) := (jev_rg jcy_249 (fun q => Nat.beq q 3 || Nat.beq q 35) 96 35 _ _ _).trans rfl
