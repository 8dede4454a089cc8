/-! block equations, 1 -/
set_option maxRecDepth 100000 in
theorem bq_0 (v1 : Int) (v2 : Int) (s : jM) : jq 0 [.inr (10, 0), .inl v1, .inl v2] s =
  jbI (jq 39 [.inl v1] s) fun x1 s1 =>
  if x1 = 0 then
    some (some (.inl (-1)), s1)
  else
    jbI (jq 42 [.inl v2] s1) fun x2 s2 =>
    if x2 = 0 then
      some (some (.inl (-1)), s2)
    else
      if 0 ≤ v1 ∧ v1 < 4 then
        jbV (jq 65 [.inr (1, 44), .inl v2] s2) fun s3 =>
        jbV (jq 51 [.inr (10, 0), .inl 0, .inl v1, .inr (1, 44)] s3) fun s4 =>
        some (some (.inl (s2 1 (22 * 0 + (Int.toNat v1)) 1)), s4)
      else
        none := (jev_rg jcy_0 (fun q => false) 25 0 _ _ _).trans rfl
set_option maxRecDepth 100000 in
theorem bq_1 (v1 : Int) (v2 : Int) (v3 : Int) (v4 : Int) (s : jM) : jq 1 [.inr (10, 0), .inl v1, .inl v2, .inl v3, .inl v4] s =
  jbI (jq 39 [.inl v1] s) fun x1 s1 =>
  if x1 = 0 then
    some (some (.inl (-1)), s1)
  else
    if 0 ≤ v1 ∧ v1 < 4 then
      jbI (jq 44 [.inl (s1 1 (22 * 0 + (Int.toNat v1)) 1), .inl v2, .inl v3] s1) fun x2 s2 =>
      if x2 = 0 then
        some (some (.inl (-1)), s2)
      else
        jbI (jq 43 [.inl v4] s2) fun x3 s3 =>
        if x3 = 0 then
          some (some (.inl (-1)), s3)
        else
          if 0 ≤ v1 ∧ v1 < 4 then
            jbI (jq 46 [.inl v3, .inl (jw ((jw ((s3 1 (22 * 0 + (Int.toNat v1)) 1) - v2)) - v3))] s3) fun x4 s4 =>
            jbI (jq 62 [.inr (1, 22 * 0 + (Int.toNat v1)), .inl x4] s4) fun x5 s5 =>
            jbV (jq 66 [.inr (1, 44), .inr (1, 22 * 0 + (Int.toNat v1))] s5) fun s6 =>
            jbV (jq 63 [.inr (1, 44), .inl x4, .inl v4] s6) fun s7 =>
            jbV (jq 51 [.inr (10, 0), .inl 0, .inl v1, .inr (1, 44)] s7) fun s8 =>
            some (some (.inl x5), s8)
          else
            none
    else
      none := (jev_rg jcy_1 (fun q => false) 52 0 _ _ _).trans rfl
set_option maxRecDepth 100000 in
theorem bq_2 (v1 : Int) (v2 : Int) (v3 : Int) (s : jM) : jq 2 [.inr (10, 0), .inl v1, .inl v2, .inl v3] s =
  jbI (jq 39 [.inl v1] s) fun x1 s1 =>
  if x1 = 0 then
    some (some (.inl (-1)), s1)
  else
    if 0 ≤ v1 ∧ v1 < 4 then
      jbI (jq 44 [.inl (s1 1 (22 * 0 + (Int.toNat v1)) 1), .inl v2, .inl v3] s1) fun x2 s2 =>
      if x2 = 0 then
        some (some (.inl (-1)), s2)
      else
        if 0 ≤ v1 ∧ v1 < 4 then
          jbI (jq 46 [.inl v3, .inl (jw ((jw ((s2 1 (22 * 0 + (Int.toNat v1)) 1) - v2)) - v3))] s2) fun x3 s3 =>
          jbI (jq 62 [.inr (1, 22 * 0 + (Int.toNat v1)), .inl x3] s3) fun x4 s4 =>
          some (some (.inl x4), s4)
        else
          none
    else
      none := (jev_rg jcy_2 (fun q => false) 30 0 _ _ _).trans rfl
set_option maxRecDepth 100000 in
theorem bq_3 (v1 : Int) (v2 : Int) (s : jM) : jq 3 [.inr (10, 0), .inl v1, .inl v2] s =
  jbI (jq 39 [.inl v1] s) fun x1 s1 =>
  if x1 = 0 then
    some (some (.inl (-1)), s1)
  else
    jbI (jq 38 [.inl v2, .inl 4] s1) fun x2 s2 =>
    if x2 = 0 then
      some (some (.inl (-1)), s2)
    else
      if 0 ≤ v1 ∧ v1 < 4 then
        if v2 = 0 then
          some (some (.inl (s2 1 (22 * 0 + (Int.toNat v1)) 1)), s2)
        else
        if v2 = 1 then
          jbI (jq 61 [.inr (1, 22 * 0 + (Int.toNat v1))] s2) fun x3 s3 =>
          some (some (.inl x3), s3)
        else
        if v2 = 2 then
          jbI (jq 69 [.inr (1, 22 * 0 + (Int.toNat v1))] s2) fun x4 s4 =>
          some (some (.inl x4), s4)
        else
          jbI (jq 70 [.inr (1, 22 * 0 + (Int.toNat v1))] s2) fun x5 s5 =>
          if x5 = 0 then
            some (some (.inl 0), s5)
          else
            some (some (.inl 1), s5)
      else
        none := (jev_rg jcy_3 (fun q => false) 21 0 _ _ _).trans rfl
set_option maxRecDepth 100000 in
theorem bq_4 (v1 : Int) (v2 : Int) (v3 : Int) (v4 : Int) (s : jM) : jq 4 [.inr (10, 0), .inl v1, .inl v2, .inl v3, .inl v4] s =
  jbI (jq 39 [.inl v1] s) fun x1 s1 =>
  if x1 = 0 then
    some (some (.inl (-1)), s1)
  else
    jbI (jq 39 [.inl v2] s1) fun x2 s2 =>
    if x2 = 0 then
      some (some (.inl (-1)), s2)
    else
      jbI (jq 39 [.inl v3] s2) fun x3 s3 =>
      if x3 = 0 then
        some (some (.inl (-1)), s3)
      else
        jbI (jq 43 [.inl v4] s3) fun x4 s4 =>
        if x4 = 0 then
          some (some (.inl (-1)), s4)
        else
          if 0 ≤ v2 ∧ v2 < 4 then
            if 0 ≤ v3 ∧ v3 < 4 then
              if (s4 1 (22 * 0 + (Int.toNat v2)) 1) = (s4 1 (22 * 0 + (Int.toNat v3)) 1) then
                jbV (jq 66 [.inr (1, 44), .inr (1, 22 * 0 + (Int.toNat v2))] s4) fun s5 =>
                jbV (jq 72 [.inr (1, 44), .inr (1, 22 * 0 + (Int.toNat v3)), .inl v4] s5) fun s6 =>
                jbV (jq 51 [.inr (10, 0), .inl 0, .inl v1, .inr (1, 44)] s6) fun s7 =>
                some (some (.inl (s7 1 44 1)), s7)
              else
                some (some (.inl (-5)), s4)
            else
              none
          else
            none := (jev_rg jcy_4 (fun q => false) 48 0 _ _ _).trans rfl
set_option maxRecDepth 100000 in
theorem bq_5 (v1 : Int) (v2 : Int) (v3 : Int) (s : jM) : jq 5 [.inr (10, 0), .inl v1, .inl v2, .inl v3] s =
  jbI (jq 39 [.inl v1] s) fun x1 s1 =>
  if x1 = 0 then
    some (some (.inl (-1)), s1)
  else
    jbI (jq 39 [.inl v2] s1) fun x2 s2 =>
    if x2 = 0 then
      some (some (.inl (-1)), s2)
    else
      jbI (jq 39 [.inl v3] s2) fun x3 s3 =>
      if x3 = 0 then
        some (some (.inl (-1)), s3)
      else
        if 0 ≤ v2 ∧ v2 < 4 then
          if 0 ≤ v3 ∧ v3 < 4 then
            if (s3 1 (22 * 0 + (Int.toNat v3)) 1) < (s3 1 (22 * 0 + (Int.toNat v2)) 1) then
              some (some (.inl (-5)), s3)
            else
              jbV (jq 75 [.inr (1, 44), .inr (1, 22 * 0 + (Int.toNat v2)), .inr (1, 22 * 0 + (Int.toNat v3))] s3) fun s4 =>
              jbV (jq 51 [.inr (10, 0), .inl 0, .inl v1, .inr (1, 44)] s4) fun s5 =>
              some (some (.inl (s5 1 44 1)), s5)
          else
            none
        else
          none := (jev_rg jcy_5 (fun q => false) 41 0 _ _ _).trans rfl
set_option maxRecDepth 100000 in
theorem bq_6 (v1 : Int) (v2 : Int) (v3 : Int) (s : jM) : jq 6 [.inr (10, 0), .inl v1, .inl v2, .inl v3] s =
  jbI (jq 39 [.inl v1] s) fun x1 s1 =>
  if x1 = 0 then
    some (some (.inl (-1)), s1)
  else
    jbI (jq 39 [.inl v2] s1) fun x2 s2 =>
    if x2 = 0 then
      some (some (.inl (-1)), s2)
    else
      jbI (jq 39 [.inl v3] s2) fun x3 s3 =>
      if x3 = 0 then
        some (some (.inl (-1)), s3)
      else
        if 0 ≤ v2 ∧ v2 < 4 then
          if 0 ≤ v3 ∧ v3 < 4 then
            if 5 < (jw ((s3 1 (22 * 0 + (Int.toNat v2)) 1) + (s3 1 (22 * 0 + (Int.toNat v3)) 1))) then
              some (some (.inl (-5)), s3)
            else
              jbV (jq 76 [.inr (1, 44), .inr (1, 22 * 0 + (Int.toNat v2)), .inr (1, 22 * 0 + (Int.toNat v3))] s3) fun s4 =>
              jbV (jq 51 [.inr (10, 0), .inl 0, .inl v1, .inr (1, 44)] s4) fun s5 =>
              some (some (.inl (s5 1 44 1)), s5)
          else
            none
        else
          none := (jev_rg jcy_6 (fun q => false) 43 0 _ _ _).trans rfl
set_option maxRecDepth 100000 in
theorem bq_7 (v1 : Int) (v2 : Int) (v3 : Int) (v4 : Int) (s : jM) : jq 7 [.inr (10, 0), .inl v1, .inl v2, .inl v3, .inl v4] s =
  jbI (jq 40 [.inl v1] s) fun x1 s1 =>
  if x1 = 0 then
    some (some (.inl (-1)), s1)
  else
    jbI (jq 43 [.inl v2] s1) fun x2 s2 =>
    if x2 = 0 then
      some (some (.inl (-1)), s2)
    else
      jbI (jq 43 [.inl v3] s2) fun x3 s3 =>
      if x3 = 0 then
        some (some (.inl (-1)), s3)
      else
        jbI (jq 43 [.inl v4] s3) fun x4 s4 =>
        if x4 = 0 then
          some (some (.inl (-1)), s4)
        else
          jbV (jq 71 [.inr (1, 44), .inl v2, .inl v3, .inl v4] s4) fun s5 =>
          jbV (jq 51 [.inr (10, 0), .inl 1, .inl v1, .inr (1, 44)] s5) fun s6 =>
          some (some (.inl 1), s6) := (jev_rg jcy_7 (fun q => false) 26 0 _ _ _).trans rfl
set_option maxRecDepth 100000 in
theorem bq_8 (v1 : Int) (v2 : Int) (s : jM) : jq 8 [.inr (10, 0), .inl v1, .inl v2] s =
  jbI (jq 40 [.inl v1] s) fun x1 s1 =>
  if x1 = 0 then
    some (some (.inl (-1)), s1)
  else
    jbI (jq 38 [.inl v2, .inl 3] s1) fun x2 s2 =>
    if x2 = 0 then
      some (some (.inl (-1)), s2)
    else
      if 0 ≤ v1 ∧ v1 < 6 then
        jbI (jq 62 [.inr (1, 22 * 0 + 4 + (Int.toNat v1)), .inl v2] s2) fun x3 s3 =>
        some (some (.inl x3), s3)
      else
        none := (jev_rg jcy_8 (fun q => false) 15 0 _ _ _).trans rfl
set_option maxRecDepth 100000 in
theorem bq_9 (v1 : Int) (v2 : Int) (v3 : Int) (s : jM) : jq 9 [.inr (10, 0), .inl v1, .inl v2, .inl v3] s =
  jbI (jq 39 [.inl v1] s) fun x1 s1 =>
  if x1 = 0 then
    some (some (.inl (-1)), s1)
  else
    jbI (jq 40 [.inl v2] s1) fun x2 s2 =>
    if x2 = 0 then
      some (some (.inl (-1)), s2)
    else
      jbI (jq 42 [.inl v3] s2) fun x3 s3 =>
      if x3 = 0 then
        some (some (.inl (-1)), s3)
      else
        jbV (jq 65 [.inr (1, 44), .inl v3] s3) fun s4 =>
        if 0 ≤ v2 ∧ v2 < 6 then
          jbV (jq 73 [.inr (1, 44), .inr (1, 22 * 0 + 4 + (Int.toNat v2)), .inl 1] s4) fun s5 =>
          jbV (jq 51 [.inr (10, 0), .inl 0, .inl v1, .inr (1, 44)] s5) fun s6 =>
          some (some (.inl v3), s6)
        else
          none := (jev_rg jcy_9 (fun q => false) 30 0 _ _ _).trans rfl
set_option maxRecDepth 100000 in
theorem bq_10 (v1 : Int) (v2 : Int) (v3 : Int) (s : jM) : jq 10 [.inr (10, 0), .inl v1, .inl v2, .inl v3] s =
  jbI (jq 39 [.inl v1] s) fun x1 s1 =>
  if x1 = 0 then
    some (some (.inl (-1)), s1)
  else
    jbI (jq 40 [.inl v2] s1) fun x2 s2 =>
    if x2 = 0 then
      some (some (.inl (-1)), s2)
    else
      jbI (jq 43 [.inl v3] s2) fun x3 s3 =>
      if x3 = 0 then
        some (some (.inl (-1)), s3)
      else
        if 0 ≤ v1 ∧ v1 < 4 then
          jbV (jq 66 [.inr (1, 44), .inr (1, 22 * 0 + (Int.toNat v1))] s3) fun s4 =>
          if 0 ≤ v2 ∧ v2 < 6 then
            jbV (jq 73 [.inr (1, 44), .inr (1, 22 * 0 + 4 + (Int.toNat v2)), .inl v3] s4) fun s5 =>
            jbV (jq 51 [.inr (10, 0), .inl 0, .inl v1, .inr (1, 44)] s5) fun s6 =>
            some (some (.inl (s6 1 44 1)), s6)
          else
            none
        else
          none := (jev_rg jcy_10 (fun q => false) 36 0 _ _ _).trans rfl
set_option maxRecDepth 100000 in
theorem bq_11 (v1 : Int) (v2 : Int) (s : jM) : jq 11 [.inr (10, 0), .inl v1, .inl v2] s =
  jbI (jq 39 [.inl v1] s) fun x1 s1 =>
  if x1 = 0 then
    some (some (.inl (-1)), s1)
  else
    jbI (jq 40 [.inl v2] s1) fun x2 s2 =>
    if x2 = 0 then
      some (some (.inl (-1)), s2)
    else
      if 0 ≤ v1 ∧ v1 < 4 then
        if 0 ≤ v2 ∧ v2 < 6 then
          jbI (jq 74 [.inr (1, 22 * 0 + (Int.toNat v1)), .inr (1, 22 * 0 + 4 + (Int.toNat v2))] s2) fun x3 s3 =>
          some (some (.inl x3), s3)
        else
          none
      else
        none := (jev_rg jcy_11 (fun q => false) 18 0 _ _ _).trans rfl
set_option maxRecDepth 100000 in
theorem bq_12 (v1 : Int) (v2 : Int) (s : jM) : jq 12 [.inr (10, 0), .inl v1, .inl v2] s =
  jbI (jq 39 [.inl v1] s) fun x1 s1 =>
  if x1 = 0 then
    some (some (.inl (-1)), s1)
  else
    jbI (jq 39 [.inl v2] s1) fun x2 s2 =>
    if x2 = 0 then
      some (some (.inl (-1)), s2)
    else
      if 0 ≤ v1 ∧ v1 < 4 then
        if 0 ≤ v2 ∧ v2 < 4 then
          if (s2 1 (22 * 0 + (Int.toNat v2)) 1) < (s2 1 (22 * 0 + (Int.toNat v1)) 1) then
            some (some (.inl (-5)), s2)
          else
            jbV (jq 75 [.inr (1, 44), .inr (1, 22 * 0 + (Int.toNat v1)), .inr (1, 22 * 0 + (Int.toNat v2))] s2) fun s3 =>
            jbI (jq 69 [.inr (1, 44)] s3) fun x4 s4 =>
            if x4 = 0 then
              some (some (.inl 1), s4)
            else
              some (some (.inl 0), s4)
        else
          none
      else
        none := (jev_rg jcy_12 (fun q => false) 35 0 _ _ _).trans rfl
set_option maxRecDepth 100000 in
theorem bq_13 (v1 : Int) (v2 : Int) (s : jM) : jq 13 [.inr (10, 0), .inl v1, .inl v2] s =
  jbI (jq 39 [.inl v1] s) fun x1 s1 =>
  if x1 = 0 then
    some (some (.inl (-1)), s1)
  else
    if v2 < 0 then
      some (some (.inl (-1)), s1)
    else
      if 0 ≤ v1 ∧ v1 < 4 then
        if (s1 1 (22 * 0 + (Int.toNat v1)) 1) < v2 then
          some (some (.inl (-1)), s1)
        else
          if 0 ≤ v1 ∧ v1 < 4 then
            jbV (jq 125 [.inr (7, 0), .inr (1, 22 * 0 + (Int.toNat v1)), .inl v2] s1) fun s2 =>
            jbI (jq 127 [.inr (7, 0)] s2) fun x3 s3 =>
            some (some (.inl x3), s3)
          else
            none
      else
        none := (jev_rg jcy_13 (fun q => false) 26 0 _ _ _).trans rfl
set_option maxRecDepth 100000 in
theorem bq_14 (v1 : Int) (v2 : Int) (v3 : Int) (v4 : Int) (s : jM) : jq 14 [.inr (10, 0), .inl v1, .inl v2, .inl v3, .inl v4] s =
  jbI (jq 39 [.inl v1] s) fun x1 s1 =>
  if x1 = 0 then
    some (some (.inl (-1)), s1)
  else
    if v2 < 0 then
      some (some (.inl (-1)), s1)
    else
      if 0 ≤ v1 ∧ v1 < 4 then
        if (s1 1 (22 * 0 + (Int.toNat v1)) 1) < v2 then
          some (some (.inl (-1)), s1)
        else
          if v3 < (-1) then
            some (some (.inl (-1)), s1)
          else
            if v3 < 0 then
              je 14 52 [some (.inr (10, 0)), some (.inl v1), some (.inl v2), some (.inl v3), some (.inl v4), none] [] s1
            else
              jbI (jq 45 [.inl v2] s1) fun x2 s2 =>
              jbI (jq 38 [.inl v4, .inl x2] s2) fun x3 s3 =>
              if x3 = 0 then
                some (some (.inl (-1)), s3)
              else
                je 14 52 [some (.inr (10, 0)), some (.inl v1), some (.inl v2), some (.inl v3), some (.inl v4), none] [] s3
      else
        none := (jev_rg jcy_14 (fun q => Nat.beq q 52) 25 0 _ _ _).trans rfl
set_option maxRecDepth 100000 in
theorem be_14_52 (v1 : Int) (v2 : Int) (v3 : Int) (v4 : Int) (o5 : Option jV) (s : jM) : je 14 52 [some (.inr (10, 0)), some (.inl v1), some (.inl v2), some (.inl v3), some (.inl v4), o5] [] s =
  if 0 ≤ v1 ∧ v1 < 4 then
    jbV (jq 125 [.inr (7, 0), .inr (1, 22 * 0 + (Int.toNat v1)), .inl v2] s) fun s1 =>
    jbI (jq 45 [.inl v2] s1) fun x2 s2 =>
    jbI (jq 127 [.inr (7, 0)] s2) fun x3 s3 =>
    if v3 = (-1) then
      some (some (.inl (jw (x2 - x3))), s3)
    else
      if v3 < (jw (x2 - x3)) then
        jbI (jq 132 [.inr (7, 0), .inl v3] s3) fun x4 s4 =>
        jbI (jq 134 [.inr (7, 0), .inl x4, .inl v4] s4) fun x5 s5 =>
        some (some (.inl x5), s5)
      else
        some (some (.inl (-2)), s3)
  else
    none := (jev_rg jcy_14 (fun q => Nat.beq q 52) 32 52 _ _ _).trans rfl
set_option maxRecDepth 100000 in
theorem bq_15 (v1 : Int) (s : jM) : jq 15 [.inr (10, 0), .inl v1] s =
  jbI (jq 39 [.inl v1] s) fun x1 s1 =>
  if x1 = 0 then
    some (some (.inl (-1)), s1)
  else
    if 0 ≤ v1 ∧ v1 < 4 then
      jbI (jq 79 [.inr (2, 0), .inr (1, 22 * 0 + (Int.toNat v1))] s1) fun x2 s2 =>
      if x2 = 0 then
        some (some (.inl (-5)), s2)
      else
        some (some (.inl (s2 2 0 3)), s2)
    else
      none := (jev_rg jcy_15 (fun q => false) 17 0 _ _ _).trans rfl
set_option maxRecDepth 100000 in
theorem bq_16 (v1 : Int) (v2 : Int) (s : jM) : jq 16 [.inr (10, 0), .inl v1, .inl v2] s =
  jbI (jq 39 [.inl v1] s) fun x1 s1 =>
  if x1 = 0 then
    some (some (.inl (-1)), s1)
  else
    if v2 < 0 then
      some (some (.inl (-1)), s1)
    else
      if 0 ≤ v1 ∧ v1 < 4 then
        jbI (jq 79 [.inr (2, 0), .inr (1, 22 * 0 + (Int.toNat v1))] s1) fun x2 s2 =>
        if x2 = 0 then
          some (some (.inl (-5)), s2)
        else
          if (s2 2 0 3) < v2 then
            some (some (.inl (-1)), s2)
          else
            jbI (jq 82 [.inr (2, 0), .inl v2] s2) fun x3 s3 =>
            some (some (.inl x3), s3)
      else
        none := (jev_rg jcy_16 (fun q => false) 25 0 _ _ _).trans rfl
set_option maxRecDepth 100000 in
theorem bq_17 (v1 : Int) (v2 : Int) (s : jM) : jq 17 [.inr (10, 0), .inl v1, .inl v2] s =
  jbI (jq 39 [.inl v1] s) fun x1 s1 =>
  if x1 = 0 then
    some (some (.inl (-1)), s1)
  else
    if v2 < (-1) then
      some (some (.inl (-1)), s1)
    else
      if 0 ≤ v1 ∧ v1 < 4 then
        jbI (jq 79 [.inr (2, 0), .inr (1, 22 * 0 + (Int.toNat v1))] s1) fun x2 s2 =>
        if x2 = 0 then
          some (some (.inl (-5)), s2)
        else
          jbI (jq 83 [.inr (2, 0)] s2) fun x3 s3 =>
          if v2 = (-1) then
            some (some (.inl x3), s3)
          else
            if v2 < x3 then
              jbI (jq 86 [.inr (2, 0), .inl v2] s3) fun x4 s4 =>
              some (some (.inl x4), s4)
            else
              some (some (.inl (-2)), s3)
      else
        none := (jev_rg jcy_17 (fun q => false) 31 0 _ _ _).trans rfl
set_option maxRecDepth 100000 in
theorem bq_18 (v1 : Int) (v2 : Int) (s : jM) : jq 18 [.inr (10, 0), .inl v1, .inl v2] s =
  jbI (jq 39 [.inl v1] s) fun x1 s1 =>
  if x1 = 0 then
    some (some (.inl (-1)), s1)
  else
    if v2 < 0 then
      some (some (.inl (-1)), s1)
    else
      if 0 ≤ v1 ∧ v1 < 4 then
        jbI (jq 79 [.inr (2, 0), .inr (1, 22 * 0 + (Int.toNat v1))] s1) fun x2 s2 =>
        if x2 = 0 then
          some (some (.inl (-5)), s2)
        else
          jbI (jq 83 [.inr (2, 0)] s2) fun x3 s3 =>
          if x3 = (s3 2 0 3) then
            if (s3 1 (22 * 0 + (Int.toNat v1)) 1) < (s3 2 0 3) then
              some (some (.inl (-5)), s3)
            else
              if v2 < x3 then
                jbI (jq 87 [.inr (2, 0), .inr (1, 22 * 0 + (Int.toNat v1)), .inl v2] s3) fun x4 s4 =>
                some (some (.inl x4), s4)
              else
                some (some (.inl (-2)), s3)
          else
            some (some (.inl (-5)), s3)
      else
        none := (jev_rg jcy_18 (fun q => false) 41 0 _ _ _).trans rfl
set_option maxRecDepth 100000 in
theorem bq_19 (v1 : Int) (v2 : Int) (v3 : Int) (s : jM) : jq 19 [.inr (10, 0), .inl v1, .inl v2, .inl v3] s =
  if v1 < 1 then
    some (some (.inl (-1)), s)
  else
    if 5 < v1 then
      some (some (.inl (-1)), s)
    else
      jbI (jq 38 [.inl v2, .inl 64] s) fun x1 s1 =>
      if x1 = 0 then
        some (some (.inl (-1)), s1)
      else
        jbI (jq 38 [.inl v3, .inl 2] s1) fun x2 s2 =>
        if x2 = 0 then
          some (some (.inl (-1)), s2)
        else
          if v3 = 1 then
            jbI (jq 300 [.inl v2] s2) fun x3 s3 =>
            jbI (jq 45 [.inl v1] s3) fun x4 s4 =>
            some (some (.inl (if x4 < (jw (3 * x3)) then x4 else jw (3 * x3))), s4)
          else
            jbI (jq 45 [.inl v1] s2) fun x5 s5 =>
            jbV (jq 123 [.inr (7, 0), .inl 18, .inl x5] s5) fun s6 =>
            je 19 64 [some (.inr (10, 0)), some (.inl v1), some (.inl v2), some (.inl v3), some (.inl 0)] [] s6 := (jev_rg jcy_19 (fun q => Nat.beq q 64) 26 0 _ _ _).trans rfl
set_option maxRecDepth 100000 in
theorem be_19_64 (v1 : Int) (v2 : Int) (v3 : Int) (v4 : Int) (s : jM) : je 19 64 [some (.inr (10, 0)), some (.inl v1), some (.inl v2), some (.inl v3), some (.inl v4)] [] s =
  if v4 < 6 then
    if (jand (jshr v2 v4) 1) = 1 then
      if 0 ≤ v4 ∧ v4 < 6 then
        jbV (jq 126 [.inr (7, 0), .inl (jw (3 * v4)), .inr (1, 22 * 0 + 4 + (Int.toNat v4)), .inl v1] s) fun s1 =>
        je 19 64 [some (.inr (10, 0)), some (.inl v1), some (.inl v2), some (.inl v3), some (.inl (jw (v4 + 1)))] [] s1
      else
        none
    else
      je 19 64 [some (.inr (10, 0)), some (.inl v1), some (.inl v2), some (.inl v3), some (.inl (jw (v4 + 1)))] [] s
  else
    jbI (jq 127 [.inr (7, 0)] s) fun x2 s2 =>
    some (some (.inl x2), s2) := (jev_rg jcy_19 (fun q => Nat.beq q 64) 25 64 _ _ _).trans rfl
set_option maxRecDepth 100000 in
theorem bq_20 (v1 : Int) (v2 : Int) (v3 : Int) (s : jM) : jq 20 [.inr (10, 0), .inl v1, .inl v2, .inl v3] s =
  jbI (jq 39 [.inl v1] s) fun x1 s1 =>
  if x1 = 0 then
    some (some (.inl (-1)), s1)
  else
    if v2 < 0 then
      some (some (.inl (-1)), s1)
    else
      jbI (jq 38 [.inl v3, .inl 2] s1) fun x2 s2 =>
      if x2 = 0 then
        some (some (.inl (-1)), s2)
      else
        if 0 ≤ v1 ∧ v1 < 4 then
          jbI (jq 77 [.inr (1, 22 * 0 + (Int.toNat v1)), .inl v2] s2) fun x3 s3 =>
          if x3 < 0 then
            some (some (.inl (-2)), s3)
          else
            if v3 = 0 then
              jbI (jq 47 [.inl (s3 1 (22 * 0 + (Int.toNat v1)) 1), .inl x3] s3) fun x4 s4 =>
              if 0 ≤ x3 ∧ x3 < 21 then
                some (some (.inl (jw ((jw (10 * x4)) + (jyp (Int.toNat x3))))), s4)
              else
                none
            else
              jbI (jq 62 [.inr (1, 22 * 0 + (Int.toNat v1)), .inl x3] s3) fun x5 s5 =>
              some (some (.inl x5), s5)
        else
          none := (jev_rg jcy_20 (fun q => false) 35 0 _ _ _).trans rfl
set_option maxRecDepth 100000 in
theorem bq_21 (v1 : Int) (v2 : Int) (v3 : Int) (s : jM) : jq 21 [.inr (10, 0), .inl v1, .inl v2, .inl v3] s =
  jbI (jq 39 [.inl v1] s) fun x1 s1 =>
  if x1 = 0 then
    some (some (.inl (-1)), s1)
  else
    if v2 < (-1) then
      some (some (.inl (-1)), s1)
    else
      if v2 < 0 then
        if 0 ≤ v1 ∧ v1 < 4 then
          je 21 44 [some (.inr (10, 0)), some (.inl v1), some (.inl v2), some (.inl v3), some (.inr (1, 22 * 0 + (Int.toNat v1))), some (.inl 0), some (.inl 100), none] [] s1
        else
          none
      else
        jbI (jq 38 [.inl v3, .inl 2] s1) fun x2 s2 =>
        if x2 = 0 then
          some (some (.inl (-1)), s2)
        else
          if 0 ≤ v1 ∧ v1 < 4 then
            je 21 44 [some (.inr (10, 0)), some (.inl v1), some (.inl v2), some (.inl v3), some (.inr (1, 22 * 0 + (Int.toNat v1))), some (.inl 0), some (.inl 100), none] [] s2
          else
            none := (jev_rg jcy_21 (fun q => Nat.beq q 44) 23 0 _ _ _).trans rfl
set_option maxRecDepth 100000 in
theorem be_21_44 (v1 : Int) (v2 : Int) (v3 : Int) (f4 : Nat) (v5 : Int) (v6 : Int) (o7 : Option jV) (s : jM) : je 21 44 [some (.inr (10, 0)), some (.inl v1), some (.inl v2), some (.inl v3), some (.inr (1, f4)), some (.inl v5), some (.inl v6), o7] [] s =
  if v6 < 0 then
    if v2 = (-1) then
      some (some (.inl v5), s)
    else
      some (some (.inl (-2)), s)
  else
    jbI (jq 68 [.inr (1, f4), .inl v6] s) fun x1 s1 =>
    if 0 < x1 then
      if v5 = v2 then
        if v3 = 0 then
          some (some (.inl v6), s1)
        else
          some (some (.inl x1), s1)
      else
        if 0 < x1 then
          je 21 44 [some (.inr (10, 0)), some (.inl v1), some (.inl v2), some (.inl v3), some (.inr (1, f4)), some (.inl (jw (v5 + 1))), some (.inl (jw (v6 + (-1)))), some (.inl x1)] [] s1
        else
          je 21 44 [some (.inr (10, 0)), some (.inl v1), some (.inl v2), some (.inl v3), some (.inr (1, f4)), some (.inl v5), some (.inl (jw (v6 + (-1)))), some (.inl x1)] [] s1
    else
      if 0 < x1 then
        je 21 44 [some (.inr (10, 0)), some (.inl v1), some (.inl v2), some (.inl v3), some (.inr (1, f4)), some (.inl (jw (v5 + 1))), some (.inl (jw (v6 + (-1)))), some (.inl x1)] [] s1
      else
        je 21 44 [some (.inr (10, 0)), some (.inl v1), some (.inl v2), some (.inl v3), some (.inr (1, f4)), some (.inl v5), some (.inl (jw (v6 + (-1)))), some (.inl x1)] [] s1 := (jev_rg jcy_21 (fun q => Nat.beq q 44) 17 44 _ _ _).trans rfl
set_option maxRecDepth 100000 in
theorem bq_22 (v1 : Int) (v2 : Int) (v3 : Int) (v4 : Int) (s : jM) : jq 22 [.inr (10, 0), .inl v1, .inl v2, .inl v3, .inl v4] s =
  jbI (jq 38 [.inl v1, .inl 3] s) fun x1 s1 =>
  if x1 = 0 then
    some (some (.inl (-1)), s1)
  else
    jbI (jq 38 [.inl v3, .inl 2] s1) fun x2 s2 =>
    if x2 = 0 then
      some (some (.inl (-1)), s2)
    else
      jbI (jq 41 [.inl v3, .inl v4] s2) fun x3 s3 =>
      if x3 = 0 then
        some (some (.inl (-1)), s3)
      else
        jbI (jq 38 [.inl v2, .inl 4] s3) fun x4 s4 =>
        if x4 = 0 then
          some (some (.inl (-13)), s4)
        else
          if v1 = 0 then
            if v3 = 0 then
              je 22 46 [some (.inr (10, 0)), some (.inl v1), some (.inl v2), some (.inl v3), some (.inl v4)] [] s4
            else
              some (some (.inl (-16)), s4)
          else
            je 22 46 [some (.inr (10, 0)), some (.inl v1), some (.inl v2), some (.inl v3), some (.inl v4)] [] s4 := (jev_rg jcy_22 (fun q => Nat.beq q 46) 22 0 _ _ _).trans rfl
set_option maxRecDepth 100000 in
theorem be_22_46 (v1 : Int) (v2 : Int) (v3 : Int) (v4 : Int) (s : jM) : je 22 46 [some (.inr (10, 0)), some (.inl v1), some (.inl v2), some (.inl v3), some (.inl v4)] [] s =
  if v1 = 1 then
    if v3 = 1 then
      jbV (jq 56 [.inr (0, 0), .inl (jw ((jw (v1 * 4)) + v2)), .inl v3, .inl v4] s) fun s1 =>
      some (some (.inl 1), s1)
    else
      some (some (.inl (-16)), s)
  else
    jbV (jq 56 [.inr (0, 0), .inl (jw ((jw (v1 * 4)) + v2)), .inl v3, .inl v4] s) fun s2 =>
    some (some (.inl 1), s2) := (jev_rg jcy_22 (fun q => Nat.beq q 46) 18 46 _ _ _).trans rfl
set_option maxRecDepth 100000 in
theorem bq_23 (v1 : Int) (v2 : Int) (s : jM) : jq 23 [.inr (10, 0), .inl v1, .inl v2] s =
  jbI (jq 38 [.inl v1, .inl 3] s) fun x1 s1 =>
  if x1 = 0 then
    some (some (.inl (-1)), s1)
  else
    jbI (jq 38 [.inl v2, .inl 4] s1) fun x2 s2 =>
    if x2 = 0 then
      some (some (.inl (-13)), s2)
    else
      if 0 ≤ (jw ((jw (v1 * 4)) + v2)) ∧ (jw ((jw (v1 * 4)) + v2)) < 12 then
        if (s2 15 0 (Int.toNat (jw ((jw (v1 * 4)) + v2)))) = (-2) then
          some (some (.inl (-2)), s2)
        else
          some (some (.inl (s2 15 0 (Int.toNat (jw ((jw (v1 * 4)) + v2))))), s2)
      else
        none := (jev_rg jcy_23 (fun q => false) 24 0 _ _ _).trans rfl
set_option maxRecDepth 100000 in
theorem bq_24 (v1 : Int) (v2 : Int) (v3 : Int) (s : jM) : jq 24 [.inr (10, 0), .inl v1, .inl v2, .inl v3] s =
  jbI (jq 23 [.inr (10, 0), .inl v1, .inl v2] s) fun x1 s1 =>
  if x1 < 0 then
    some (some (.inl x1), s1)
  else
    jbI (jq 41 [.inl x1, .inl v3] s1) fun x2 s2 =>
    if x2 = 0 then
      some (some (.inl (-1)), s2)
    else
      if 0 ≤ (jw ((jw (v1 * 4)) + v2)) ∧ (jw ((jw (v1 * 4)) + v2)) < 12 then
        jbV (jq 51 [.inr (10, 0), .inl x1, .inl v3, .inr (1, 22 * 0 + 10 + (Int.toNat (jw ((jw (v1 * 4)) + v2))))] s2) fun s3 =>
        some (some (.inl x1), s3)
      else
        none := (jev_rg jcy_24 (fun q => false) 26 0 _ _ _).trans rfl
set_option maxRecDepth 100000 in
theorem bq_25 (v1 : Int) (v2 : Int) (s : jM) : jq 25 [.inr (10, 0), .inl v1, .inl v2] s =
  jbI (jq 38 [.inl v1, .inl 3] s) fun x1 s1 =>
  if x1 = 0 then
    some (some (.inl (-1)), s1)
  else
    if 40 < v2 then
      some (some (.inl (-1)), s1)
    else
      if v2 < (-1) then
        some (some (.inl (-14)), s1)
      else
        jbV (jq 114 [.inr (4, 0), .inl v1] s1) fun s2 =>
        if v2 < 0 then
          some (some (.inl 1), s2)
        else
          jbV (jq 115 [.inr (4, 0), .inl v1, .inl v2] s2) fun s3 =>
          some (some (.inl 1), s3) := (jev_rg jcy_25 (fun q => false) 23 0 _ _ _).trans rfl
set_option maxRecDepth 100000 in
theorem bq_26 (v1 : Int) (v2 : Int) (v3 : Int) (s : jM) : jq 26 [.inr (10, 0), .inl v1, .inl v2, .inl v3] s =
  jbI (jq 116 [.inr (4, 0), .inl v1, .inl v2] s) fun x1 s1 =>
  if x1 = 0 then
    jbV (jq 118 [.inr (4, 0), .inl v1, .inl v2, .inl v3] s1) fun s2 =>
    some (some (.inl 1), s2)
  else
    some (some (.inl x1), s1) := (jev_rg jcy_26 (fun q => false) 16 0 _ _ _).trans rfl
set_option maxRecDepth 100000 in
theorem bq_27 (v1 : Int) (v2 : Int) (s : jM) : jq 27 [.inr (10, 0), .inl v1, .inl v2] s =
  jbI (jq 116 [.inr (4, 0), .inl v1, .inl v2] s) fun x1 s1 =>
  if x1 = 0 then
    jbI (jq 117 [.inr (4, 0), .inl v1, .inl v2] s1) fun x2 s2 =>
    some (some (.inl x2), s2)
  else
    some (some (.inl x1), s1) := (jev_rg jcy_27 (fun q => false) 15 0 _ _ _).trans rfl
set_option maxRecDepth 100000 in
theorem bq_28 (v1 : Int) (v2 : Int) (s : jM) : jq 28 [.inr (10, 0), .inl v1, .inl v2] s =
  jbI (jq 38 [.inl v1, .inl 3] s) fun x1 s1 =>
  if x1 = 0 then
    some (some (.inl (-1)), s1)
  else
    jbI (jq 39 [.inl v2] s1) fun x2 s2 =>
    if x2 = 0 then
      some (some (.inl (-1)), s2)
    else
      if 0 ≤ v2 ∧ v2 < 4 then
        jbI (jq 61 [.inr (1, 22 * 0 + (Int.toNat v2))] s2) fun x3 s3 =>
        jbV (jq 115 [.inr (4, 0), .inl v1, .inl x3] s3) fun s4 =>
        je 28 42 [some (.inr (10, 0)), some (.inl v1), some (.inl v2), some (.inr (1, 22 * 0 + (Int.toNat v2))), some (.inl 0)] [] s4
      else
        none := (jev_rg jcy_28 (fun q => Nat.beq q 42) 22 0 _ _ _).trans rfl
set_option maxRecDepth 100000 in
theorem be_28_42 (v1 : Int) (v2 : Int) (f3 : Nat) (v4 : Int) (s : jM) : je 28 42 [some (.inr (10, 0)), some (.inl v1), some (.inl v2), some (.inr (1, f3)), some (.inl v4)] [] s =
  jbI (jq 61 [.inr (1, f3)] s) fun x1 s1 =>
  if v4 < x1 then
    jbI (jq 62 [.inr (1, f3), .inl v4] s1) fun x2 s2 =>
    jbV (jq 118 [.inr (4, 0), .inl v1, .inl v4, .inl x2] s2) fun s3 =>
    je 28 42 [some (.inr (10, 0)), some (.inl v1), some (.inl v2), some (.inr (1, f3)), some (.inl (jw (v4 + 1)))] [] s3
  else
    jbI (jq 61 [.inr (1, f3)] s1) fun x4 s4 =>
    some (some (.inl x4), s4) := (jev_rg jcy_28 (fun q => Nat.beq q 42) 15 42 _ _ _).trans rfl
set_option maxRecDepth 100000 in
theorem bq_29 (v1 : Int) (v2 : Int) (s : jM) : jq 29 [.inr (10, 0), .inl v1, .inl v2] s =
  jbI (jq 38 [.inl v1, .inl 3] s) fun x1 s1 =>
  if x1 = 0 then
    some (some (.inl (-1)), s1)
  else
    jbI (jq 39 [.inl v2] s1) fun x2 s2 =>
    if x2 = 0 then
      some (some (.inl (-1)), s2)
    else
      jbI (jq 112 [.inr (4, 0), .inl v1] s2) fun x3 s3 =>
      if x3 = 0 then
        jbI (jq 113 [.inr (4, 0), .inl v1] s3) fun x4 s4 =>
        je 29 43 [some (.inr (10, 0)), some (.inl v1), some (.inl v2), some (.inl x4), some (.inl 0)] [] s4
      else
        some (some (.inl (-11)), s3) := (jev_rg jcy_29 (fun q => Nat.beq q 43) 20 0 _ _ _).trans rfl
set_option maxRecDepth 100000 in
theorem be_29_43 (v1 : Int) (v2 : Int) (v3 : Int) (v4 : Int) (s : jM) : je 29 43 [some (.inr (10, 0)), some (.inl v1), some (.inl v2), some (.inl v3), some (.inl v4)] [] s =
  if v4 < v3 then
    if v4 < 6 then
      jbI (jq 117 [.inr (4, 0), .inl v1, .inl v4] s) fun x1 s1 =>
      if 0 ≤ v2 ∧ v2 < 4 then
        if 0 ≤ v4 ∧ v4 < 6 then
          jbI (jq 74 [.inr (1, 22 * 0 + (Int.toNat v2)), .inr (1, 22 * 0 + 4 + (Int.toNat v4))] s1) fun x2 s2 =>
          if x1 = x2 then
            je 29 43 [some (.inr (10, 0)), some (.inl v1), some (.inl v2), some (.inl v3), some (.inl (jw (v4 + 1)))] [] s2
          else
            some (some (.inl v4), s2)
        else
          none
      else
        none
    else
      some (some (.inl v4), s)
  else
    if v3 < 6 then
      some (some (.inl (jw (100 + v3))), s)
    else
      some (some (.inl (-2)), s) := (jev_rg jcy_29 (fun q => Nat.beq q 43) 26 43 _ _ _).trans rfl
set_option maxRecDepth 100000 in
theorem bq_30 (v1 : Int) (v2 : Int) (s : jM) : jq 30 [.inr (10, 0), .inl v1, .inl v2] s =
  jbI (jq 39 [.inl v1] s) fun x1 s1 =>
  if x1 = 0 then
    some (some (.inl (-1)), s1)
  else
    if v2 < (-1) then
      some (some (.inl (-1)), s1)
    else
      if 0 ≤ v1 ∧ v1 < 4 then
        jbI (jq 138 [.inr (9, 0), .inr (1, 22 * 0 + (Int.toNat v1))] s1) fun x2 s2 =>
        if v2 = (-1) then
          some (some (.inl x2), s2)
        else
          if v2 < x2 then
            jbI (jq 137 [.inr (9, 0), .inl v2] s2) fun x3 s3 =>
            some (some (.inl x3), s3)
          else
            some (some (.inl (-2)), s2)
      else
        none := (jev_rg jcy_30 (fun q => false) 27 0 _ _ _).trans rfl
set_option maxRecDepth 100000 in
theorem bq_31 (s : jM) : jq 31 [.inr (10, 0)] s =
  if (s 6 0 2) = 0 then
    some (some (.inl (-5)), s)
  else
    jbR (jq 121 [.inr (6, 0)] s) 5 fun i1 s1 =>
    jbR (jq 55 [.inr (0, 0), .inl (s1 5 i1 1), .inl (s1 5 i1 2)] s1) 1 fun i2 s2 =>
    jbV (jq 66 [.inr (1, i2), .inr (1, 46 + i1)] s2) fun s3 =>
    jbV (jq 122 [.inr (6, 0)] s3) fun s4 =>
    some (some (.inl (s4 6 0 2)), s4) := (jev_rg jcy_31 (fun q => false) 25 0 _ _ _).trans rfl
set_option maxRecDepth 100000 in
theorem bq_32 (v1 : Int) (s : jM) : jq 32 [.inr (10, 0), .inl v1] s =
  if v1 < 32 then
    some (some (.inl (-1)), s)
  else
    if 126 < v1 then
      some (some (.inl (-1)), s)
    else
      if (s 8 0 1) < 80 then
        jbV (jq 135 [.inr (8, 0), .inl v1] s) fun s1 =>
        some (some (.inl (s1 8 0 1)), s1)
      else
        some (some (.inl (-3)), s) := (jev_rg jcy_32 (fun q => false) 19 0 _ _ _).trans rfl
set_option maxRecDepth 100000 in
theorem bq_33 (s : jM) : jq 33 [.inr (10, 0)] s =
  some (some (.inl (s 8 0 1)), (jup s 8 0 1 0)) := (jev_rg jcy_33 (fun q => false) 10 0 _ _ _).trans rfl
set_option maxRecDepth 100000 in
theorem bq_34 (s : jM) : jq 34 [.inr (10, 0)] s =
  jbI (jq 93 [.inr (3, 0)] s) fun x1 s1 =>
  if x1 < 0 then
    jbI (jq 52 [.inr (10, 0)] s1) fun x2 s2 =>
    some (some (.inl x2), (jup s2 8 0 1 0))
  else
    some (some (.inl (jw ((-100) - x1))), (jup s1 8 0 1 0)) := (jev_rg jcy_34 (fun q => false) 17 0 _ _ _).trans rfl
set_option maxRecDepth 100000 in
theorem bq_35 (s : jM) : jq 35 [.inr (10, 0)] s =
  jbV (jq 57 [.inr (0, 1), .inr (0, 0)] s) fun s1 =>
  jbI (jq 58 [.inr (0, 0)] (jup s1 10 0 2 1)) fun x2 s2 =>
  some (some (.inl x2), s2) := (jev_rg jcy_35 (fun q => false) 12 0 _ _ _).trans rfl
set_option maxRecDepth 100000 in
theorem bq_36 (s : jM) : jq 36 [.inr (10, 0)] s =
  if (s 10 0 2) = 0 then
    some (some (.inl (-5)), s)
  else
    jbV (jq 57 [.inr (0, 0), .inr (0, 1)] s) fun s1 =>
    jbI (jq 58 [.inr (0, 0)] (jup s1 6 0 2 0)) fun x2 s2 =>
    some (some (.inl x2), s2) := (jev_rg jcy_36 (fun q => false) 16 0 _ _ _).trans rfl
set_option maxRecDepth 100000 in
theorem bq_37 (v1 : Int) (s : jM) : jq 37 [.inr (10, 0), .inl v1] s =
  if v1 = 0 then
    some (some (.inl (s 6 0 2)), s)
  else
  if v1 = 1 then
    some (some (.inl (s 8 0 1)), s)
  else
  if v1 = 2 then
    jbI (jq 59 [.inr (0, 0)] s) fun x1 s1 =>
    some (some (.inl x1), s1)
  else
  if v1 = 3 then
    jbI (jq 60 [.inr (0, 0)] s) fun x2 s2 =>
    some (some (.inl x2), s2)
  else
  if v1 = 4 then
    jbI (jq 119 [.inr (4, 0)] s) fun x3 s3 =>
    some (some (.inl x3), s3)
  else
    some (some (.inl (-1)), s) := (jev_rg jcy_37 (fun q => false) 6 0 _ _ _).trans rfl
set_option maxRecDepth 100000 in
theorem bq_38 (v0 : Int) (v1 : Int) (s : jM) : jq 38 [.inl v0, .inl v1] s =
  if v0 < 0 then
    some (some (.inl 0), s)
  else
    if v0 < v1 then
      some (some (.inl 1), s)
    else
      some (some (.inl 0), s) := (jev_rg jcy_38 (fun q => false) 8 0 _ _ _).trans rfl
set_option maxRecDepth 100000 in
theorem bq_39 (v0 : Int) (s : jM) : jq 39 [.inl v0] s =
  jbI (jq 38 [.inl v0, .inl 4] s) fun x1 s1 =>
  if x1 = 0 ∨ x1 = 1 then some (some (.inl x1), s1) else none := (jev_rg jcy_39 (fun q => false) 4 0 _ _ _).trans rfl
set_option maxRecDepth 100000 in
theorem bq_40 (v0 : Int) (s : jM) : jq 40 [.inl v0] s =
  jbI (jq 38 [.inl v0, .inl 6] s) fun x1 s1 =>
  if x1 = 0 ∨ x1 = 1 then some (some (.inl x1), s1) else none := (jev_rg jcy_40 (fun q => false) 4 0 _ _ _).trans rfl
set_option maxRecDepth 100000 in
theorem bq_41 (v0 : Int) (v1 : Int) (s : jM) : jq 41 [.inl v0, .inl v1] s =
  if v0 = 0 then
    jbI (jq 39 [.inl v1] s) fun x1 s1 =>
    if x1 = 0 ∨ x1 = 1 then some (some (.inl x1), s1) else none
  else
    jbI (jq 40 [.inl v1] s) fun x2 s2 =>
    if x2 = 0 ∨ x2 = 1 then some (some (.inl x2), s2) else none := (jev_rg jcy_41 (fun q => false) 6 0 _ _ _).trans rfl
set_option maxRecDepth 100000 in
theorem bq_42 (v0 : Int) (s : jM) : jq 42 [.inl v0] s =
  if v0 < 0 then
    some (some (.inl 0), s)
  else
    if 5 < v0 then
      some (some (.inl 0), s)
    else
      some (some (.inl 1), s) := (jev_rg jcy_42 (fun q => false) 8 0 _ _ _).trans rfl
set_option maxRecDepth 100000 in
theorem bq_43 (v0 : Int) (s : jM) : jq 43 [.inl v0] s =
  jbI (jq 38 [.inl v0, .inl 101] s) fun x1 s1 =>
  if x1 = 0 ∨ x1 = 1 then some (some (.inl x1), s1) else none := (jev_rg jcy_43 (fun q => false) 4 0 _ _ _).trans rfl
set_option maxRecDepth 100000 in
theorem bq_44 (v0 : Int) (v1 : Int) (v2 : Int) (s : jM) : jq 44 [.inl v0, .inl v1, .inl v2] s =
  if v1 < 0 then
    some (some (.inl 0), s)
  else
    if v0 < v1 then
      some (some (.inl 0), s)
    else
      if v2 < 0 then
        some (some (.inl 0), s)
      else
        if (jw (v0 - v1)) < v2 then
          some (some (.inl 0), s)
        else
          some (some (.inl 1), s) := (jev_rg jcy_44 (fun q => false) 15 0 _ _ _).trans rfl
set_option maxRecDepth 100000 in
theorem bq_45 (v0 : Int) (s : jM) : jq 45 [.inl v0] s =
  some (some (.inl (jw (Int.tdiv (jw ((jw (v0 + 1)) * (jw (v0 + 2)))) 2))), s) := (jev_rg jcy_45 (fun q => false) 10 0 _ _ _).trans rfl
set_option maxRecDepth 100000 in
theorem bq_46 (v0 : Int) (v1 : Int) (s : jM) : jq 46 [.inl v0, .inl v1] s =
  some (some (.inl (jw ((jw (Int.tdiv (jw ((jw (v0 + v1)) * (jw ((jw (v0 + v1)) + 1)))) 2)) + v1))), s) := (jev_rg jcy_46 (fun q => false) 14 0 _ _ _).trans rfl
set_option maxRecDepth 100000 in
theorem bq_47 (v0 : Int) (v1 : Int) (s : jM) : jq 47 [.inl v0, .inl v1] s =
  if 0 ≤ v1 ∧ v1 < 21 then
    if 0 ≤ v1 ∧ v1 < 21 then
      some (some (.inl (jw ((jw (v0 - (jyp (Int.toNat v1)))) - (jzp (Int.toNat v1))))), s)
    else
      none
  else
    none := (jev_rg jcy_47 (fun q => false) 10 0 _ _ _).trans rfl
set_option maxRecDepth 100000 in
theorem bq_48 (v0 : Int) (v1 : Int) (s : jM) : jq 48 [.inl v0, .inl v1] s =
  je 48 4 [some (.inl v0), some (.inl v1), some (.inl 1), some (.inl 0)] [] s := (jev_rg jcy_48 (fun q => Nat.beq q 4) 5 0 _ _ _).trans rfl
set_option maxRecDepth 100000 in
theorem be_48_4 (v0 : Int) (v1 : Int) (v2 : Int) (v3 : Int) (s : jM) : je 48 4 [some (.inl v0), some (.inl v1), some (.inl v2), some (.inl v3)] [] s =
  if v3 < v1 then
    je 48 4 [some (.inl v0), some (.inl v1), some (.inl (Int.tmod (jw (v2 * v0)) 101)), some (.inl (jw (v3 + 1)))] [] s
  else
    some (some (.inl v2), s) := (jev_rg jcy_48 (fun q => Nat.beq q 4) 12 4 _ _ _).trans rfl
set_option maxRecDepth 100000 in
theorem bq_49 (v0 : Int) (s : jM) : jq 49 [.inl v0] s =
  some (some (.inl (Int.tmod (jw (101 - v0)) 101)), s) := (jev_rg jcy_49 (fun q => false) 6 0 _ _ _).trans rfl
set_option maxRecDepth 100000 in
theorem bq_50 (f0 : Nat) (v1 : Int) (v2 : Int) (v3 : Int) (s : jM) : jq 50 [.inr (1, f0), .inl v1, .inl v2, .inl v3] s =
  jbI (jq 62 [.inr (1, f0), .inl 0] s) fun x1 s1 =>
  jbI (jq 48 [.inl x1, .inl v1] s1) fun x2 s2 =>
  jbI (jq 62 [.inr (1, f0), .inl 1] s2) fun x3 s3 =>
  jbI (jq 48 [.inl x3, .inl v2] s3) fun x4 s4 =>
  jbI (jq 62 [.inr (1, f0), .inl 2] s4) fun x5 s5 =>
  jbI (jq 48 [.inl x5, .inl v3] s5) fun x6 s6 =>
  some (some (.inl (Int.tmod (jw ((Int.tmod (jw (x2 * x4)) 101) * x6)) 101)), s6) := (jev_rg jcy_50 (fun q => false) 24 0 _ _ _).trans rfl
set_option maxRecDepth 100000 in
theorem bq_51 (v1 : Int) (v2 : Int) (f3 : Nat) (s : jM) : jq 51 [.inr (10, 0), .inl v1, .inl v2, .inr (1, f3)] s =
  jbR (jq 55 [.inr (0, 0), .inl v1, .inl v2] s) 1 fun i1 s1 =>
  jbI (jq 67 [.inr (1, i1), .inr (1, f3)] s1) fun x2 s2 =>
  if x2 = 0 then
    jbV (jq 120 [.inr (6, 0), .inl v1, .inl v2, .inr (1, i1)] s2) fun s3 =>
    jbV (jq 66 [.inr (1, i1), .inr (1, f3)] s3) fun s4 =>
    some (none, s4)
  else
    some (none, s2) := (jev_rg jcy_51 (fun q => false) 20 0 _ _ _).trans rfl
set_option maxRecDepth 100000 in
theorem bq_52 (s : jM) : jq 52 [.inr (10, 0)] s =
  jbV (jq 89 [.inr (3, 0)] s) fun s1 =>
  je 52 9 [some (.inr (10, 0)), some (.inl 0)] [] s1 := (jev_rg jcy_52 (fun q => Nat.beq q 9) 6 0 _ _ _).trans rfl
set_option maxRecDepth 100000 in
theorem be_52_9 (v1 : Int) (s : jM) : je 52 9 [some (.inr (10, 0)), some (.inl v1)] [] s =
  if v1 < 80 then
    jbI (jq 90 [.inr (3, 0)] s) fun x1 s1 =>
    if x1 = 0 then
      some (some (.inl v1), s1)
    else
      jbI (jq 94 [.inr (3, 0)] s1) fun x2 s2 =>
      jbI (jq 53 [.inr (10, 0)] s2) fun x3 s3 =>
      if x3 = 0 then
        some (some (.inl (jw ((-200) - v1))), s3)
      else
        je 52 9 [some (.inr (10, 0)), some (.inl (jw (v1 + 1)))] [] s3
  else
    some (some (.inl v1), s) := (jev_rg jcy_52 (fun q => Nat.beq q 9) 18 9 _ _ _).trans rfl
set_option maxRecDepth 100000 in
theorem bq_53 (s : jM) : jq 53 [.inr (10, 0)] s =
  jbI (jq 91 [.inr (3, 0), .inl 0] s) fun x1 s1 =>
  if (s1 3 0 5) = 0 then
    jbI (jq 54 [.inr (10, 0), .inl x1] s1) fun x2 s2 =>
    if x2 = 0 ∨ x2 = 1 then some (some (.inl x2), s2) else none
  else
  if (s1 3 0 5) = 1 then
    jbI (jq 91 [.inr (3, 0), .inl 1] s1) fun x3 s3 =>
    jbI (jq 91 [.inr (3, 0), .inl 2] s3) fun x4 s4 =>
    jbI (jq 91 [.inr (3, 0), .inl 3] s4) fun x5 s5 =>
    jbI (jq 7 [.inr (10, 0), .inl x1, .inl x3, .inl x4, .inl x5] s5) fun x6 s6 =>
    if x6 < 0 then
      some (some (.inl 0), s6)
    else
      some (some (.inl 1), s6)
  else
  if (s1 3 0 5) = 2 then
    jbI (jq 91 [.inr (3, 0), .inl 1] s1) fun x7 s7 =>
    jbI (jq 91 [.inr (3, 0), .inl 2] s7) fun x8 s8 =>
    jbI (jq 10 [.inr (10, 0), .inl x1, .inl x7, .inl x8] s8) fun x9 s9 =>
    if x9 < 0 then
      some (some (.inl 0), s9)
    else
      some (some (.inl 1), s9)
  else
    jbI (jq 91 [.inr (3, 0), .inl 1] s1) fun x10 s10 =>
    jbI (jq 0 [.inr (10, 0), .inl x1, .inl x10] s10) fun x11 s11 =>
    if x11 < 0 then
      some (some (.inl 0), s11)
    else
      some (some (.inl 1), s11) := (jev_rg jcy_53 (fun q => false) 28 0 _ _ _).trans rfl
set_option maxRecDepth 100000 in
theorem bq_54 (v1 : Int) (s : jM) : jq 54 [.inr (10, 0), .inl v1] s =
  jbI (jq 39 [.inl v1] s) fun x1 s1 =>
  if x1 = 0 then
    some (some (.inl 0), s1)
  else
    jbI (jq 92 [.inr (3, 0)] s1) fun x2 s2 =>
    if x2 = 0 then
      jbV (jq 51 [.inr (10, 0), .inl 0, .inl v1, .inr (1, 45)] s2) fun s3 =>
      some (some (.inl 1), s3)
    else
      some (some (.inl 0), s2) := (jev_rg jcy_54 (fun q => false) 16 0 _ _ _).trans rfl
set_option maxRecDepth 100000 in
theorem bq_55 (f0 : Nat) (v1 : Int) (v2 : Int) (s : jM) : jq 55 [.inr (0, f0), .inl v1, .inl v2] s =
  if v1 = 0 then
    if 0 ≤ v2 ∧ v2 < 4 then
      some (some (.inr (1, 22 * f0 + (Int.toNat v2))), s)
    else
      none
  else
    if 0 ≤ v2 ∧ v2 < 6 then
      some (some (.inr (1, 22 * f0 + 4 + (Int.toNat v2))), s)
    else
      none := (jev_rg jcy_55 (fun q => false) 8 0 _ _ _).trans rfl
set_option maxRecDepth 100000 in
theorem bq_56 (f0 : Nat) (v1 : Int) (v2 : Int) (v3 : Int) (s : jM) : jq 56 [.inr (0, f0), .inl v1, .inl v2, .inl v3] s =
  if 0 ≤ v1 ∧ v1 < 12 then
    jbR (jq 55 [.inr (0, f0), .inl v2, .inl v3] s) 1 fun i1 s1 =>
    jbV (jq 66 [.inr (1, 22 * f0 + 10 + (Int.toNat v1)), .inr (1, i1)] s1) fun s2 =>
    if 0 ≤ v1 ∧ v1 < 12 then
      some (none, (jup s2 15 f0 (Int.toNat v1) v2))
    else
      none
  else
    none := (jev_rg jcy_56 (fun q => false) 15 0 _ _ _).trans rfl
set_option maxRecDepth 100000 in
theorem bq_57 (f0 : Nat) (f1 : Nat) (s : jM) : jq 57 [.inr (0, f0), .inr (0, f1)] s =
  je 57 2 [some (.inr (0, f0)), some (.inr (0, f1)), some (.inl 0)] [] s := (jev_rg jcy_57 (fun q => Nat.beq q 2 || Nat.beq q 30 || Nat.beq q 59) 3 0 _ _ _).trans rfl
set_option maxRecDepth 100000 in
theorem be_57_2 (f0 : Nat) (f1 : Nat) (v2 : Int) (s : jM) : je 57 2 [some (.inr (0, f0)), some (.inr (0, f1)), some (.inl v2)] [] s =
  if v2 < 4 then
    if 0 ≤ v2 ∧ v2 < 4 then
      if 0 ≤ v2 ∧ v2 < 4 then
        jbV (jq 66 [.inr (1, 22 * f0 + (Int.toNat v2)), .inr (1, 22 * f1 + (Int.toNat v2))] s) fun s1 =>
        je 57 2 [some (.inr (0, f0)), some (.inr (0, f1)), some (.inl (jw (v2 + 1)))] [] s1
      else
        none
    else
      none
  else
    je 57 30 [some (.inr (0, f0)), some (.inr (0, f1)), some (.inl 0)] [] s := (jev_rg jcy_57 (fun q => Nat.beq q 2 || Nat.beq q 30 || Nat.beq q 59) 15 2 _ _ _).trans rfl
set_option maxRecDepth 100000 in
theorem be_57_30 (f0 : Nat) (f1 : Nat) (v2 : Int) (s : jM) : je 57 30 [some (.inr (0, f0)), some (.inr (0, f1)), some (.inl v2)] [] s =
  if v2 < 6 then
    if 0 ≤ v2 ∧ v2 < 6 then
      if 0 ≤ v2 ∧ v2 < 6 then
        jbV (jq 66 [.inr (1, 22 * f0 + 4 + (Int.toNat v2)), .inr (1, 22 * f1 + 4 + (Int.toNat v2))] s) fun s1 =>
        je 57 30 [some (.inr (0, f0)), some (.inr (0, f1)), some (.inl (jw (v2 + 1)))] [] s1
      else
        none
    else
      none
  else
    je 57 59 [some (.inr (0, f0)), some (.inr (0, f1)), some (.inl 0)] [] s := (jev_rg jcy_57 (fun q => Nat.beq q 2 || Nat.beq q 30 || Nat.beq q 59) 15 30 _ _ _).trans rfl
set_option maxRecDepth 100000 in
theorem be_57_59 (f0 : Nat) (f1 : Nat) (v2 : Int) (s : jM) : je 57 59 [some (.inr (0, f0)), some (.inr (0, f1)), some (.inl v2)] [] s =
  if v2 < 12 then
    if 0 ≤ v2 ∧ v2 < 12 then
      if 0 ≤ v2 ∧ v2 < 12 then
        jbV (jq 66 [.inr (1, 22 * f0 + 10 + (Int.toNat v2)), .inr (1, 22 * f1 + 10 + (Int.toNat v2))] s) fun s1 =>
        if 0 ≤ v2 ∧ v2 < 12 then
          if 0 ≤ v2 ∧ v2 < 12 then
            je 57 59 [some (.inr (0, f0)), some (.inr (0, f1)), some (.inl (jw (v2 + 1)))] [] (jup s1 15 f0 (Int.toNat v2) (s1 15 f1 (Int.toNat v2)))
          else
            none
        else
          none
      else
        none
    else
      none
  else
    some (none, s) := (jev_rg jcy_57 (fun q => Nat.beq q 2 || Nat.beq q 30 || Nat.beq q 59) 23 59 _ _ _).trans rfl
set_option maxRecDepth 100000 in
theorem bq_58 (f0 : Nat) (s : jM) : jq 58 [.inr (0, f0)] s =
  je 58 4 [some (.inr (0, f0)), some (.inl 0), some (.inl 0)] [] s := (jev_rg jcy_58 (fun q => Nat.beq q 4) 5 0 _ _ _).trans rfl
set_option maxRecDepth 100000 in
theorem be_58_4 (f0 : Nat) (v1 : Int) (v2 : Int) (s : jM) : je 58 4 [some (.inr (0, f0)), some (.inl v1), some (.inl v2)] [] s =
  if v2 < 4 then
    if 0 ≤ v2 ∧ v2 < 4 then
      je 58 4 [some (.inr (0, f0)), some (.inl (jw (v1 + (s 1 (22 * f0 + (Int.toNat v2)) 1)))), some (.inl (jw (v2 + 1)))] [] s
    else
      none
  else
    some (some (.inl v1), s) := (jev_rg jcy_58 (fun q => Nat.beq q 4) 14 4 _ _ _).trans rfl
set_option maxRecDepth 100000 in
theorem bq_59 (f0 : Nat) (s : jM) : jq 59 [.inr (0, f0)] s =
  je 59 4 [some (.inr (0, f0)), some (.inl 0), some (.inl 0)] [] s := (jev_rg jcy_59 (fun q => Nat.beq q 4) 5 0 _ _ _).trans rfl
set_option maxRecDepth 100000 in
theorem be_59_4 (f0 : Nat) (v1 : Int) (v2 : Int) (s : jM) : je 59 4 [some (.inr (0, f0)), some (.inl v1), some (.inl v2)] [] s =
  if v2 < 12 then
    if 0 ≤ v2 ∧ v2 < 12 then
      if (s 15 f0 (Int.toNat v2)) = (-2) then
        je 59 4 [some (.inr (0, f0)), some (.inl v1), some (.inl (jw (v2 + 1)))] [] s
      else
        je 59 4 [some (.inr (0, f0)), some (.inl (jw (v1 + 1))), some (.inl (jw (v2 + 1)))] [] s
    else
      none
  else
    some (some (.inl v1), s) := (jev_rg jcy_59 (fun q => Nat.beq q 4) 13 4 _ _ _).trans rfl
set_option maxRecDepth 100000 in
theorem bq_60 (f0 : Nat) (s : jM) : jq 60 [.inr (0, f0)] s =
  je 60 4 [some (.inr (0, f0)), some (.inl 0), some (.inl 0)] [] s := (jev_rg jcy_60 (fun q => Nat.beq q 4) 5 0 _ _ _).trans rfl
set_option maxRecDepth 100000 in
theorem be_60_4 (f0 : Nat) (v1 : Int) (v2 : Int) (s : jM) : je 60 4 [some (.inr (0, f0)), some (.inl v1), some (.inl v2)] [] s =
  if v2 < 6 then
    if 0 ≤ v2 ∧ v2 < 6 then
      jbI (jq 69 [.inr (1, 22 * f0 + 4 + (Int.toNat v2))] s) fun x1 s1 =>
      if 0 < x1 then
        je 60 4 [some (.inr (0, f0)), some (.inl (jw (v1 + 1))), some (.inl (jw (v2 + 1)))] [] s1
      else
        je 60 4 [some (.inr (0, f0)), some (.inl v1), some (.inl (jw (v2 + 1)))] [] s1
    else
      none
  else
    some (some (.inl v1), s) := (jev_rg jcy_60 (fun q => Nat.beq q 4) 13 4 _ _ _).trans rfl
set_option maxRecDepth 100000 in
theorem bq_61 (f0 : Nat) (s : jM) : jq 61 [.inr (1, f0)] s =
  jbI (jq 45 [.inl (s 1 f0 1)] s) fun x1 s1 =>
  some (some (.inl x1), s1) := (jev_rg jcy_61 (fun q => false) 4 0 _ _ _).trans rfl
set_option maxRecDepth 100000 in
theorem bq_62 (f0 : Nat) (v1 : Int) (s : jM) : jq 62 [.inr (1, f0), .inl v1] s =
  if v1 < 0 then
    some (some (.inl 0), s)
  else
    if v1 < 21 then
      if 0 ≤ v1 ∧ v1 < 21 then
        some (some (.inl (s 16 f0 (Int.toNat v1))), s)
      else
        none
    else
      some (some (.inl 0), s) := (jev_rg jcy_62 (fun q => false) 11 0 _ _ _).trans rfl
set_option maxRecDepth 100000 in
theorem bq_63 (f0 : Nat) (v1 : Int) (v2 : Int) (s : jM) : jq 63 [.inr (1, f0), .inl v1, .inl v2] s =
  if v1 < 0 then
    some (none, s)
  else
    if v1 < 21 then
      if 0 ≤ v1 ∧ v1 < 21 then
        some (none, (jup s 16 f0 (Int.toNat v1) v2))
      else
        none
    else
      some (none, s) := (jev_rg jcy_63 (fun q => false) 11 0 _ _ _).trans rfl
set_option maxRecDepth 100000 in
theorem bq_64 (f0 : Nat) (v1 : Int) (v2 : Int) (s : jM) : jq 64 [.inr (1, f0), .inl v1, .inl v2] s =
  if v1 < 0 then
    some (none, s)
  else
    if v1 < 21 then
      if 0 ≤ v1 ∧ v1 < 21 then
        if 0 ≤ v1 ∧ v1 < 21 then
          some (none, (jup s 16 f0 (Int.toNat v1) (Int.tmod (jw ((s 16 f0 (Int.toNat v1)) + v2)) 101)))
        else
          none
      else
        none
    else
      some (none, s) := (jev_rg jcy_64 (fun q => false) 18 0 _ _ _).trans rfl
set_option maxRecDepth 100000 in
theorem bq_65 (f0 : Nat) (v1 : Int) (s : jM) : jq 65 [.inr (1, f0), .inl v1] s =
  je 65 7 [some (.inr (1, f0)), some (.inl v1), some (.inl 0)] [] (jup s 1 f0 1 v1) := (jev_rg jcy_65 (fun q => Nat.beq q 7) 6 0 _ _ _).trans rfl
set_option maxRecDepth 100000 in
theorem be_65_7 (f0 : Nat) (v1 : Int) (v2 : Int) (s : jM) : je 65 7 [some (.inr (1, f0)), some (.inl v1), some (.inl v2)] [] s =
  if v2 < 21 then
    if 0 ≤ v2 ∧ v2 < 21 then
      je 65 7 [some (.inr (1, f0)), some (.inl v1), some (.inl (jw (v2 + 1)))] [] (jup s 16 f0 (Int.toNat v2) 0)
    else
      none
  else
    some (none, s) := (jev_rg jcy_65 (fun q => Nat.beq q 7) 11 7 _ _ _).trans rfl
set_option maxRecDepth 100000 in
theorem bq_66 (f0 : Nat) (f1 : Nat) (s : jM) : jq 66 [.inr (1, f0), .inr (1, f1)] s =
  some (none, (jcp (jup s 1 f0 1 (s 1 f1 1)) 16 f1 f0 21)) := (jev_rg jcy_66 (fun q => false) 13 0 _ _ _).trans rfl
set_option maxRecDepth 100000 in
theorem bq_67 (f0 : Nat) (f1 : Nat) (s : jM) : jq 67 [.inr (1, f0), .inr (1, f1)] s =
  if (s 1 f0 1) = (s 1 f1 1) then
    je 67 15 [some (.inr (1, f0)), some (.inr (1, f1)), some (.inl 0)] [] s
  else
    some (some (.inl 0), s) := (jev_rg jcy_67 (fun q => Nat.beq q 15) 8 0 _ _ _).trans rfl
set_option maxRecDepth 100000 in
theorem be_67_15 (f0 : Nat) (f1 : Nat) (v2 : Int) (s : jM) : je 67 15 [some (.inr (1, f0)), some (.inr (1, f1)), some (.inl v2)] [] s =
  jbI (jq 61 [.inr (1, f0)] s) fun x1 s1 =>
  if v2 < x1 then
    jbI (jq 62 [.inr (1, f0), .inl v2] s1) fun x2 s2 =>
    jbI (jq 62 [.inr (1, f1), .inl v2] s2) fun x3 s3 =>
    if x2 = x3 then
      je 67 15 [some (.inr (1, f0)), some (.inr (1, f1)), some (.inl (jw (v2 + 1)))] [] s3
    else
      some (some (.inl 0), s3)
  else
    some (some (.inl 1), s1) := (jev_rg jcy_67 (fun q => Nat.beq q 15) 14 15 _ _ _).trans rfl
set_option maxRecDepth 100000 in
theorem bq_68 (f0 : Nat) (v1 : Int) (s : jM) : jq 68 [.inr (1, f0), .inl v1] s =
  je 68 4 [some (.inr (1, f0)), some (.inl v1), some (.inl 0), some (.inl 0)] [] s := (jev_rg jcy_68 (fun q => Nat.beq q 4) 5 0 _ _ _).trans rfl
set_option maxRecDepth 100000 in
theorem be_68_4 (f0 : Nat) (v1 : Int) (v2 : Int) (v3 : Int) (s : jM) : je 68 4 [some (.inr (1, f0)), some (.inl v1), some (.inl v2), some (.inl v3)] [] s =
  jbI (jq 61 [.inr (1, f0)] s) fun x1 s1 =>
  if v3 < x1 then
    jbI (jq 62 [.inr (1, f0), .inl v3] s1) fun x2 s2 =>
    if x2 = v1 then
      je 68 4 [some (.inr (1, f0)), some (.inl v1), some (.inl (jw (v2 + 1))), some (.inl (jw (v3 + 1)))] [] s2
    else
      je 68 4 [some (.inr (1, f0)), some (.inl v1), some (.inl v2), some (.inl (jw (v3 + 1)))] [] s2
  else
    some (some (.inl v2), s1) := (jev_rg jcy_68 (fun q => Nat.beq q 4) 13 4 _ _ _).trans rfl
set_option maxRecDepth 100000 in
theorem bq_69 (f0 : Nat) (s : jM) : jq 69 [.inr (1, f0)] s =
  jbI (jq 61 [.inr (1, f0)] s) fun x1 s1 =>
  jbI (jq 68 [.inr (1, f0), .inl 0] s1) fun x2 s2 =>
  some (some (.inl (jw (x1 - x2))), s2) := (jev_rg jcy_69 (fun q => false) 7 0 _ _ _).trans rfl
set_option maxRecDepth 100000 in
theorem bq_70 (f0 : Nat) (s : jM) : jq 70 [.inr (1, f0)] s =
  je 70 2 [some (.inr (1, f0)), some (.inl 0)] [] s := (jev_rg jcy_70 (fun q => Nat.beq q 2) 3 0 _ _ _).trans rfl
set_option maxRecDepth 100000 in
theorem be_70_2 (f0 : Nat) (v1 : Int) (s : jM) : je 70 2 [some (.inr (1, f0)), some (.inl v1)] [] s =
  jbI (jq 61 [.inr (1, f0)] s) fun x1 s1 =>
  if v1 < x1 then
    jbI (jq 62 [.inr (1, f0), .inl v1] s1) fun x2 s2 =>
    if x2 = 0 then
      je 70 2 [some (.inr (1, f0)), some (.inl (jw (v1 + 1)))] [] s2
    else
      if 0 ≤ v1 ∧ v1 < 21 then
        if 0 < (jzp (Int.toNat v1)) then
          some (some (.inl 0), s2)
        else
          je 70 2 [some (.inr (1, f0)), some (.inl (jw (v1 + 1)))] [] s2
      else
        none
  else
    some (some (.inl 1), s1) := (jev_rg jcy_70 (fun q => Nat.beq q 2) 15 2 _ _ _).trans rfl
set_option maxRecDepth 100000 in
theorem bq_71 (f0 : Nat) (v1 : Int) (v2 : Int) (v3 : Int) (s : jM) : jq 71 [.inr (1, f0), .inl v1, .inl v2, .inl v3] s =
  jbV (jq 65 [.inr (1, f0), .inl 1] s) fun s1 =>
  jbV (jq 63 [.inr (1, f0), .inl 0, .inl v1] s1) fun s2 =>
  jbV (jq 63 [.inr (1, f0), .inl 1, .inl v2] s2) fun s3 =>
  jbV (jq 63 [.inr (1, f0), .inl 2, .inl v3] s3) fun s4 =>
  some (none, s4) := (jev_rg jcy_71 (fun q => false) 16 0 _ _ _).trans rfl
set_option maxRecDepth 100000 in
theorem bq_72 (f0 : Nat) (f1 : Nat) (v2 : Int) (s : jM) : jq 72 [.inr (1, f0), .inr (1, f1), .inl v2] s =
  je 72 2 [some (.inr (1, f0)), some (.inr (1, f1)), some (.inl v2), some (.inl 0)] [] s := (jev_rg jcy_72 (fun q => Nat.beq q 2) 3 0 _ _ _).trans rfl
set_option maxRecDepth 100000 in
theorem be_72_2 (f0 : Nat) (f1 : Nat) (v2 : Int) (v3 : Int) (s : jM) : je 72 2 [some (.inr (1, f0)), some (.inr (1, f1)), some (.inl v2), some (.inl v3)] [] s =
  jbI (jq 61 [.inr (1, f0)] s) fun x1 s1 =>
  if v3 < x1 then
    jbI (jq 62 [.inr (1, f1), .inl v3] s1) fun x2 s2 =>
    jbV (jq 64 [.inr (1, f0), .inl v3, .inl (jw (x2 * v2))] s2) fun s3 =>
    je 72 2 [some (.inr (1, f0)), some (.inr (1, f1)), some (.inl v2), some (.inl (jw (v3 + 1)))] [] s3
  else
    some (none, s1) := (jev_rg jcy_72 (fun q => Nat.beq q 2) 15 2 _ _ _).trans rfl
set_option maxRecDepth 100000 in
theorem bq_73 (f0 : Nat) (f1 : Nat) (v2 : Int) (s : jM) : jq 73 [.inr (1, f0), .inr (1, f1), .inl v2] s =
  je 73 2 [some (.inr (1, f0)), some (.inr (1, f1)), some (.inl v2), some (.inl 0)] [] s := (jev_rg jcy_73 (fun q => Nat.beq q 2) 3 0 _ _ _).trans rfl
set_option maxRecDepth 100000 in
theorem be_73_2 (f0 : Nat) (f1 : Nat) (v2 : Int) (v3 : Int) (s : jM) : je 73 2 [some (.inr (1, f0)), some (.inr (1, f1)), some (.inl v2), some (.inl v3)] [] s =
  jbI (jq 61 [.inr (1, f0)] s) fun x1 s1 =>
  if v3 < x1 then
    jbI (jq 47 [.inl (s1 1 f0 1), .inl v3] s1) fun x2 s2 =>
    if 0 ≤ v3 ∧ v3 < 21 then
      if 0 ≤ v3 ∧ v3 < 21 then
        jbI (jq 50 [.inr (1, f1), .inl x2, .inl (jyp (Int.toNat v3)), .inl (jzp (Int.toNat v3))] s2) fun x3 s3 =>
        jbV (jq 64 [.inr (1, f0), .inl v3, .inl (jw (x3 * v2))] s3) fun s4 =>
        je 73 2 [some (.inr (1, f0)), some (.inr (1, f1)), some (.inl v2), some (.inl (jw (v3 + 1)))] [] s4
      else
        none
    else
      none
  else
    some (none, s1) := (jev_rg jcy_73 (fun q => Nat.beq q 2) 24 2 _ _ _).trans rfl
set_option maxRecDepth 100000 in
theorem bq_74 (f0 : Nat) (f1 : Nat) (s : jM) : jq 74 [.inr (1, f0), .inr (1, f1)] s =
  je 74 4 [some (.inr (1, f0)), some (.inr (1, f1)), some (.inl 0), some (.inl 0), none] [] s := (jev_rg jcy_74 (fun q => Nat.beq q 4) 5 0 _ _ _).trans rfl
set_option maxRecDepth 100000 in
theorem be_74_4 (f0 : Nat) (f1 : Nat) (v2 : Int) (v3 : Int) (o4 : Option jV) (s : jM) : je 74 4 [some (.inr (1, f0)), some (.inr (1, f1)), some (.inl v2), some (.inl v3), o4] [] s =
  jbI (jq 61 [.inr (1, f0)] s) fun x1 s1 =>
  if v3 < x1 then
    jbI (jq 47 [.inl (s1 1 f0 1), .inl v3] s1) fun x2 s2 =>
    if 0 ≤ v3 ∧ v3 < 21 then
      if 0 ≤ v3 ∧ v3 < 21 then
        jbI (jq 50 [.inr (1, f1), .inl x2, .inl (jyp (Int.toNat v3)), .inl (jzp (Int.toNat v3))] s2) fun x3 s3 =>
        jbI (jq 62 [.inr (1, f0), .inl v3] s3) fun x4 s4 =>
        je 74 4 [some (.inr (1, f0)), some (.inr (1, f1)), some (.inl (Int.tmod (jw (v2 + (jw (x4 * x3)))) 101)), some (.inl (jw (v3 + 1))), some (.inl x3)] [] s4
      else
        none
    else
      none
  else
    some (some (.inl v2), s1) := (jev_rg jcy_74 (fun q => Nat.beq q 4) 30 4 _ _ _).trans rfl
set_option maxRecDepth 100000 in
theorem bq_75 (f0 : Nat) (f1 : Nat) (f2 : Nat) (s : jM) : jq 75 [.inr (1, f0), .inr (1, f1), .inr (1, f2)] s =
  jbV (jq 65 [.inr (1, f0), .inl (jw ((s 1 f2 1) - (s 1 f1 1)))] s) fun s1 =>
  je 75 15 [some (.inr (1, f0)), some (.inr (1, f1)), some (.inr (1, f2)), some (.inl 0), none, none, none, none] [] s1 := (jev_rg jcy_75 (fun q => Nat.beq q 15 || Nat.beq q 26) 10 0 _ _ _).trans rfl
set_option maxRecDepth 100000 in
theorem be_75_15 (f0 : Nat) (f1 : Nat) (f2 : Nat) (v3 : Int) (o4 : Option jV) (o5 : Option jV) (o6 : Option jV) (o7 : Option jV) (s : jM) : je 75 15 [some (.inr (1, f0)), some (.inr (1, f1)), some (.inr (1, f2)), some (.inl v3), o4, o5, o6, o7] [] s =
  jbI (jq 61 [.inr (1, f1)] s) fun x1 s1 =>
  if v3 < x1 then
    je 75 26 [some (.inr (1, f0)), some (.inr (1, f1)), some (.inr (1, f2)), some (.inl v3), some (.inl 0), o5, o6, o7] [] s1
  else
    some (none, s1) := (jev_rg jcy_75 (fun q => Nat.beq q 15 || Nat.beq q 26) 7 15 _ _ _).trans rfl
set_option maxRecDepth 100000 in
theorem be_75_26 (f0 : Nat) (f1 : Nat) (f2 : Nat) (v3 : Int) (v4 : Int) (o5 : Option jV) (o6 : Option jV) (o7 : Option jV) (s : jM) : je 75 26 [some (.inr (1, f0)), some (.inr (1, f1)), some (.inr (1, f2)), some (.inl v3), some (.inl v4), o5, o6, o7] [] s =
  jbI (jq 61 [.inr (1, f2)] s) fun x1 s1 =>
  if v4 < x1 then
    jbI (jq 47 [.inl (s1 1 f2 1), .inl v4] s1) fun x2 s2 =>
    jbI (jq 47 [.inl (s2 1 f1 1), .inl v3] s2) fun x3 s3 =>
    if 0 ≤ v4 ∧ v4 < 21 then
      if 0 ≤ v3 ∧ v3 < 21 then
        if 0 ≤ v4 ∧ v4 < 21 then
          if 0 ≤ v3 ∧ v3 < 21 then
            if (jw (x2 - x3)) < 0 then
              je 75 26 [some (.inr (1, f0)), some (.inr (1, f1)), some (.inr (1, f2)), some (.inl v3), some (.inl (jw (v4 + 1))), some (.inl (jw (x2 - x3))), some (.inl (jw ((jyp (Int.toNat v4)) - (jyp (Int.toNat v3))))), some (.inl (jw ((jzp (Int.toNat v4)) - (jzp (Int.toNat v3)))))] [] s3
            else
              if (jw ((jyp (Int.toNat v4)) - (jyp (Int.toNat v3)))) < 0 then
                je 75 26 [some (.inr (1, f0)), some (.inr (1, f1)), some (.inr (1, f2)), some (.inl v3), some (.inl (jw (v4 + 1))), some (.inl (jw (x2 - x3))), some (.inl (jw ((jyp (Int.toNat v4)) - (jyp (Int.toNat v3))))), some (.inl (jw ((jzp (Int.toNat v4)) - (jzp (Int.toNat v3)))))] [] s3
              else
                if (jw ((jzp (Int.toNat v4)) - (jzp (Int.toNat v3)))) < 0 then
                  je 75 26 [some (.inr (1, f0)), some (.inr (1, f1)), some (.inr (1, f2)), some (.inl v3), some (.inl (jw (v4 + 1))), some (.inl (jw (x2 - x3))), some (.inl (jw ((jyp (Int.toNat v4)) - (jyp (Int.toNat v3))))), some (.inl (jw ((jzp (Int.toNat v4)) - (jzp (Int.toNat v3)))))] [] s3
                else
                  jbI (jq 46 [.inl (jw ((jyp (Int.toNat v4)) - (jyp (Int.toNat v3)))), .inl (jw ((jzp (Int.toNat v4)) - (jzp (Int.toNat v3))))] s3) fun x4 s4 =>
                  jbI (jq 62 [.inr (1, f1), .inl v3] s4) fun x5 s5 =>
                  jbI (jq 62 [.inr (1, f2), .inl v4] s5) fun x6 s6 =>
                  jbV (jq 64 [.inr (1, f0), .inl x4, .inl (jw (x5 * x6))] s6) fun s7 =>
                  je 75 26 [some (.inr (1, f0)), some (.inr (1, f1)), some (.inr (1, f2)), some (.inl v3), some (.inl (jw (v4 + 1))), some (.inl (jw (x2 - x3))), some (.inl (jw ((jyp (Int.toNat v4)) - (jyp (Int.toNat v3))))), some (.inl (jw ((jzp (Int.toNat v4)) - (jzp (Int.toNat v3)))))] [] s7
          else
            none
        else
          none
      else
        none
    else
      none
  else
    je 75 15 [some (.inr (1, f0)), some (.inr (1, f1)), some (.inr (1, f2)), some (.inl (jw (v3 + 1))), some (.inl v4), o5, o6, o7] [] s1 := (jev_rg jcy_75 (fun q => Nat.beq q 15 || Nat.beq q 26) 51 26 _ _ _).trans rfl
set_option maxRecDepth 100000 in
theorem bq_76 (f0 : Nat) (f1 : Nat) (f2 : Nat) (s : jM) : jq 76 [.inr (1, f0), .inr (1, f1), .inr (1, f2)] s =
  jbV (jq 65 [.inr (1, f0), .inl (jw ((s 1 f1 1) + (s 1 f2 1)))] s) fun s1 =>
  je 76 15 [some (.inr (1, f0)), some (.inr (1, f1)), some (.inr (1, f2)), some (.inl 0), none, none] [] s1 := (jev_rg jcy_76 (fun q => Nat.beq q 15 || Nat.beq q 26) 10 0 _ _ _).trans rfl
set_option maxRecDepth 100000 in
theorem be_76_15 (f0 : Nat) (f1 : Nat) (f2 : Nat) (v3 : Int) (o4 : Option jV) (o5 : Option jV) (s : jM) : je 76 15 [some (.inr (1, f0)), some (.inr (1, f1)), some (.inr (1, f2)), some (.inl v3), o4, o5] [] s =
  jbI (jq 61 [.inr (1, f1)] s) fun x1 s1 =>
  if v3 < x1 then
    je 76 26 [some (.inr (1, f0)), some (.inr (1, f1)), some (.inr (1, f2)), some (.inl v3), some (.inl 0), o5] [] s1
  else
    some (none, s1) := (jev_rg jcy_76 (fun q => Nat.beq q 15 || Nat.beq q 26) 7 15 _ _ _).trans rfl
set_option maxRecDepth 100000 in
theorem be_76_26 (f0 : Nat) (f1 : Nat) (f2 : Nat) (v3 : Int) (v4 : Int) (o5 : Option jV) (s : jM) : je 76 26 [some (.inr (1, f0)), some (.inr (1, f1)), some (.inr (1, f2)), some (.inl v3), some (.inl v4), o5] [] s =
  jbI (jq 61 [.inr (1, f2)] s) fun x1 s1 =>
  if v4 < x1 then
    if 0 ≤ v3 ∧ v3 < 21 then
      if 0 ≤ v4 ∧ v4 < 21 then
        if 0 ≤ v3 ∧ v3 < 21 then
          if 0 ≤ v4 ∧ v4 < 21 then
            jbI (jq 46 [.inl (jw ((jyp (Int.toNat v3)) + (jyp (Int.toNat v4)))), .inl (jw ((jzp (Int.toNat v3)) + (jzp (Int.toNat v4))))] s1) fun x2 s2 =>
            jbI (jq 62 [.inr (1, f1), .inl v3] s2) fun x3 s3 =>
            jbI (jq 62 [.inr (1, f2), .inl v4] s3) fun x4 s4 =>
            jbV (jq 64 [.inr (1, f0), .inl x2, .inl (jw (x3 * x4))] s4) fun s5 =>
            je 76 26 [some (.inr (1, f0)), some (.inr (1, f1)), some (.inr (1, f2)), some (.inl v3), some (.inl (jw (v4 + 1))), some (.inl x2)] [] s5
          else
            none
        else
          none
      else
        none
    else
      none
  else
    je 76 15 [some (.inr (1, f0)), some (.inr (1, f1)), some (.inr (1, f2)), some (.inl (jw (v3 + 1))), some (.inl v4), o5] [] s1 := (jev_rg jcy_76 (fun q => Nat.beq q 15 || Nat.beq q 26) 33 26 _ _ _).trans rfl
set_option maxRecDepth 100000 in
theorem bq_77 (f0 : Nat) (v1 : Int) (s : jM) : jq 77 [.inr (1, f0), .inl v1] s =
  je 77 2 [some (.inr (1, f0)), some (.inl v1), some (.inl 0)] [] s := (jev_rg jcy_77 (fun q => Nat.beq q 2) 3 0 _ _ _).trans rfl
set_option maxRecDepth 100000 in
theorem be_77_2 (f0 : Nat) (v1 : Int) (v2 : Int) (s : jM) : je 77 2 [some (.inr (1, f0)), some (.inl v1), some (.inl v2)] [] s =
  jbI (jq 61 [.inr (1, f0)] s) fun x1 s1 =>
  if v2 < x1 then
    jbI (jq 62 [.inr (1, f0), .inl v2] s1) fun x2 s2 =>
    if x2 = 0 then
      je 77 2 [some (.inr (1, f0)), some (.inl v1), some (.inl (jw (v2 + 1)))] [] s2
    else
      jbI (jq 78 [.inr (1, f0), .inl v2] s2) fun x3 s3 =>
      if x3 = v1 then
        some (some (.inl v2), s3)
      else
        je 77 2 [some (.inr (1, f0)), some (.inl v1), some (.inl (jw (v2 + 1)))] [] s3
  else
    some (some (.inl (-1)), s1) := (jev_rg jcy_77 (fun q => Nat.beq q 2) 16 2 _ _ _).trans rfl
set_option maxRecDepth 100000 in
theorem bq_78 (f0 : Nat) (v1 : Int) (s : jM) : jq 78 [.inr (1, f0), .inl v1] s =
  je 78 4 [some (.inr (1, f0)), some (.inl v1), some (.inl 0), some (.inl 0)] [] s := (jev_rg jcy_78 (fun q => Nat.beq q 4) 5 0 _ _ _).trans rfl
set_option maxRecDepth 100000 in
theorem be_78_4 (f0 : Nat) (v1 : Int) (v2 : Int) (v3 : Int) (s : jM) : je 78 4 [some (.inr (1, f0)), some (.inl v1), some (.inl v2), some (.inl v3)] [] s =
  jbI (jq 61 [.inr (1, f0)] s) fun x1 s1 =>
  if v3 < x1 then
    jbI (jq 62 [.inr (1, f0), .inl v3] s1) fun x2 s2 =>
    jbI (jq 62 [.inr (1, f0), .inl v1] s2) fun x3 s3 =>
    if x3 < x2 then
      je 78 4 [some (.inr (1, f0)), some (.inl v1), some (.inl (jw (v2 + 1))), some (.inl (jw (v3 + 1)))] [] s3
    else
      jbI (jq 62 [.inr (1, f0), .inl v3] s3) fun x4 s4 =>
      jbI (jq 62 [.inr (1, f0), .inl v1] s4) fun x5 s5 =>
      if x4 = x5 then
        if v3 < v1 then
          je 78 4 [some (.inr (1, f0)), some (.inl v1), some (.inl (jw (v2 + 1))), some (.inl (jw (v3 + 1)))] [] s5
        else
          je 78 4 [some (.inr (1, f0)), some (.inl v1), some (.inl v2), some (.inl (jw (v3 + 1)))] [] s5
      else
        je 78 4 [some (.inr (1, f0)), some (.inl v1), some (.inl v2), some (.inl (jw (v3 + 1)))] [] s5
  else
    some (some (.inl v2), s1) := (jev_rg jcy_78 (fun q => Nat.beq q 4) 25 4 _ _ _).trans rfl
set_option maxRecDepth 100000 in
theorem bq_79 (f1 : Nat) (s : jM) : jq 79 [.inr (2, 0), .inr (1, f1)] s =
  jbI (jq 70 [.inr (1, f1)] s) fun x1 s1 =>
  if x1 = 0 then
    some (some (.inl 0), s1)
  else
    jbI (jq 69 [.inr (1, f1)] s1) fun x2 s2 =>
    if x2 = 0 then
      some (some (.inl 0), s2)
    else
      je 79 18 [some (.inr (2, 0)), some (.inr (1, f1)), some (.inl 0), none] [] s2 := (jev_rg jcy_79 (fun q => Nat.beq q 18) 9 0 _ _ _).trans rfl
set_option maxRecDepth 100000 in
theorem be_79_18 (f1 : Nat) (v2 : Int) (o3 : Option jV) (s : jM) : je 79 18 [some (.inr (2, 0)), some (.inr (1, f1)), some (.inl v2), o3] [] s =
  if (jw ((s 1 f1 1) + 1)) < v2 then
    some (some (.inl 0), s)
  else
    jbV (jq 80 [.inr (2, 0), .inr (1, f1), .inl v2] s) fun s1 =>
    jbI (jq 127 [.inr (7, 0)] s1) fun x2 s2 =>
    jbI (jq 133 [.inr (7, 0)] s2) fun x3 s3 =>
    if x3 < 0 then
      je 79 18 [some (.inr (2, 0)), some (.inr (1, f1)), some (.inl (jw (v2 + 1))), some (.inl x3)] [] s3
    else
      jbV (jq 81 [.inr (2, 0), .inl v2, .inl x3] s3) fun s4 =>
      some (some (.inl 1), s4) := (jev_rg jcy_79 (fun q => Nat.beq q 18) 26 18 _ _ _).trans rfl
set_option maxRecDepth 100000 in
theorem bq_80 (f1 : Nat) (v2 : Int) (s : jM) : jq 80 [.inr (2, 0), .inr (1, f1), .inl v2] s =
  jbV (jq 123 [.inr (7, 0), .inl (jw ((jw ((s 1 f1 1) - v2)) + 1)), .inl (jw (v2 + 1))] s) fun s1 =>
  je 80 20 [some (.inr (2, 0)), some (.inr (1, f1)), some (.inl v2), some (.inl 0), none] [] s1 := (jev_rg jcy_80 (fun q => Nat.beq q 20 || Nat.beq q 33) 15 0 _ _ _).trans rfl
set_option maxRecDepth 100000 in
theorem be_80_20 (f1 : Nat) (v2 : Int) (v3 : Int) (o4 : Option jV) (s : jM) : je 80 20 [some (.inr (2, 0)), some (.inr (1, f1)), some (.inl v2), some (.inl v3), o4] [] s =
  if (jw ((s 1 f1 1) - v2)) < v3 then
    some (none, s)
  else
    je 80 33 [some (.inr (2, 0)), some (.inr (1, f1)), some (.inl v2), some (.inl v3), some (.inl 0)] [] s := (jev_rg jcy_80 (fun q => Nat.beq q 20 || Nat.beq q 33) 9 20 _ _ _).trans rfl
set_option maxRecDepth 100000 in
theorem be_80_33 (f1 : Nat) (v2 : Int) (v3 : Int) (v4 : Int) (s : jM) : je 80 33 [some (.inr (2, 0)), some (.inr (1, f1)), some (.inl v2), some (.inl v3), some (.inl v4)] [] s =
  if v2 < v4 then
    je 80 20 [some (.inr (2, 0)), some (.inr (1, f1)), some (.inl v2), some (.inl (jw (v3 + 1))), some (.inl v4)] [] s
  else
    jbI (jq 46 [.inl (jw (v3 + v4)), .inl 0] s) fun x1 s1 =>
    jbI (jq 62 [.inr (1, f1), .inl x1] s1) fun x2 s2 =>
    jbV (jq 124 [.inr (7, 0), .inl v3, .inl (jw (v2 - v4)), .inl x2] s2) fun s3 =>
    je 80 33 [some (.inr (2, 0)), some (.inr (1, f1)), some (.inl v2), some (.inl v3), some (.inl (jw (v4 + 1)))] [] s3 := (jev_rg jcy_80 (fun q => Nat.beq q 20 || Nat.beq q 33) 20 33 _ _ _).trans rfl
set_option maxRecDepth 100000 in
theorem bq_81 (v1 : Int) (v2 : Int) (s : jM) : jq 81 [.inr (2, 0), .inl v1, .inl v2] s =
  je 81 12 [some (.inr (2, 0)), some (.inl v1), some (.inl v2), some (.inl 0)] [] (jup s 2 0 3 (if 6 < v1 then 6 else v1)) := (jev_rg jcy_81 (fun q => Nat.beq q 12) 8 0 _ _ _).trans rfl
set_option maxRecDepth 100000 in
theorem be_81_12 (v1 : Int) (v2 : Int) (v3 : Int) (s : jM) : je 81 12 [some (.inr (2, 0)), some (.inl v1), some (.inl v2), some (.inl v3)] [] s =
  if (s 2 0 3) < v3 then
    some (none, s)
  else
    jbI (jq 134 [.inr (7, 0), .inl v2, .inl (jw ((s 2 0 3) - v3))] s) fun x1 s1 =>
    if 0 ≤ v3 ∧ v3 < 7 then
      je 81 12 [some (.inr (2, 0)), some (.inl v1), some (.inl v2), some (.inl (jw (v3 + 1)))] [] (jup s1 17 0 (Int.toNat v3) x1)
    else
      none := (jev_rg jcy_81 (fun q => Nat.beq q 12) 19 12 _ _ _).trans rfl
set_option maxRecDepth 100000 in
theorem bq_82 (v1 : Int) (s : jM) : jq 82 [.inr (2, 0), .inl v1] s =
  jbI (jq 38 [.inl v1, .inl (jw ((s 2 0 3) + 1))] s) fun x1 s1 =>
  if x1 = 0 then
    some (some (.inl 0), s1)
  else
    if 0 ≤ v1 ∧ v1 < 7 then
      some (some (.inl (s1 17 0 (Int.toNat v1))), s1)
    else
      none := (jev_rg jcy_82 (fun q => false) 13 0 _ _ _).trans rfl
set_option maxRecDepth 100000 in
theorem bq_83 (s : jM) : jq 83 [.inr (2, 0)] s =
  je 83 7 [some (.inr (2, 0)), some (.inl 0)] [] (jup s 2 0 4 0) := (jev_rg jcy_83 (fun q => Nat.beq q 7) 6 0 _ _ _).trans rfl
set_option maxRecDepth 100000 in
theorem be_83_7 (v1 : Int) (s : jM) : je 83 7 [some (.inr (2, 0)), some (.inl v1)] [] s =
  if v1 < 101 then
    jbI (jq 84 [.inr (2, 0), .inl v1] s) fun x1 s1 =>
    if x1 = 0 then
      jbV (jq 85 [.inr (2, 0), .inl v1] s1) fun s2 =>
      je 83 7 [some (.inr (2, 0)), some (.inl (jw (v1 + 1)))] [] s2
    else
      je 83 7 [some (.inr (2, 0)), some (.inl (jw (v1 + 1)))] [] s1
  else
    jbI (jq 82 [.inr (2, 0), .inl (s 2 0 3)] s) fun x3 s3 =>
    if x3 = 0 then
      jbV (jq 85 [.inr (2, 0), .inl 101] s3) fun s4 =>
      some (some (.inl (s4 2 0 4)), s4)
    else
      some (some (.inl (s3 2 0 4)), s3) := (jev_rg jcy_83 (fun q => Nat.beq q 7) 14 7 _ _ _).trans rfl
set_option maxRecDepth 100000 in
theorem bq_84 (v1 : Int) (s : jM) : jq 84 [.inr (2, 0), .inl v1] s =
  je 84 7 [some (.inr (2, 0)), some (.inl v1), some (.inl 0), some (.inl (s 2 0 3))] [] s := (jev_rg jcy_84 (fun q => Nat.beq q 7) 6 0 _ _ _).trans rfl
set_option maxRecDepth 100000 in
theorem be_84_7 (v1 : Int) (v2 : Int) (v3 : Int) (s : jM) : je 84 7 [some (.inr (2, 0)), some (.inl v1), some (.inl v2), some (.inl v3)] [] s =
  if v3 < 0 then
    some (some (.inl v2), s)
  else
    if 0 ≤ v3 ∧ v3 < 7 then
      je 84 7 [some (.inr (2, 0)), some (.inl v1), some (.inl (Int.tmod (jw ((jw (v2 * v1)) + (s 17 0 (Int.toNat v3)))) 101)), some (.inl (jw (v3 + (-1))))] [] s
    else
      none := (jev_rg jcy_84 (fun q => Nat.beq q 7) 16 7 _ _ _).trans rfl
set_option maxRecDepth 100000 in
theorem bq_85 (v1 : Int) (s : jM) : jq 85 [.inr (2, 0), .inl v1] s =
  if (s 2 0 4) < 6 then
    if 0 ≤ (s 2 0 4) ∧ (s 2 0 4) < 6 then
      some (none, (jup (jup s 18 0 (Int.toNat (s 2 0 4)) v1) 2 0 4 (jw ((s 2 0 4) + 1))))
    else
      none
  else
    some (none, s) := (jev_rg jcy_85 (fun q => false) 19 0 _ _ _).trans rfl
set_option maxRecDepth 100000 in
theorem bq_86 (v1 : Int) (s : jM) : jq 86 [.inr (2, 0), .inl v1] s =
  jbI (jq 38 [.inl v1, .inl (s 2 0 4)] s) fun x1 s1 =>
  if x1 = 0 then
    some (some (.inl 0), s1)
  else
    if 0 ≤ v1 ∧ v1 < 6 then
      some (some (.inl (s1 18 0 (Int.toNat v1))), s1)
    else
      none := (jev_rg jcy_86 (fun q => false) 11 0 _ _ _).trans rfl
set_option maxRecDepth 100000 in
theorem bq_87 (f1 : Nat) (v2 : Int) (s : jM) : jq 87 [.inr (2, 0), .inr (1, f1), .inl v2] s =
  jbV (jq 123 [.inr (7, 0), .inl (jw ((s 1 f1 1) + 1)), .inl (jw ((s 2 0 4) + 1))] s) fun s1 =>
  je 87 21 [some (.inr (2, 0)), some (.inr (1, f1)), some (.inl v2), some (.inl 0), none] [] s1 := (jev_rg jcy_87 (fun q => Nat.beq q 21 || Nat.beq q 32) 14 0 _ _ _).trans rfl
set_option maxRecDepth 100000 in
theorem be_87_21 (f1 : Nat) (v2 : Int) (v3 : Int) (o4 : Option jV) (s : jM) : je 87 21 [some (.inr (2, 0)), some (.inr (1, f1)), some (.inl v2), some (.inl v3), o4] [] s =
  if (s 1 f1 1) < v3 then
    jbI (jq 127 [.inr (7, 0)] s) fun x1 s1 =>
    jbI (jq 134 [.inr (7, 0), .inl (s1 2 0 4), .inl v2] s1) fun x2 s2 =>
    some (some (.inl x2), s2)
  else
    je 87 32 [some (.inr (2, 0)), some (.inr (1, f1)), some (.inl v2), some (.inl v3), some (.inl 0)] [] s := (jev_rg jcy_87 (fun q => Nat.beq q 21 || Nat.beq q 32) 15 21 _ _ _).trans rfl
set_option maxRecDepth 100000 in
theorem be_87_32 (f1 : Nat) (v2 : Int) (v3 : Int) (v4 : Int) (s : jM) : je 87 32 [some (.inr (2, 0)), some (.inr (1, f1)), some (.inl v2), some (.inl v3), some (.inl v4)] [] s =
  if v4 < (s 2 0 4) then
    if 0 ≤ v4 ∧ v4 < 6 then
      jbI (jq 88 [.inl (s 18 0 (Int.toNat v4)), .inl (s 1 f1 1), .inl v3] s) fun x1 s1 =>
      jbV (jq 124 [.inr (7, 0), .inl v3, .inl v4, .inl x1] s1) fun s2 =>
      je 87 32 [some (.inr (2, 0)), some (.inr (1, f1)), some (.inl v2), some (.inl v3), some (.inl (jw (v4 + 1)))] [] s2
    else
      none
  else
    jbI (jq 46 [.inl v3, .inl 0] s) fun x3 s3 =>
    jbI (jq 62 [.inr (1, f1), .inl x3] s3) fun x4 s4 =>
    jbI (jq 49 [.inl x4] s4) fun x5 s5 =>
    jbV (jq 124 [.inr (7, 0), .inl v3, .inl (s 2 0 4), .inl x5] s5) fun s6 =>
    je 87 21 [some (.inr (2, 0)), some (.inr (1, f1)), some (.inl v2), some (.inl (jw (v3 + 1))), some (.inl v4)] [] s6 := (jev_rg jcy_87 (fun q => Nat.beq q 21 || Nat.beq q 32) 20 32 _ _ _).trans rfl
set_option maxRecDepth 100000 in
theorem bq_88 (v0 : Int) (v1 : Int) (v2 : Int) (s : jM) : jq 88 [.inl v0, .inl v1, .inl v2] s =
  if v0 = 101 then
    if v2 = v1 then
      some (some (.inl 1), s)
    else
      some (some (.inl 0), s)
  else
    jbI (jq 48 [.inl v0, .inl v2] s) fun x1 s1 =>
    some (some (.inl x1), s1) := (jev_rg jcy_88 (fun q => false) 9 0 _ _ _).trans rfl
set_option maxRecDepth 100000 in
theorem bq_89 (s : jM) : jq 89 [.inr (3, 0)] s =
  some (none, (jup (jup s 3 0 3 0) 3 0 4 (-1))) := (jev_rg jcy_89 (fun q => false) 7 0 _ _ _).trans rfl
set_option maxRecDepth 100000 in
theorem bq_90 (s : jM) : jq 90 [.inr (3, 0)] s =
  if (s 3 0 3) < (s 8 0 1) then
    some (some (.inl 1), s)
  else
    some (some (.inl 0), s) := (jev_rg jcy_90 (fun q => false) 9 0 _ _ _).trans rfl
set_option maxRecDepth 100000 in
theorem bq_91 (v1 : Int) (s : jM) : jq 91 [.inr (3, 0), .inl v1] s =
  jbI (jq 38 [.inl v1, .inl 4] s) fun x1 s1 =>
  if x1 = 0 then
    some (some (.inl 0), s1)
  else
    if 0 ≤ v1 ∧ v1 < 4 then
      some (some (.inl (s1 19 0 (Int.toNat v1))), s1)
    else
      none := (jev_rg jcy_91 (fun q => false) 12 0 _ _ _).trans rfl
set_option maxRecDepth 100000 in
theorem bq_92 (s : jM) : jq 92 [.inr (3, 0)] s =
  if (s 3 0 7) = 0 then
    jbI (jq 42 [.inl (s 3 0 6)] s) fun x1 s1 =>
    if x1 = 0 then
      some (some (.inl 1), s1)
    else
      some (some (.inl 0), s1)
  else
    some (some (.inl 1), s) := (jev_rg jcy_92 (fun q => false) 10 0 _ _ _).trans rfl
set_option maxRecDepth 100000 in
theorem bq_93 (s : jM) : jq 93 [.inr (3, 0)] s =
  jbV (jq 89 [.inr (3, 0)] s) fun s1 =>
  je 93 8 [some (.inr (3, 0)), some (.inl 1), some (.inl 0)] [] s1 := (jev_rg jcy_93 (fun q => Nat.beq q 8) 7 0 _ _ _).trans rfl
set_option maxRecDepth 100000 in
theorem be_93_8 (v1 : Int) (v2 : Int) (s : jM) : je 93 8 [some (.inr (3, 0)), some (.inl v1), some (.inl v2)] [] s =
  if v2 < 80 then
    if v1 = 0 then
      some (some (.inl (s 3 0 4)), s)
    else
      if (s 3 0 4) = (-1) then
        jbI (jq 94 [.inr (3, 0)] s) fun x1 s1 =>
        je 93 8 [some (.inr (3, 0)), some (.inl x1), some (.inl (jw (v2 + 1)))] [] s1
      else
        some (some (.inl (s 3 0 4)), s)
  else
    some (some (.inl (s 3 0 4)), s) := (jev_rg jcy_93 (fun q => Nat.beq q 8) 15 8 _ _ _).trans rfl
set_option maxRecDepth 100000 in
theorem bq_94 (s : jM) : jq 94 [.inr (3, 0)] s =
  jbI (jq 99 [.inr (3, 0)] s) fun x1 s1 =>
  if x1 = 0 then
    jbV (jq 108 [.inr (3, 0)] (jup s1 3 0 5 x1)) fun s2 =>
    jbI (jq 90 [.inr (3, 0)] s2) fun x3 s3 =>
    if x3 = 0 then
      some (some (.inl 0), s3)
    else
      jbV (jq 98 [.inr (3, 0), .inl 59] s3) fun s4 =>
      some (some (.inl 1), s4)
  else
  if x1 = 1 then
    jbV (jq 107 [.inr (3, 0)] (jup s1 3 0 5 x1)) fun s5 =>
    jbI (jq 90 [.inr (3, 0)] s5) fun x6 s6 =>
    if x6 = 0 then
      some (some (.inl 0), s6)
    else
      jbV (jq 98 [.inr (3, 0), .inl 59] s6) fun s7 =>
      some (some (.inl 1), s7)
  else
  if x1 = 2 then
    jbV (jq 102 [.inr (3, 0), .inl 0] (jup s1 3 0 5 x1)) fun s8 =>
    jbV (jq 102 [.inr (3, 0), .inl 1] s8) fun s9 =>
    jbV (jq 98 [.inr (3, 0), .inl 32] s9) fun s10 =>
    jbV (jq 103 [.inr (3, 0), .inl 2] s10) fun s11 =>
    jbI (jq 90 [.inr (3, 0)] s11) fun x12 s12 =>
    if x12 = 0 then
      some (some (.inl 0), s12)
    else
      jbV (jq 98 [.inr (3, 0), .inl 59] s12) fun s13 =>
      some (some (.inl 1), s13)
  else
  if x1 = 3 then
    jbV (jq 102 [.inr (3, 0), .inl 0] (jup s1 3 0 5 x1)) fun s14 =>
    jbV (jq 102 [.inr (3, 0), .inl 1] s14) fun s15 =>
    jbI (jq 90 [.inr (3, 0)] s15) fun x16 s16 =>
    if x16 = 0 then
      some (some (.inl 0), s16)
    else
      jbV (jq 98 [.inr (3, 0), .inl 59] s16) fun s17 =>
      some (some (.inl 1), s17)
  else
    jbV (jq 95 [.inr (3, 0), .inl (s1 3 0 3)] (jup s1 3 0 5 x1)) fun s18 =>
    jbI (jq 90 [.inr (3, 0)] s18) fun x19 s19 =>
    if x19 = 0 then
      some (some (.inl 0), s19)
    else
      jbV (jq 98 [.inr (3, 0), .inl 59] s19) fun s20 =>
      some (some (.inl 1), s20) := (jev_rg jcy_94 (fun q => false) 28 0 _ _ _).trans rfl
set_option maxRecDepth 100000 in
theorem bq_95 (v1 : Int) (s : jM) : jq 95 [.inr (3, 0), .inl v1] s =
  if (s 3 0 4) = (-1) then
    some (none, (jup s 3 0 4 v1))
  else
    some (none, s) := (jev_rg jcy_95 (fun q => false) 8 0 _ _ _).trans rfl
set_option maxRecDepth 100000 in
theorem bq_96 (v1 : Int) (s : jM) : jq 96 [.inr (3, 0), .inl v1] s =
  if (s 3 0 4) = (-1) then
    if (s 3 0 3) < (s 8 0 1) then
      if 0 ≤ (s 3 0 3) ∧ (s 3 0 3) < 80 then
        if (s 27 0 (Int.toNat (s 3 0 3))) = v1 then
          some (some (.inl 1), s)
        else
          some (some (.inl 0), s)
      else
        none
    else
      some (some (.inl 0), s)
  else
    some (some (.inl 0), s) := (jev_rg jcy_96 (fun q => false) 21 0 _ _ _).trans rfl
set_option maxRecDepth 100000 in
theorem bq_97 (v1 : Int) (v2 : Int) (s : jM) : jq 97 [.inr (3, 0), .inl v1, .inl v2] s =
  if (s 3 0 4) = (-1) then
    if (s 3 0 3) < (s 8 0 1) then
      if 0 ≤ (s 3 0 3) ∧ (s 3 0 3) < 80 then
        if (s 27 0 (Int.toNat (s 3 0 3))) < v1 then
          some (some (.inl 0), s)
        else
          if 0 ≤ (s 3 0 3) ∧ (s 3 0 3) < 80 then
            if v2 < (s 27 0 (Int.toNat (s 3 0 3))) then
              some (some (.inl 0), s)
            else
              some (some (.inl 1), s)
          else
            none
      else
        none
    else
      some (some (.inl 0), s)
  else
    some (some (.inl 0), s) := (jev_rg jcy_97 (fun q => false) 29 0 _ _ _).trans rfl
set_option maxRecDepth 100000 in
theorem bq_98 (v1 : Int) (s : jM) : jq 98 [.inr (3, 0), .inl v1] s =
  jbI (jq 96 [.inr (3, 0), .inl v1] s) fun x1 s1 =>
  if x1 = 0 then
    jbV (jq 95 [.inr (3, 0), .inl (s1 3 0 3)] s1) fun s2 =>
    some (none, s2)
  else
    some (none, (jup s1 3 0 3 (jw ((s1 3 0 3) + 1)))) := (jev_rg jcy_98 (fun q => false) 12 0 _ _ _).trans rfl
set_option maxRecDepth 100000 in
theorem bq_99 (s : jM) : jq 99 [.inr (3, 0)] s =
  je 99 5 [some (.inr (3, 0)), some (.inl (s 3 0 3)), none] [] s := (jev_rg jcy_99 (fun q => Nat.beq q 5) 4 0 _ _ _).trans rfl
set_option maxRecDepth 100000 in
theorem be_99_5 (v1 : Int) (o2 : Option jV) (s : jM) : je 99 5 [some (.inr (3, 0)), some (.inl v1), o2] [] s =
  if v1 < (s 8 0 1) then
    jbI (jq 136 [.inr (8, 0), .inl v1] s) fun x1 s1 =>
    if x1 < 97 then
      jbI (jq 100 [.inr (3, 0), .inl v1] s1) fun x2 s2 =>
      if x2 = (-1) then
        some (some (.inl x2), s2)
      else
        some (some (.inl x2), (jup s2 3 0 3 v1))
    else
      jbI (jq 136 [.inr (8, 0), .inl v1] s1) fun x3 s3 =>
      if 122 < x3 then
        jbI (jq 100 [.inr (3, 0), .inl v1] s3) fun x4 s4 =>
        if x4 = (-1) then
          some (some (.inl x4), s4)
        else
          some (some (.inl x4), (jup s4 3 0 3 v1))
      else
        je 99 5 [some (.inr (3, 0)), some (.inl (jw (v1 + 1))), o2] [] s3
  else
    jbI (jq 100 [.inr (3, 0), .inl v1] s) fun x5 s5 =>
    if x5 = (-1) then
      some (some (.inl x5), s5)
    else
      some (some (.inl x5), (jup s5 3 0 3 v1)) := (jev_rg jcy_99 (fun q => Nat.beq q 5) 29 5 _ _ _).trans rfl
set_option maxRecDepth 100000 in
theorem bq_100 (v1 : Int) (s : jM) : jq 100 [.inr (3, 0), .inl v1] s =
  jbI (jq 101 [.inr (3, 0), .inr (73, 0), .inl v1] s) fun x1 s1 =>
  if x1 = 0 then
    jbI (jq 101 [.inr (3, 0), .inr (73, 1), .inl v1] s1) fun x2 s2 =>
    if x2 = 0 then
      jbI (jq 101 [.inr (3, 0), .inr (73, 2), .inl v1] s2) fun x3 s3 =>
      if x3 = 0 then
        jbI (jq 101 [.inr (3, 0), .inr (73, 3), .inl v1] s3) fun x4 s4 =>
        if x4 = 0 then
          some (some (.inl (-1)), s4)
        else
          some (some (.inl 3), s4)
      else
        some (some (.inl 2), s3)
    else
      some (some (.inl 1), s2)
  else
    some (some (.inl 0), s1) := (jev_rg jcy_100 (fun q => false) 23 0 _ _ _).trans rfl
set_option maxRecDepth 100000 in
theorem bq_101 (f1 : Nat) (v2 : Int) (s : jM) : jq 101 [.inr (3, 0), .inr (73, f1), .inl v2] s =
  jbI (jq 301 [.inr (73, f1)] s) fun x1 s1 =>
  if (jw (v2 - (s 3 0 3))) = x1 then
    je 101 17 [some (.inr (3, 0)), some (.inr (73, f1)), some (.inl v2), some (.inl 0)] [] s1
  else
    some (some (.inl 0), s1) := (jev_rg jcy_101 (fun q => Nat.beq q 17) 10 0 _ _ _).trans rfl
set_option maxRecDepth 100000 in
theorem be_101_17 (f1 : Nat) (v2 : Int) (v3 : Int) (s : jM) : je 101 17 [some (.inr (3, 0)), some (.inr (73, f1)), some (.inl v2), some (.inl v3)] [] s =
  jbI (jq 301 [.inr (73, f1)] s) fun x1 s1 =>
  if v3 < x1 then
    jbI (jq 136 [.inr (8, 0), .inl (jw ((s1 3 0 3) + v3))] s1) fun x2 s2 =>
    jbI (jq 302 [.inr (73, f1), .inl v3] s2) fun x3 s3 =>
    if x2 = x3 then
      je 101 17 [some (.inr (3, 0)), some (.inr (73, f1)), some (.inl v2), some (.inl (jw (v3 + 1)))] [] s3
    else
      some (some (.inl 0), s3)
  else
    some (some (.inl 1), s1) := (jev_rg jcy_101 (fun q => Nat.beq q 17) 18 17 _ _ _).trans rfl
set_option maxRecDepth 100000 in
theorem bq_102 (v1 : Int) (s : jM) : jq 102 [.inr (3, 0), .inl v1] s =
  jbV (jq 98 [.inr (3, 0), .inl 32] s) fun s1 =>
  jbI (jq 97 [.inr (3, 0), .inl 48, .inl 57] s1) fun x2 s2 =>
  if x2 = 0 then
    jbV (jq 95 [.inr (3, 0), .inl (s2 3 0 3)] s2) fun s3 =>
    some (none, s3)
  else
    jbI (jq 136 [.inr (8, 0), .inl (s2 3 0 3)] s2) fun x4 s4 =>
    if 0 ≤ v1 ∧ v1 < 4 then
      some (none, (jup (jup s4 19 0 (Int.toNat v1) (jw (x4 - 48))) 3 0 3 (jw ((s4 3 0 3) + 1))))
    else
      none := (jev_rg jcy_102 (fun q => false) 27 0 _ _ _).trans rfl
set_option maxRecDepth 100000 in
theorem bq_103 (v1 : Int) (s : jM) : jq 103 [.inr (3, 0), .inl v1] s =
  jbI (jq 97 [.inr (3, 0), .inl 48, .inl 57] s) fun x1 s1 =>
  if x1 = 0 then
    jbV (jq 95 [.inr (3, 0), .inl (s1 3 0 3)] s1) fun s2 =>
    some (none, s2)
  else
    jbI (jq 104 [.inr (3, 0)] s1) fun x3 s3 =>
    if 0 ≤ v1 ∧ v1 < 4 then
      some (none, (jup s3 19 0 (Int.toNat v1) x3))
    else
      none := (jev_rg jcy_103 (fun q => false) 13 0 _ _ _).trans rfl
set_option maxRecDepth 100000 in
theorem bq_104 (s : jM) : jq 104 [.inr (3, 0)] s =
  je 104 4 [some (.inr (3, 0)), some (.inl 0), some (.inl 0)] [] s := (jev_rg jcy_104 (fun q => Nat.beq q 4) 5 0 _ _ _).trans rfl
set_option maxRecDepth 100000 in
theorem be_104_4 (v1 : Int) (v2 : Int) (s : jM) : je 104 4 [some (.inr (3, 0)), some (.inl v1), some (.inl v2)] [] s =
  if v2 < 3 then
    jbI (jq 97 [.inr (3, 0), .inl 48, .inl 57] s) fun x1 s1 =>
    if x1 = 0 then
      some (some (.inl v1), s1)
    else
      jbI (jq 136 [.inr (8, 0), .inl (s1 3 0 3)] s1) fun x2 s2 =>
      je 104 4 [some (.inr (3, 0)), some (.inl (jw ((jw ((jw (v1 * 10)) + x2)) - 48))), some (.inl (jw (v2 + 1)))] [] (jup s2 3 0 3 (jw ((s2 3 0 3) + 1)))
  else
    some (some (.inl v1), s) := (jev_rg jcy_104 (fun q => Nat.beq q 4) 29 4 _ _ _).trans rfl
set_option maxRecDepth 100000 in
theorem bq_105 (s : jM) : jq 105 [.inr (3, 0)] s =
  jbV (jq 98 [.inr (3, 0), .inl 32] s) fun s1 =>
  jbV (jq 98 [.inr (3, 0), .inl 61] s1) fun s2 =>
  jbV (jq 98 [.inr (3, 0), .inl 32] s2) fun s3 =>
  some (none, s3) := (jev_rg jcy_105 (fun q => false) 10 0 _ _ _).trans rfl
set_option maxRecDepth 100000 in
theorem bq_106 (s : jM) : jq 106 [.inr (3, 0)] s =
  jbV (jq 98 [.inr (3, 0), .inl 32] s) fun s1 =>
  jbV (jq 98 [.inr (3, 0), .inl 44] s1) fun s2 =>
  jbV (jq 98 [.inr (3, 0), .inl 32] s2) fun s3 =>
  some (none, s3) := (jev_rg jcy_106 (fun q => false) 10 0 _ _ _).trans rfl
set_option maxRecDepth 100000 in
theorem bq_107 (s : jM) : jq 107 [.inr (3, 0)] s =
  jbV (jq 102 [.inr (3, 0), .inl 0] s) fun s1 =>
  jbV (jq 105 [.inr (3, 0)] s1) fun s2 =>
  jbV (jq 103 [.inr (3, 0), .inl 1] s2) fun s3 =>
  jbV (jq 106 [.inr (3, 0)] s3) fun s4 =>
  jbV (jq 103 [.inr (3, 0), .inl 2] s4) fun s5 =>
  jbV (jq 106 [.inr (3, 0)] s5) fun s6 =>
  jbV (jq 103 [.inr (3, 0), .inl 3] s6) fun s7 =>
  some (none, s7) := (jev_rg jcy_107 (fun q => false) 19 0 _ _ _).trans rfl
set_option maxRecDepth 100000 in
theorem bq_108 (s : jM) : jq 108 [.inr (3, 0)] s =
  jbV (jq 102 [.inr (3, 0), .inl 0] s) fun s1 =>
  jbV (jq 105 [.inr (3, 0)] s1) fun s2 =>
  jbV (jq 109 [.inr (3, 0), .inl 1] (jup (jup s2 3 0 6 (-1)) 3 0 7 0)) fun s3 =>
  je 108 26 [some (.inr (3, 0)), some (.inl 0), none] [] s3 := (jev_rg jcy_108 (fun q => Nat.beq q 26 || Nat.beq q 50) 17 0 _ _ _).trans rfl
set_option maxRecDepth 100000 in
theorem be_108_26 (v1 : Int) (o2 : Option jV) (s : jM) : je 108 26 [some (.inr (3, 0)), some (.inl v1), o2] [] s =
  if v1 < 80 then
    jbI (jq 96 [.inr (3, 0), .inl 43] s) fun x1 s1 =>
    if x1 = 0 then
      jbI (jq 96 [.inr (3, 0), .inl 45] s1) fun x2 s2 =>
      if x2 = 0 then
        some (none, s2)
      else
        je 108 50 [some (.inr (3, 0)), some (.inl v1), o2] [] s2
    else
      je 108 50 [some (.inr (3, 0)), some (.inl v1), o2] [] s1
  else
    some (none, s) := (jev_rg jcy_108 (fun q => Nat.beq q 26 || Nat.beq q 50) 12 26 _ _ _).trans rfl
set_option maxRecDepth 100000 in
theorem be_108_50 (v1 : Int) (o2 : Option jV) (s : jM) : je 108 50 [some (.inr (3, 0)), some (.inl v1), o2] [] s =
  jbI (jq 96 [.inr (3, 0), .inl 43] s) fun x1 s1 =>
  if x1 = 0 then
    jbV (jq 109 [.inr (3, 0), .inl 100] (jup s1 3 0 3 (jw ((s1 3 0 3) + 1)))) fun s2 =>
    je 108 26 [some (.inr (3, 0)), some (.inl (jw (v1 + 1))), some (.inl 100)] [] s2
  else
    jbV (jq 109 [.inr (3, 0), .inl 1] (jup s1 3 0 3 (jw ((s1 3 0 3) + 1)))) fun s3 =>
    je 108 26 [some (.inr (3, 0)), some (.inl (jw (v1 + 1))), some (.inl 1)] [] s3 := (jev_rg jcy_108 (fun q => Nat.beq q 26 || Nat.beq q 50) 19 50 _ _ _).trans rfl
set_option maxRecDepth 100000 in
theorem bq_109 (v1 : Int) (s : jM) : jq 109 [.inr (3, 0), .inl v1] s =
  jbI (jq 97 [.inr (3, 0), .inl 48, .inl 57] s) fun x1 s1 =>
  if x1 = 0 then
    jbI (jq 110 [.inr (3, 0), .inl 120] s1) fun x2 s2 =>
    jbI (jq 110 [.inr (3, 0), .inl 121] s2) fun x3 s3 =>
    jbI (jq 110 [.inr (3, 0), .inl 122] s3) fun x4 s4 =>
    if (s4 3 0 3) = (s 3 0 3) then
      jbV (jq 95 [.inr (3, 0), .inl (s4 3 0 3)] s4) fun s5 =>
      je 109 65 [some (.inr (3, 0)), some (.inl v1), some (.inl (s 3 0 3)), some (.inl 1), some (.inl x2), some (.inl x3), some (.inl x4)] [] s5
    else
      je 109 65 [some (.inr (3, 0)), some (.inl v1), some (.inl (s 3 0 3)), some (.inl 1), some (.inl x2), some (.inl x3), some (.inl x4)] [] s4
  else
    jbI (jq 104 [.inr (3, 0)] s1) fun x6 s6 =>
    jbI (jq 110 [.inr (3, 0), .inl 120] s6) fun x7 s7 =>
    jbI (jq 110 [.inr (3, 0), .inl 121] s7) fun x8 s8 =>
    jbI (jq 110 [.inr (3, 0), .inl 122] s8) fun x9 s9 =>
    if (s9 3 0 3) = (s 3 0 3) then
      jbV (jq 95 [.inr (3, 0), .inl (s9 3 0 3)] s9) fun s10 =>
      je 109 65 [some (.inr (3, 0)), some (.inl v1), some (.inl (s 3 0 3)), some (.inl x6), some (.inl x7), some (.inl x8), some (.inl x9)] [] s10
    else
      je 109 65 [some (.inr (3, 0)), some (.inl v1), some (.inl (s 3 0 3)), some (.inl x6), some (.inl x7), some (.inl x8), some (.inl x9)] [] s9 := (jev_rg jcy_109 (fun q => Nat.beq q 65) 33 0 _ _ _).trans rfl
set_option maxRecDepth 100000 in
theorem be_109_65 (v1 : Int) (v2 : Int) (v3 : Int) (v4 : Int) (v5 : Int) (v6 : Int) (s : jM) : je 109 65 [some (.inr (3, 0)), some (.inl v1), some (.inl v2), some (.inl v3), some (.inl v4), some (.inl v5), some (.inl v6)] [] s =
  if (s 3 0 4) = (-1) then
    jbI (jq 46 [.inl v5, .inl v6] s) fun x1 s1 =>
    jbV (jq 111 [.inr (3, 0), .inl (Int.tmod (jw ((Int.tmod v3 101) * v1)) 101), .inl (jw ((jw (v4 + v5)) + v6)), .inl x1] s1) fun s2 =>
    some (none, s2)
  else
    some (none, s) := (jev_rg jcy_109 (fun q => Nat.beq q 65) 22 65 _ _ _).trans rfl
set_option maxRecDepth 100000 in
theorem bq_110 (v1 : Int) (s : jM) : jq 110 [.inr (3, 0), .inl v1] s =
  jbI (jq 96 [.inr (3, 0), .inl v1] s) fun x1 s1 =>
  if x1 = 0 then
    some (some (.inl 0), s1)
  else
    jbI (jq 97 [.inr (3, 0), .inl 50, .inl 53] (jup s1 3 0 3 (jw ((s1 3 0 3) + 1)))) fun x2 s2 =>
    if x2 = 0 then
      some (some (.inl 1), s2)
    else
      jbI (jq 136 [.inr (8, 0), .inl (s2 3 0 3)] s2) fun x3 s3 =>
      some (some (.inl (jw (x3 - 48))), (jup s3 3 0 3 (jw ((s3 3 0 3) + 1)))) := (jev_rg jcy_110 (fun q => false) 31 0 _ _ _).trans rfl
set_option maxRecDepth 100000 in
theorem bq_111 (v1 : Int) (v2 : Int) (v3 : Int) (s : jM) : jq 111 [.inr (3, 0), .inl v1, .inl v2, .inl v3] s =
  if (s 3 0 6) < 0 then
    jbV (jq 65 [.inr (1, 45), .inl (if 5 < v2 then 5 else v2)] (jup s 3 0 6 v2)) fun s1 =>
    je 111 24 [some (.inr (3, 0)), some (.inl v1), some (.inl v2), some (.inl v3)] [] s1
  else
    je 111 24 [some (.inr (3, 0)), some (.inl v1), some (.inl v2), some (.inl v3)] [] s := (jev_rg jcy_111 (fun q => Nat.beq q 24) 13 0 _ _ _).trans rfl
set_option maxRecDepth 100000 in
theorem be_111_24 (v1 : Int) (v2 : Int) (v3 : Int) (s : jM) : je 111 24 [some (.inr (3, 0)), some (.inl v1), some (.inl v2), some (.inl v3)] [] s =
  if v2 = (s 3 0 6) then
    jbI (jq 92 [.inr (3, 0)] s) fun x1 s1 =>
    if x1 = 0 then
      jbV (jq 64 [.inr (1, 45), .inl v3, .inl v1] s1) fun s2 =>
      some (none, s2)
    else
      some (none, s1)
  else
    jbI (jq 92 [.inr (3, 0)] (jup s 3 0 7 1)) fun x3 s3 =>
    if x3 = 0 then
      jbV (jq 64 [.inr (1, 45), .inl v3, .inl v1] s3) fun s4 =>
      some (none, s4)
    else
      some (none, s3) := (jev_rg jcy_111 (fun q => Nat.beq q 24) 16 24 _ _ _).trans rfl
set_option maxRecDepth 100000 in
theorem bq_112 (v1 : Int) (s : jM) : jq 112 [.inr (4, 0), .inl v1] s =
  jbI (jq 113 [.inr (4, 0), .inl v1] s) fun x1 s1 =>
  if x1 < 0 then
    some (some (.inl 1), s1)
  else
    some (some (.inl 0), s1) := (jev_rg jcy_112 (fun q => false) 7 0 _ _ _).trans rfl
set_option maxRecDepth 100000 in
theorem bq_113 (v1 : Int) (s : jM) : jq 113 [.inr (4, 0), .inl v1] s =
  jbI (jq 38 [.inl v1, .inl 3] s) fun x1 s1 =>
  if x1 = 0 then
    some (some (.inl (-1)), s1)
  else
    if 0 ≤ v1 ∧ v1 < 3 then
      some (some (.inl (s1 22 0 (Int.toNat v1))), s1)
    else
      none := (jev_rg jcy_113 (fun q => false) 10 0 _ _ _).trans rfl
set_option maxRecDepth 100000 in
theorem bq_114 (v1 : Int) (s : jM) : jq 114 [.inr (4, 0), .inl v1] s =
  jbI (jq 38 [.inl v1, .inl 3] s) fun x1 s1 =>
  if x1 = 0 then
    some (none, s1)
  else
    if 0 ≤ v1 ∧ v1 < 3 then
      some (none, (jup s1 22 0 (Int.toNat v1) (-1)))
    else
      none := (jev_rg jcy_114 (fun q => false) 10 0 _ _ _).trans rfl
set_option maxRecDepth 100000 in
theorem bq_115 (v1 : Int) (v2 : Int) (s : jM) : jq 115 [.inr (4, 0), .inl v1, .inl v2] s =
  jbI (jq 38 [.inl v1, .inl 3] s) fun x1 s1 =>
  if x1 = 0 then
    some (none, s1)
  else
    jbI (jq 38 [.inl v2, .inl 41] s1) fun x2 s2 =>
    if x2 = 0 then
      some (none, s2)
    else
      if 0 ≤ v1 ∧ v1 < 3 then
        je 115 26 [some (.inr (4, 0)), some (.inl v1), some (.inl v2), some (.inl 0)] [] (jup s2 22 0 (Int.toNat v1) v2)
      else
        none := (jev_rg jcy_115 (fun q => Nat.beq q 26) 16 0 _ _ _).trans rfl
set_option maxRecDepth 100000 in
theorem be_115_26 (v1 : Int) (v2 : Int) (v3 : Int) (s : jM) : je 115 26 [some (.inr (4, 0)), some (.inl v1), some (.inl v2), some (.inl v3)] [] s =
  if v3 < v2 then
    if 0 ≤ v1 ∧ v1 < 3 then
      if 0 ≤ v3 ∧ v3 < 40 then
        je 115 26 [some (.inr (4, 0)), some (.inl v1), some (.inl v2), some (.inl (jw (v3 + 1)))] [] (jup s 21 (Int.toNat v1) (Int.toNat v3) 0)
      else
        none
    else
      none
  else
    some (none, s) := (jev_rg jcy_115 (fun q => Nat.beq q 26) 13 26 _ _ _).trans rfl
set_option maxRecDepth 100000 in
theorem bq_116 (v1 : Int) (v2 : Int) (s : jM) : jq 116 [.inr (4, 0), .inl v1, .inl v2] s =
  jbI (jq 38 [.inl v1, .inl 3] s) fun x1 s1 =>
  if x1 = 0 then
    some (some (.inl (-1)), s1)
  else
    jbI (jq 112 [.inr (4, 0), .inl v1] s1) fun x2 s2 =>
    if x2 = 0 then
      jbI (jq 113 [.inr (4, 0), .inl v1] s2) fun x3 s3 =>
      jbI (jq 38 [.inl v2, .inl x3] s3) fun x4 s4 =>
      if x4 = 0 then
        some (some (.inl (-13)), s4)
      else
        some (some (.inl 0), s4)
    else
      some (some (.inl (-11)), s2) := (jev_rg jcy_116 (fun q => false) 17 0 _ _ _).trans rfl
set_option maxRecDepth 100000 in
theorem bq_117 (v1 : Int) (v2 : Int) (s : jM) : jq 117 [.inr (4, 0), .inl v1, .inl v2] s =
  jbI (jq 116 [.inr (4, 0), .inl v1, .inl v2] s) fun x1 s1 =>
  if x1 = 0 then
    if 0 ≤ v1 ∧ v1 < 3 then
      if 0 ≤ v2 ∧ v2 < 40 then
        some (some (.inl (s1 21 (Int.toNat v1) (Int.toNat v2))), s1)
      else
        none
    else
      none
  else
    some (some (.inl 0), s1) := (jev_rg jcy_117 (fun q => false) 13 0 _ _ _).trans rfl
set_option maxRecDepth 100000 in
theorem bq_118 (v1 : Int) (v2 : Int) (v3 : Int) (s : jM) : jq 118 [.inr (4, 0), .inl v1, .inl v2, .inl v3] s =
  jbI (jq 116 [.inr (4, 0), .inl v1, .inl v2] s) fun x1 s1 =>
  if x1 = 0 then
    if 0 ≤ v1 ∧ v1 < 3 then
      if 0 ≤ v2 ∧ v2 < 40 then
        some (none, (jup s1 21 (Int.toNat v1) (Int.toNat v2) v3))
      else
        none
    else
      none
  else
    some (none, s1) := (jev_rg jcy_118 (fun q => false) 13 0 _ _ _).trans rfl
set_option maxRecDepth 100000 in
theorem bq_119 (s : jM) : jq 119 [.inr (4, 0)] s =
  je 119 4 [some (.inr (4, 0)), some (.inl 0), some (.inl 0)] [] s := (jev_rg jcy_119 (fun q => Nat.beq q 4) 5 0 _ _ _).trans rfl
set_option maxRecDepth 100000 in
theorem be_119_4 (v1 : Int) (v2 : Int) (s : jM) : je 119 4 [some (.inr (4, 0)), some (.inl v1), some (.inl v2)] [] s =
  if v2 < 3 then
    jbI (jq 112 [.inr (4, 0), .inl v2] s) fun x1 s1 =>
    if x1 = 0 then
      je 119 4 [some (.inr (4, 0)), some (.inl (jw (v1 + 1))), some (.inl (jw (v2 + 1)))] [] s1
    else
      je 119 4 [some (.inr (4, 0)), some (.inl v1), some (.inl (jw (v2 + 1)))] [] s1
  else
    some (some (.inl v1), s) := (jev_rg jcy_119 (fun q => Nat.beq q 4) 11 4 _ _ _).trans rfl
set_option maxRecDepth 100000 in
theorem bq_120 (v1 : Int) (v2 : Int) (f3 : Nat) (s : jM) : jq 120 [.inr (6, 0), .inl v1, .inl v2, .inr (1, f3)] s =
  if 0 ≤ (s 6 0 1) ∧ (s 6 0 1) < 8 then
    jbV (jq 66 [.inr (1, 46 + (Int.toNat (s 6 0 1))), .inr (1, f3)] (jup (jup s 5 (Int.toNat (s 6 0 1)) 1 v1) 5 (Int.toNat (s 6 0 1)) 2 v2)) fun s1 =>
    some (none, (jup (jup s1 6 0 1 (Int.tmod (jw ((s1 6 0 1) + 1)) 8)) 6 0 2 (if 8 < (jw ((s1 6 0 2) + 1)) then 8 else jw ((s1 6 0 2) + 1))))
  else
    none := (jev_rg jcy_120 (fun q => false) 33 0 _ _ _).trans rfl
set_option maxRecDepth 100000 in
theorem bq_121 (s : jM) : jq 121 [.inr (6, 0)] s =
  if 0 ≤ (Int.tmod (jw ((jw ((s 6 0 1) + 8)) - 1)) 8) ∧ (Int.tmod (jw ((jw ((s 6 0 1) + 8)) - 1)) 8) < 8 then
    some (some (.inr (5, (Int.toNat (Int.tmod (jw ((jw ((s 6 0 1) + 8)) - 1)) 8)))), s)
  else
    none := (jev_rg jcy_121 (fun q => false) 12 0 _ _ _).trans rfl
