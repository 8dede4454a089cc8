/-! block equations, 3 -/
set_option maxRecDepth 100000 in
theorem bq_250 (v1 : Int) (v2 : Int) (v3 : Int) (s : jM) : jq 250 [.inr (11, 0), .inl v1, .inl v2, .inl v3] s =
  jbI (jq 200 [.inl v1, .inl 1, .inl 5] s) fun x1 s1 =>
  if x1 = 0 then
    some (some (.inl (-1)), s1)
  else
    jbI (jq 200 [.inl v2, .inl 0, .inl 63] s1) fun x2 s2 =>
    if x2 = 0 then
      some (some (.inl (-1)), s2)
    else
      jbI (jq 200 [.inl v3, .inl 0, .inl 1] s2) fun x3 s3 =>
      if x3 = 0 then
        some (some (.inl (-1)), s3)
      else
        je 250 41 [some (.inr (11, 0)), some (.inl v1), some (.inl v2), some (.inl v3), some (.inl 0), some (.inl 0), none] [] (jup s3 11 0 23 0) := (jev_rg jcy_250 (fun q => Nat.beq q 41 || Nat.beq q 64) 23 0 _ _ _).trans rfl
set_option maxRecDepth 100000 in
theorem be_250_41 (v1 : Int) (v2 : Int) (v3 : Int) (v4 : Int) (v5 : Int) (o6 : Option jV) (s : jM) : je 250 41 [some (.inr (11, 0)), some (.inl v1), some (.inl v2), some (.inl v3), some (.inl v4), some (.inl v5), o6] [] s =
  if v5 < 6 then
    if (jand (jshr v2 v5) 1) = 1 then
      je 250 64 [some (.inr (11, 0)), some (.inl v1), some (.inl v2), some (.inl v3), some (.inl (jw (v4 + 1))), some (.inl v5), some (.inl 0)] [] s
    else
      je 250 41 [some (.inr (11, 0)), some (.inl v1), some (.inl v2), some (.inl v3), some (.inl v4), some (.inl (jw (v5 + 1))), o6] [] s
  else
    if v3 = 0 then
      some (some (.inl (s 11 0 23)), s)
    else
      jbI (jq 203 [.inl v1] s) fun x1 s1 =>
      if (jw (3 * v4)) < x1 then
        some (some (.inl (jw (3 * v4))), s1)
      else
        jbI (jq 203 [.inl v1] s1) fun x2 s2 =>
        some (some (.inl x2), s2) := (jev_rg jcy_250 (fun q => Nat.beq q 41 || Nat.beq q 64) 16 41 _ _ _).trans rfl
set_option maxRecDepth 100000 in
theorem be_250_64 (v1 : Int) (v2 : Int) (v3 : Int) (v4 : Int) (v5 : Int) (v6 : Int) (s : jM) : je 250 64 [some (.inr (11, 0)), some (.inl v1), some (.inl v2), some (.inl v3), some (.inl v4), some (.inl v5), some (.inl v6)] [] s =
  if v6 < 3 then
    jbV (jq 249 [.inr (11, 0), .inl v1, .inl v5, .inl v6] s) fun s1 =>
    jbI (jq 203 [.inl v1] s1) fun x2 s2 =>
    jbI (jq 235 [.inr (11, 0), .inl x2] s2) fun x3 s3 =>
    je 250 64 [some (.inr (11, 0)), some (.inl v1), some (.inl v2), some (.inl v3), some (.inl v4), some (.inl v5), some (.inl (jw (v6 + 1)))] [] s3
  else
    je 250 41 [some (.inr (11, 0)), some (.inl v1), some (.inl v2), some (.inl v3), some (.inl v4), some (.inl (jw (v5 + 1))), some (.inl v6)] [] s := (jev_rg jcy_250 (fun q => Nat.beq q 41 || Nat.beq q 64) 16 64 _ _ _).trans rfl
set_option maxRecDepth 100000 in
theorem bq_251 (v1 : Int) (v2 : Int) (v3 : Int) (s : jM) : jq 251 [.inr (11, 0), .inl v1, .inl v2, .inl v3] s =
  jbI (jq 201 [.inl v1] s) fun x1 s1 =>
  if x1 = 0 then
    some (some (.inl (-1)), s1)
  else
    if v2 < 0 then
      some (some (.inl (-1)), s1)
    else
      jbI (jq 200 [.inl v3, .inl 0, .inl 1] s1) fun x2 s2 =>
      if x2 = 0 then
        some (some (.inl (-1)), s2)
      else
        if 0 ≤ v1 ∧ v1 < 4 then
          je 251 33 [some (.inr (11, 0)), some (.inl v1), some (.inl v2), some (.inl v3), some (.inl (s2 29 0 (Int.toNat v1))), some (.inl 0), none, none, none, none] [] s2
        else
          none := (jev_rg jcy_251 (fun q => Nat.beq q 33 || Nat.beq q 63) 18 0 _ _ _).trans rfl
set_option maxRecDepth 100000 in
theorem be_251_33 (v1 : Int) (v2 : Int) (v3 : Int) (v4 : Int) (v5 : Int) (o6 : Option jV) (o7 : Option jV) (o8 : Option jV) (o9 : Option jV) (s : jM) : je 251 33 [some (.inr (11, 0)), some (.inl v1), some (.inl v2), some (.inl v3), some (.inl v4), some (.inl v5), o6, o7, o8, o9] [] s =
  jbI (jq 203 [.inl v4] s) fun x1 s1 =>
  if v5 < x1 then
    if 0 ≤ (jw ((jw (21 * v1)) + v5)) ∧ (jw ((jw (21 * v1)) + v5)) < 84 then
      je 251 63 [some (.inr (11, 0)), some (.inl v1), some (.inl v2), some (.inl v3), some (.inl v4), some (.inl v5), some (.inl (s1 30 0 (Int.toNat (jw ((jw (21 * v1)) + v5))))), some (.inl 0), some (.inl 0), o9] [] s1
    else
      none
  else
    some (some (.inl (-2)), s1) := (jev_rg jcy_251 (fun q => Nat.beq q 33 || Nat.beq q 63) 18 33 _ _ _).trans rfl
set_option maxRecDepth 100000 in
theorem be_251_63 (v1 : Int) (v2 : Int) (v3 : Int) (v4 : Int) (v5 : Int) (v6 : Int) (v7 : Int) (v8 : Int) (o9 : Option jV) (s : jM) : je 251 63 [some (.inr (11, 0)), some (.inl v1), some (.inl v2), some (.inl v3), some (.inl v4), some (.inl v5), some (.inl v6), some (.inl v7), some (.inl v8), o9] [] s =
  jbI (jq 203 [.inl v4] s) fun x1 s1 =>
  if v8 < x1 then
    if 0 ≤ (jw ((jw (21 * v1)) + v8)) ∧ (jw ((jw (21 * v1)) + v8)) < 84 then
      if v6 < (s1 30 0 (Int.toNat (jw ((jw (21 * v1)) + v8)))) then
        je 251 63 [some (.inr (11, 0)), some (.inl v1), some (.inl v2), some (.inl v3), some (.inl v4), some (.inl v5), some (.inl v6), some (.inl (jw (v7 + 1))), some (.inl (jw (v8 + 1))), some (.inl (s1 30 0 (Int.toNat (jw ((jw (21 * v1)) + v8)))))] [] s1
      else
        if (s1 30 0 (Int.toNat (jw ((jw (21 * v1)) + v8)))) = v6 then
          if v8 < v5 then
            je 251 63 [some (.inr (11, 0)), some (.inl v1), some (.inl v2), some (.inl v3), some (.inl v4), some (.inl v5), some (.inl v6), some (.inl (jw (v7 + 1))), some (.inl (jw (v8 + 1))), some (.inl (s1 30 0 (Int.toNat (jw ((jw (21 * v1)) + v8)))))] [] s1
          else
            je 251 63 [some (.inr (11, 0)), some (.inl v1), some (.inl v2), some (.inl v3), some (.inl v4), some (.inl v5), some (.inl v6), some (.inl (jw (v7 + 0))), some (.inl (jw (v8 + 1))), some (.inl (s1 30 0 (Int.toNat (jw ((jw (21 * v1)) + v8)))))] [] s1
        else
          je 251 63 [some (.inr (11, 0)), some (.inl v1), some (.inl v2), some (.inl v3), some (.inl v4), some (.inl v5), some (.inl v6), some (.inl (jw (v7 + 0))), some (.inl (jw (v8 + 1))), some (.inl (s1 30 0 (Int.toNat (jw ((jw (21 * v1)) + v8)))))] [] s1
    else
      none
  else
    if v6 = 0 then
      je 251 33 [some (.inr (11, 0)), some (.inl v1), some (.inl v2), some (.inl v3), some (.inl v4), some (.inl (jw (v5 + 1))), some (.inl v6), some (.inl v7), some (.inl v8), o9] [] s1
    else
      if v7 = v2 then
        if v3 = 0 then
          jbI (jq 205 [.inl v4, .inl v5] s1) fun x2 s2 =>
          jbI (jq 206 [.inl v4, .inl v5] s2) fun x3 s3 =>
          some (some (.inl (jw ((jw (10 * x2)) + x3))), s3)
        else
          some (some (.inl v6), s1)
      else
        je 251 33 [some (.inr (11, 0)), some (.inl v1), some (.inl v2), some (.inl v3), some (.inl v4), some (.inl (jw (v5 + 1))), some (.inl v6), some (.inl v7), some (.inl v8), o9] [] s1 := (jev_rg jcy_251 (fun q => Nat.beq q 33 || Nat.beq q 63) 30 63 _ _ _).trans rfl
set_option maxRecDepth 100000 in
theorem bq_252 (v1 : Int) (v2 : Int) (v3 : Int) (s : jM) : jq 252 [.inr (11, 0), .inl v1, .inl v2, .inl v3] s =
  jbI (jq 201 [.inl v1] s) fun x1 s1 =>
  if x1 = 0 then
    some (some (.inl (-1)), s1)
  else
    if v2 < (-1) then
      some (some (.inl (-1)), s1)
    else
      if v2 < 0 then
        je 252 34 [some (.inr (11, 0)), some (.inl v1), some (.inl v2), some (.inl v3), some (.inl 0), some (.inl 100), none, none] [] s1
      else
        jbI (jq 200 [.inl v3, .inl 0, .inl 1] s1) fun x2 s2 =>
        if x2 = 0 then
          some (some (.inl (-1)), s2)
        else
          je 252 34 [some (.inr (11, 0)), some (.inl v1), some (.inl v2), some (.inl v3), some (.inl 0), some (.inl 100), none, none] [] s2 := (jev_rg jcy_252 (fun q => Nat.beq q 34 || Nat.beq q 45) 18 0 _ _ _).trans rfl
set_option maxRecDepth 100000 in
theorem be_252_34 (v1 : Int) (v2 : Int) (v3 : Int) (v4 : Int) (v5 : Int) (o6 : Option jV) (o7 : Option jV) (s : jM) : je 252 34 [some (.inr (11, 0)), some (.inl v1), some (.inl v2), some (.inl v3), some (.inl v4), some (.inl v5), o6, o7] [] s =
  if v5 < 0 then
    if v2 = (-1) then
      some (some (.inl v4), s)
    else
      some (some (.inl (-2)), s)
  else
    je 252 45 [some (.inr (11, 0)), some (.inl v1), some (.inl v2), some (.inl v3), some (.inl v4), some (.inl v5), some (.inl 0), some (.inl 0)] [] s := (jev_rg jcy_252 (fun q => Nat.beq q 34 || Nat.beq q 45) 8 34 _ _ _).trans rfl
set_option maxRecDepth 100000 in
theorem be_252_45 (v1 : Int) (v2 : Int) (v3 : Int) (v4 : Int) (v5 : Int) (v6 : Int) (v7 : Int) (s : jM) : je 252 45 [some (.inr (11, 0)), some (.inl v1), some (.inl v2), some (.inl v3), some (.inl v4), some (.inl v5), some (.inl v6), some (.inl v7)] [] s =
  if 0 ≤ v1 ∧ v1 < 4 then
    jbI (jq 203 [.inl (s 29 0 (Int.toNat v1))] s) fun x1 s1 =>
    if v7 < x1 then
      if 0 ≤ (jw ((jw (21 * v1)) + v7)) ∧ (jw ((jw (21 * v1)) + v7)) < 84 then
        if (s1 30 0 (Int.toNat (jw ((jw (21 * v1)) + v7)))) = v5 then
          je 252 45 [some (.inr (11, 0)), some (.inl v1), some (.inl v2), some (.inl v3), some (.inl v4), some (.inl v5), some (.inl (jw (v6 + 1))), some (.inl (jw (v7 + 1)))] [] s1
        else
          je 252 45 [some (.inr (11, 0)), some (.inl v1), some (.inl v2), some (.inl v3), some (.inl v4), some (.inl v5), some (.inl (jw (v6 + 0))), some (.inl (jw (v7 + 1)))] [] s1
      else
        none
    else
      if 0 < v6 then
        if v4 = v2 then
          if v3 = 0 then
            some (some (.inl v5), s1)
          else
            some (some (.inl v6), s1)
        else
          je 252 34 [some (.inr (11, 0)), some (.inl v1), some (.inl v2), some (.inl v3), some (.inl (jw (v4 + 1))), some (.inl (jw (v5 + (-1)))), some (.inl v6), some (.inl v7)] [] s1
      else
        je 252 34 [some (.inr (11, 0)), some (.inl v1), some (.inl v2), some (.inl v3), some (.inl v4), some (.inl (jw (v5 + (-1)))), some (.inl v6), some (.inl v7)] [] s1
  else
    none := (jev_rg jcy_252 (fun q => Nat.beq q 34 || Nat.beq q 45) 25 45 _ _ _).trans rfl
set_option maxRecDepth 100000 in
theorem bq_253 (v1 : Int) (v2 : Int) (v3 : Int) (v4 : Int) (s : jM) : jq 253 [.inr (11, 0), .inl v1, .inl v2, .inl v3, .inl v4] s =
  jbI (jq 200 [.inl v1, .inl 0, .inl 2] s) fun x1 s1 =>
  if x1 = 0 then
    some (some (.inl (-1)), s1)
  else
    jbI (jq 200 [.inl v3, .inl 0, .inl 1] s1) fun x2 s2 =>
    if x2 = 0 then
      some (some (.inl (-1)), s2)
    else
      if v3 = 0 then
        jbI (jq 200 [.inl v4, .inl 0, .inl 3] s2) fun x3 s3 =>
        if x3 = 0 then
          some (some (.inl (-1)), s3)
        else
          jbI (jq 200 [.inl v2, .inl 0, .inl 3] s3) fun x4 s4 =>
          if x4 = 0 then
            some (some (.inl (-13)), s4)
          else
            if v1 = 2 then
              je 253 63 [some (.inr (11, 0)), some (.inl v1), some (.inl v2), some (.inl v3), some (.inl v4), none, none] [] s4
            else
              if v1 = v3 then
                je 253 63 [some (.inr (11, 0)), some (.inl v1), some (.inl v2), some (.inl v3), some (.inl v4), none, none] [] s4
              else
                some (some (.inl (-16)), s4)
      else
        jbI (jq 200 [.inl v4, .inl 0, .inl 5] s2) fun x5 s5 =>
        if x5 = 0 then
          some (some (.inl (-1)), s5)
        else
          jbI (jq 200 [.inl v2, .inl 0, .inl 3] s5) fun x6 s6 =>
          if x6 = 0 then
            some (some (.inl (-13)), s6)
          else
            if v1 = 2 then
              je 253 63 [some (.inr (11, 0)), some (.inl v1), some (.inl v2), some (.inl v3), some (.inl v4), none, none] [] s6
            else
              if v1 = v3 then
                je 253 63 [some (.inr (11, 0)), some (.inl v1), some (.inl v2), some (.inl v3), some (.inl v4), none, none] [] s6
              else
                some (some (.inl (-16)), s6) := (jev_rg jcy_253 (fun q => Nat.beq q 63 || Nat.beq q 103) 31 0 _ _ _).trans rfl
set_option maxRecDepth 100000 in
theorem be_253_63 (v1 : Int) (v2 : Int) (v3 : Int) (v4 : Int) (o5 : Option jV) (o6 : Option jV) (s : jM) : je 253 63 [some (.inr (11, 0)), some (.inl v1), some (.inl v2), some (.inl v3), some (.inl v4), o5, o6] [] s =
  if 0 ≤ (jw ((jw (4 * v1)) + v2)) ∧ (jw ((jw (4 * v1)) + v2)) < 12 then
    if v3 = 0 then
      if 0 ≤ v4 ∧ v4 < 4 then
        if 0 ≤ (jw ((jw (4 * v1)) + v2)) ∧ (jw ((jw (4 * v1)) + v2)) < 12 then
          je 253 103 [some (.inr (11, 0)), some (.inl v1), some (.inl v2), some (.inl v3), some (.inl v4), some (.inl (jw ((jw (4 * v1)) + v2))), some (.inl 0)] [] (jup (jup s 32 0 (Int.toNat (jw ((jw (4 * v1)) + v2))) v3) 33 0 (Int.toNat (jw ((jw (4 * v1)) + v2))) (s 29 0 (Int.toNat v4)))
        else
          none
      else
        none
    else
      if 0 ≤ (jw ((jw (4 * v1)) + v2)) ∧ (jw ((jw (4 * v1)) + v2)) < 12 then
        je 253 103 [some (.inr (11, 0)), some (.inl v1), some (.inl v2), some (.inl v3), some (.inl v4), some (.inl (jw ((jw (4 * v1)) + v2))), some (.inl 0)] [] (jup (jup s 32 0 (Int.toNat (jw ((jw (4 * v1)) + v2))) v3) 33 0 (Int.toNat (jw ((jw (4 * v1)) + v2))) 0)
      else
        none
  else
    none := (jev_rg jcy_253 (fun q => Nat.beq q 63 || Nat.beq q 103) 25 63 _ _ _).trans rfl
set_option maxRecDepth 100000 in
theorem be_253_103 (v1 : Int) (v2 : Int) (v3 : Int) (v4 : Int) (v5 : Int) (v6 : Int) (s : jM) : je 253 103 [some (.inr (11, 0)), some (.inl v1), some (.inl v2), some (.inl v3), some (.inl v4), some (.inl v5), some (.inl v6)] [] s =
  if v6 < 21 then
    if v3 = 0 then
      if 0 ≤ (jw ((jw (21 * v4)) + v6)) ∧ (jw ((jw (21 * v4)) + v6)) < 84 then
        if 0 ≤ (jw ((jw (21 * v5)) + v6)) ∧ (jw ((jw (21 * v5)) + v6)) < 252 then
          je 253 103 [some (.inr (11, 0)), some (.inl v1), some (.inl v2), some (.inl v3), some (.inl v4), some (.inl v5), some (.inl (jw (v6 + 1)))] [] (jup s 34 0 (Int.toNat (jw ((jw (21 * v5)) + v6))) (s 30 0 (Int.toNat (jw ((jw (21 * v4)) + v6)))))
        else
          none
      else
        none
    else
      if v6 < 3 then
        if 0 ≤ (jw ((jw (3 * v4)) + v6)) ∧ (jw ((jw (3 * v4)) + v6)) < 18 then
          if 0 ≤ (jw ((jw (21 * v5)) + v6)) ∧ (jw ((jw (21 * v5)) + v6)) < 252 then
            je 253 103 [some (.inr (11, 0)), some (.inl v1), some (.inl v2), some (.inl v3), some (.inl v4), some (.inl v5), some (.inl (jw (v6 + 1)))] [] (jup s 34 0 (Int.toNat (jw ((jw (21 * v5)) + v6))) (s 31 0 (Int.toNat (jw ((jw (3 * v4)) + v6)))))
          else
            none
        else
          none
      else
        if 0 ≤ (jw ((jw (21 * v5)) + v6)) ∧ (jw ((jw (21 * v5)) + v6)) < 252 then
          je 253 103 [some (.inr (11, 0)), some (.inl v1), some (.inl v2), some (.inl v3), some (.inl v4), some (.inl v5), some (.inl (jw (v6 + 1)))] [] (jup s 34 0 (Int.toNat (jw ((jw (21 * v5)) + v6))) 0)
        else
          none
  else
    some (some (.inl 1), s) := (jev_rg jcy_253 (fun q => Nat.beq q 63 || Nat.beq q 103) 28 103 _ _ _).trans rfl
set_option maxRecDepth 100000 in
theorem bq_254 (v1 : Int) (v2 : Int) (s : jM) : jq 254 [.inr (11, 0), .inl v1, .inl v2] s =
  jbI (jq 200 [.inl v1, .inl 0, .inl 2] s) fun x1 s1 =>
  if x1 = 0 then
    some (some (.inl (-1)), s1)
  else
    jbI (jq 200 [.inl v2, .inl 0, .inl 3] s1) fun x2 s2 =>
    if x2 = 0 then
      some (some (.inl (-13)), s2)
    else
      if 0 ≤ (jw ((jw (4 * v1)) + v2)) ∧ (jw ((jw (4 * v1)) + v2)) < 12 then
        if (s2 32 0 (Int.toNat (jw ((jw (4 * v1)) + v2)))) < 0 then
          some (some (.inl (-2)), s2)
        else
          if 0 ≤ (jw ((jw (4 * v1)) + v2)) ∧ (jw ((jw (4 * v1)) + v2)) < 12 then
            some (some (.inl (s2 32 0 (Int.toNat (jw ((jw (4 * v1)) + v2))))), s2)
          else
            none
      else
        none := (jev_rg jcy_254 (fun q => false) 28 0 _ _ _).trans rfl
set_option maxRecDepth 100000 in
theorem bq_255 (v1 : Int) (v2 : Int) (v3 : Int) (s : jM) : jq 255 [.inr (11, 0), .inl v1, .inl v2, .inl v3] s =
  jbI (jq 200 [.inl v1, .inl 0, .inl 2] s) fun x1 s1 =>
  if x1 = 0 then
    some (some (.inl (-1)), s1)
  else
    jbI (jq 200 [.inl v2, .inl 0, .inl 3] s1) fun x2 s2 =>
    if x2 = 0 then
      some (some (.inl (-13)), s2)
    else
      if 0 ≤ (jw ((jw (4 * v1)) + v2)) ∧ (jw ((jw (4 * v1)) + v2)) < 12 then
        if (s2 32 0 (Int.toNat (jw ((jw (4 * v1)) + v2)))) < 0 then
          some (some (.inl (-2)), s2)
        else
          if 0 ≤ (jw ((jw (4 * v1)) + v2)) ∧ (jw ((jw (4 * v1)) + v2)) < 12 then
            if (s2 32 0 (Int.toNat (jw ((jw (4 * v1)) + v2)))) = 0 then
              jbI (jq 200 [.inl v3, .inl 0, .inl 3] s2) fun x3 s3 =>
              if x3 = 0 then
                some (some (.inl (-1)), s3)
              else
                jbV (jq 211 [.inr (11, 0)] s3) fun s4 =>
                if 0 ≤ (jw ((jw (4 * v1)) + v2)) ∧ (jw ((jw (4 * v1)) + v2)) < 12 then
                  if (s4 32 0 (Int.toNat (jw ((jw (4 * v1)) + v2)))) = 0 then
                    if 0 ≤ (jw ((jw (4 * v1)) + v2)) ∧ (jw ((jw (4 * v1)) + v2)) < 12 then
                      jbV (jq 214 [.inr (11, 0), .inl (s4 33 0 (Int.toNat (jw ((jw (4 * v1)) + v2))))] s4) fun s5 =>
                      je 255 96 [some (.inr (11, 0)), some (.inl v1), some (.inl v2), some (.inl v3), some (.inl (jw ((jw (4 * v1)) + v2))), some (.inl 0)] [] s5
                    else
                      none
                  else
                    je 255 140 [some (.inr (11, 0)), some (.inl v1), some (.inl v2), some (.inl v3), some (.inl (jw ((jw (4 * v1)) + v2))), some (.inl 0)] [] s4
                else
                  none
            else
              jbI (jq 200 [.inl v3, .inl 0, .inl 5] s2) fun x6 s6 =>
              if x6 = 0 then
                some (some (.inl (-1)), s6)
              else
                jbV (jq 211 [.inr (11, 0)] s6) fun s7 =>
                if 0 ≤ (jw ((jw (4 * v1)) + v2)) ∧ (jw ((jw (4 * v1)) + v2)) < 12 then
                  if (s7 32 0 (Int.toNat (jw ((jw (4 * v1)) + v2)))) = 0 then
                    if 0 ≤ (jw ((jw (4 * v1)) + v2)) ∧ (jw ((jw (4 * v1)) + v2)) < 12 then
                      jbV (jq 214 [.inr (11, 0), .inl (s7 33 0 (Int.toNat (jw ((jw (4 * v1)) + v2))))] s7) fun s8 =>
                      je 255 96 [some (.inr (11, 0)), some (.inl v1), some (.inl v2), some (.inl v3), some (.inl (jw ((jw (4 * v1)) + v2))), some (.inl 0)] [] s8
                    else
                      none
                  else
                    je 255 140 [some (.inr (11, 0)), some (.inl v1), some (.inl v2), some (.inl v3), some (.inl (jw ((jw (4 * v1)) + v2))), some (.inl 0)] [] s7
                else
                  none
          else
            none
      else
        none := (jev_rg jcy_255 (fun q => Nat.beq q 96 || Nat.beq q 140) 48 0 _ _ _).trans rfl
set_option maxRecDepth 100000 in
theorem be_255_96 (v1 : Int) (v2 : Int) (v3 : Int) (v4 : Int) (v5 : Int) (s : jM) : je 255 96 [some (.inr (11, 0)), some (.inl v1), some (.inl v2), some (.inl v3), some (.inl v4), some (.inl v5)] [] s =
  if v5 < 21 then
    if 0 ≤ (jw ((jw (21 * v4)) + v5)) ∧ (jw ((jw (21 * v4)) + v5)) < 252 then
      if 0 ≤ v5 ∧ v5 < 21 then
        je 255 96 [some (.inr (11, 0)), some (.inl v1), some (.inl v2), some (.inl v3), some (.inl v4), some (.inl (jw (v5 + 1)))] [] (jup s 47 0 (Int.toNat v5) (s 34 0 (Int.toNat (jw ((jw (21 * v4)) + v5)))))
      else
        none
    else
      none
  else
    jbV (jq 215 [.inr (11, 0), .inl v3] s) fun s1 =>
    jbV (jq 213 [.inr (11, 0)] s1) fun s2 =>
    if 0 ≤ v4 ∧ v4 < 12 then
      some (some (.inl (s2 32 0 (Int.toNat v4))), s2)
    else
      none := (jev_rg jcy_255 (fun q => Nat.beq q 96 || Nat.beq q 140) 18 96 _ _ _).trans rfl
set_option maxRecDepth 100000 in
theorem be_255_140 (v1 : Int) (v2 : Int) (v3 : Int) (v4 : Int) (v5 : Int) (s : jM) : je 255 140 [some (.inr (11, 0)), some (.inl v1), some (.inl v2), some (.inl v3), some (.inl v4), some (.inl v5)] [] s =
  if v5 < 3 then
    if 0 ≤ (jw ((jw (21 * v4)) + v5)) ∧ (jw ((jw (21 * v4)) + v5)) < 252 then
      if 0 ≤ (jw ((jw (3 * v3)) + v5)) ∧ (jw ((jw (3 * v3)) + v5)) < 18 then
        je 255 140 [some (.inr (11, 0)), some (.inl v1), some (.inl v2), some (.inl v3), some (.inl v4), some (.inl (jw (v5 + 1)))] [] (jup s 31 0 (Int.toNat (jw ((jw (3 * v3)) + v5))) (s 34 0 (Int.toNat (jw ((jw (21 * v4)) + v5)))))
      else
        none
    else
      none
  else
    jbV (jq 213 [.inr (11, 0)] s) fun s1 =>
    if 0 ≤ v4 ∧ v4 < 12 then
      some (some (.inl (s1 32 0 (Int.toNat v4))), s1)
    else
      none := (jev_rg jcy_255 (fun q => Nat.beq q 96 || Nat.beq q 140) 22 140 _ _ _).trans rfl
set_option maxRecDepth 100000 in
theorem bq_256 (v1 : Int) (v2 : Int) (s : jM) : jq 256 [.inr (11, 0), .inl v1, .inl v2] s =
  jbI (jq 200 [.inl v1, .inl 0, .inl 2] s) fun x1 s1 =>
  if x1 = 0 then
    some (some (.inl (-1)), s1)
  else
    if 40 < v2 then
      some (some (.inl (-1)), s1)
    else
      if v2 < (-1) then
        some (some (.inl (-14)), s1)
      else
        if 0 ≤ v1 ∧ v1 < 3 then
          je 256 34 [some (.inr (11, 0)), some (.inl v1), some (.inl v2), some (.inl 0)] [] (jup s1 35 0 (Int.toNat v1) v2)
        else
          none := (jev_rg jcy_256 (fun q => Nat.beq q 34) 19 0 _ _ _).trans rfl
set_option maxRecDepth 100000 in
theorem be_256_34 (v1 : Int) (v2 : Int) (v3 : Int) (s : jM) : je 256 34 [some (.inr (11, 0)), some (.inl v1), some (.inl v2), some (.inl v3)] [] s =
  if v3 < v2 then
    if 0 ≤ (jw ((jw (40 * v1)) + v3)) ∧ (jw ((jw (40 * v1)) + v3)) < 120 then
      je 256 34 [some (.inr (11, 0)), some (.inl v1), some (.inl v2), some (.inl (jw (v3 + 1)))] [] (jup s 36 0 (Int.toNat (jw ((jw (40 * v1)) + v3))) 0)
    else
      none
  else
    some (some (.inl 1), s) := (jev_rg jcy_256 (fun q => Nat.beq q 34) 15 34 _ _ _).trans rfl
set_option maxRecDepth 100000 in
theorem bq_257 (v1 : Int) (v2 : Int) (v3 : Int) (s : jM) : jq 257 [.inr (11, 0), .inl v1, .inl v2, .inl v3] s =
  jbI (jq 200 [.inl v1, .inl 0, .inl 2] s) fun x1 s1 =>
  if x1 = 0 then
    some (some (.inl (-1)), s1)
  else
    if 0 ≤ v1 ∧ v1 < 3 then
      if (s1 35 0 (Int.toNat v1)) < 0 then
        some (some (.inl (-11)), s1)
      else
        if 0 ≤ v1 ∧ v1 < 3 then
          jbI (jq 200 [.inl v2, .inl 0, .inl (jw ((s1 35 0 (Int.toNat v1)) - 1))] s1) fun x2 s2 =>
          if x2 = 0 then
            some (some (.inl (-13)), s2)
          else
            if 0 ≤ (jw ((jw (40 * v1)) + v2)) ∧ (jw ((jw (40 * v1)) + v2)) < 120 then
              some (some (.inl 1), (jup s2 36 0 (Int.toNat (jw ((jw (40 * v1)) + v2))) v3))
            else
              none
        else
          none
    else
      none := (jev_rg jcy_257 (fun q => false) 31 0 _ _ _).trans rfl
set_option maxRecDepth 100000 in
theorem bq_258 (v1 : Int) (v2 : Int) (s : jM) : jq 258 [.inr (11, 0), .inl v1, .inl v2] s =
  jbI (jq 200 [.inl v1, .inl 0, .inl 2] s) fun x1 s1 =>
  if x1 = 0 then
    some (some (.inl (-1)), s1)
  else
    if 0 ≤ v1 ∧ v1 < 3 then
      if (s1 35 0 (Int.toNat v1)) < 0 then
        some (some (.inl (-11)), s1)
      else
        if 0 ≤ v1 ∧ v1 < 3 then
          jbI (jq 200 [.inl v2, .inl 0, .inl (jw ((s1 35 0 (Int.toNat v1)) - 1))] s1) fun x2 s2 =>
          if x2 = 0 then
            some (some (.inl (-13)), s2)
          else
            if 0 ≤ (jw ((jw (40 * v1)) + v2)) ∧ (jw ((jw (40 * v1)) + v2)) < 120 then
              some (some (.inl (s2 36 0 (Int.toNat (jw ((jw (40 * v1)) + v2))))), s2)
            else
              none
        else
          none
    else
      none := (jev_rg jcy_258 (fun q => false) 30 0 _ _ _).trans rfl
set_option maxRecDepth 100000 in
theorem bq_259 (v1 : Int) (v2 : Int) (s : jM) : jq 259 [.inr (11, 0), .inl v1, .inl v2] s =
  jbI (jq 200 [.inl v1, .inl 0, .inl 2] s) fun x1 s1 =>
  if x1 = 0 then
    some (some (.inl (-1)), s1)
  else
    jbI (jq 201 [.inl v2] s1) fun x2 s2 =>
    if x2 = 0 then
      some (some (.inl (-1)), s2)
    else
      if 0 ≤ v2 ∧ v2 < 4 then
        jbI (jq 203 [.inl (s2 29 0 (Int.toNat v2))] s2) fun x3 s3 =>
        if 0 ≤ v1 ∧ v1 < 3 then
          je 259 35 [some (.inr (11, 0)), some (.inl v1), some (.inl v2), some (.inl 0)] [] (jup s3 35 0 (Int.toNat v1) x3)
        else
          none
      else
        none := (jev_rg jcy_259 (fun q => Nat.beq q 35) 20 0 _ _ _).trans rfl
set_option maxRecDepth 100000 in
theorem be_259_35 (v1 : Int) (v2 : Int) (v3 : Int) (s : jM) : je 259 35 [some (.inr (11, 0)), some (.inl v1), some (.inl v2), some (.inl v3)] [] s =
  if 0 ≤ v1 ∧ v1 < 3 then
    if v3 < (s 35 0 (Int.toNat v1)) then
      if 0 ≤ (jw ((jw (21 * v2)) + v3)) ∧ (jw ((jw (21 * v2)) + v3)) < 84 then
        if 0 ≤ (jw ((jw (40 * v1)) + v3)) ∧ (jw ((jw (40 * v1)) + v3)) < 120 then
          je 259 35 [some (.inr (11, 0)), some (.inl v1), some (.inl v2), some (.inl (jw (v3 + 1)))] [] (jup s 36 0 (Int.toNat (jw ((jw (40 * v1)) + v3))) (s 30 0 (Int.toNat (jw ((jw (21 * v2)) + v3)))))
        else
          none
      else
        none
    else
      if 0 ≤ v1 ∧ v1 < 3 then
        some (some (.inl (s 35 0 (Int.toNat v1))), s)
      else
        none
  else
    none := (jev_rg jcy_259 (fun q => Nat.beq q 35) 25 35 _ _ _).trans rfl
set_option maxRecDepth 100000 in
theorem bq_260 (v1 : Int) (v2 : Int) (s : jM) : jq 260 [.inr (11, 0), .inl v1, .inl v2] s =
  jbI (jq 200 [.inl v1, .inl 0, .inl 2] s) fun x1 s1 =>
  if x1 = 0 then
    some (some (.inl (-1)), s1)
  else
    jbI (jq 201 [.inl v2] s1) fun x2 s2 =>
    if x2 = 0 then
      some (some (.inl (-1)), s2)
    else
      if 0 ≤ v1 ∧ v1 < 3 then
        if (s2 35 0 (Int.toNat v1)) < 0 then
          some (some (.inl (-11)), s2)
        else
          je 260 32 [some (.inr (11, 0)), some (.inl v1), some (.inl v2), some (.inl 0)] [] s2
      else
        none := (jev_rg jcy_260 (fun q => Nat.beq q 32) 16 0 _ _ _).trans rfl
set_option maxRecDepth 100000 in
theorem be_260_32 (v1 : Int) (v2 : Int) (v3 : Int) (s : jM) : je 260 32 [some (.inr (11, 0)), some (.inl v1), some (.inl v2), some (.inl v3)] [] s =
  if 0 ≤ v1 ∧ v1 < 3 then
    if v3 < (s 35 0 (Int.toNat v1)) then
      if 5 < v3 then
        some (some (.inl v3), s)
      else
        if 0 ≤ (jw ((jw (40 * v1)) + v3)) ∧ (jw ((jw (40 * v1)) + v3)) < 120 then
          jbI (jq 232 [.inr (11, 0), .inl v2, .inl v3] s) fun x1 s1 =>
          if (s 36 0 (Int.toNat (jw ((jw (40 * v1)) + v3)))) = x1 then
            je 260 32 [some (.inr (11, 0)), some (.inl v1), some (.inl v2), some (.inl (jw (v3 + 1)))] [] s1
          else
            some (some (.inl v3), s1)
        else
          none
    else
      if 0 ≤ v1 ∧ v1 < 3 then
        if (s 35 0 (Int.toNat v1)) < 6 then
          if 0 ≤ v1 ∧ v1 < 3 then
            some (some (.inl (jw (100 + (s 35 0 (Int.toNat v1))))), s)
          else
            none
        else
          some (some (.inl (-2)), s)
      else
        none
  else
    none := (jev_rg jcy_260 (fun q => Nat.beq q 32) 25 32 _ _ _).trans rfl
set_option maxRecDepth 100000 in
theorem bq_261 (v1 : Int) (s : jM) : jq 261 [.inr (11, 0), .inl v1] s =
  if (s 11 0 33) = (s 11 0 34) then
    some (none, (jup (jup s 11 0 35 v1) 11 0 33 (jw ((s 11 0 33) + 1))))
  else
    some (none, (jup (jup s 11 0 35 (s 11 0 35)) 11 0 33 (jw ((s 11 0 33) + 1)))) := (jev_rg jcy_261 (fun q => false) 16 0 _ _ _).trans rfl
set_option maxRecDepth 100000 in
theorem bq_262 (v1 : Int) (v2 : Int) (s : jM) : jq 262 [.inr (11, 0), .inl v1, .inl v2] s =
  if 0 < v2 then
    jbV (jq 261 [.inr (11, 0), .inl v1] s) fun s1 =>
    if 1 < v2 then
      jbV (jq 261 [.inr (11, 0), .inl (jw (48 + v2))] s1) fun s2 =>
      some (none, s2)
    else
      some (none, s1)
  else
    if 1 < v2 then
      jbV (jq 261 [.inr (11, 0), .inl (jw (48 + v2))] s) fun s3 =>
      some (none, s3)
    else
      some (none, s) := (jev_rg jcy_262 (fun q => false) 14 0 _ _ _).trans rfl
set_option maxRecDepth 100000 in
theorem bq_263 (v1 : Int) (s : jM) : jq 263 [.inr (11, 0), .inl v1] s =
  if 0 ≤ v1 ∧ v1 < 4 then
    je 263 14 [some (.inr (11, 0)), some (.inl v1), some (.inl (s 29 0 (Int.toNat v1))), some (.inl 0), none, none, none] [] (jup s 11 0 33 0)
  else
    none := (jev_rg jcy_263 (fun q => Nat.beq q 14 || Nat.beq q 53 || Nat.beq q 91 || Nat.beq q 122) 11 0 _ _ _).trans rfl
set_option maxRecDepth 100000 in
theorem be_263_14 (v1 : Int) (v2 : Int) (v3 : Int) (o4 : Option jV) (o5 : Option jV) (o6 : Option jV) (s : jM) : je 263 14 [some (.inr (11, 0)), some (.inl v1), some (.inl v2), some (.inl v3), o4, o5, o6] [] s =
  jbI (jq 203 [.inl v2] s) fun x1 s1 =>
  if v3 < x1 then
    if 0 ≤ (jw ((jw (21 * v1)) + v3)) ∧ (jw ((jw (21 * v1)) + v3)) < 84 then
      if (s1 30 0 (Int.toNat (jw ((jw (21 * v1)) + v3)))) = 0 then
        je 263 14 [some (.inr (11, 0)), some (.inl v1), some (.inl v2), some (.inl (jw (v3 + 1))), some (.inl (s1 30 0 (Int.toNat (jw ((jw (21 * v1)) + v3))))), o5, o6] [] s1
      else
        if 0 < (s1 11 0 33) then
          jbV (jq 261 [.inr (11, 0), .inl 43] s1) fun s2 =>
          je 263 53 [some (.inr (11, 0)), some (.inl v1), some (.inl v2), some (.inl v3), some (.inl (s1 30 0 (Int.toNat (jw ((jw (21 * v1)) + v3))))), o5, o6] [] s2
        else
          je 263 53 [some (.inr (11, 0)), some (.inl v1), some (.inl v2), some (.inl v3), some (.inl (s1 30 0 (Int.toNat (jw ((jw (21 * v1)) + v3))))), o5, o6] [] s1
    else
      none
  else
    if (s1 11 0 33) = 0 then
      jbV (jq 261 [.inr (11, 0), .inl 48] s1) fun s3 =>
      some (none, s3)
    else
      some (none, s1) := (jev_rg jcy_263 (fun q => Nat.beq q 14 || Nat.beq q 53 || Nat.beq q 91 || Nat.beq q 122) 22 14 _ _ _).trans rfl
set_option maxRecDepth 100000 in
theorem be_263_53 (v1 : Int) (v2 : Int) (v3 : Int) (v4 : Int) (o5 : Option jV) (o6 : Option jV) (s : jM) : je 263 53 [some (.inr (11, 0)), some (.inl v1), some (.inl v2), some (.inl v3), some (.inl v4), o5, o6] [] s =
  if v4 = 100 then
    jbV (jq 261 [.inr (11, 0), .inl 49] s) fun s1 =>
    jbV (jq 261 [.inr (11, 0), .inl 48] s1) fun s2 =>
    jbV (jq 261 [.inr (11, 0), .inl 48] s2) fun s3 =>
    je 263 122 [some (.inr (11, 0)), some (.inl v1), some (.inl v2), some (.inl v3), some (.inl v4), o5, o6] [] s3
  else
    if 1 < v4 then
      je 263 91 [some (.inr (11, 0)), some (.inl v1), some (.inl v2), some (.inl v3), some (.inl v4), o5, o6] [] s
    else
      if v2 = 0 then
        je 263 91 [some (.inr (11, 0)), some (.inl v1), some (.inl v2), some (.inl v3), some (.inl v4), o5, o6] [] s
      else
        je 263 122 [some (.inr (11, 0)), some (.inl v1), some (.inl v2), some (.inl v3), some (.inl v4), o5, o6] [] s := (jev_rg jcy_263 (fun q => Nat.beq q 14 || Nat.beq q 53 || Nat.beq q 91 || Nat.beq q 122) 14 53 _ _ _).trans rfl
set_option maxRecDepth 100000 in
theorem be_263_91 (v1 : Int) (v2 : Int) (v3 : Int) (v4 : Int) (o5 : Option jV) (o6 : Option jV) (s : jM) : je 263 91 [some (.inr (11, 0)), some (.inl v1), some (.inl v2), some (.inl v3), some (.inl v4), o5, o6] [] s =
  if 9 < v4 then
    jbV (jq 261 [.inr (11, 0), .inl (jw (48 + (jw (Int.tdiv v4 10))))] s) fun s1 =>
    jbV (jq 261 [.inr (11, 0), .inl (jw (48 + (Int.tmod v4 10)))] s1) fun s2 =>
    je 263 122 [some (.inr (11, 0)), some (.inl v1), some (.inl v2), some (.inl v3), some (.inl v4), o5, o6] [] s2
  else
    jbV (jq 261 [.inr (11, 0), .inl (jw (48 + (Int.tmod v4 10)))] s) fun s3 =>
    je 263 122 [some (.inr (11, 0)), some (.inl v1), some (.inl v2), some (.inl v3), some (.inl v4), o5, o6] [] s3 := (jev_rg jcy_263 (fun q => Nat.beq q 14 || Nat.beq q 53 || Nat.beq q 91 || Nat.beq q 122) 18 91 _ _ _).trans rfl
set_option maxRecDepth 100000 in
theorem be_263_122 (v1 : Int) (v2 : Int) (v3 : Int) (v4 : Int) (o5 : Option jV) (o6 : Option jV) (s : jM) : je 263 122 [some (.inr (11, 0)), some (.inl v1), some (.inl v2), some (.inl v3), some (.inl v4), o5, o6] [] s =
  jbI (jq 205 [.inl v2, .inl v3] s) fun x1 s1 =>
  jbI (jq 206 [.inl v2, .inl v3] s1) fun x2 s2 =>
  jbV (jq 262 [.inr (11, 0), .inl 120, .inl x1] s2) fun s3 =>
  jbV (jq 262 [.inr (11, 0), .inl 121, .inl x2] s3) fun s4 =>
  jbV (jq 262 [.inr (11, 0), .inl 122, .inl (jw ((jw (v2 - x1)) - x2))] s4) fun s5 =>
  je 263 14 [some (.inr (11, 0)), some (.inl v1), some (.inl v2), some (.inl (jw (v3 + 1))), some (.inl v4), some (.inl x1), some (.inl x2)] [] s5 := (jev_rg jcy_263 (fun q => Nat.beq q 14 || Nat.beq q 53 || Nat.beq q 91 || Nat.beq q 122) 27 122 _ _ _).trans rfl
set_option maxRecDepth 100000 in
theorem bq_264 (v1 : Int) (v2 : Int) (s : jM) : jq 264 [.inr (11, 0), .inl v1, .inl v2] s =
  jbI (jq 201 [.inl v1] s) fun x1 s1 =>
  if x1 = 0 then
    some (some (.inl (-1)), s1)
  else
    if v2 < (-1) then
      some (some (.inl (-1)), s1)
    else
      jbV (jq 263 [.inr (11, 0), .inl v1] (jup (jup s1 11 0 34 v2) 11 0 35 (-2))) fun s2 =>
      if v2 = (-1) then
        some (some (.inl (s2 11 0 33)), s2)
      else
        some (some (.inl (s2 11 0 35)), s2) := (jev_rg jcy_264 (fun q => false) 22 0 _ _ _).trans rfl
set_option maxRecDepth 100000 in
theorem bq_265 (s : jM) : jq 265 [.inr (11, 0)] s =
  if (s 11 0 10) = 0 then
    some (some (.inl (-5)), s)
  else
    je 265 22 [some (.inr (11, 0)), some (.inl 0)] [] (jup s 11 0 10 (jw ((s 11 0 10) - 1))) := (jev_rg jcy_265 (fun q => Nat.beq q 22 || Nat.beq q 54 || Nat.beq q 88) 12 0 _ _ _).trans rfl
set_option maxRecDepth 100000 in
theorem be_265_22 (v1 : Int) (s : jM) : je 265 22 [some (.inr (11, 0)), some (.inl v1)] [] s =
  if v1 < 4 then
    if 0 ≤ (jw ((jw (4 * (s 11 0 10))) + v1)) ∧ (jw ((jw (4 * (s 11 0 10))) + v1)) < 36 then
      if 0 ≤ v1 ∧ v1 < 4 then
        je 265 22 [some (.inr (11, 0)), some (.inl (jw (v1 + 1)))] [] (jup s 29 0 (Int.toNat v1) (s 38 0 (Int.toNat (jw ((jw (4 * (s 11 0 10))) + v1)))))
      else
        none
    else
      none
  else
    je 265 54 [some (.inr (11, 0)), some (.inl 0)] [] s := (jev_rg jcy_265 (fun q => Nat.beq q 22 || Nat.beq q 54 || Nat.beq q 88) 19 22 _ _ _).trans rfl
set_option maxRecDepth 100000 in
theorem be_265_54 (v1 : Int) (s : jM) : je 265 54 [some (.inr (11, 0)), some (.inl v1)] [] s =
  if v1 < 84 then
    if 0 ≤ (jw ((jw (84 * (s 11 0 10))) + v1)) ∧ (jw ((jw (84 * (s 11 0 10))) + v1)) < 756 then
      if 0 ≤ v1 ∧ v1 < 84 then
        je 265 54 [some (.inr (11, 0)), some (.inl (jw (v1 + 1)))] [] (jup s 30 0 (Int.toNat v1) (s 39 0 (Int.toNat (jw ((jw (84 * (s 11 0 10))) + v1)))))
      else
        none
    else
      none
  else
    je 265 88 [some (.inr (11, 0)), some (.inl 0)] [] s := (jev_rg jcy_265 (fun q => Nat.beq q 22 || Nat.beq q 54 || Nat.beq q 88) 19 54 _ _ _).trans rfl
set_option maxRecDepth 100000 in
theorem be_265_88 (v1 : Int) (s : jM) : je 265 88 [some (.inr (11, 0)), some (.inl v1)] [] s =
  if v1 < 18 then
    if 0 ≤ (jw ((jw (18 * (s 11 0 10))) + v1)) ∧ (jw ((jw (18 * (s 11 0 10))) + v1)) < 162 then
      if 0 ≤ v1 ∧ v1 < 18 then
        je 265 88 [some (.inr (11, 0)), some (.inl (jw (v1 + 1)))] [] (jup s 31 0 (Int.toNat v1) (s 40 0 (Int.toNat (jw ((jw (18 * (s 11 0 10))) + v1)))))
      else
        none
    else
      none
  else
    some (some (.inl (s 11 0 10)), s) := (jev_rg jcy_265 (fun q => Nat.beq q 22 || Nat.beq q 54 || Nat.beq q 88) 19 88 _ _ _).trans rfl
set_option maxRecDepth 100000 in
theorem bq_266 (v1 : Int) (s : jM) : jq 266 [.inr (11, 0), .inl v1] s =
  jbI (jq 200 [.inl v1, .inl 32, .inl 126] s) fun x1 s1 =>
  if x1 = 0 then
    some (some (.inl (-1)), s1)
  else
    if (s1 11 0 8) = 80 then
      some (some (.inl (-3)), s1)
    else
      if 0 ≤ (s1 11 0 8) ∧ (s1 11 0 8) < 80 then
        some (some (.inl (jw ((s1 11 0 8) + 1))), (jup (jup s1 37 0 (Int.toNat (s1 11 0 8)) v1) 11 0 8 (jw ((s1 11 0 8) + 1))))
      else
        none := (jev_rg jcy_266 (fun q => false) 24 0 _ _ _).trans rfl
set_option maxRecDepth 100000 in
theorem bq_267 (s : jM) : jq 267 [.inr (11, 0)] s =
  some (some (.inl (s 11 0 8)), (jup s 11 0 8 0)) := (jev_rg jcy_267 (fun q => false) 8 0 _ _ _).trans rfl
set_option maxRecDepth 100000 in
theorem bq_268 (s : jM) : jq 268 [.inr (11, 0)] s =
  if (s 11 0 36) < (s 11 0 8) then
    if 0 ≤ (s 11 0 36) ∧ (s 11 0 36) < 80 then
      some (some (.inl (s 37 0 (Int.toNat (s 11 0 36)))), s)
    else
      none
  else
    some (some (.inl (-1)), s) := (jev_rg jcy_268 (fun q => false) 12 0 _ _ _).trans rfl
set_option maxRecDepth 100000 in
theorem bq_269 (s : jM) : jq 269 [.inr (11, 0)] s =
  jbI (jq 268 [.inr (11, 0)] s) fun x1 s1 =>
  jbI (jq 200 [.inl x1, .inl 48, .inl 57] s1) fun x2 s2 =>
  if x2 = 0 ∨ x2 = 1 then some (some (.inl x2), s2) else none := (jev_rg jcy_269 (fun q => false) 6 0 _ _ _).trans rfl
set_option maxRecDepth 100000 in
theorem bq_270 (v1 : Int) (s : jM) : jq 270 [.inr (11, 0), .inl v1] s =
  if (s 11 0 37) = 0 then
    jbI (jq 268 [.inr (11, 0)] s) fun x1 s1 =>
    if x1 = v1 then
      some (none, (jup (jup s1 11 0 37 0) 11 0 36 (jw ((s1 11 0 36) + 1))))
    else
      some (none, (jup (jup s1 11 0 37 1) 11 0 36 (jw ((s1 11 0 36) + 0))))
  else
    some (none, s) := (jev_rg jcy_270 (fun q => false) 22 0 _ _ _).trans rfl
set_option maxRecDepth 100000 in
theorem bq_271 (s : jM) : jq 271 [.inr (11, 0)] s =
  if (s 11 0 37) = 0 then
    jbI (jq 269 [.inr (11, 0)] s) fun x1 s1 =>
    if x1 = 0 then
      some (some (.inl 0), (jup (jup s1 11 0 37 1) 11 0 36 (jw ((s1 11 0 36) + 0))))
    else
      jbI (jq 268 [.inr (11, 0)] (jup s1 11 0 37 0)) fun x2 s2 =>
      if (s2 11 0 37) = 0 then
        some (some (.inl (jw (x2 - 48))), (jup s2 11 0 36 (jw ((s2 11 0 36) + 1))))
      else
        some (some (.inl (jw (x2 - 48))), (jup s2 11 0 36 (jw ((s2 11 0 36) + 0))))
  else
    some (some (.inl 0), (jup (jup s 11 0 37 1) 11 0 36 (jw ((s 11 0 36) + 0)))) := (jev_rg jcy_271 (fun q => false) 29 0 _ _ _).trans rfl
set_option maxRecDepth 100000 in
theorem bq_272 (s : jM) : jq 272 [.inr (11, 0)] s =
  jbI (jq 271 [.inr (11, 0)] s) fun x1 s1 =>
  je 272 7 [some (.inr (11, 0)), some (.inl x1), some (.inl 1)] [] s1 := (jev_rg jcy_272 (fun q => Nat.beq q 7) 6 0 _ _ _).trans rfl
set_option maxRecDepth 100000 in
theorem be_272_7 (v1 : Int) (v2 : Int) (s : jM) : je 272 7 [some (.inr (11, 0)), some (.inl v1), some (.inl v2)] [] s =
  if v2 < 3 then
    if (s 11 0 37) = 0 then
      jbI (jq 269 [.inr (11, 0)] s) fun x1 s1 =>
      if x1 = 0 then
        some (some (.inl v1), s1)
      else
        jbI (jq 271 [.inr (11, 0)] s1) fun x2 s2 =>
        je 272 7 [some (.inr (11, 0)), some (.inl (jw ((jw (10 * v1)) + x2))), some (.inl (jw (v2 + 1)))] [] s2
    else
      some (some (.inl v1), s)
  else
    some (some (.inl v1), s) := (jev_rg jcy_272 (fun q => Nat.beq q 7) 19 7 _ _ _).trans rfl
set_option maxRecDepth 100000 in
theorem bq_273 (v1 : Int) (f2 : Nat) (s : jM) : jq 273 [.inr (11, 0), .inl v1, .inr (73, f2)] s =
  jbI (jq 301 [.inr (73, f2)] s) fun x1 s1 =>
  if (jw ((s 11 0 36) - v1)) = x1 then
    je 273 22 [some (.inr (11, 0)), some (.inl v1), some (.inr (73, f2)), some (.inl 1), some (.inl 0)] [] s1
  else
    je 273 22 [some (.inr (11, 0)), some (.inl v1), some (.inr (73, f2)), some (.inl 0), some (.inl 0)] [] s1 := (jev_rg jcy_273 (fun q => Nat.beq q 22) 13 0 _ _ _).trans rfl
set_option maxRecDepth 100000 in
theorem be_273_22 (v1 : Int) (f2 : Nat) (v3 : Int) (v4 : Int) (s : jM) : je 273 22 [some (.inr (11, 0)), some (.inl v1), some (.inr (73, f2)), some (.inl v3), some (.inl v4)] [] s =
  jbI (jq 301 [.inr (73, f2)] s) fun x1 s1 =>
  if v4 < x1 then
    if v3 = 0 then
      if v3 = 0 ∨ v3 = 1 then some (some (.inl v3), s1) else none
    else
      if 0 ≤ (jw (v1 + v4)) ∧ (jw (v1 + v4)) < 80 then
        jbI (jq 302 [.inr (73, f2), .inl v4] s1) fun x2 s2 =>
        if (s1 37 0 (Int.toNat (jw (v1 + v4)))) = x2 then
          je 273 22 [some (.inr (11, 0)), some (.inl v1), some (.inr (73, f2)), some (.inl 1), some (.inl (jw (v4 + 1)))] [] s2
        else
          je 273 22 [some (.inr (11, 0)), some (.inl v1), some (.inr (73, f2)), some (.inl 0), some (.inl (jw (v4 + 1)))] [] s2
      else
        none
  else
    if v3 = 0 ∨ v3 = 1 then some (some (.inl v3), s1) else none := (jev_rg jcy_273 (fun q => Nat.beq q 22) 22 22 _ _ _).trans rfl
set_option maxRecDepth 100000 in
theorem bq_274 (s : jM) : jq 274 [.inr (11, 0)] s =
  je 274 5 [some (.inr (11, 0)), some (.inl (s 11 0 36)), none] [] s := (jev_rg jcy_274 (fun q => Nat.beq q 5) 4 0 _ _ _).trans rfl
set_option maxRecDepth 100000 in
theorem be_274_5 (v1 : Int) (o2 : Option jV) (s : jM) : je 274 5 [some (.inr (11, 0)), some (.inl v1), o2] [] s =
  jbI (jq 268 [.inr (11, 0)] s) fun x1 s1 =>
  jbI (jq 200 [.inl x1, .inl 97, .inl 122] s1) fun x2 s2 =>
  if x2 = 0 then
    jbI (jq 273 [.inr (11, 0), .inl v1, .inr (73, 0)] s2) fun x3 s3 =>
    if x3 = 0 then
      jbI (jq 273 [.inr (11, 0), .inl v1, .inr (73, 1)] s3) fun x4 s4 =>
      if x4 = 0 then
        jbI (jq 273 [.inr (11, 0), .inl v1, .inr (73, 2)] s4) fun x5 s5 =>
        if x5 = 0 then
          jbI (jq 273 [.inr (11, 0), .inl v1, .inr (73, 3)] s5) fun x6 s6 =>
          if x6 = 0 then
            some (some (.inl (-1)), (jup (jup s6 11 0 36 v1) 11 0 37 1))
          else
            some (some (.inl 3), s6)
        else
          some (some (.inl 2), s5)
      else
        some (some (.inl 1), s4)
    else
      some (some (.inl 0), s3)
  else
    je 274 5 [some (.inr (11, 0)), some (.inl v1), o2] [] (jup s2 11 0 36 (jw ((s2 11 0 36) + 1))) := (jev_rg jcy_274 (fun q => Nat.beq q 5) 38 5 _ _ _).trans rfl
set_option maxRecDepth 100000 in
theorem bq_275 (v1 : Int) (s : jM) : jq 275 [.inr (11, 0), .inl v1] s =
  if (s 11 0 37) = 0 then
    jbI (jq 268 [.inr (11, 0)] s) fun x1 s1 =>
    if x1 = v1 then
      jbI (jq 269 [.inr (11, 0)] (jup s1 11 0 36 (jw ((s1 11 0 36) + 1)))) fun x2 s2 =>
      if x2 = 0 then
        some (some (.inl 1), s2)
      else
        jbI (jq 268 [.inr (11, 0)] s2) fun x3 s3 =>
        jbI (jq 200 [.inl x3, .inl 50, .inl 53] s3) fun x4 s4 =>
        if x4 = 0 then
          jbI (jq 271 [.inr (11, 0)] (jup s4 11 0 37 1)) fun x5 s5 =>
          some (some (.inl x5), s5)
        else
          jbI (jq 271 [.inr (11, 0)] (jup s4 11 0 37 0)) fun x6 s6 =>
          some (some (.inl x6), s6)
    else
      some (some (.inl 0), s1)
  else
    some (some (.inl 0), s) := (jev_rg jcy_275 (fun q => false) 29 0 _ _ _).trans rfl
set_option maxRecDepth 100000 in
theorem bq_276 (s : jM) : jq 276 [.inr (11, 0)] s =
  jbI (jq 269 [.inr (11, 0)] s) fun x1 s1 =>
  if x1 = 0 then
    jbI (jq 275 [.inr (11, 0), .inl 120] (jup s1 11 0 42 1)) fun x2 s2 =>
    jbI (jq 275 [.inr (11, 0), .inl 121] (jup s2 11 0 43 x2)) fun x3 s3 =>
    jbI (jq 275 [.inr (11, 0), .inl 122] (jup s3 11 0 44 x3)) fun x4 s4 =>
    if (s4 11 0 37) = 0 then
      if (s4 11 0 36) = (s 11 0 36) then
        some (none, (jup (jup s4 11 0 45 x4) 11 0 37 1))
      else
        some (none, (jup (jup s4 11 0 45 x4) 11 0 37 0))
    else
      some (none, (jup (jup s4 11 0 45 x4) 11 0 37 1))
  else
    jbI (jq 272 [.inr (11, 0)] s1) fun x5 s5 =>
    jbI (jq 275 [.inr (11, 0), .inl 120] (jup s5 11 0 42 x5)) fun x6 s6 =>
    jbI (jq 275 [.inr (11, 0), .inl 121] (jup s6 11 0 43 x6)) fun x7 s7 =>
    jbI (jq 275 [.inr (11, 0), .inl 122] (jup s7 11 0 44 x7)) fun x8 s8 =>
    if (s8 11 0 37) = 0 then
      if (s8 11 0 36) = (s 11 0 36) then
        some (none, (jup (jup s8 11 0 45 x8) 11 0 37 1))
      else
        some (none, (jup (jup s8 11 0 45 x8) 11 0 37 0))
    else
      some (none, (jup (jup s8 11 0 45 x8) 11 0 37 1)) := (jev_rg jcy_276 (fun q => false) 38 0 _ _ _).trans rfl
set_option maxRecDepth 100000 in
theorem bq_277 (s : jM) : jq 277 [.inr (11, 0)] s =
  jbV (jq 276 [.inr (11, 0)] s) fun s1 =>
  je 277 4 [some (.inr (11, 0))] [] s1 := (jev_rg jcy_277 (fun q => Nat.beq q 4) 3 0 _ _ _).trans rfl
set_option maxRecDepth 100000 in
theorem be_277_4 (s : jM) : je 277 4 [some (.inr (11, 0))] [] s =
  if (s 11 0 37) = 0 then
    jbI (jq 268 [.inr (11, 0)] s) fun x1 s1 =>
    if x1 = 43 then
      jbV (jq 276 [.inr (11, 0)] (jup s1 11 0 36 (jw ((s1 11 0 36) + 1)))) fun s2 =>
      je 277 4 [some (.inr (11, 0))] [] s2
    else
      jbI (jq 268 [.inr (11, 0)] s1) fun x3 s3 =>
      if x3 = 45 then
        jbV (jq 276 [.inr (11, 0)] (jup s3 11 0 36 (jw ((s3 11 0 36) + 1)))) fun s4 =>
        je 277 4 [some (.inr (11, 0))] [] s4
      else
        some (none, s3)
  else
    some (none, s) := (jev_rg jcy_277 (fun q => Nat.beq q 4) 21 4 _ _ _).trans rfl
set_option maxRecDepth 100000 in
theorem bq_278 (s : jM) : jq 278 [.inr (11, 0)] s =
  jbI (jq 274 [.inr (11, 0)] s) fun x1 s1 =>
  if (s1 11 0 37) = 0 then
    if 0 ≤ (s1 11 0 38) ∧ (s1 11 0 38) < 20 then
      jbV (jq 270 [.inr (11, 0), .inl 32] (jup s1 55 0 (Int.toNat (s1 11 0 38)) x1)) fun s2 =>
      jbI (jq 271 [.inr (11, 0)] s2) fun x3 s3 =>
      if 0 ≤ (jw (4 * (s2 11 0 38))) ∧ (jw (4 * (s2 11 0 38))) < 80 then
        jbV (jq 270 [.inr (11, 0), .inl 32] (jup s3 56 0 (Int.toNat (jw (4 * (s2 11 0 38)))) x3)) fun s4 =>
        if x1 < 2 then
          jbV (jq 270 [.inr (11, 0), .inl 61] s4) fun s5 =>
          jbV (jq 270 [.inr (11, 0), .inl 32] s5) fun s6 =>
          if 0 ≤ (s6 11 0 38) ∧ (s6 11 0 38) < 20 then
            je 278 80 [some (.inr (11, 0)), some (.inl x1), none] [] (jup s6 57 0 (Int.toNat (s6 11 0 38)) (s6 11 0 36))
          else
            none
        else
          je 278 80 [some (.inr (11, 0)), some (.inl x1), none] [] s4
      else
        none
    else
      none
  else
    some (none, s1) := (jev_rg jcy_278 (fun q => Nat.beq q 80 || Nat.beq q 102 || Nat.beq q 160 || Nat.beq q 189) 44 0 _ _ _).trans rfl
set_option maxRecDepth 100000 in
theorem be_278_80 (v1 : Int) (o2 : Option jV) (s : jM) : je 278 80 [some (.inr (11, 0)), some (.inl v1), o2] [] s =
  if v1 = 0 then
    if (s 11 0 37) = 0 then
      jbV (jq 277 [.inr (11, 0)] s) fun s1 =>
      if v1 = 1 then
        je 278 102 [some (.inr (11, 0)), some (.inl v1), some (.inl 1)] [] s1
      else
        je 278 160 [some (.inr (11, 0)), some (.inl v1), o2] [] s1
    else
      if v1 = 1 then
        je 278 102 [some (.inr (11, 0)), some (.inl v1), some (.inl 1)] [] s
      else
        je 278 160 [some (.inr (11, 0)), some (.inl v1), o2] [] s
  else
    if v1 = 1 then
      je 278 102 [some (.inr (11, 0)), some (.inl v1), some (.inl 1)] [] s
    else
      je 278 160 [some (.inr (11, 0)), some (.inl v1), o2] [] s := (jev_rg jcy_278 (fun q => Nat.beq q 80 || Nat.beq q 102 || Nat.beq q 160 || Nat.beq q 189) 13 80 _ _ _).trans rfl
set_option maxRecDepth 100000 in
theorem be_278_102 (v1 : Int) (v2 : Int) (s : jM) : je 278 102 [some (.inr (11, 0)), some (.inl v1), some (.inl v2)] [] s =
  if v2 < 4 then
    if (s 11 0 37) = 0 then
      jbI (jq 272 [.inr (11, 0)] s) fun x1 s1 =>
      if 0 ≤ (jw ((jw (4 * (s 11 0 38))) + v2)) ∧ (jw ((jw (4 * (s 11 0 38))) + v2)) < 80 then
        if v2 < 3 then
          jbV (jq 270 [.inr (11, 0), .inl 32] (jup s1 56 0 (Int.toNat (jw ((jw (4 * (s 11 0 38))) + v2))) x1)) fun s2 =>
          jbV (jq 270 [.inr (11, 0), .inl 44] s2) fun s3 =>
          jbV (jq 270 [.inr (11, 0), .inl 32] s3) fun s4 =>
          je 278 102 [some (.inr (11, 0)), some (.inl v1), some (.inl (jw (v2 + 1)))] [] s4
        else
          je 278 102 [some (.inr (11, 0)), some (.inl v1), some (.inl (jw (v2 + 1)))] [] (jup s1 56 0 (Int.toNat (jw ((jw (4 * (s 11 0 38))) + v2))) x1)
      else
        none
    else
      je 278 160 [some (.inr (11, 0)), some (.inl v1), some (.inl v2)] [] s
  else
    je 278 160 [some (.inr (11, 0)), some (.inl v1), some (.inl v2)] [] s := (jev_rg jcy_278 (fun q => Nat.beq q 80 || Nat.beq q 102 || Nat.beq q 160 || Nat.beq q 189) 32 102 _ _ _).trans rfl
set_option maxRecDepth 100000 in
theorem be_278_160 (v1 : Int) (o2 : Option jV) (s : jM) : je 278 160 [some (.inr (11, 0)), some (.inl v1), o2] [] s =
  if 1 < v1 then
    if (s 11 0 37) = 0 then
      jbI (jq 271 [.inr (11, 0)] s) fun x1 s1 =>
      if 0 ≤ (jw ((jw (4 * (s 11 0 38))) + 1)) ∧ (jw ((jw (4 * (s 11 0 38))) + 1)) < 80 then
        je 278 189 [some (.inr (11, 0)), some (.inl v1), o2] [] (jup s1 56 0 (Int.toNat (jw ((jw (4 * (s 11 0 38))) + 1))) x1)
      else
        none
    else
      je 278 189 [some (.inr (11, 0)), some (.inl v1), o2] [] s
  else
    je 278 189 [some (.inr (11, 0)), some (.inl v1), o2] [] s := (jev_rg jcy_278 (fun q => Nat.beq q 80 || Nat.beq q 102 || Nat.beq q 160 || Nat.beq q 189) 18 160 _ _ _).trans rfl
set_option maxRecDepth 100000 in
theorem be_278_189 (v1 : Int) (o2 : Option jV) (s : jM) : je 278 189 [some (.inr (11, 0)), some (.inl v1), o2] [] s =
  if v1 = 2 then
    jbV (jq 270 [.inr (11, 0), .inl 32] s) fun s1 =>
    jbI (jq 272 [.inr (11, 0)] s1) fun x2 s2 =>
    if 0 ≤ (jw ((jw (4 * (s1 11 0 38))) + 2)) ∧ (jw ((jw (4 * (s1 11 0 38))) + 2)) < 80 then
      some (none, (jup (jup s2 56 0 (Int.toNat (jw ((jw (4 * (s1 11 0 38))) + 2))) x2) 11 0 38 (jw ((s2 11 0 38) + 1))))
    else
      none
  else
    some (none, (jup s 11 0 38 (jw ((s 11 0 38) + 1)))) := (jev_rg jcy_278 (fun q => Nat.beq q 80 || Nat.beq q 102 || Nat.beq q 160 || Nat.beq q 189) 24 189 _ _ _).trans rfl
set_option maxRecDepth 100000 in
theorem bq_279 (s : jM) : jq 279 [.inr (11, 0)] s =
  jbV (jq 278 [.inr (11, 0)] (jup (jup (jup s 11 0 36 0) 11 0 38 0) 11 0 37 0)) fun s1 =>
  je 279 19 [some (.inr (11, 0))] [] s1 := (jev_rg jcy_279 (fun q => Nat.beq q 19) 12 0 _ _ _).trans rfl
set_option maxRecDepth 100000 in
theorem be_279_19 (s : jM) : je 279 19 [some (.inr (11, 0))] [] s =
  if (s 11 0 37) = 0 then
    if (s 11 0 36) < (s 11 0 8) then
      jbV (jq 270 [.inr (11, 0), .inl 59] s) fun s1 =>
      if (s1 11 0 37) = 0 then
        jbV (jq 278 [.inr (11, 0)] s1) fun s2 =>
        je 279 19 [some (.inr (11, 0))] [] s2
      else
        je 279 19 [some (.inr (11, 0))] [] s1
    else
      if (s 11 0 37) = 0 then
        some (some (.inl 1), s)
      else
        some (some (.inl 0), s)
  else
    if (s 11 0 37) = 0 then
      some (some (.inl 1), s)
    else
      some (some (.inl 0), s) := (jev_rg jcy_279 (fun q => Nat.beq q 19) 18 19 _ _ _).trans rfl
set_option maxRecDepth 100000 in
theorem bq_280 (v1 : Int) (v2 : Int) (s : jM) : jq 280 [.inr (11, 0), .inl v1, .inl v2] s =
  je 280 13 [some (.inr (11, 0)), some (.inl v1), some (.inl v2), some (.inl (-1)), some (.inl 1), some (.inl 0), none, none] [] (jup s 11 0 36 v1) := (jev_rg jcy_280 (fun q => Nat.beq q 13 || Nat.beq q 69 || Nat.beq q 144 || Nat.beq q 148) 10 0 _ _ _).trans rfl
set_option maxRecDepth 100000 in
theorem be_280_13 (v1 : Int) (v2 : Int) (v3 : Int) (v4 : Int) (v5 : Int) (o6 : Option jV) (o7 : Option jV) (s : jM) : je 280 13 [some (.inr (11, 0)), some (.inl v1), some (.inl v2), some (.inl v3), some (.inl v4), some (.inl v5), o6, o7] [] s =
  if v4 = 0 then
    some (some (.inl 1), s)
  else
    jbV (jq 276 [.inr (11, 0)] s) fun s1 =>
    if v3 < 0 then
      if 5 < (jw ((jw ((s1 11 0 43) + (s1 11 0 44))) + (s1 11 0 45))) then
        some (some (.inl 0), s1)
      else
        if v3 < 0 then
          jbV (jq 214 [.inr (11, 0), .inl (jw ((jw ((s1 11 0 43) + (s1 11 0 44))) + (s1 11 0 45)))] s1) fun s2 =>
          je 280 69 [some (.inr (11, 0)), some (.inl v1), some (.inl v2), some (.inl (jw ((jw ((s1 11 0 43) + (s1 11 0 44))) + (s1 11 0 45)))), some (.inl v4), some (.inl v5), some (.inl (jw ((jw ((s1 11 0 43) + (s1 11 0 44))) + (s1 11 0 45)))), o7] [] s2
        else
          je 280 69 [some (.inr (11, 0)), some (.inl v1), some (.inl v2), some (.inl v3), some (.inl v4), some (.inl v5), some (.inl (jw ((jw ((s1 11 0 43) + (s1 11 0 44))) + (s1 11 0 45)))), o7] [] s1
    else
      if (jw ((jw ((s1 11 0 43) + (s1 11 0 44))) + (s1 11 0 45))) = v3 then
        if 5 < (jw ((jw ((s1 11 0 43) + (s1 11 0 44))) + (s1 11 0 45))) then
          some (some (.inl 0), s1)
        else
          if v3 < 0 then
            jbV (jq 214 [.inr (11, 0), .inl (jw ((jw ((s1 11 0 43) + (s1 11 0 44))) + (s1 11 0 45)))] s1) fun s3 =>
            je 280 69 [some (.inr (11, 0)), some (.inl v1), some (.inl v2), some (.inl (jw ((jw ((s1 11 0 43) + (s1 11 0 44))) + (s1 11 0 45)))), some (.inl v4), some (.inl v5), some (.inl (jw ((jw ((s1 11 0 43) + (s1 11 0 44))) + (s1 11 0 45)))), o7] [] s3
          else
            je 280 69 [some (.inr (11, 0)), some (.inl v1), some (.inl v2), some (.inl v3), some (.inl v4), some (.inl v5), some (.inl (jw ((jw ((s1 11 0 43) + (s1 11 0 44))) + (s1 11 0 45)))), o7] [] s1
      else
        some (some (.inl 0), s1) := (jev_rg jcy_280 (fun q => Nat.beq q 13 || Nat.beq q 69 || Nat.beq q 144 || Nat.beq q 148) 29 13 _ _ _).trans rfl
set_option maxRecDepth 100000 in
theorem be_280_69 (v1 : Int) (v2 : Int) (v3 : Int) (v4 : Int) (v5 : Int) (v6 : Int) (o7 : Option jV) (s : jM) : je 280 69 [some (.inr (11, 0)), some (.inl v1), some (.inl v2), some (.inl v3), some (.inl v4), some (.inl v5), some (.inl v6), o7] [] s =
  jbI (jq 204 [.inl v3, .inl (s 11 0 43), .inl (s 11 0 44)] s) fun x1 s1 =>
  if 0 ≤ x1 ∧ x1 < 21 then
    if v5 = 0 then
      jbI (jq 209 [.inl (jw ((s1 47 0 (Int.toNat x1)) + (s1 11 0 42)))] s1) fun x2 s2 =>
      if 0 ≤ x1 ∧ x1 < 21 then
        if (s2 11 0 36) < v2 then
          jbI (jq 268 [.inr (11, 0)] (jup s2 47 0 (Int.toNat x1) x2)) fun x3 s3 =>
          if x3 = 43 then
            je 280 144 [some (.inr (11, 0)), some (.inl v1), some (.inl v2), some (.inl v3), some (.inl v4), some (.inl v5), some (.inl v6), some (.inl x1)] [] s3
          else
            jbI (jq 268 [.inr (11, 0)] s3) fun x4 s4 =>
            if x4 = 45 then
              je 280 144 [some (.inr (11, 0)), some (.inl v1), some (.inl v2), some (.inl v3), some (.inl v4), some (.inl v5), some (.inl v6), some (.inl x1)] [] s4
            else
              je 280 148 [some (.inr (11, 0)), some (.inl v1), some (.inl v2), some (.inl v3), some (.inl v4), some (.inl v5), some (.inl v6), some (.inl x1)] [] s4
        else
          je 280 148 [some (.inr (11, 0)), some (.inl v1), some (.inl v2), some (.inl v3), some (.inl v4), some (.inl v5), some (.inl v6), some (.inl x1)] [] (jup s2 47 0 (Int.toNat x1) x2)
      else
        none
    else
      jbI (jq 209 [.inl (jw ((s1 47 0 (Int.toNat x1)) + (jw (-(s1 11 0 42)))))] s1) fun x5 s5 =>
      if 0 ≤ x1 ∧ x1 < 21 then
        if (s5 11 0 36) < v2 then
          jbI (jq 268 [.inr (11, 0)] (jup s5 47 0 (Int.toNat x1) x5)) fun x6 s6 =>
          if x6 = 43 then
            je 280 144 [some (.inr (11, 0)), some (.inl v1), some (.inl v2), some (.inl v3), some (.inl v4), some (.inl v5), some (.inl v6), some (.inl x1)] [] s6
          else
            jbI (jq 268 [.inr (11, 0)] s6) fun x7 s7 =>
            if x7 = 45 then
              je 280 144 [some (.inr (11, 0)), some (.inl v1), some (.inl v2), some (.inl v3), some (.inl v4), some (.inl v5), some (.inl v6), some (.inl x1)] [] s7
            else
              je 280 148 [some (.inr (11, 0)), some (.inl v1), some (.inl v2), some (.inl v3), some (.inl v4), some (.inl v5), some (.inl v6), some (.inl x1)] [] s7
        else
          je 280 148 [some (.inr (11, 0)), some (.inl v1), some (.inl v2), some (.inl v3), some (.inl v4), some (.inl v5), some (.inl v6), some (.inl x1)] [] (jup s5 47 0 (Int.toNat x1) x5)
      else
        none
  else
    none := (jev_rg jcy_280 (fun q => Nat.beq q 13 || Nat.beq q 69 || Nat.beq q 144 || Nat.beq q 148) 36 69 _ _ _).trans rfl
set_option maxRecDepth 100000 in
theorem be_280_144 (v1 : Int) (v2 : Int) (v3 : Int) (v4 : Int) (v5 : Int) (v6 : Int) (v7 : Int) (s : jM) : je 280 144 [some (.inr (11, 0)), some (.inl v1), some (.inl v2), some (.inl v3), some (.inl v4), some (.inl v5), some (.inl v6), some (.inl v7)] [] s =
  jbI (jq 268 [.inr (11, 0)] s) fun x1 s1 =>
  if x1 = 45 then
    je 280 13 [some (.inr (11, 0)), some (.inl v1), some (.inl v2), some (.inl v3), some (.inl 1), some (.inl 1), some (.inl v6), some (.inl v7)] [] (jup s1 11 0 36 (jw ((s1 11 0 36) + 1)))
  else
    je 280 13 [some (.inr (11, 0)), some (.inl v1), some (.inl v2), some (.inl v3), some (.inl 1), some (.inl 0), some (.inl v6), some (.inl v7)] [] (jup s1 11 0 36 (jw ((s1 11 0 36) + 1))) := (jev_rg jcy_280 (fun q => Nat.beq q 13 || Nat.beq q 69 || Nat.beq q 144 || Nat.beq q 148) 21 144 _ _ _).trans rfl
set_option maxRecDepth 100000 in
theorem be_280_148 (v1 : Int) (v2 : Int) (v3 : Int) (v4 : Int) (v5 : Int) (v6 : Int) (v7 : Int) (s : jM) : je 280 148 [some (.inr (11, 0)), some (.inl v1), some (.inl v2), some (.inl v3), some (.inl v4), some (.inl v5), some (.inl v6), some (.inl v7)] [] s =
  jbI (jq 268 [.inr (11, 0)] s) fun x1 s1 =>
  if x1 = 45 then
    je 280 13 [some (.inr (11, 0)), some (.inl v1), some (.inl v2), some (.inl v3), some (.inl 0), some (.inl 1), some (.inl v6), some (.inl v7)] [] (jup s1 11 0 36 (jw ((s1 11 0 36) + 0)))
  else
    je 280 13 [some (.inr (11, 0)), some (.inl v1), some (.inl v2), some (.inl v3), some (.inl 0), some (.inl 0), some (.inl v6), some (.inl v7)] [] (jup s1 11 0 36 (jw ((s1 11 0 36) + 0))) := (jev_rg jcy_280 (fun q => Nat.beq q 13 || Nat.beq q 69 || Nat.beq q 144 || Nat.beq q 148) 19 148 _ _ _).trans rfl
set_option maxRecDepth 100000 in
theorem bq_281 (v1 : Int) (s : jM) : jq 281 [.inr (11, 0), .inl v1] s =
  if 0 ≤ (jw (4 * v1)) ∧ (jw (4 * v1)) < 80 then
    if 0 ≤ (jw ((jw (4 * v1)) + 1)) ∧ (jw ((jw (4 * v1)) + 1)) < 80 then
      if 0 ≤ (jw ((jw (4 * v1)) + 2)) ∧ (jw ((jw (4 * v1)) + 2)) < 80 then
        if 0 ≤ (jw ((jw (4 * v1)) + 3)) ∧ (jw ((jw (4 * v1)) + 3)) < 80 then
          if 0 ≤ v1 ∧ v1 < 20 then
            if (s 55 0 (Int.toNat v1)) = 0 then
              jbI (jq 201 [.inl (s 56 0 (Int.toNat (jw (4 * v1))))] s) fun x1 s1 =>
              if x1 = 0 then
                some (some (.inl 0), s1)
              else
                if 0 ≤ v1 ∧ v1 < 20 then
                  jbI (jq 280 [.inr (11, 0), .inl (s1 57 0 (Int.toNat v1)), .inl (s1 11 0 8)] s1) fun x2 s2 =>
                  if x2 = 0 then
                    some (some (.inl 0), s2)
                  else
                    jbV (jq 215 [.inr (11, 0), .inl (s 56 0 (Int.toNat (jw (4 * v1))))] s2) fun s3 =>
                    some (some (.inl 1), s3)
                else
                  none
            else
            if (s 55 0 (Int.toNat v1)) = 1 then
              jbI (jq 202 [.inl (s 56 0 (Int.toNat (jw (4 * v1))))] s) fun x4 s4 =>
              if x4 = 0 then
                je 281 151 [some (.inr (11, 0)), some (.inl v1), some (.inl (s 56 0 (Int.toNat (jw (4 * v1))))), some (.inl (s 56 0 (Int.toNat (jw ((jw (4 * v1)) + 1))))), some (.inl (s 56 0 (Int.toNat (jw ((jw (4 * v1)) + 2))))), some (.inl (s 56 0 (Int.toNat (jw ((jw (4 * v1)) + 3))))), none] [] s4
              else
                if 100 < (s 56 0 (Int.toNat (jw ((jw (4 * v1)) + 1)))) then
                  je 281 151 [some (.inr (11, 0)), some (.inl v1), some (.inl (s 56 0 (Int.toNat (jw (4 * v1))))), some (.inl (s 56 0 (Int.toNat (jw ((jw (4 * v1)) + 1))))), some (.inl (s 56 0 (Int.toNat (jw ((jw (4 * v1)) + 2))))), some (.inl (s 56 0 (Int.toNat (jw ((jw (4 * v1)) + 3))))), none] [] s4
                else
                  if 100 < (s 56 0 (Int.toNat (jw ((jw (4 * v1)) + 2)))) then
                    je 281 151 [some (.inr (11, 0)), some (.inl v1), some (.inl (s 56 0 (Int.toNat (jw (4 * v1))))), some (.inl (s 56 0 (Int.toNat (jw ((jw (4 * v1)) + 1))))), some (.inl (s 56 0 (Int.toNat (jw ((jw (4 * v1)) + 2))))), some (.inl (s 56 0 (Int.toNat (jw ((jw (4 * v1)) + 3))))), none] [] s4
                  else
                    if 100 < (s 56 0 (Int.toNat (jw ((jw (4 * v1)) + 3)))) then
                      je 281 151 [some (.inr (11, 0)), some (.inl v1), some (.inl (s 56 0 (Int.toNat (jw (4 * v1))))), some (.inl (s 56 0 (Int.toNat (jw ((jw (4 * v1)) + 1))))), some (.inl (s 56 0 (Int.toNat (jw ((jw (4 * v1)) + 2))))), some (.inl (s 56 0 (Int.toNat (jw ((jw (4 * v1)) + 3))))), none] [] s4
                    else
                      if 0 ≤ (jw (3 * (s 56 0 (Int.toNat (jw (4 * v1)))))) ∧ (jw (3 * (s 56 0 (Int.toNat (jw (4 * v1)))))) < 18 then
                        if 0 ≤ (jw ((jw (3 * (s 56 0 (Int.toNat (jw (4 * v1)))))) + 1)) ∧ (jw ((jw (3 * (s 56 0 (Int.toNat (jw (4 * v1)))))) + 1)) < 18 then
                          if 0 ≤ (jw ((jw (3 * (s 56 0 (Int.toNat (jw (4 * v1)))))) + 2)) ∧ (jw ((jw (3 * (s 56 0 (Int.toNat (jw (4 * v1)))))) + 2)) < 18 then
                            some (some (.inl 1), (jup (jup (jup s4 31 0 (Int.toNat (jw (3 * (s 56 0 (Int.toNat (jw (4 * v1))))))) (s 56 0 (Int.toNat (jw ((jw (4 * v1)) + 1))))) 31 0 (Int.toNat (jw ((jw (3 * (s 56 0 (Int.toNat (jw (4 * v1)))))) + 1))) (s 56 0 (Int.toNat (jw ((jw (4 * v1)) + 2))))) 31 0 (Int.toNat (jw ((jw (3 * (s 56 0 (Int.toNat (jw (4 * v1)))))) + 2))) (s 56 0 (Int.toNat (jw ((jw (4 * v1)) + 3))))))
                          else
                            none
                        else
                          none
                      else
                        none
            else
            if (s 55 0 (Int.toNat v1)) = 2 then
              jbI (jq 201 [.inl (s 56 0 (Int.toNat (jw (4 * v1))))] s) fun x5 s5 =>
              if x5 = 0 then
                some (some (.inl 0), s5)
              else
                jbI (jq 202 [.inl (s 56 0 (Int.toNat (jw ((jw (4 * v1)) + 1))))] s5) fun x6 s6 =>
                if x6 = 0 then
                  some (some (.inl 0), s6)
                else
                  if 100 < (s 56 0 (Int.toNat (jw ((jw (4 * v1)) + 2)))) then
                    some (some (.inl 0), s6)
                  else
                    jbV (jq 230 [.inr (11, 0), .inl (s 56 0 (Int.toNat (jw (4 * v1)))), .inl (s 56 0 (Int.toNat (jw ((jw (4 * v1)) + 1)))), .inl (s 56 0 (Int.toNat (jw ((jw (4 * v1)) + 2))))] s6) fun s7 =>
                    some (some (.inl 1), s7)
            else
              jbI (jq 201 [.inl (s 56 0 (Int.toNat (jw (4 * v1))))] s) fun x8 s8 =>
              if x8 = 0 then
                some (some (.inl 0), s8)
              else
                if 5 < (s 56 0 (Int.toNat (jw ((jw (4 * v1)) + 1)))) then
                  some (some (.inl 0), s8)
                else
                  jbV (jq 214 [.inr (11, 0), .inl (s 56 0 (Int.toNat (jw ((jw (4 * v1)) + 1))))] s8) fun s9 =>
                  jbV (jq 215 [.inr (11, 0), .inl (s 56 0 (Int.toNat (jw (4 * v1))))] s9) fun s10 =>
                  some (some (.inl 1), s10)
          else
            none
        else
          none
      else
        none
    else
      none
  else
    none := (jev_rg jcy_281 (fun q => Nat.beq q 151) 83 0 _ _ _).trans rfl
set_option maxRecDepth 100000 in
theorem be_281_151 (v1 : Int) (v2 : Int) (v3 : Int) (v4 : Int) (v5 : Int) (o6 : Option jV) (s : jM) : je 281 151 [some (.inr (11, 0)), some (.inl v1), some (.inl v2), some (.inl v3), some (.inl v4), some (.inl v5), o6] [] s =
  some (some (.inl 0), s) := (jev_rg jcy_281 (fun q => Nat.beq q 151) 6 151 _ _ _).trans rfl
set_option maxRecDepth 100000 in
theorem bq_282 (s : jM) : jq 282 [.inr (11, 0)] s =
  jbI (jq 279 [.inr (11, 0)] s) fun x1 s1 =>
  if x1 = 0 then
    some (some (.inl (jw ((-100) - (s1 11 0 36)))), (jup s1 11 0 8 0))
  else
    je 282 31 [some (.inr (11, 0)), some (.inl x1), some (.inl 0), some (.inl 1)] [] (jup s1 11 0 37 0) := (jev_rg jcy_282 (fun q => Nat.beq q 31 || Nat.beq q 67) 13 0 _ _ _).trans rfl
set_option maxRecDepth 100000 in
theorem be_282_31 (v1 : Int) (v2 : Int) (v3 : Int) (s : jM) : je 282 31 [some (.inr (11, 0)), some (.inl v1), some (.inl v2), some (.inl v3)] [] s =
  if v3 = 0 then
    je 282 67 [some (.inr (11, 0)), some (.inl v1), some (.inl v2), some (.inl v3)] [] s
  else
    if v2 < (s 11 0 38) then
      jbV (jq 211 [.inr (11, 0)] s) fun s1 =>
      jbI (jq 281 [.inr (11, 0), .inl v2] s1) fun x2 s2 =>
      if x2 = 0 then
        je 282 31 [some (.inr (11, 0)), some (.inl v1), some (.inl v2), some (.inl x2)] [] s2
      else
        jbV (jq 213 [.inr (11, 0)] s2) fun s3 =>
        je 282 31 [some (.inr (11, 0)), some (.inl v1), some (.inl (jw (v2 + 1))), some (.inl x2)] [] s3
    else
      je 282 67 [some (.inr (11, 0)), some (.inl v1), some (.inl v2), some (.inl v3)] [] s := (jev_rg jcy_282 (fun q => Nat.beq q 31 || Nat.beq q 67) 19 31 _ _ _).trans rfl
set_option maxRecDepth 100000 in
theorem be_282_67 (v1 : Int) (v2 : Int) (v3 : Int) (s : jM) : je 282 67 [some (.inr (11, 0)), some (.inl v1), some (.inl v2), some (.inl v3)] [] s =
  if v2 < (s 11 0 38) then
    some (some (.inl (jw ((-200) - v2))), (jup s 11 0 8 0))
  else
    some (some (.inl (s 11 0 38)), (jup s 11 0 8 0)) := (jev_rg jcy_282 (fun q => Nat.beq q 31 || Nat.beq q 67) 12 67 _ _ _).trans rfl
set_option maxRecDepth 100000 in
theorem bq_283 (s : jM) : jq 283 [.inr (11, 0)] s =
  some (some (.inl (jw ((jw ((jw ((s 29 0 (Int.toNat 0)) + (s 29 0 (Int.toNat 1)))) + (s 29 0 (Int.toNat 2)))) + (s 29 0 (Int.toNat 3))))), s) := (jev_rg jcy_283 (fun q => false) 20 0 _ _ _).trans rfl
set_option maxRecDepth 100000 in
theorem bq_284 (s : jM) : jq 284 [.inr (11, 0)] s =
  je 284 7 [some (.inr (11, 0)), some (.inl 0)] [] (jup s 11 0 14 1) := (jev_rg jcy_284 (fun q => Nat.beq q 7 || Nat.beq q 32 || Nat.beq q 58 || Nat.beq q 84 || Nat.beq q 122) 6 0 _ _ _).trans rfl
set_option maxRecDepth 100000 in
theorem be_284_7 (v1 : Int) (s : jM) : je 284 7 [some (.inr (11, 0)), some (.inl v1)] [] s =
  if v1 < 4 then
    if 0 ≤ v1 ∧ v1 < 4 then
      if 0 ≤ v1 ∧ v1 < 4 then
        je 284 7 [some (.inr (11, 0)), some (.inl (jw (v1 + 1)))] [] (jup s 41 0 (Int.toNat v1) (s 29 0 (Int.toNat v1)))
      else
        none
    else
      none
  else
    je 284 32 [some (.inr (11, 0)), some (.inl 0)] [] s := (jev_rg jcy_284 (fun q => Nat.beq q 7 || Nat.beq q 32 || Nat.beq q 58 || Nat.beq q 84 || Nat.beq q 122) 14 7 _ _ _).trans rfl
set_option maxRecDepth 100000 in
theorem be_284_32 (v1 : Int) (s : jM) : je 284 32 [some (.inr (11, 0)), some (.inl v1)] [] s =
  if v1 < 84 then
    if 0 ≤ v1 ∧ v1 < 84 then
      if 0 ≤ v1 ∧ v1 < 84 then
        je 284 32 [some (.inr (11, 0)), some (.inl (jw (v1 + 1)))] [] (jup s 42 0 (Int.toNat v1) (s 30 0 (Int.toNat v1)))
      else
        none
    else
      none
  else
    je 284 58 [some (.inr (11, 0)), some (.inl 0)] [] s := (jev_rg jcy_284 (fun q => Nat.beq q 7 || Nat.beq q 32 || Nat.beq q 58 || Nat.beq q 84 || Nat.beq q 122) 14 32 _ _ _).trans rfl
set_option maxRecDepth 100000 in
theorem be_284_58 (v1 : Int) (s : jM) : je 284 58 [some (.inr (11, 0)), some (.inl v1)] [] s =
  if v1 < 18 then
    if 0 ≤ v1 ∧ v1 < 18 then
      if 0 ≤ v1 ∧ v1 < 18 then
        je 284 58 [some (.inr (11, 0)), some (.inl (jw (v1 + 1)))] [] (jup s 43 0 (Int.toNat v1) (s 31 0 (Int.toNat v1)))
      else
        none
    else
      none
  else
    je 284 84 [some (.inr (11, 0)), some (.inl 0)] [] s := (jev_rg jcy_284 (fun q => Nat.beq q 7 || Nat.beq q 32 || Nat.beq q 58 || Nat.beq q 84 || Nat.beq q 122) 14 58 _ _ _).trans rfl
set_option maxRecDepth 100000 in
theorem be_284_84 (v1 : Int) (s : jM) : je 284 84 [some (.inr (11, 0)), some (.inl v1)] [] s =
  if v1 < 12 then
    if 0 ≤ v1 ∧ v1 < 12 then
      if 0 ≤ v1 ∧ v1 < 12 then
        if 0 ≤ v1 ∧ v1 < 12 then
          if 0 ≤ v1 ∧ v1 < 12 then
            je 284 84 [some (.inr (11, 0)), some (.inl (jw (v1 + 1)))] [] (jup (jup s 44 0 (Int.toNat v1) (s 32 0 (Int.toNat v1))) 45 0 (Int.toNat v1) (s 33 0 (Int.toNat v1)))
          else
            none
        else
          none
      else
        none
    else
      none
  else
    je 284 122 [some (.inr (11, 0)), some (.inl 0)] [] s := (jev_rg jcy_284 (fun q => Nat.beq q 7 || Nat.beq q 32 || Nat.beq q 58 || Nat.beq q 84 || Nat.beq q 122) 22 84 _ _ _).trans rfl
set_option maxRecDepth 100000 in
theorem be_284_122 (v1 : Int) (s : jM) : je 284 122 [some (.inr (11, 0)), some (.inl v1)] [] s =
  if v1 < 252 then
    if 0 ≤ v1 ∧ v1 < 252 then
      if 0 ≤ v1 ∧ v1 < 252 then
        je 284 122 [some (.inr (11, 0)), some (.inl (jw (v1 + 1)))] [] (jup s 46 0 (Int.toNat v1) (s 34 0 (Int.toNat v1)))
      else
        none
    else
      none
  else
    jbI (jq 283 [.inr (11, 0)] s) fun x1 s1 =>
    some (some (.inl x1), s1) := (jev_rg jcy_284 (fun q => Nat.beq q 7 || Nat.beq q 32 || Nat.beq q 58 || Nat.beq q 84 || Nat.beq q 122) 14 122 _ _ _).trans rfl
set_option maxRecDepth 100000 in
theorem bq_285 (s : jM) : jq 285 [.inr (11, 0)] s =
  if (s 11 0 14) = 0 then
    some (some (.inl (-5)), s)
  else
    je 285 12 [some (.inr (11, 0)), some (.inl 0)] [] s := (jev_rg jcy_285 (fun q => Nat.beq q 12 || Nat.beq q 37 || Nat.beq q 63 || Nat.beq q 89 || Nat.beq q 127) 6 0 _ _ _).trans rfl
set_option maxRecDepth 100000 in
theorem be_285_12 (v1 : Int) (s : jM) : je 285 12 [some (.inr (11, 0)), some (.inl v1)] [] s =
  if v1 < 4 then
    if 0 ≤ v1 ∧ v1 < 4 then
      if 0 ≤ v1 ∧ v1 < 4 then
        je 285 12 [some (.inr (11, 0)), some (.inl (jw (v1 + 1)))] [] (jup s 29 0 (Int.toNat v1) (s 41 0 (Int.toNat v1)))
      else
        none
    else
      none
  else
    je 285 37 [some (.inr (11, 0)), some (.inl 0)] [] s := (jev_rg jcy_285 (fun q => Nat.beq q 12 || Nat.beq q 37 || Nat.beq q 63 || Nat.beq q 89 || Nat.beq q 127) 14 12 _ _ _).trans rfl
set_option maxRecDepth 100000 in
theorem be_285_37 (v1 : Int) (s : jM) : je 285 37 [some (.inr (11, 0)), some (.inl v1)] [] s =
  if v1 < 84 then
    if 0 ≤ v1 ∧ v1 < 84 then
      if 0 ≤ v1 ∧ v1 < 84 then
        je 285 37 [some (.inr (11, 0)), some (.inl (jw (v1 + 1)))] [] (jup s 30 0 (Int.toNat v1) (s 42 0 (Int.toNat v1)))
      else
        none
    else
      none
  else
    je 285 63 [some (.inr (11, 0)), some (.inl 0)] [] s := (jev_rg jcy_285 (fun q => Nat.beq q 12 || Nat.beq q 37 || Nat.beq q 63 || Nat.beq q 89 || Nat.beq q 127) 14 37 _ _ _).trans rfl
set_option maxRecDepth 100000 in
theorem be_285_63 (v1 : Int) (s : jM) : je 285 63 [some (.inr (11, 0)), some (.inl v1)] [] s =
  if v1 < 18 then
    if 0 ≤ v1 ∧ v1 < 18 then
      if 0 ≤ v1 ∧ v1 < 18 then
        je 285 63 [some (.inr (11, 0)), some (.inl (jw (v1 + 1)))] [] (jup s 31 0 (Int.toNat v1) (s 43 0 (Int.toNat v1)))
      else
        none
    else
      none
  else
    je 285 89 [some (.inr (11, 0)), some (.inl 0)] [] s := (jev_rg jcy_285 (fun q => Nat.beq q 12 || Nat.beq q 37 || Nat.beq q 63 || Nat.beq q 89 || Nat.beq q 127) 14 63 _ _ _).trans rfl
set_option maxRecDepth 100000 in
theorem be_285_89 (v1 : Int) (s : jM) : je 285 89 [some (.inr (11, 0)), some (.inl v1)] [] s =
  if v1 < 12 then
    if 0 ≤ v1 ∧ v1 < 12 then
      if 0 ≤ v1 ∧ v1 < 12 then
        if 0 ≤ v1 ∧ v1 < 12 then
          if 0 ≤ v1 ∧ v1 < 12 then
            je 285 89 [some (.inr (11, 0)), some (.inl (jw (v1 + 1)))] [] (jup (jup s 32 0 (Int.toNat v1) (s 44 0 (Int.toNat v1))) 33 0 (Int.toNat v1) (s 45 0 (Int.toNat v1)))
          else
            none
        else
          none
      else
        none
    else
      none
  else
    je 285 127 [some (.inr (11, 0)), some (.inl 0)] [] s := (jev_rg jcy_285 (fun q => Nat.beq q 12 || Nat.beq q 37 || Nat.beq q 63 || Nat.beq q 89 || Nat.beq q 127) 22 89 _ _ _).trans rfl
set_option maxRecDepth 100000 in
theorem be_285_127 (v1 : Int) (s : jM) : je 285 127 [some (.inr (11, 0)), some (.inl v1)] [] s =
  if v1 < 252 then
    if 0 ≤ v1 ∧ v1 < 252 then
      if 0 ≤ v1 ∧ v1 < 252 then
        je 285 127 [some (.inr (11, 0)), some (.inl (jw (v1 + 1)))] [] (jup s 34 0 (Int.toNat v1) (s 46 0 (Int.toNat v1)))
      else
        none
    else
      none
  else
    jbI (jq 283 [.inr (11, 0)] (jup s 11 0 10 0)) fun x1 s1 =>
    some (some (.inl x1), s1) := (jev_rg jcy_285 (fun q => Nat.beq q 12 || Nat.beq q 37 || Nat.beq q 63 || Nat.beq q 89 || Nat.beq q 127) 14 127 _ _ _).trans rfl
set_option maxRecDepth 100000 in
theorem bq_286 (v1 : Int) (s : jM) : jq 286 [.inr (11, 0), .inl v1] s =
  je 286 4 [some (.inr (11, 0)), some (.inl v1), some (.inl 0), some (.inl 0), none, none] [] s := (jev_rg jcy_286 (fun q => Nat.beq q 4 || Nat.beq q 38 || Nat.beq q 105) 5 0 _ _ _).trans rfl
set_option maxRecDepth 100000 in
theorem be_286_4 (v1 : Int) (v2 : Int) (v3 : Int) (o4 : Option jV) (o5 : Option jV) (s : jM) : je 286 4 [some (.inr (11, 0)), some (.inl v1), some (.inl v2), some (.inl v3), o4, o5] [] s =
  if v3 < 12 then
    if 0 ≤ v3 ∧ v3 < 12 then
      if (s 32 0 (Int.toNat v3)) < 0 then
        je 286 4 [some (.inr (11, 0)), some (.inl v1), some (.inl (jw (v2 + 0))), some (.inl (jw (v3 + 1))), o4, o5] [] s
      else
        je 286 4 [some (.inr (11, 0)), some (.inl v1), some (.inl (jw (v2 + 1))), some (.inl (jw (v3 + 1))), o4, o5] [] s
    else
      none
  else
    je 286 38 [some (.inr (11, 0)), some (.inl v1), some (.inl v2), some (.inl 0), some (.inl 0), o5] [] s := (jev_rg jcy_286 (fun q => Nat.beq q 4 || Nat.beq q 38 || Nat.beq q 105) 16 4 _ _ _).trans rfl
set_option maxRecDepth 100000 in
theorem be_286_38 (v1 : Int) (v2 : Int) (v3 : Int) (v4 : Int) (o5 : Option jV) (s : jM) : je 286 38 [some (.inr (11, 0)), some (.inl v1), some (.inl v2), some (.inl v3), some (.inl v4), o5] [] s =
  if v4 < 6 then
    if 0 ≤ (jw (3 * v4)) ∧ (jw (3 * v4)) < 18 then
      if (s 31 0 (Int.toNat (jw (3 * v4)))) = 0 then
        if 0 ≤ (jw ((jw (3 * v4)) + 1)) ∧ (jw ((jw (3 * v4)) + 1)) < 18 then
          if (s 31 0 (Int.toNat (jw ((jw (3 * v4)) + 1)))) = 0 then
            if 0 ≤ (jw ((jw (3 * v4)) + 2)) ∧ (jw ((jw (3 * v4)) + 2)) < 18 then
              if (s 31 0 (Int.toNat (jw ((jw (3 * v4)) + 2)))) = 0 then
                je 286 38 [some (.inr (11, 0)), some (.inl v1), some (.inl v2), some (.inl (jw (v3 + 0))), some (.inl (jw (v4 + 1))), o5] [] s
              else
                je 286 38 [some (.inr (11, 0)), some (.inl v1), some (.inl v2), some (.inl (jw (v3 + 1))), some (.inl (jw (v4 + 1))), o5] [] s
            else
              none
          else
            je 286 38 [some (.inr (11, 0)), some (.inl v1), some (.inl v2), some (.inl (jw (v3 + 1))), some (.inl (jw (v4 + 1))), o5] [] s
        else
          none
      else
        je 286 38 [some (.inr (11, 0)), some (.inl v1), some (.inl v2), some (.inl (jw (v3 + 1))), some (.inl (jw (v4 + 1))), o5] [] s
    else
      none
  else
    je 286 105 [some (.inr (11, 0)), some (.inl v1), some (.inl v2), some (.inl v3), some (.inl 0), some (.inl 0)] [] s := (jev_rg jcy_286 (fun q => Nat.beq q 4 || Nat.beq q 38 || Nat.beq q 105) 36 38 _ _ _).trans rfl
set_option maxRecDepth 100000 in
theorem be_286_105 (v1 : Int) (v2 : Int) (v3 : Int) (v4 : Int) (v5 : Int) (s : jM) : je 286 105 [some (.inr (11, 0)), some (.inl v1), some (.inl v2), some (.inl v3), some (.inl v4), some (.inl v5)] [] s =
  if v5 < 3 then
    if 0 ≤ v5 ∧ v5 < 3 then
      if (s 35 0 (Int.toNat v5)) < 0 then
        je 286 105 [some (.inr (11, 0)), some (.inl v1), some (.inl v2), some (.inl v3), some (.inl (jw (v4 + 0))), some (.inl (jw (v5 + 1)))] [] s
      else
        je 286 105 [some (.inr (11, 0)), some (.inl v1), some (.inl v2), some (.inl v3), some (.inl (jw (v4 + 1))), some (.inl (jw (v5 + 1)))] [] s
    else
      none
  else
    if v1 = 0 then
      some (some (.inl (s 11 0 10)), s)
    else
    if v1 = 1 then
      some (some (.inl (s 11 0 8)), s)
    else
    if v1 = 2 then
      some (some (.inl v2), s)
    else
    if v1 = 3 then
      some (some (.inl v3), s)
    else
    if v1 = 4 then
      some (some (.inl v4), s)
    else
      some (some (.inl (-1)), s) := (jev_rg jcy_286 (fun q => Nat.beq q 4 || Nat.beq q 38 || Nat.beq q 105) 16 105 _ _ _).trans rfl
set_option maxRecDepth 100000 in
theorem bq_300 (v0 : Int) (s : jM) : jq 300 [.inl v0] s =
  some (some (.inl (jand (jw ((jw ((jand (jw ((jw ((jand (jw (v0 - (jand (jushr v0 1) 1431655765))) 858993459) + (jand (jushr (jw (v0 - (jand (jushr v0 1) 1431655765))) 2) 858993459))) + (jushr (jw ((jand (jw (v0 - (jand (jushr v0 1) 1431655765))) 858993459) + (jand (jushr (jw (v0 - (jand (jushr v0 1) 1431655765))) 2) 858993459))) 4))) 252645135) + (jushr (jand (jw ((jw ((jand (jw (v0 - (jand (jushr v0 1) 1431655765))) 858993459) + (jand (jushr (jw (v0 - (jand (jushr v0 1) 1431655765))) 2) 858993459))) + (jushr (jw ((jand (jw (v0 - (jand (jushr v0 1) 1431655765))) 858993459) + (jand (jushr (jw (v0 - (jand (jushr v0 1) 1431655765))) 2) 858993459))) 4))) 252645135) 8))) + (jushr (jw ((jand (jw ((jw ((jand (jw (v0 - (jand (jushr v0 1) 1431655765))) 858993459) + (jand (jushr (jw (v0 - (jand (jushr v0 1) 1431655765))) 2) 858993459))) + (jushr (jw ((jand (jw (v0 - (jand (jushr v0 1) 1431655765))) 858993459) + (jand (jushr (jw (v0 - (jand (jushr v0 1) 1431655765))) 2) 858993459))) 4))) 252645135) + (jushr (jand (jw ((jw ((jand (jw (v0 - (jand (jushr v0 1) 1431655765))) 858993459) + (jand (jushr (jw (v0 - (jand (jushr v0 1) 1431655765))) 2) 858993459))) + (jushr (jw ((jand (jw (v0 - (jand (jushr v0 1) 1431655765))) 858993459) + (jand (jushr (jw (v0 - (jand (jushr v0 1) 1431655765))) 2) 858993459))) 4))) 252645135) 8))) 16))) 63)), s) := (jev_rg jcy_300 (fun q => false) 42 0 _ _ _).trans rfl
set_option maxRecDepth 100000 in
theorem bq_301 (f0 : Nat) (s : jM) : jq 301 [.inr (73, f0)] s =
  jbI (jq 303 [.inr (73, f0)] s) fun x1 s1 =>
  some (some (.inl (jshr (jsl f0 : Int) x1)), s1) := (jev_rg jcy_301 (fun q => false) 7 0 _ _ _).trans rfl
set_option maxRecDepth 100000 in
theorem bq_302 (f0 : Nat) (v1 : Int) (s : jM) : jq 302 [.inr (73, f0), .inl v1] s =
  jbI (jq 304 [.inr (73, f0)] s) fun x1 s1 =>
  if x1 = 0 then
    none
  else
    jbI (jq 306 [.inr (74, f0), .inl v1] s1) fun x2 s2 =>
    if 0 ≤ x2 ∧ x2 ≤ 127 then some (some (.inl x2), s2) else none := (jev_rg jcy_302 (fun q => false) 8 0 _ _ _).trans rfl
set_option maxRecDepth 100000 in
theorem bq_303 (f0 : Nat) (s : jM) : jq 303 [.inr (73, f0)] s =
  some (some (.inl 0), s) := (jev_rg jcy_303 (fun q => false) 6 0 _ _ _).trans rfl
set_option maxRecDepth 100000 in
theorem bq_304 (f0 : Nat) (s : jM) : jq 304 [.inr (73, f0)] s =
  some (some (.inl 1), s) := (jev_rg jcy_304 (fun q => false) 8 0 _ _ _).trans rfl
set_option maxRecDepth 100000 in
theorem bq_305 (v0 : Int) (v1 : Int) (s : jM) : jq 305 [.inl v0, .inl v1] s =
  jbI (jq 307 [.inl v0, .inl v1, .inr (75, 0)] s) fun x1 s1 =>
  some (none, s1) := (jev_rg jcy_305 (fun q => false) 6 0 _ _ _).trans rfl
set_option maxRecDepth 100000 in
theorem bq_306 (f0 : Nat) (v1 : Int) (s : jM) : jq 306 [.inr (74, f0), .inl v1] s =
  jbV (jq 305 [.inl v1, .inl (jsl f0 : Int)] s) fun s1 =>
  if 0 ≤ v1 ∧ v1 < (jsl f0 : Int) then
    if 0 ≤ (ji2c (jand (jsb f0 (Int.toNat v1)) 255)) ∧ (ji2c (jand (jsb f0 (Int.toNat v1)) 255)) ≤ 127 then some (some (.inl (ji2c (jand (jsb f0 (Int.toNat v1)) 255))), s1) else none
  else
    none := (jev_rg jcy_306 (fun q => false) 11 0 _ _ _).trans rfl
set_option maxRecDepth 100000 in
theorem bq_307 (v0 : Int) (v1 : Int) (s : jM) : jq 307 [.inl v0, .inl v1, .inr (75, 0)] s =
  if v0 < 0 then
    none
  else
    if v0 < v1 then
      some (some (.inl v0), s)
    else
      none := (jev_rg jcy_307 (fun q => false) 7 0 _ _ _).trans rfl
set_option maxRecDepth 100000 in
theorem be_400_18 (v3 : Int) (s : jM) : je 400 18 [some (.inr (72, 0)), some (.inr (10, 0)), some (.inr (11, 0)), some (.inl v3)] [] s =
  if (jw ((s 72 1 0) - 5)) < v3 then
    some (some (.inl 1), s)
  else
    if 0 ≤ v3 ∧ v3 < (s 72 1 0) then
      if (jand (s 72 0 (Int.toNat v3)) 63) = 0 then
        je 400 200 [some (.inr (72, 0)), some (.inr (10, 0)), some (.inr (11, 0)), some (.inl v3)] [] s
      else
      if (jand (s 72 0 (Int.toNat v3)) 63) = 1 then
        je 400 233 [some (.inr (72, 0)), some (.inr (10, 0)), some (.inr (11, 0)), some (.inl v3)] [] s
      else
      if (jand (s 72 0 (Int.toNat v3)) 63) = 2 then
        je 400 286 [some (.inr (72, 0)), some (.inr (10, 0)), some (.inr (11, 0)), some (.inl v3)] [] s
      else
      if (jand (s 72 0 (Int.toNat v3)) 63) = 3 then
        je 400 329 [some (.inr (72, 0)), some (.inr (10, 0)), some (.inr (11, 0)), some (.inl v3)] [] s
      else
      if (jand (s 72 0 (Int.toNat v3)) 63) = 4 then
        je 400 362 [some (.inr (72, 0)), some (.inr (10, 0)), some (.inr (11, 0)), some (.inl v3)] [] s
      else
      if (jand (s 72 0 (Int.toNat v3)) 63) = 5 then
        je 400 415 [some (.inr (72, 0)), some (.inr (10, 0)), some (.inr (11, 0)), some (.inl v3)] [] s
      else
      if (jand (s 72 0 (Int.toNat v3)) 63) = 6 then
        je 400 458 [some (.inr (72, 0)), some (.inr (10, 0)), some (.inr (11, 0)), some (.inl v3)] [] s
      else
      if (jand (s 72 0 (Int.toNat v3)) 63) = 7 then
        je 400 501 [some (.inr (72, 0)), some (.inr (10, 0)), some (.inr (11, 0)), some (.inl v3)] [] s
      else
      if (jand (s 72 0 (Int.toNat v3)) 63) = 8 then
        je 400 554 [some (.inr (72, 0)), some (.inr (10, 0)), some (.inr (11, 0)), some (.inl v3)] [] s
      else
      if (jand (s 72 0 (Int.toNat v3)) 63) = 9 then
        je 400 587 [some (.inr (72, 0)), some (.inr (10, 0)), some (.inr (11, 0)), some (.inl v3)] [] s
      else
      if (jand (s 72 0 (Int.toNat v3)) 63) = 10 then
        je 400 630 [some (.inr (72, 0)), some (.inr (10, 0)), some (.inr (11, 0)), some (.inl v3)] [] s
      else
      if (jand (s 72 0 (Int.toNat v3)) 63) = 11 then
        je 400 673 [some (.inr (72, 0)), some (.inr (10, 0)), some (.inr (11, 0)), some (.inl v3)] [] s
      else
      if (jand (s 72 0 (Int.toNat v3)) 63) = 12 then
        je 400 706 [some (.inr (72, 0)), some (.inr (10, 0)), some (.inr (11, 0)), some (.inl v3)] [] s
      else
      if (jand (s 72 0 (Int.toNat v3)) 63) = 13 then
        je 400 739 [some (.inr (72, 0)), some (.inr (10, 0)), some (.inr (11, 0)), some (.inl v3)] [] s
      else
      if (jand (s 72 0 (Int.toNat v3)) 63) = 14 then
        je 400 772 [some (.inr (72, 0)), some (.inr (10, 0)), some (.inr (11, 0)), some (.inl v3)] [] s
      else
      if (jand (s 72 0 (Int.toNat v3)) 63) = 15 then
        je 400 825 [some (.inr (72, 0)), some (.inr (10, 0)), some (.inr (11, 0)), some (.inl v3)] [] s
      else
      if (jand (s 72 0 (Int.toNat v3)) 63) = 16 then
        je 400 848 [some (.inr (72, 0)), some (.inr (10, 0)), some (.inr (11, 0)), some (.inl v3)] [] s
      else
      if (jand (s 72 0 (Int.toNat v3)) 63) = 17 then
        je 400 881 [some (.inr (72, 0)), some (.inr (10, 0)), some (.inr (11, 0)), some (.inl v3)] [] s
      else
      if (jand (s 72 0 (Int.toNat v3)) 63) = 18 then
        je 400 914 [some (.inr (72, 0)), some (.inr (10, 0)), some (.inr (11, 0)), some (.inl v3)] [] s
      else
      if (jand (s 72 0 (Int.toNat v3)) 63) = 19 then
        je 400 947 [some (.inr (72, 0)), some (.inr (10, 0)), some (.inr (11, 0)), some (.inl v3)] [] s
      else
      if (jand (s 72 0 (Int.toNat v3)) 63) = 20 then
        je 400 990 [some (.inr (72, 0)), some (.inr (10, 0)), some (.inr (11, 0)), some (.inl v3)] [] s
      else
      if (jand (s 72 0 (Int.toNat v3)) 63) = 21 then
        je 400 1033 [some (.inr (72, 0)), some (.inr (10, 0)), some (.inr (11, 0)), some (.inl v3)] [] s
      else
      if (jand (s 72 0 (Int.toNat v3)) 63) = 22 then
        je 400 1076 [some (.inr (72, 0)), some (.inr (10, 0)), some (.inr (11, 0)), some (.inl v3)] [] s
      else
      if (jand (s 72 0 (Int.toNat v3)) 63) = 23 then
        je 400 1129 [some (.inr (72, 0)), some (.inr (10, 0)), some (.inr (11, 0)), some (.inl v3)] [] s
      else
      if (jand (s 72 0 (Int.toNat v3)) 63) = 24 then
        je 400 1162 [some (.inr (72, 0)), some (.inr (10, 0)), some (.inr (11, 0)), some (.inl v3)] [] s
      else
      if (jand (s 72 0 (Int.toNat v3)) 63) = 25 then
        je 400 1205 [some (.inr (72, 0)), some (.inr (10, 0)), some (.inr (11, 0)), some (.inl v3)] [] s
      else
      if (jand (s 72 0 (Int.toNat v3)) 63) = 26 then
        je 400 1238 [some (.inr (72, 0)), some (.inr (10, 0)), some (.inr (11, 0)), some (.inl v3)] [] s
      else
      if (jand (s 72 0 (Int.toNat v3)) 63) = 27 then
        je 400 1281 [some (.inr (72, 0)), some (.inr (10, 0)), some (.inr (11, 0)), some (.inl v3)] [] s
      else
      if (jand (s 72 0 (Int.toNat v3)) 63) = 28 then
        je 400 1314 [some (.inr (72, 0)), some (.inr (10, 0)), some (.inr (11, 0)), some (.inl v3)] [] s
      else
      if (jand (s 72 0 (Int.toNat v3)) 63) = 29 then
        je 400 1347 [some (.inr (72, 0)), some (.inr (10, 0)), some (.inr (11, 0)), some (.inl v3)] [] s
      else
      if (jand (s 72 0 (Int.toNat v3)) 63) = 30 then
        je 400 1380 [some (.inr (72, 0)), some (.inr (10, 0)), some (.inr (11, 0)), some (.inl v3)] [] s
      else
      if (jand (s 72 0 (Int.toNat v3)) 63) = 31 then
        je 400 1413 [some (.inr (72, 0)), some (.inr (10, 0)), some (.inr (11, 0)), some (.inl v3)] [] s
      else
      if (jand (s 72 0 (Int.toNat v3)) 63) = 32 then
        je 400 1426 [some (.inr (72, 0)), some (.inr (10, 0)), some (.inr (11, 0)), some (.inl v3)] [] s
      else
      if (jand (s 72 0 (Int.toNat v3)) 63) = 33 then
        je 400 1449 [some (.inr (72, 0)), some (.inr (10, 0)), some (.inr (11, 0)), some (.inl v3)] [] s
      else
      if (jand (s 72 0 (Int.toNat v3)) 63) = 34 then
        je 400 1462 [some (.inr (72, 0)), some (.inr (10, 0)), some (.inr (11, 0)), some (.inl v3)] [] s
      else
      if (jand (s 72 0 (Int.toNat v3)) 63) = 35 then
        je 400 1475 [some (.inr (72, 0)), some (.inr (10, 0)), some (.inr (11, 0)), some (.inl v3)] [] s
      else
      if (jand (s 72 0 (Int.toNat v3)) 63) = 36 then
        je 400 1488 [some (.inr (72, 0)), some (.inr (10, 0)), some (.inr (11, 0)), some (.inl v3)] [] s
      else
      if (jand (s 72 0 (Int.toNat v3)) 63) = 37 then
        je 400 1501 [some (.inr (72, 0)), some (.inr (10, 0)), some (.inr (11, 0)), some (.inl v3)] [] s
      else
        je 400 1524 [some (.inr (72, 0)), some (.inr (10, 0)), some (.inr (11, 0)), some (.inl v3)] [] s
    else
      none := (jev_rg jcy_400 (fun q => Nat.beq q 18 || Nat.beq q 200 || Nat.beq q 233 || Nat.beq q 286 || Nat.beq q 329 || Nat.beq q 362 || Nat.beq q 415 || Nat.beq q 458 || Nat.beq q 501 || Nat.beq q 554 || Nat.beq q 587 || Nat.beq q 630 || Nat.beq q 673 || Nat.beq q 706 || Nat.beq q 739 || Nat.beq q 772 || Nat.beq q 825 || Nat.beq q 848 || Nat.beq q 881 || Nat.beq q 914 || Nat.beq q 947 || Nat.beq q 990 || Nat.beq q 1033 || Nat.beq q 1076 || Nat.beq q 1129 || Nat.beq q 1162 || Nat.beq q 1205 || Nat.beq q 1238 || Nat.beq q 1281 || Nat.beq q 1314 || Nat.beq q 1347 || Nat.beq q 1380 || Nat.beq q 1413 || Nat.beq q 1426 || Nat.beq q 1449 || Nat.beq q 1462 || Nat.beq q 1475 || Nat.beq q 1488 || Nat.beq q 1501 || Nat.beq q 1524) 13 18 _ _ _).trans rfl
set_option maxRecDepth 100000 in
theorem be_400_200 (v3 : Int) (s : jM) : je 400 200 [some (.inr (72, 0)), some (.inr (10, 0)), some (.inr (11, 0)), some (.inl v3)] [] s =
  if 0 ≤ (jw (v3 + 1)) ∧ (jw (v3 + 1)) < (s 72 1 0) then
    if 0 ≤ (jw (v3 + 2)) ∧ (jw (v3 + 2)) < (s 72 1 0) then
      jbI (jq 0 [.inr (10, 0), .inl (s 72 0 (Int.toNat (jw (v3 + 1)))), .inl (s 72 0 (Int.toNat (jw (v3 + 2))))] s) fun x1 s1 =>
      if 0 ≤ (jw (v3 + 1)) ∧ (jw (v3 + 1)) < (s1 72 1 0) then
        if 0 ≤ (jw (v3 + 2)) ∧ (jw (v3 + 2)) < (s1 72 1 0) then
          jbI (jq 216 [.inr (11, 0), .inl (s1 72 0 (Int.toNat (jw (v3 + 1)))), .inl (s1 72 0 (Int.toNat (jw (v3 + 2))))] s1) fun x2 s2 =>
          if x1 = x2 then
            je 400 1524 [some (.inr (72, 0)), some (.inr (10, 0)), some (.inr (11, 0)), some (.inl v3)] [] s2
          else
            some (some (.inl 0), s2)
        else
          none
      else
        none
    else
      none
  else
    none := (jev_rg jcy_400 (fun q => Nat.beq q 18 || Nat.beq q 200 || Nat.beq q 233 || Nat.beq q 286 || Nat.beq q 329 || Nat.beq q 362 || Nat.beq q 415 || Nat.beq q 458 || Nat.beq q 501 || Nat.beq q 554 || Nat.beq q 587 || Nat.beq q 630 || Nat.beq q 673 || Nat.beq q 706 || Nat.beq q 739 || Nat.beq q 772 || Nat.beq q 825 || Nat.beq q 848 || Nat.beq q 881 || Nat.beq q 914 || Nat.beq q 947 || Nat.beq q 990 || Nat.beq q 1033 || Nat.beq q 1076 || Nat.beq q 1129 || Nat.beq q 1162 || Nat.beq q 1205 || Nat.beq q 1238 || Nat.beq q 1281 || Nat.beq q 1314 || Nat.beq q 1347 || Nat.beq q 1380 || Nat.beq q 1413 || Nat.beq q 1426 || Nat.beq q 1449 || Nat.beq q 1462 || Nat.beq q 1475 || Nat.beq q 1488 || Nat.beq q 1501 || Nat.beq q 1524) 27 200 _ _ _).trans rfl
set_option maxRecDepth 100000 in
theorem be_400_233 (v3 : Int) (s : jM) : je 400 233 [some (.inr (72, 0)), some (.inr (10, 0)), some (.inr (11, 0)), some (.inl v3)] [] s =
  if 0 ≤ (jw (v3 + 1)) ∧ (jw (v3 + 1)) < (s 72 1 0) then
    if 0 ≤ (jw (v3 + 2)) ∧ (jw (v3 + 2)) < (s 72 1 0) then
      if 0 ≤ (jw (v3 + 3)) ∧ (jw (v3 + 3)) < (s 72 1 0) then
        if 0 ≤ (jw (v3 + 4)) ∧ (jw (v3 + 4)) < (s 72 1 0) then
          jbI (jq 1 [.inr (10, 0), .inl (s 72 0 (Int.toNat (jw (v3 + 1)))), .inl (s 72 0 (Int.toNat (jw (v3 + 2)))), .inl (s 72 0 (Int.toNat (jw (v3 + 3)))), .inl (s 72 0 (Int.toNat (jw (v3 + 4))))] s) fun x1 s1 =>
          if 0 ≤ (jw (v3 + 1)) ∧ (jw (v3 + 1)) < (s1 72 1 0) then
            if 0 ≤ (jw (v3 + 2)) ∧ (jw (v3 + 2)) < (s1 72 1 0) then
              if 0 ≤ (jw (v3 + 3)) ∧ (jw (v3 + 3)) < (s1 72 1 0) then
                if 0 ≤ (jw (v3 + 4)) ∧ (jw (v3 + 4)) < (s1 72 1 0) then
                  jbI (jq 218 [.inr (11, 0), .inl (s1 72 0 (Int.toNat (jw (v3 + 1)))), .inl (s1 72 0 (Int.toNat (jw (v3 + 2)))), .inl (s1 72 0 (Int.toNat (jw (v3 + 3)))), .inl (s1 72 0 (Int.toNat (jw (v3 + 4))))] s1) fun x2 s2 =>
                  if x1 = x2 then
                    je 400 1524 [some (.inr (72, 0)), some (.inr (10, 0)), some (.inr (11, 0)), some (.inl v3)] [] s2
                  else
                    some (some (.inl 0), s2)
                else
                  none
              else
                none
            else
              none
          else
            none
        else
          none
      else
        none
    else
      none
  else
    none := (jev_rg jcy_400 (fun q => Nat.beq q 18 || Nat.beq q 200 || Nat.beq q 233 || Nat.beq q 286 || Nat.beq q 329 || Nat.beq q 362 || Nat.beq q 415 || Nat.beq q 458 || Nat.beq q 501 || Nat.beq q 554 || Nat.beq q 587 || Nat.beq q 630 || Nat.beq q 673 || Nat.beq q 706 || Nat.beq q 739 || Nat.beq q 772 || Nat.beq q 825 || Nat.beq q 848 || Nat.beq q 881 || Nat.beq q 914 || Nat.beq q 947 || Nat.beq q 990 || Nat.beq q 1033 || Nat.beq q 1076 || Nat.beq q 1129 || Nat.beq q 1162 || Nat.beq q 1205 || Nat.beq q 1238 || Nat.beq q 1281 || Nat.beq q 1314 || Nat.beq q 1347 || Nat.beq q 1380 || Nat.beq q 1413 || Nat.beq q 1426 || Nat.beq q 1449 || Nat.beq q 1462 || Nat.beq q 1475 || Nat.beq q 1488 || Nat.beq q 1501 || Nat.beq q 1524) 47 233 _ _ _).trans rfl
set_option maxRecDepth 100000 in
theorem be_400_286 (v3 : Int) (s : jM) : je 400 286 [some (.inr (72, 0)), some (.inr (10, 0)), some (.inr (11, 0)), some (.inl v3)] [] s =
  if 0 ≤ (jw (v3 + 1)) ∧ (jw (v3 + 1)) < (s 72 1 0) then
    if 0 ≤ (jw (v3 + 2)) ∧ (jw (v3 + 2)) < (s 72 1 0) then
      if 0 ≤ (jw (v3 + 3)) ∧ (jw (v3 + 3)) < (s 72 1 0) then
        jbI (jq 2 [.inr (10, 0), .inl (s 72 0 (Int.toNat (jw (v3 + 1)))), .inl (s 72 0 (Int.toNat (jw (v3 + 2)))), .inl (s 72 0 (Int.toNat (jw (v3 + 3))))] s) fun x1 s1 =>
        if 0 ≤ (jw (v3 + 1)) ∧ (jw (v3 + 1)) < (s1 72 1 0) then
          if 0 ≤ (jw (v3 + 2)) ∧ (jw (v3 + 2)) < (s1 72 1 0) then
            if 0 ≤ (jw (v3 + 3)) ∧ (jw (v3 + 3)) < (s1 72 1 0) then
              jbI (jq 219 [.inr (11, 0), .inl (s1 72 0 (Int.toNat (jw (v3 + 1)))), .inl (s1 72 0 (Int.toNat (jw (v3 + 2)))), .inl (s1 72 0 (Int.toNat (jw (v3 + 3))))] s1) fun x2 s2 =>
              if x1 = x2 then
                je 400 1524 [some (.inr (72, 0)), some (.inr (10, 0)), some (.inr (11, 0)), some (.inl v3)] [] s2
              else
                some (some (.inl 0), s2)
            else
              none
          else
            none
        else
          none
      else
        none
    else
      none
  else
    none := (jev_rg jcy_400 (fun q => Nat.beq q 18 || Nat.beq q 200 || Nat.beq q 233 || Nat.beq q 286 || Nat.beq q 329 || Nat.beq q 362 || Nat.beq q 415 || Nat.beq q 458 || Nat.beq q 501 || Nat.beq q 554 || Nat.beq q 587 || Nat.beq q 630 || Nat.beq q 673 || Nat.beq q 706 || Nat.beq q 739 || Nat.beq q 772 || Nat.beq q 825 || Nat.beq q 848 || Nat.beq q 881 || Nat.beq q 914 || Nat.beq q 947 || Nat.beq q 990 || Nat.beq q 1033 || Nat.beq q 1076 || Nat.beq q 1129 || Nat.beq q 1162 || Nat.beq q 1205 || Nat.beq q 1238 || Nat.beq q 1281 || Nat.beq q 1314 || Nat.beq q 1347 || Nat.beq q 1380 || Nat.beq q 1413 || Nat.beq q 1426 || Nat.beq q 1449 || Nat.beq q 1462 || Nat.beq q 1475 || Nat.beq q 1488 || Nat.beq q 1501 || Nat.beq q 1524) 37 286 _ _ _).trans rfl
set_option maxRecDepth 100000 in
theorem be_400_329 (v3 : Int) (s : jM) : je 400 329 [some (.inr (72, 0)), some (.inr (10, 0)), some (.inr (11, 0)), some (.inl v3)] [] s =
  if 0 ≤ (jw (v3 + 1)) ∧ (jw (v3 + 1)) < (s 72 1 0) then
    if 0 ≤ (jw (v3 + 2)) ∧ (jw (v3 + 2)) < (s 72 1 0) then
      jbI (jq 3 [.inr (10, 0), .inl (s 72 0 (Int.toNat (jw (v3 + 1)))), .inl (s 72 0 (Int.toNat (jw (v3 + 2))))] s) fun x1 s1 =>
      if 0 ≤ (jw (v3 + 1)) ∧ (jw (v3 + 1)) < (s1 72 1 0) then
        if 0 ≤ (jw (v3 + 2)) ∧ (jw (v3 + 2)) < (s1 72 1 0) then
          jbI (jq 222 [.inr (11, 0), .inl (s1 72 0 (Int.toNat (jw (v3 + 1)))), .inl (s1 72 0 (Int.toNat (jw (v3 + 2))))] s1) fun x2 s2 =>
          if x1 = x2 then
            je 400 1524 [some (.inr (72, 0)), some (.inr (10, 0)), some (.inr (11, 0)), some (.inl v3)] [] s2
          else
            some (some (.inl 0), s2)
        else
          none
      else
        none
    else
      none
  else
    none := (jev_rg jcy_400 (fun q => Nat.beq q 18 || Nat.beq q 200 || Nat.beq q 233 || Nat.beq q 286 || Nat.beq q 329 || Nat.beq q 362 || Nat.beq q 415 || Nat.beq q 458 || Nat.beq q 501 || Nat.beq q 554 || Nat.beq q 587 || Nat.beq q 630 || Nat.beq q 673 || Nat.beq q 706 || Nat.beq q 739 || Nat.beq q 772 || Nat.beq q 825 || Nat.beq q 848 || Nat.beq q 881 || Nat.beq q 914 || Nat.beq q 947 || Nat.beq q 990 || Nat.beq q 1033 || Nat.beq q 1076 || Nat.beq q 1129 || Nat.beq q 1162 || Nat.beq q 1205 || Nat.beq q 1238 || Nat.beq q 1281 || Nat.beq q 1314 || Nat.beq q 1347 || Nat.beq q 1380 || Nat.beq q 1413 || Nat.beq q 1426 || Nat.beq q 1449 || Nat.beq q 1462 || Nat.beq q 1475 || Nat.beq q 1488 || Nat.beq q 1501 || Nat.beq q 1524) 27 329 _ _ _).trans rfl
set_option maxRecDepth 100000 in
theorem be_400_362 (v3 : Int) (s : jM) : je 400 362 [some (.inr (72, 0)), some (.inr (10, 0)), some (.inr (11, 0)), some (.inl v3)] [] s =
  if 0 ≤ (jw (v3 + 1)) ∧ (jw (v3 + 1)) < (s 72 1 0) then
    if 0 ≤ (jw (v3 + 2)) ∧ (jw (v3 + 2)) < (s 72 1 0) then
      if 0 ≤ (jw (v3 + 3)) ∧ (jw (v3 + 3)) < (s 72 1 0) then
        if 0 ≤ (jw (v3 + 4)) ∧ (jw (v3 + 4)) < (s 72 1 0) then
          jbI (jq 4 [.inr (10, 0), .inl (s 72 0 (Int.toNat (jw (v3 + 1)))), .inl (s 72 0 (Int.toNat (jw (v3 + 2)))), .inl (s 72 0 (Int.toNat (jw (v3 + 3)))), .inl (s 72 0 (Int.toNat (jw (v3 + 4))))] s) fun x1 s1 =>
          if 0 ≤ (jw (v3 + 1)) ∧ (jw (v3 + 1)) < (s1 72 1 0) then
            if 0 ≤ (jw (v3 + 2)) ∧ (jw (v3 + 2)) < (s1 72 1 0) then
              if 0 ≤ (jw (v3 + 3)) ∧ (jw (v3 + 3)) < (s1 72 1 0) then
                if 0 ≤ (jw (v3 + 4)) ∧ (jw (v3 + 4)) < (s1 72 1 0) then
                  jbI (jq 223 [.inr (11, 0), .inl (s1 72 0 (Int.toNat (jw (v3 + 1)))), .inl (s1 72 0 (Int.toNat (jw (v3 + 2)))), .inl (s1 72 0 (Int.toNat (jw (v3 + 3)))), .inl (s1 72 0 (Int.toNat (jw (v3 + 4))))] s1) fun x2 s2 =>
                  if x1 = x2 then
                    je 400 1524 [some (.inr (72, 0)), some (.inr (10, 0)), some (.inr (11, 0)), some (.inl v3)] [] s2
                  else
                    some (some (.inl 0), s2)
                else
                  none
              else
                none
            else
              none
          else
            none
        else
          none
      else
        none
    else
      none
  else
    none := (jev_rg jcy_400 (fun q => Nat.beq q 18 || Nat.beq q 200 || Nat.beq q 233 || Nat.beq q 286 || Nat.beq q 329 || Nat.beq q 362 || Nat.beq q 415 || Nat.beq q 458 || Nat.beq q 501 || Nat.beq q 554 || Nat.beq q 587 || Nat.beq q 630 || Nat.beq q 673 || Nat.beq q 706 || Nat.beq q 739 || Nat.beq q 772 || Nat.beq q 825 || Nat.beq q 848 || Nat.beq q 881 || Nat.beq q 914 || Nat.beq q 947 || Nat.beq q 990 || Nat.beq q 1033 || Nat.beq q 1076 || Nat.beq q 1129 || Nat.beq q 1162 || Nat.beq q 1205 || Nat.beq q 1238 || Nat.beq q 1281 || Nat.beq q 1314 || Nat.beq q 1347 || Nat.beq q 1380 || Nat.beq q 1413 || Nat.beq q 1426 || Nat.beq q 1449 || Nat.beq q 1462 || Nat.beq q 1475 || Nat.beq q 1488 || Nat.beq q 1501 || Nat.beq q 1524) 47 362 _ _ _).trans rfl
set_option maxRecDepth 100000 in
theorem be_400_415 (v3 : Int) (s : jM) : je 400 415 [some (.inr (72, 0)), some (.inr (10, 0)), some (.inr (11, 0)), some (.inl v3)] [] s =
  if 0 ≤ (jw (v3 + 1)) ∧ (jw (v3 + 1)) < (s 72 1 0) then
    if 0 ≤ (jw (v3 + 2)) ∧ (jw (v3 + 2)) < (s 72 1 0) then
      if 0 ≤ (jw (v3 + 3)) ∧ (jw (v3 + 3)) < (s 72 1 0) then
        jbI (jq 5 [.inr (10, 0), .inl (s 72 0 (Int.toNat (jw (v3 + 1)))), .inl (s 72 0 (Int.toNat (jw (v3 + 2)))), .inl (s 72 0 (Int.toNat (jw (v3 + 3))))] s) fun x1 s1 =>
        if 0 ≤ (jw (v3 + 1)) ∧ (jw (v3 + 1)) < (s1 72 1 0) then
          if 0 ≤ (jw (v3 + 2)) ∧ (jw (v3 + 2)) < (s1 72 1 0) then
            if 0 ≤ (jw (v3 + 3)) ∧ (jw (v3 + 3)) < (s1 72 1 0) then
              jbI (jq 225 [.inr (11, 0), .inl (s1 72 0 (Int.toNat (jw (v3 + 1)))), .inl (s1 72 0 (Int.toNat (jw (v3 + 2)))), .inl (s1 72 0 (Int.toNat (jw (v3 + 3))))] s1) fun x2 s2 =>
              if x1 = x2 then
                je 400 1524 [some (.inr (72, 0)), some (.inr (10, 0)), some (.inr (11, 0)), some (.inl v3)] [] s2
              else
                some (some (.inl 0), s2)
            else
              none
          else
            none
        else
          none
      else
        none
    else
      none
  else
    none := (jev_rg jcy_400 (fun q => Nat.beq q 18 || Nat.beq q 200 || Nat.beq q 233 || Nat.beq q 286 || Nat.beq q 329 || Nat.beq q 362 || Nat.beq q 415 || Nat.beq q 458 || Nat.beq q 501 || Nat.beq q 554 || Nat.beq q 587 || Nat.beq q 630 || Nat.beq q 673 || Nat.beq q 706 || Nat.beq q 739 || Nat.beq q 772 || Nat.beq q 825 || Nat.beq q 848 || Nat.beq q 881 || Nat.beq q 914 || Nat.beq q 947 || Nat.beq q 990 || Nat.beq q 1033 || Nat.beq q 1076 || Nat.beq q 1129 || Nat.beq q 1162 || Nat.beq q 1205 || Nat.beq q 1238 || Nat.beq q 1281 || Nat.beq q 1314 || Nat.beq q 1347 || Nat.beq q 1380 || Nat.beq q 1413 || Nat.beq q 1426 || Nat.beq q 1449 || Nat.beq q 1462 || Nat.beq q 1475 || Nat.beq q 1488 || Nat.beq q 1501 || Nat.beq q 1524) 37 415 _ _ _).trans rfl
set_option maxRecDepth 100000 in
theorem be_400_458 (v3 : Int) (s : jM) : je 400 458 [some (.inr (72, 0)), some (.inr (10, 0)), some (.inr (11, 0)), some (.inl v3)] [] s =
  if 0 ≤ (jw (v3 + 1)) ∧ (jw (v3 + 1)) < (s 72 1 0) then
    if 0 ≤ (jw (v3 + 2)) ∧ (jw (v3 + 2)) < (s 72 1 0) then
      if 0 ≤ (jw (v3 + 3)) ∧ (jw (v3 + 3)) < (s 72 1 0) then
        jbI (jq 6 [.inr (10, 0), .inl (s 72 0 (Int.toNat (jw (v3 + 1)))), .inl (s 72 0 (Int.toNat (jw (v3 + 2)))), .inl (s 72 0 (Int.toNat (jw (v3 + 3))))] s) fun x1 s1 =>
        if 0 ≤ (jw (v3 + 1)) ∧ (jw (v3 + 1)) < (s1 72 1 0) then
          if 0 ≤ (jw (v3 + 2)) ∧ (jw (v3 + 2)) < (s1 72 1 0) then
            if 0 ≤ (jw (v3 + 3)) ∧ (jw (v3 + 3)) < (s1 72 1 0) then
              jbI (jq 226 [.inr (11, 0), .inl (s1 72 0 (Int.toNat (jw (v3 + 1)))), .inl (s1 72 0 (Int.toNat (jw (v3 + 2)))), .inl (s1 72 0 (Int.toNat (jw (v3 + 3))))] s1) fun x2 s2 =>
              if x1 = x2 then
                je 400 1524 [some (.inr (72, 0)), some (.inr (10, 0)), some (.inr (11, 0)), some (.inl v3)] [] s2
              else
                some (some (.inl 0), s2)
            else
              none
          else
            none
        else
          none
      else
        none
    else
      none
  else
    none := (jev_rg jcy_400 (fun q => Nat.beq q 18 || Nat.beq q 200 || Nat.beq q 233 || Nat.beq q 286 || Nat.beq q 329 || Nat.beq q 362 || Nat.beq q 415 || Nat.beq q 458 || Nat.beq q 501 || Nat.beq q 554 || Nat.beq q 587 || Nat.beq q 630 || Nat.beq q 673 || Nat.beq q 706 || Nat.beq q 739 || Nat.beq q 772 || Nat.beq q 825 || Nat.beq q 848 || Nat.beq q 881 || Nat.beq q 914 || Nat.beq q 947 || Nat.beq q 990 || Nat.beq q 1033 || Nat.beq q 1076 || Nat.beq q 1129 || Nat.beq q 1162 || Nat.beq q 1205 || Nat.beq q 1238 || Nat.beq q 1281 || Nat.beq q 1314 || Nat.beq q 1347 || Nat.beq q 1380 || Nat.beq q 1413 || Nat.beq q 1426 || Nat.beq q 1449 || Nat.beq q 1462 || Nat.beq q 1475 || Nat.beq q 1488 || Nat.beq q 1501 || Nat.beq q 1524) 37 458 _ _ _).trans rfl
set_option maxRecDepth 100000 in
theorem be_400_501 (v3 : Int) (s : jM) : je 400 501 [some (.inr (72, 0)), some (.inr (10, 0)), some (.inr (11, 0)), some (.inl v3)] [] s =
  if 0 ≤ (jw (v3 + 1)) ∧ (jw (v3 + 1)) < (s 72 1 0) then
    if 0 ≤ (jw (v3 + 2)) ∧ (jw (v3 + 2)) < (s 72 1 0) then
      if 0 ≤ (jw (v3 + 3)) ∧ (jw (v3 + 3)) < (s 72 1 0) then
        if 0 ≤ (jw (v3 + 4)) ∧ (jw (v3 + 4)) < (s 72 1 0) then
          jbI (jq 7 [.inr (10, 0), .inl (s 72 0 (Int.toNat (jw (v3 + 1)))), .inl (s 72 0 (Int.toNat (jw (v3 + 2)))), .inl (s 72 0 (Int.toNat (jw (v3 + 3)))), .inl (s 72 0 (Int.toNat (jw (v3 + 4))))] s) fun x1 s1 =>
          if 0 ≤ (jw (v3 + 1)) ∧ (jw (v3 + 1)) < (s1 72 1 0) then
            if 0 ≤ (jw (v3 + 2)) ∧ (jw (v3 + 2)) < (s1 72 1 0) then
              if 0 ≤ (jw (v3 + 3)) ∧ (jw (v3 + 3)) < (s1 72 1 0) then
                if 0 ≤ (jw (v3 + 4)) ∧ (jw (v3 + 4)) < (s1 72 1 0) then
                  jbI (jq 227 [.inr (11, 0), .inl (s1 72 0 (Int.toNat (jw (v3 + 1)))), .inl (s1 72 0 (Int.toNat (jw (v3 + 2)))), .inl (s1 72 0 (Int.toNat (jw (v3 + 3)))), .inl (s1 72 0 (Int.toNat (jw (v3 + 4))))] s1) fun x2 s2 =>
                  if x1 = x2 then
                    je 400 1524 [some (.inr (72, 0)), some (.inr (10, 0)), some (.inr (11, 0)), some (.inl v3)] [] s2
                  else
                    some (some (.inl 0), s2)
                else
                  none
              else
                none
            else
              none
          else
            none
        else
          none
      else
        none
    else
      none
  else
    none := (jev_rg jcy_400 (fun q => Nat.beq q 18 || Nat.beq q 200 || Nat.beq q 233 || Nat.beq q 286 || Nat.beq q 329 || Nat.beq q 362 || Nat.beq q 415 || Nat.beq q 458 || Nat.beq q 501 || Nat.beq q 554 || Nat.beq q 587 || Nat.beq q 630 || Nat.beq q 673 || Nat.beq q 706 || Nat.beq q 739 || Nat.beq q 772 || Nat.beq q 825 || Nat.beq q 848 || Nat.beq q 881 || Nat.beq q 914 || Nat.beq q 947 || Nat.beq q 990 || Nat.beq q 1033 || Nat.beq q 1076 || Nat.beq q 1129 || Nat.beq q 1162 || Nat.beq q 1205 || Nat.beq q 1238 || Nat.beq q 1281 || Nat.beq q 1314 || Nat.beq q 1347 || Nat.beq q 1380 || Nat.beq q 1413 || Nat.beq q 1426 || Nat.beq q 1449 || Nat.beq q 1462 || Nat.beq q 1475 || Nat.beq q 1488 || Nat.beq q 1501 || Nat.beq q 1524) 47 501 _ _ _).trans rfl
set_option maxRecDepth 100000 in
theorem be_400_554 (v3 : Int) (s : jM) : je 400 554 [some (.inr (72, 0)), some (.inr (10, 0)), some (.inr (11, 0)), some (.inl v3)] [] s =
  if 0 ≤ (jw (v3 + 1)) ∧ (jw (v3 + 1)) < (s 72 1 0) then
    if 0 ≤ (jw (v3 + 2)) ∧ (jw (v3 + 2)) < (s 72 1 0) then
      jbI (jq 8 [.inr (10, 0), .inl (s 72 0 (Int.toNat (jw (v3 + 1)))), .inl (s 72 0 (Int.toNat (jw (v3 + 2))))] s) fun x1 s1 =>
      if 0 ≤ (jw (v3 + 1)) ∧ (jw (v3 + 1)) < (s1 72 1 0) then
        if 0 ≤ (jw (v3 + 2)) ∧ (jw (v3 + 2)) < (s1 72 1 0) then
          jbI (jq 228 [.inr (11, 0), .inl (s1 72 0 (Int.toNat (jw (v3 + 1)))), .inl (s1 72 0 (Int.toNat (jw (v3 + 2))))] s1) fun x2 s2 =>
          if x1 = x2 then
            je 400 1524 [some (.inr (72, 0)), some (.inr (10, 0)), some (.inr (11, 0)), some (.inl v3)] [] s2
          else
            some (some (.inl 0), s2)
        else
          none
      else
        none
    else
      none
  else
    none := (jev_rg jcy_400 (fun q => Nat.beq q 18 || Nat.beq q 200 || Nat.beq q 233 || Nat.beq q 286 || Nat.beq q 329 || Nat.beq q 362 || Nat.beq q 415 || Nat.beq q 458 || Nat.beq q 501 || Nat.beq q 554 || Nat.beq q 587 || Nat.beq q 630 || Nat.beq q 673 || Nat.beq q 706 || Nat.beq q 739 || Nat.beq q 772 || Nat.beq q 825 || Nat.beq q 848 || Nat.beq q 881 || Nat.beq q 914 || Nat.beq q 947 || Nat.beq q 990 || Nat.beq q 1033 || Nat.beq q 1076 || Nat.beq q 1129 || Nat.beq q 1162 || Nat.beq q 1205 || Nat.beq q 1238 || Nat.beq q 1281 || Nat.beq q 1314 || Nat.beq q 1347 || Nat.beq q 1380 || Nat.beq q 1413 || Nat.beq q 1426 || Nat.beq q 1449 || Nat.beq q 1462 || Nat.beq q 1475 || Nat.beq q 1488 || Nat.beq q 1501 || Nat.beq q 1524) 27 554 _ _ _).trans rfl
set_option maxRecDepth 100000 in
theorem be_400_587 (v3 : Int) (s : jM) : je 400 587 [some (.inr (72, 0)), some (.inr (10, 0)), some (.inr (11, 0)), some (.inl v3)] [] s =
  if 0 ≤ (jw (v3 + 1)) ∧ (jw (v3 + 1)) < (s 72 1 0) then
    if 0 ≤ (jw (v3 + 2)) ∧ (jw (v3 + 2)) < (s 72 1 0) then
      if 0 ≤ (jw (v3 + 3)) ∧ (jw (v3 + 3)) < (s 72 1 0) then
        jbI (jq 9 [.inr (10, 0), .inl (s 72 0 (Int.toNat (jw (v3 + 1)))), .inl (s 72 0 (Int.toNat (jw (v3 + 2)))), .inl (s 72 0 (Int.toNat (jw (v3 + 3))))] s) fun x1 s1 =>
        if 0 ≤ (jw (v3 + 1)) ∧ (jw (v3 + 1)) < (s1 72 1 0) then
          if 0 ≤ (jw (v3 + 2)) ∧ (jw (v3 + 2)) < (s1 72 1 0) then
            if 0 ≤ (jw (v3 + 3)) ∧ (jw (v3 + 3)) < (s1 72 1 0) then
              jbI (jq 229 [.inr (11, 0), .inl (s1 72 0 (Int.toNat (jw (v3 + 1)))), .inl (s1 72 0 (Int.toNat (jw (v3 + 2)))), .inl (s1 72 0 (Int.toNat (jw (v3 + 3))))] s1) fun x2 s2 =>
              if x1 = x2 then
                je 400 1524 [some (.inr (72, 0)), some (.inr (10, 0)), some (.inr (11, 0)), some (.inl v3)] [] s2
              else
                some (some (.inl 0), s2)
            else
              none
          else
            none
        else
          none
      else
        none
    else
      none
  else
    none := (jev_rg jcy_400 (fun q => Nat.beq q 18 || Nat.beq q 200 || Nat.beq q 233 || Nat.beq q 286 || Nat.beq q 329 || Nat.beq q 362 || Nat.beq q 415 || Nat.beq q 458 || Nat.beq q 501 || Nat.beq q 554 || Nat.beq q 587 || Nat.beq q 630 || Nat.beq q 673 || Nat.beq q 706 || Nat.beq q 739 || Nat.beq q 772 || Nat.beq q 825 || Nat.beq q 848 || Nat.beq q 881 || Nat.beq q 914 || Nat.beq q 947 || Nat.beq q 990 || Nat.beq q 1033 || Nat.beq q 1076 || Nat.beq q 1129 || Nat.beq q 1162 || Nat.beq q 1205 || Nat.beq q 1238 || Nat.beq q 1281 || Nat.beq q 1314 || Nat.beq q 1347 || Nat.beq q 1380 || Nat.beq q 1413 || Nat.beq q 1426 || Nat.beq q 1449 || Nat.beq q 1462 || Nat.beq q 1475 || Nat.beq q 1488 || Nat.beq q 1501 || Nat.beq q 1524) 37 587 _ _ _).trans rfl
set_option maxRecDepth 100000 in
theorem be_400_630 (v3 : Int) (s : jM) : je 400 630 [some (.inr (72, 0)), some (.inr (10, 0)), some (.inr (11, 0)), some (.inl v3)] [] s =
  if 0 ≤ (jw (v3 + 1)) ∧ (jw (v3 + 1)) < (s 72 1 0) then
    if 0 ≤ (jw (v3 + 2)) ∧ (jw (v3 + 2)) < (s 72 1 0) then
      if 0 ≤ (jw (v3 + 3)) ∧ (jw (v3 + 3)) < (s 72 1 0) then
        jbI (jq 10 [.inr (10, 0), .inl (s 72 0 (Int.toNat (jw (v3 + 1)))), .inl (s 72 0 (Int.toNat (jw (v3 + 2)))), .inl (s 72 0 (Int.toNat (jw (v3 + 3))))] s) fun x1 s1 =>
        if 0 ≤ (jw (v3 + 1)) ∧ (jw (v3 + 1)) < (s1 72 1 0) then
          if 0 ≤ (jw (v3 + 2)) ∧ (jw (v3 + 2)) < (s1 72 1 0) then
            if 0 ≤ (jw (v3 + 3)) ∧ (jw (v3 + 3)) < (s1 72 1 0) then
              jbI (jq 231 [.inr (11, 0), .inl (s1 72 0 (Int.toNat (jw (v3 + 1)))), .inl (s1 72 0 (Int.toNat (jw (v3 + 2)))), .inl (s1 72 0 (Int.toNat (jw (v3 + 3))))] s1) fun x2 s2 =>
              if x1 = x2 then
                je 400 1524 [some (.inr (72, 0)), some (.inr (10, 0)), some (.inr (11, 0)), some (.inl v3)] [] s2
              else
                some (some (.inl 0), s2)
            else
              none
          else
            none
        else
          none
      else
        none
    else
      none
  else
    none := (jev_rg jcy_400 (fun q => Nat.beq q 18 || Nat.beq q 200 || Nat.beq q 233 || Nat.beq q 286 || Nat.beq q 329 || Nat.beq q 362 || Nat.beq q 415 || Nat.beq q 458 || Nat.beq q 501 || Nat.beq q 554 || Nat.beq q 587 || Nat.beq q 630 || Nat.beq q 673 || Nat.beq q 706 || Nat.beq q 739 || Nat.beq q 772 || Nat.beq q 825 || Nat.beq q 848 || Nat.beq q 881 || Nat.beq q 914 || Nat.beq q 947 || Nat.beq q 990 || Nat.beq q 1033 || Nat.beq q 1076 || Nat.beq q 1129 || Nat.beq q 1162 || Nat.beq q 1205 || Nat.beq q 1238 || Nat.beq q 1281 || Nat.beq q 1314 || Nat.beq q 1347 || Nat.beq q 1380 || Nat.beq q 1413 || Nat.beq q 1426 || Nat.beq q 1449 || Nat.beq q 1462 || Nat.beq q 1475 || Nat.beq q 1488 || Nat.beq q 1501 || Nat.beq q 1524) 37 630 _ _ _).trans rfl
set_option maxRecDepth 100000 in
theorem be_400_673 (v3 : Int) (s : jM) : je 400 673 [some (.inr (72, 0)), some (.inr (10, 0)), some (.inr (11, 0)), some (.inl v3)] [] s =
  if 0 ≤ (jw (v3 + 1)) ∧ (jw (v3 + 1)) < (s 72 1 0) then
    if 0 ≤ (jw (v3 + 2)) ∧ (jw (v3 + 2)) < (s 72 1 0) then
      jbI (jq 11 [.inr (10, 0), .inl (s 72 0 (Int.toNat (jw (v3 + 1)))), .inl (s 72 0 (Int.toNat (jw (v3 + 2))))] s) fun x1 s1 =>
      if 0 ≤ (jw (v3 + 1)) ∧ (jw (v3 + 1)) < (s1 72 1 0) then
        if 0 ≤ (jw (v3 + 2)) ∧ (jw (v3 + 2)) < (s1 72 1 0) then
          jbI (jq 233 [.inr (11, 0), .inl (s1 72 0 (Int.toNat (jw (v3 + 1)))), .inl (s1 72 0 (Int.toNat (jw (v3 + 2))))] s1) fun x2 s2 =>
          if x1 = x2 then
            je 400 1524 [some (.inr (72, 0)), some (.inr (10, 0)), some (.inr (11, 0)), some (.inl v3)] [] s2
          else
            some (some (.inl 0), s2)
        else
          none
      else
        none
    else
      none
  else
    none := (jev_rg jcy_400 (fun q => Nat.beq q 18 || Nat.beq q 200 || Nat.beq q 233 || Nat.beq q 286 || Nat.beq q 329 || Nat.beq q 362 || Nat.beq q 415 || Nat.beq q 458 || Nat.beq q 501 || Nat.beq q 554 || Nat.beq q 587 || Nat.beq q 630 || Nat.beq q 673 || Nat.beq q 706 || Nat.beq q 739 || Nat.beq q 772 || Nat.beq q 825 || Nat.beq q 848 || Nat.beq q 881 || Nat.beq q 914 || Nat.beq q 947 || Nat.beq q 990 || Nat.beq q 1033 || Nat.beq q 1076 || Nat.beq q 1129 || Nat.beq q 1162 || Nat.beq q 1205 || Nat.beq q 1238 || Nat.beq q 1281 || Nat.beq q 1314 || Nat.beq q 1347 || Nat.beq q 1380 || Nat.beq q 1413 || Nat.beq q 1426 || Nat.beq q 1449 || Nat.beq q 1462 || Nat.beq q 1475 || Nat.beq q 1488 || Nat.beq q 1501 || Nat.beq q 1524) 27 673 _ _ _).trans rfl
set_option maxRecDepth 100000 in
theorem be_400_706 (v3 : Int) (s : jM) : je 400 706 [some (.inr (72, 0)), some (.inr (10, 0)), some (.inr (11, 0)), some (.inl v3)] [] s =
  if 0 ≤ (jw (v3 + 1)) ∧ (jw (v3 + 1)) < (s 72 1 0) then
    if 0 ≤ (jw (v3 + 2)) ∧ (jw (v3 + 2)) < (s 72 1 0) then
      jbI (jq 12 [.inr (10, 0), .inl (s 72 0 (Int.toNat (jw (v3 + 1)))), .inl (s 72 0 (Int.toNat (jw (v3 + 2))))] s) fun x1 s1 =>
      if 0 ≤ (jw (v3 + 1)) ∧ (jw (v3 + 1)) < (s1 72 1 0) then
        if 0 ≤ (jw (v3 + 2)) ∧ (jw (v3 + 2)) < (s1 72 1 0) then
          jbI (jq 234 [.inr (11, 0), .inl (s1 72 0 (Int.toNat (jw (v3 + 1)))), .inl (s1 72 0 (Int.toNat (jw (v3 + 2))))] s1) fun x2 s2 =>
          if x1 = x2 then
            je 400 1524 [some (.inr (72, 0)), some (.inr (10, 0)), some (.inr (11, 0)), some (.inl v3)] [] s2
          else
            some (some (.inl 0), s2)
        else
          none
      else
        none
    else
      none
  else
    none := (jev_rg jcy_400 (fun q => Nat.beq q 18 || Nat.beq q 200 || Nat.beq q 233 || Nat.beq q 286 || Nat.beq q 329 || Nat.beq q 362 || Nat.beq q 415 || Nat.beq q 458 || Nat.beq q 501 || Nat.beq q 554 || Nat.beq q 587 || Nat.beq q 630 || Nat.beq q 673 || Nat.beq q 706 || Nat.beq q 739 || Nat.beq q 772 || Nat.beq q 825 || Nat.beq q 848 || Nat.beq q 881 || Nat.beq q 914 || Nat.beq q 947 || Nat.beq q 990 || Nat.beq q 1033 || Nat.beq q 1076 || Nat.beq q 1129 || Nat.beq q 1162 || Nat.beq q 1205 || Nat.beq q 1238 || Nat.beq q 1281 || Nat.beq q 1314 || Nat.beq q 1347 || Nat.beq q 1380 || Nat.beq q 1413 || Nat.beq q 1426 || Nat.beq q 1449 || Nat.beq q 1462 || Nat.beq q 1475 || Nat.beq q 1488 || Nat.beq q 1501 || Nat.beq q 1524) 27 706 _ _ _).trans rfl
set_option maxRecDepth 100000 in
theorem be_400_739 (v3 : Int) (s : jM) : je 400 739 [some (.inr (72, 0)), some (.inr (10, 0)), some (.inr (11, 0)), some (.inl v3)] [] s =
  if 0 ≤ (jw (v3 + 1)) ∧ (jw (v3 + 1)) < (s 72 1 0) then
    if 0 ≤ (jw (v3 + 2)) ∧ (jw (v3 + 2)) < (s 72 1 0) then
      jbI (jq 13 [.inr (10, 0), .inl (s 72 0 (Int.toNat (jw (v3 + 1)))), .inl (s 72 0 (Int.toNat (jw (v3 + 2))))] s) fun x1 s1 =>
      if 0 ≤ (jw (v3 + 1)) ∧ (jw (v3 + 1)) < (s1 72 1 0) then
        if 0 ≤ (jw (v3 + 2)) ∧ (jw (v3 + 2)) < (s1 72 1 0) then
          jbI (jq 237 [.inr (11, 0), .inl (s1 72 0 (Int.toNat (jw (v3 + 1)))), .inl (s1 72 0 (Int.toNat (jw (v3 + 2))))] s1) fun x2 s2 =>
          if x1 = x2 then
            je 400 1524 [some (.inr (72, 0)), some (.inr (10, 0)), some (.inr (11, 0)), some (.inl v3)] [] s2
          else
            some (some (.inl 0), s2)
        else
          none
      else
        none
    else
      none
  else
    none := (jev_rg jcy_400 (fun q => Nat.beq q 18 || Nat.beq q 200 || Nat.beq q 233 || Nat.beq q 286 || Nat.beq q 329 || Nat.beq q 362 || Nat.beq q 415 || Nat.beq q 458 || Nat.beq q 501 || Nat.beq q 554 || Nat.beq q 587 || Nat.beq q 630 || Nat.beq q 673 || Nat.beq q 706 || Nat.beq q 739 || Nat.beq q 772 || Nat.beq q 825 || Nat.beq q 848 || Nat.beq q 881 || Nat.beq q 914 || Nat.beq q 947 || Nat.beq q 990 || Nat.beq q 1033 || Nat.beq q 1076 || Nat.beq q 1129 || Nat.beq q 1162 || Nat.beq q 1205 || Nat.beq q 1238 || Nat.beq q 1281 || Nat.beq q 1314 || Nat.beq q 1347 || Nat.beq q 1380 || Nat.beq q 1413 || Nat.beq q 1426 || Nat.beq q 1449 || Nat.beq q 1462 || Nat.beq q 1475 || Nat.beq q 1488 || Nat.beq q 1501 || Nat.beq q 1524) 27 739 _ _ _).trans rfl
set_option maxRecDepth 100000 in
theorem be_400_772 (v3 : Int) (s : jM) : je 400 772 [some (.inr (72, 0)), some (.inr (10, 0)), some (.inr (11, 0)), some (.inl v3)] [] s =
  if 0 ≤ (jw (v3 + 1)) ∧ (jw (v3 + 1)) < (s 72 1 0) then
    if 0 ≤ (jw (v3 + 2)) ∧ (jw (v3 + 2)) < (s 72 1 0) then
      if 0 ≤ (jw (v3 + 3)) ∧ (jw (v3 + 3)) < (s 72 1 0) then
        if 0 ≤ (jw (v3 + 4)) ∧ (jw (v3 + 4)) < (s 72 1 0) then
          jbI (jq 14 [.inr (10, 0), .inl (s 72 0 (Int.toNat (jw (v3 + 1)))), .inl (s 72 0 (Int.toNat (jw (v3 + 2)))), .inl (s 72 0 (Int.toNat (jw (v3 + 3)))), .inl (s 72 0 (Int.toNat (jw (v3 + 4))))] s) fun x1 s1 =>
          if 0 ≤ (jw (v3 + 1)) ∧ (jw (v3 + 1)) < (s1 72 1 0) then
            if 0 ≤ (jw (v3 + 2)) ∧ (jw (v3 + 2)) < (s1 72 1 0) then
              if 0 ≤ (jw (v3 + 3)) ∧ (jw (v3 + 3)) < (s1 72 1 0) then
                if 0 ≤ (jw (v3 + 4)) ∧ (jw (v3 + 4)) < (s1 72 1 0) then
                  jbI (jq 238 [.inr (11, 0), .inl (s1 72 0 (Int.toNat (jw (v3 + 1)))), .inl (s1 72 0 (Int.toNat (jw (v3 + 2)))), .inl (s1 72 0 (Int.toNat (jw (v3 + 3)))), .inl (s1 72 0 (Int.toNat (jw (v3 + 4))))] s1) fun x2 s2 =>
                  if x1 = x2 then
                    je 400 1524 [some (.inr (72, 0)), some (.inr (10, 0)), some (.inr (11, 0)), some (.inl v3)] [] s2
                  else
                    some (some (.inl 0), s2)
                else
                  none
              else
                none
            else
              none
          else
            none
        else
          none
      else
        none
    else
      none
  else
    none := (jev_rg jcy_400 (fun q => Nat.beq q 18 || Nat.beq q 200 || Nat.beq q 233 || Nat.beq q 286 || Nat.beq q 329 || Nat.beq q 362 || Nat.beq q 415 || Nat.beq q 458 || Nat.beq q 501 || Nat.beq q 554 || Nat.beq q 587 || Nat.beq q 630 || Nat.beq q 673 || Nat.beq q 706 || Nat.beq q 739 || Nat.beq q 772 || Nat.beq q 825 || Nat.beq q 848 || Nat.beq q 881 || Nat.beq q 914 || Nat.beq q 947 || Nat.beq q 990 || Nat.beq q 1033 || Nat.beq q 1076 || Nat.beq q 1129 || Nat.beq q 1162 || Nat.beq q 1205 || Nat.beq q 1238 || Nat.beq q 1281 || Nat.beq q 1314 || Nat.beq q 1347 || Nat.beq q 1380 || Nat.beq q 1413 || Nat.beq q 1426 || Nat.beq q 1449 || Nat.beq q 1462 || Nat.beq q 1475 || Nat.beq q 1488 || Nat.beq q 1501 || Nat.beq q 1524) 47 772 _ _ _).trans rfl
set_option maxRecDepth 100000 in
theorem be_400_825 (v3 : Int) (s : jM) : je 400 825 [some (.inr (72, 0)), some (.inr (10, 0)), some (.inr (11, 0)), some (.inl v3)] [] s =
  if 0 ≤ (jw (v3 + 1)) ∧ (jw (v3 + 1)) < (s 72 1 0) then
    jbI (jq 15 [.inr (10, 0), .inl (s 72 0 (Int.toNat (jw (v3 + 1))))] s) fun x1 s1 =>
    if 0 ≤ (jw (v3 + 1)) ∧ (jw (v3 + 1)) < (s1 72 1 0) then
      jbI (jq 243 [.inr (11, 0), .inl (s1 72 0 (Int.toNat (jw (v3 + 1))))] s1) fun x2 s2 =>
      if x1 = x2 then
        je 400 1524 [some (.inr (72, 0)), some (.inr (10, 0)), some (.inr (11, 0)), some (.inl v3)] [] s2
      else
        some (some (.inl 0), s2)
    else
      none
  else
    none := (jev_rg jcy_400 (fun q => Nat.beq q 18 || Nat.beq q 200 || Nat.beq q 233 || Nat.beq q 286 || Nat.beq q 329 || Nat.beq q 362 || Nat.beq q 415 || Nat.beq q 458 || Nat.beq q 501 || Nat.beq q 554 || Nat.beq q 587 || Nat.beq q 630 || Nat.beq q 673 || Nat.beq q 706 || Nat.beq q 739 || Nat.beq q 772 || Nat.beq q 825 || Nat.beq q 848 || Nat.beq q 881 || Nat.beq q 914 || Nat.beq q 947 || Nat.beq q 990 || Nat.beq q 1033 || Nat.beq q 1076 || Nat.beq q 1129 || Nat.beq q 1162 || Nat.beq q 1205 || Nat.beq q 1238 || Nat.beq q 1281 || Nat.beq q 1314 || Nat.beq q 1347 || Nat.beq q 1380 || Nat.beq q 1413 || Nat.beq q 1426 || Nat.beq q 1449 || Nat.beq q 1462 || Nat.beq q 1475 || Nat.beq q 1488 || Nat.beq q 1501 || Nat.beq q 1524) 17 825 _ _ _).trans rfl
set_option maxRecDepth 100000 in
theorem be_400_848 (v3 : Int) (s : jM) : je 400 848 [some (.inr (72, 0)), some (.inr (10, 0)), some (.inr (11, 0)), some (.inl v3)] [] s =
  if 0 ≤ (jw (v3 + 1)) ∧ (jw (v3 + 1)) < (s 72 1 0) then
    if 0 ≤ (jw (v3 + 2)) ∧ (jw (v3 + 2)) < (s 72 1 0) then
      jbI (jq 16 [.inr (10, 0), .inl (s 72 0 (Int.toNat (jw (v3 + 1)))), .inl (s 72 0 (Int.toNat (jw (v3 + 2))))] s) fun x1 s1 =>
      if 0 ≤ (jw (v3 + 1)) ∧ (jw (v3 + 1)) < (s1 72 1 0) then
        if 0 ≤ (jw (v3 + 2)) ∧ (jw (v3 + 2)) < (s1 72 1 0) then
          jbI (jq 244 [.inr (11, 0), .inl (s1 72 0 (Int.toNat (jw (v3 + 1)))), .inl (s1 72 0 (Int.toNat (jw (v3 + 2))))] s1) fun x2 s2 =>
          if x1 = x2 then
            je 400 1524 [some (.inr (72, 0)), some (.inr (10, 0)), some (.inr (11, 0)), some (.inl v3)] [] s2
          else
            some (some (.inl 0), s2)
        else
          none
      else
        none
    else
      none
  else
    none := (jev_rg jcy_400 (fun q => Nat.beq q 18 || Nat.beq q 200 || Nat.beq q 233 || Nat.beq q 286 || Nat.beq q 329 || Nat.beq q 362 || Nat.beq q 415 || Nat.beq q 458 || Nat.beq q 501 || Nat.beq q 554 || Nat.beq q 587 || Nat.beq q 630 || Nat.beq q 673 || Nat.beq q 706 || Nat.beq q 739 || Nat.beq q 772 || Nat.beq q 825 || Nat.beq q 848 || Nat.beq q 881 || Nat.beq q 914 || Nat.beq q 947 || Nat.beq q 990 || Nat.beq q 1033 || Nat.beq q 1076 || Nat.beq q 1129 || Nat.beq q 1162 || Nat.beq q 1205 || Nat.beq q 1238 || Nat.beq q 1281 || Nat.beq q 1314 || Nat.beq q 1347 || Nat.beq q 1380 || Nat.beq q 1413 || Nat.beq q 1426 || Nat.beq q 1449 || Nat.beq q 1462 || Nat.beq q 1475 || Nat.beq q 1488 || Nat.beq q 1501 || Nat.beq q 1524) 27 848 _ _ _).trans rfl
set_option maxRecDepth 100000 in
theorem be_400_881 (v3 : Int) (s : jM) : je 400 881 [some (.inr (72, 0)), some (.inr (10, 0)), some (.inr (11, 0)), some (.inl v3)] [] s =
  if 0 ≤ (jw (v3 + 1)) ∧ (jw (v3 + 1)) < (s 72 1 0) then
    if 0 ≤ (jw (v3 + 2)) ∧ (jw (v3 + 2)) < (s 72 1 0) then
      jbI (jq 17 [.inr (10, 0), .inl (s 72 0 (Int.toNat (jw (v3 + 1)))), .inl (s 72 0 (Int.toNat (jw (v3 + 2))))] s) fun x1 s1 =>
      if 0 ≤ (jw (v3 + 1)) ∧ (jw (v3 + 1)) < (s1 72 1 0) then
        if 0 ≤ (jw (v3 + 2)) ∧ (jw (v3 + 2)) < (s1 72 1 0) then
          jbI (jq 245 [.inr (11, 0), .inl (s1 72 0 (Int.toNat (jw (v3 + 1)))), .inl (s1 72 0 (Int.toNat (jw (v3 + 2))))] s1) fun x2 s2 =>
          if x1 = x2 then
            je 400 1524 [some (.inr (72, 0)), some (.inr (10, 0)), some (.inr (11, 0)), some (.inl v3)] [] s2
          else
            some (some (.inl 0), s2)
        else
          none
      else
        none
    else
      none
  else
    none := (jev_rg jcy_400 (fun q => Nat.beq q 18 || Nat.beq q 200 || Nat.beq q 233 || Nat.beq q 286 || Nat.beq q 329 || Nat.beq q 362 || Nat.beq q 415 || Nat.beq q 458 || Nat.beq q 501 || Nat.beq q 554 || Nat.beq q 587 || Nat.beq q 630 || Nat.beq q 673 || Nat.beq q 706 || Nat.beq q 739 || Nat.beq q 772 || Nat.beq q 825 || Nat.beq q 848 || Nat.beq q 881 || Nat.beq q 914 || Nat.beq q 947 || Nat.beq q 990 || Nat.beq q 1033 || Nat.beq q 1076 || Nat.beq q 1129 || Nat.beq q 1162 || Nat.beq q 1205 || Nat.beq q 1238 || Nat.beq q 1281 || Nat.beq q 1314 || Nat.beq q 1347 || Nat.beq q 1380 || Nat.beq q 1413 || Nat.beq q 1426 || Nat.beq q 1449 || Nat.beq q 1462 || Nat.beq q 1475 || Nat.beq q 1488 || Nat.beq q 1501 || Nat.beq q 1524) 27 881 _ _ _).trans rfl
set_option maxRecDepth 100000 in
theorem be_400_914 (v3 : Int) (s : jM) : je 400 914 [some (.inr (72, 0)), some (.inr (10, 0)), some (.inr (11, 0)), some (.inl v3)] [] s =
  if 0 ≤ (jw (v3 + 1)) ∧ (jw (v3 + 1)) < (s 72 1 0) then
    if 0 ≤ (jw (v3 + 2)) ∧ (jw (v3 + 2)) < (s 72 1 0) then
      jbI (jq 18 [.inr (10, 0), .inl (s 72 0 (Int.toNat (jw (v3 + 1)))), .inl (s 72 0 (Int.toNat (jw (v3 + 2))))] s) fun x1 s1 =>
      if 0 ≤ (jw (v3 + 1)) ∧ (jw (v3 + 1)) < (s1 72 1 0) then
        if 0 ≤ (jw (v3 + 2)) ∧ (jw (v3 + 2)) < (s1 72 1 0) then
          jbI (jq 248 [.inr (11, 0), .inl (s1 72 0 (Int.toNat (jw (v3 + 1)))), .inl (s1 72 0 (Int.toNat (jw (v3 + 2))))] s1) fun x2 s2 =>
          if x1 = x2 then
            je 400 1524 [some (.inr (72, 0)), some (.inr (10, 0)), some (.inr (11, 0)), some (.inl v3)] [] s2
          else
            some (some (.inl 0), s2)
        else
          none
      else
        none
    else
      none
  else
    none := (jev_rg jcy_400 (fun q => Nat.beq q 18 || Nat.beq q 200 || Nat.beq q 233 || Nat.beq q 286 || Nat.beq q 329 || Nat.beq q 362 || Nat.beq q 415 || Nat.beq q 458 || Nat.beq q 501 || Nat.beq q 554 || Nat.beq q 587 || Nat.beq q 630 || Nat.beq q 673 || Nat.beq q 706 || Nat.beq q 739 || Nat.beq q 772 || Nat.beq q 825 || Nat.beq q 848 || Nat.beq q 881 || Nat.beq q 914 || Nat.beq q 947 || Nat.beq q 990 || Nat.beq q 1033 || Nat.beq q 1076 || Nat.beq q 1129 || Nat.beq q 1162 || Nat.beq q 1205 || Nat.beq q 1238 || Nat.beq q 1281 || Nat.beq q 1314 || Nat.beq q 1347 || Nat.beq q 1380 || Nat.beq q 1413 || Nat.beq q 1426 || Nat.beq q 1449 || Nat.beq q 1462 || Nat.beq q 1475 || Nat.beq q 1488 || Nat.beq q 1501 || Nat.beq q 1524) 27 914 _ _ _).trans rfl
set_option maxRecDepth 100000 in
theorem be_400_947 (v3 : Int) (s : jM) : je 400 947 [some (.inr (72, 0)), some (.inr (10, 0)), some (.inr (11, 0)), some (.inl v3)] [] s =
  if 0 ≤ (jw (v3 + 1)) ∧ (jw (v3 + 1)) < (s 72 1 0) then
    if 0 ≤ (jw (v3 + 2)) ∧ (jw (v3 + 2)) < (s 72 1 0) then
      if 0 ≤ (jw (v3 + 3)) ∧ (jw (v3 + 3)) < (s 72 1 0) then
        jbI (jq 19 [.inr (10, 0), .inl (s 72 0 (Int.toNat (jw (v3 + 1)))), .inl (s 72 0 (Int.toNat (jw (v3 + 2)))), .inl (s 72 0 (Int.toNat (jw (v3 + 3))))] s) fun x1 s1 =>
        if 0 ≤ (jw (v3 + 1)) ∧ (jw (v3 + 1)) < (s1 72 1 0) then
          if 0 ≤ (jw (v3 + 2)) ∧ (jw (v3 + 2)) < (s1 72 1 0) then
            if 0 ≤ (jw (v3 + 3)) ∧ (jw (v3 + 3)) < (s1 72 1 0) then
              jbI (jq 250 [.inr (11, 0), .inl (s1 72 0 (Int.toNat (jw (v3 + 1)))), .inl (s1 72 0 (Int.toNat (jw (v3 + 2)))), .inl (s1 72 0 (Int.toNat (jw (v3 + 3))))] s1) fun x2 s2 =>
              if x1 = x2 then
                je 400 1524 [some (.inr (72, 0)), some (.inr (10, 0)), some (.inr (11, 0)), some (.inl v3)] [] s2
              else
                some (some (.inl 0), s2)
            else
              none
          else
            none
        else
          none
      else
        none
    else
      none
  else
    none := (jev_rg jcy_400 (fun q => Nat.beq q 18 || Nat.beq q 200 || Nat.beq q 233 || Nat.beq q 286 || Nat.beq q 329 || Nat.beq q 362 || Nat.beq q 415 || Nat.beq q 458 || Nat.beq q 501 || Nat.beq q 554 || Nat.beq q 587 || Nat.beq q 630 || Nat.beq q 673 || Nat.beq q 706 || Nat.beq q 739 || Nat.beq q 772 || Nat.beq q 825 || Nat.beq q 848 || Nat.beq q 881 || Nat.beq q 914 || Nat.beq q 947 || Nat.beq q 990 || Nat.beq q 1033 || Nat.beq q 1076 || Nat.beq q 1129 || Nat.beq q 1162 || Nat.beq q 1205 || Nat.beq q 1238 || Nat.beq q 1281 || Nat.beq q 1314 || Nat.beq q 1347 || Nat.beq q 1380 || Nat.beq q 1413 || Nat.beq q 1426 || Nat.beq q 1449 || Nat.beq q 1462 || Nat.beq q 1475 || Nat.beq q 1488 || Nat.beq q 1501 || Nat.beq q 1524) 37 947 _ _ _).trans rfl
set_option maxRecDepth 100000 in
theorem be_400_990 (v3 : Int) (s : jM) : je 400 990 [some (.inr (72, 0)), some (.inr (10, 0)), some (.inr (11, 0)), some (.inl v3)] [] s =
  if 0 ≤ (jw (v3 + 1)) ∧ (jw (v3 + 1)) < (s 72 1 0) then
    if 0 ≤ (jw (v3 + 2)) ∧ (jw (v3 + 2)) < (s 72 1 0) then
      if 0 ≤ (jw (v3 + 3)) ∧ (jw (v3 + 3)) < (s 72 1 0) then
        jbI (jq 20 [.inr (10, 0), .inl (s 72 0 (Int.toNat (jw (v3 + 1)))), .inl (s 72 0 (Int.toNat (jw (v3 + 2)))), .inl (s 72 0 (Int.toNat (jw (v3 + 3))))] s) fun x1 s1 =>
        if 0 ≤ (jw (v3 + 1)) ∧ (jw (v3 + 1)) < (s1 72 1 0) then
          if 0 ≤ (jw (v3 + 2)) ∧ (jw (v3 + 2)) < (s1 72 1 0) then
            if 0 ≤ (jw (v3 + 3)) ∧ (jw (v3 + 3)) < (s1 72 1 0) then
              jbI (jq 251 [.inr (11, 0), .inl (s1 72 0 (Int.toNat (jw (v3 + 1)))), .inl (s1 72 0 (Int.toNat (jw (v3 + 2)))), .inl (s1 72 0 (Int.toNat (jw (v3 + 3))))] s1) fun x2 s2 =>
              if x1 = x2 then
                je 400 1524 [some (.inr (72, 0)), some (.inr (10, 0)), some (.inr (11, 0)), some (.inl v3)] [] s2
              else
                some (some (.inl 0), s2)
            else
              none
          else
            none
        else
          none
      else
        none
    else
      none
  else
    none := (jev_rg jcy_400 (fun q => Nat.beq q 18 || Nat.beq q 200 || Nat.beq q 233 || Nat.beq q 286 || Nat.beq q 329 || Nat.beq q 362 || Nat.beq q 415 || Nat.beq q 458 || Nat.beq q 501 || Nat.beq q 554 || Nat.beq q 587 || Nat.beq q 630 || Nat.beq q 673 || Nat.beq q 706 || Nat.beq q 739 || Nat.beq q 772 || Nat.beq q 825 || Nat.beq q 848 || Nat.beq q 881 || Nat.beq q 914 || Nat.beq q 947 || Nat.beq q 990 || Nat.beq q 1033 || Nat.beq q 1076 || Nat.beq q 1129 || Nat.beq q 1162 || Nat.beq q 1205 || Nat.beq q 1238 || Nat.beq q 1281 || Nat.beq q 1314 || Nat.beq q 1347 || Nat.beq q 1380 || Nat.beq q 1413 || Nat.beq q 1426 || Nat.beq q 1449 || Nat.beq q 1462 || Nat.beq q 1475 || Nat.beq q 1488 || Nat.beq q 1501 || Nat.beq q 1524) 37 990 _ _ _).trans rfl
set_option maxRecDepth 100000 in
theorem be_400_1033 (v3 : Int) (s : jM) : je 400 1033 [some (.inr (72, 0)), some (.inr (10, 0)), some (.inr (11, 0)), some (.inl v3)] [] s =
  if 0 ≤ (jw (v3 + 1)) ∧ (jw (v3 + 1)) < (s 72 1 0) then
    if 0 ≤ (jw (v3 + 2)) ∧ (jw (v3 + 2)) < (s 72 1 0) then
      if 0 ≤ (jw (v3 + 3)) ∧ (jw (v3 + 3)) < (s 72 1 0) then
        jbI (jq 21 [.inr (10, 0), .inl (s 72 0 (Int.toNat (jw (v3 + 1)))), .inl (s 72 0 (Int.toNat (jw (v3 + 2)))), .inl (s 72 0 (Int.toNat (jw (v3 + 3))))] s) fun x1 s1 =>
        if 0 ≤ (jw (v3 + 1)) ∧ (jw (v3 + 1)) < (s1 72 1 0) then
          if 0 ≤ (jw (v3 + 2)) ∧ (jw (v3 + 2)) < (s1 72 1 0) then
            if 0 ≤ (jw (v3 + 3)) ∧ (jw (v3 + 3)) < (s1 72 1 0) then
              jbI (jq 252 [.inr (11, 0), .inl (s1 72 0 (Int.toNat (jw (v3 + 1)))), .inl (s1 72 0 (Int.toNat (jw (v3 + 2)))), .inl (s1 72 0 (Int.toNat (jw (v3 + 3))))] s1) fun x2 s2 =>
              if x1 = x2 then
                je 400 1524 [some (.inr (72, 0)), some (.inr (10, 0)), some (.inr (11, 0)), some (.inl v3)] [] s2
              else
                some (some (.inl 0), s2)
            else
              none
          else
            none
        else
          none
      else
        none
    else
      none
  else
    none := (jev_rg jcy_400 (fun q => Nat.beq q 18 || Nat.beq q 200 || Nat.beq q 233 || Nat.beq q 286 || Nat.beq q 329 || Nat.beq q 362 || Nat.beq q 415 || Nat.beq q 458 || Nat.beq q 501 || Nat.beq q 554 || Nat.beq q 587 || Nat.beq q 630 || Nat.beq q 673 || Nat.beq q 706 || Nat.beq q 739 || Nat.beq q 772 || Nat.beq q 825 || Nat.beq q 848 || Nat.beq q 881 || Nat.beq q 914 || Nat.beq q 947 || Nat.beq q 990 || Nat.beq q 1033 || Nat.beq q 1076 || Nat.beq q 1129 || Nat.beq q 1162 || Nat.beq q 1205 || Nat.beq q 1238 || Nat.beq q 1281 || Nat.beq q 1314 || Nat.beq q 1347 || Nat.beq q 1380 || Nat.beq q 1413 || Nat.beq q 1426 || Nat.beq q 1449 || Nat.beq q 1462 || Nat.beq q 1475 || Nat.beq q 1488 || Nat.beq q 1501 || Nat.beq q 1524) 37 1033 _ _ _).trans rfl
set_option maxRecDepth 100000 in
theorem be_400_1076 (v3 : Int) (s : jM) : je 400 1076 [some (.inr (72, 0)), some (.inr (10, 0)), some (.inr (11, 0)), some (.inl v3)] [] s =
  if 0 ≤ (jw (v3 + 1)) ∧ (jw (v3 + 1)) < (s 72 1 0) then
    if 0 ≤ (jw (v3 + 2)) ∧ (jw (v3 + 2)) < (s 72 1 0) then
      if 0 ≤ (jw (v3 + 3)) ∧ (jw (v3 + 3)) < (s 72 1 0) then
        if 0 ≤ (jw (v3 + 4)) ∧ (jw (v3 + 4)) < (s 72 1 0) then
          jbI (jq 22 [.inr (10, 0), .inl (s 72 0 (Int.toNat (jw (v3 + 1)))), .inl (s 72 0 (Int.toNat (jw (v3 + 2)))), .inl (s 72 0 (Int.toNat (jw (v3 + 3)))), .inl (s 72 0 (Int.toNat (jw (v3 + 4))))] s) fun x1 s1 =>
          if 0 ≤ (jw (v3 + 1)) ∧ (jw (v3 + 1)) < (s1 72 1 0) then
            if 0 ≤ (jw (v3 + 2)) ∧ (jw (v3 + 2)) < (s1 72 1 0) then
              if 0 ≤ (jw (v3 + 3)) ∧ (jw (v3 + 3)) < (s1 72 1 0) then
                if 0 ≤ (jw (v3 + 4)) ∧ (jw (v3 + 4)) < (s1 72 1 0) then
                  jbI (jq 253 [.inr (11, 0), .inl (s1 72 0 (Int.toNat (jw (v3 + 1)))), .inl (s1 72 0 (Int.toNat (jw (v3 + 2)))), .inl (s1 72 0 (Int.toNat (jw (v3 + 3)))), .inl (s1 72 0 (Int.toNat (jw (v3 + 4))))] s1) fun x2 s2 =>
                  if x1 = x2 then
                    je 400 1524 [some (.inr (72, 0)), some (.inr (10, 0)), some (.inr (11, 0)), some (.inl v3)] [] s2
                  else
                    some (some (.inl 0), s2)
                else
                  none
              else
                none
            else
              none
          else
            none
        else
          none
      else
        none
    else
      none
  else
    none := (jev_rg jcy_400 (fun q => Nat.beq q 18 || Nat.beq q 200 || Nat.beq q 233 || Nat.beq q 286 || Nat.beq q 329 || Nat.beq q 362 || Nat.beq q 415 || Nat.beq q 458 || Nat.beq q 501 || Nat.beq q 554 || Nat.beq q 587 || Nat.beq q 630 || Nat.beq q 673 || Nat.beq q 706 || Nat.beq q 739 || Nat.beq q 772 || Nat.beq q 825 || Nat.beq q 848 || Nat.beq q 881 || Nat.beq q 914 || Nat.beq q 947 || Nat.beq q 990 || Nat.beq q 1033 || Nat.beq q 1076 || Nat.beq q 1129 || Nat.beq q 1162 || Nat.beq q 1205 || Nat.beq q 1238 || Nat.beq q 1281 || Nat.beq q 1314 || Nat.beq q 1347 || Nat.beq q 1380 || Nat.beq q 1413 || Nat.beq q 1426 || Nat.beq q 1449 || Nat.beq q 1462 || Nat.beq q 1475 || Nat.beq q 1488 || Nat.beq q 1501 || Nat.beq q 1524) 47 1076 _ _ _).trans rfl
set_option maxRecDepth 100000 in
theorem be_400_1129 (v3 : Int) (s : jM) : je 400 1129 [some (.inr (72, 0)), some (.inr (10, 0)), some (.inr (11, 0)), some (.inl v3)] [] s =
  if 0 ≤ (jw (v3 + 1)) ∧ (jw (v3 + 1)) < (s 72 1 0) then
    if 0 ≤ (jw (v3 + 2)) ∧ (jw (v3 + 2)) < (s 72 1 0) then
      jbI (jq 23 [.inr (10, 0), .inl (s 72 0 (Int.toNat (jw (v3 + 1)))), .inl (s 72 0 (Int.toNat (jw (v3 + 2))))] s) fun x1 s1 =>
      if 0 ≤ (jw (v3 + 1)) ∧ (jw (v3 + 1)) < (s1 72 1 0) then
        if 0 ≤ (jw (v3 + 2)) ∧ (jw (v3 + 2)) < (s1 72 1 0) then
          jbI (jq 254 [.inr (11, 0), .inl (s1 72 0 (Int.toNat (jw (v3 + 1)))), .inl (s1 72 0 (Int.toNat (jw (v3 + 2))))] s1) fun x2 s2 =>
          if x1 = x2 then
            je 400 1524 [some (.inr (72, 0)), some (.inr (10, 0)), some (.inr (11, 0)), some (.inl v3)] [] s2
          else
            some (some (.inl 0), s2)
        else
          none
      else
        none
    else
      none
  else
    none := (jev_rg jcy_400 (fun q => Nat.beq q 18 || Nat.beq q 200 || Nat.beq q 233 || Nat.beq q 286 || Nat.beq q 329 || Nat.beq q 362 || Nat.beq q 415 || Nat.beq q 458 || Nat.beq q 501 || Nat.beq q 554 || Nat.beq q 587 || Nat.beq q 630 || Nat.beq q 673 || Nat.beq q 706 || Nat.beq q 739 || Nat.beq q 772 || Nat.beq q 825 || Nat.beq q 848 || Nat.beq q 881 || Nat.beq q 914 || Nat.beq q 947 || Nat.beq q 990 || Nat.beq q 1033 || Nat.beq q 1076 || Nat.beq q 1129 || Nat.beq q 1162 || Nat.beq q 1205 || Nat.beq q 1238 || Nat.beq q 1281 || Nat.beq q 1314 || Nat.beq q 1347 || Nat.beq q 1380 || Nat.beq q 1413 || Nat.beq q 1426 || Nat.beq q 1449 || Nat.beq q 1462 || Nat.beq q 1475 || Nat.beq q 1488 || Nat.beq q 1501 || Nat.beq q 1524) 27 1129 _ _ _).trans rfl
set_option maxRecDepth 100000 in
theorem be_400_1162 (v3 : Int) (s : jM) : je 400 1162 [some (.inr (72, 0)), some (.inr (10, 0)), some (.inr (11, 0)), some (.inl v3)] [] s =
  if 0 ≤ (jw (v3 + 1)) ∧ (jw (v3 + 1)) < (s 72 1 0) then
    if 0 ≤ (jw (v3 + 2)) ∧ (jw (v3 + 2)) < (s 72 1 0) then
      if 0 ≤ (jw (v3 + 3)) ∧ (jw (v3 + 3)) < (s 72 1 0) then
        jbI (jq 24 [.inr (10, 0), .inl (s 72 0 (Int.toNat (jw (v3 + 1)))), .inl (s 72 0 (Int.toNat (jw (v3 + 2)))), .inl (s 72 0 (Int.toNat (jw (v3 + 3))))] s) fun x1 s1 =>
        if 0 ≤ (jw (v3 + 1)) ∧ (jw (v3 + 1)) < (s1 72 1 0) then
          if 0 ≤ (jw (v3 + 2)) ∧ (jw (v3 + 2)) < (s1 72 1 0) then
            if 0 ≤ (jw (v3 + 3)) ∧ (jw (v3 + 3)) < (s1 72 1 0) then
              jbI (jq 255 [.inr (11, 0), .inl (s1 72 0 (Int.toNat (jw (v3 + 1)))), .inl (s1 72 0 (Int.toNat (jw (v3 + 2)))), .inl (s1 72 0 (Int.toNat (jw (v3 + 3))))] s1) fun x2 s2 =>
              if x1 = x2 then
                je 400 1524 [some (.inr (72, 0)), some (.inr (10, 0)), some (.inr (11, 0)), some (.inl v3)] [] s2
              else
                some (some (.inl 0), s2)
            else
              none
          else
            none
        else
          none
      else
        none
    else
      none
  else
    none := (jev_rg jcy_400 (fun q => Nat.beq q 18 || Nat.beq q 200 || Nat.beq q 233 || Nat.beq q 286 || Nat.beq q 329 || Nat.beq q 362 || Nat.beq q 415 || Nat.beq q 458 || Nat.beq q 501 || Nat.beq q 554 || Nat.beq q 587 || Nat.beq q 630 || Nat.beq q 673 || Nat.beq q 706 || Nat.beq q 739 || Nat.beq q 772 || Nat.beq q 825 || Nat.beq q 848 || Nat.beq q 881 || Nat.beq q 914 || Nat.beq q 947 || Nat.beq q 990 || Nat.beq q 1033 || Nat.beq q 1076 || Nat.beq q 1129 || Nat.beq q 1162 || Nat.beq q 1205 || Nat.beq q 1238 || Nat.beq q 1281 || Nat.beq q 1314 || Nat.beq q 1347 || Nat.beq q 1380 || Nat.beq q 1413 || Nat.beq q 1426 || Nat.beq q 1449 || Nat.beq q 1462 || Nat.beq q 1475 || Nat.beq q 1488 || Nat.beq q 1501 || Nat.beq q 1524) 37 1162 _ _ _).trans rfl
set_option maxRecDepth 100000 in
theorem be_400_1205 (v3 : Int) (s : jM) : je 400 1205 [some (.inr (72, 0)), some (.inr (10, 0)), some (.inr (11, 0)), some (.inl v3)] [] s =
  if 0 ≤ (jw (v3 + 1)) ∧ (jw (v3 + 1)) < (s 72 1 0) then
    if 0 ≤ (jw (v3 + 2)) ∧ (jw (v3 + 2)) < (s 72 1 0) then
      jbI (jq 25 [.inr (10, 0), .inl (s 72 0 (Int.toNat (jw (v3 + 1)))), .inl (s 72 0 (Int.toNat (jw (v3 + 2))))] s) fun x1 s1 =>
      if 0 ≤ (jw (v3 + 1)) ∧ (jw (v3 + 1)) < (s1 72 1 0) then
        if 0 ≤ (jw (v3 + 2)) ∧ (jw (v3 + 2)) < (s1 72 1 0) then
          jbI (jq 256 [.inr (11, 0), .inl (s1 72 0 (Int.toNat (jw (v3 + 1)))), .inl (s1 72 0 (Int.toNat (jw (v3 + 2))))] s1) fun x2 s2 =>
          if x1 = x2 then
            je 400 1524 [some (.inr (72, 0)), some (.inr (10, 0)), some (.inr (11, 0)), some (.inl v3)] [] s2
          else
            some (some (.inl 0), s2)
        else
          none
      else
        none
    else
      none
  else
    none := (jev_rg jcy_400 (fun q => Nat.beq q 18 || Nat.beq q 200 || Nat.beq q 233 || Nat.beq q 286 || Nat.beq q 329 || Nat.beq q 362 || Nat.beq q 415 || Nat.beq q 458 || Nat.beq q 501 || Nat.beq q 554 || Nat.beq q 587 || Nat.beq q 630 || Nat.beq q 673 || Nat.beq q 706 || Nat.beq q 739 || Nat.beq q 772 || Nat.beq q 825 || Nat.beq q 848 || Nat.beq q 881 || Nat.beq q 914 || Nat.beq q 947 || Nat.beq q 990 || Nat.beq q 1033 || Nat.beq q 1076 || Nat.beq q 1129 || Nat.beq q 1162 || Nat.beq q 1205 || Nat.beq q 1238 || Nat.beq q 1281 || Nat.beq q 1314 || Nat.beq q 1347 || Nat.beq q 1380 || Nat.beq q 1413 || Nat.beq q 1426 || Nat.beq q 1449 || Nat.beq q 1462 || Nat.beq q 1475 || Nat.beq q 1488 || Nat.beq q 1501 || Nat.beq q 1524) 27 1205 _ _ _).trans rfl
set_option maxRecDepth 100000 in
theorem be_400_1238 (v3 : Int) (s : jM) : je 400 1238 [some (.inr (72, 0)), some (.inr (10, 0)), some (.inr (11, 0)), some (.inl v3)] [] s =
  if 0 ≤ (jw (v3 + 1)) ∧ (jw (v3 + 1)) < (s 72 1 0) then
    if 0 ≤ (jw (v3 + 2)) ∧ (jw (v3 + 2)) < (s 72 1 0) then
      if 0 ≤ (jw (v3 + 3)) ∧ (jw (v3 + 3)) < (s 72 1 0) then
        jbI (jq 26 [.inr (10, 0), .inl (s 72 0 (Int.toNat (jw (v3 + 1)))), .inl (s 72 0 (Int.toNat (jw (v3 + 2)))), .inl (s 72 0 (Int.toNat (jw (v3 + 3))))] s) fun x1 s1 =>
        if 0 ≤ (jw (v3 + 1)) ∧ (jw (v3 + 1)) < (s1 72 1 0) then
          if 0 ≤ (jw (v3 + 2)) ∧ (jw (v3 + 2)) < (s1 72 1 0) then
            if 0 ≤ (jw (v3 + 3)) ∧ (jw (v3 + 3)) < (s1 72 1 0) then
              jbI (jq 257 [.inr (11, 0), .inl (s1 72 0 (Int.toNat (jw (v3 + 1)))), .inl (s1 72 0 (Int.toNat (jw (v3 + 2)))), .inl (s1 72 0 (Int.toNat (jw (v3 + 3))))] s1) fun x2 s2 =>
              if x1 = x2 then
                je 400 1524 [some (.inr (72, 0)), some (.inr (10, 0)), some (.inr (11, 0)), some (.inl v3)] [] s2
              else
                some (some (.inl 0), s2)
            else
              none
          else
            none
        else
          none
      else
        none
    else
      none
  else
    none := (jev_rg jcy_400 (fun q => Nat.beq q 18 || Nat.beq q 200 || Nat.beq q 233 || Nat.beq q 286 || Nat.beq q 329 || Nat.beq q 362 || Nat.beq q 415 || Nat.beq q 458 || Nat.beq q 501 || Nat.beq q 554 || Nat.beq q 587 || Nat.beq q 630 || Nat.beq q 673 || Nat.beq q 706 || Nat.beq q 739 || Nat.beq q 772 || Nat.beq q 825 || Nat.beq q 848 || Nat.beq q 881 || Nat.beq q 914 || Nat.beq q 947 || Nat.beq q 990 || Nat.beq q 1033 || Nat.beq q 1076 || Nat.beq q 1129 || Nat.beq q 1162 || Nat.beq q 1205 || Nat.beq q 1238 || Nat.beq q 1281 || Nat.beq q 1314 || Nat.beq q 1347 || Nat.beq q 1380 || Nat.beq q 1413 || Nat.beq q 1426 || Nat.beq q 1449 || Nat.beq q 1462 || Nat.beq q 1475 || Nat.beq q 1488 || Nat.beq q 1501 || Nat.beq q 1524) 37 1238 _ _ _).trans rfl
set_option maxRecDepth 100000 in
theorem be_400_1281 (v3 : Int) (s : jM) : je 400 1281 [some (.inr (72, 0)), some (.inr (10, 0)), some (.inr (11, 0)), some (.inl v3)] [] s =
  if 0 ≤ (jw (v3 + 1)) ∧ (jw (v3 + 1)) < (s 72 1 0) then
    if 0 ≤ (jw (v3 + 2)) ∧ (jw (v3 + 2)) < (s 72 1 0) then
      jbI (jq 27 [.inr (10, 0), .inl (s 72 0 (Int.toNat (jw (v3 + 1)))), .inl (s 72 0 (Int.toNat (jw (v3 + 2))))] s) fun x1 s1 =>
      if 0 ≤ (jw (v3 + 1)) ∧ (jw (v3 + 1)) < (s1 72 1 0) then
        if 0 ≤ (jw (v3 + 2)) ∧ (jw (v3 + 2)) < (s1 72 1 0) then
          jbI (jq 258 [.inr (11, 0), .inl (s1 72 0 (Int.toNat (jw (v3 + 1)))), .inl (s1 72 0 (Int.toNat (jw (v3 + 2))))] s1) fun x2 s2 =>
          if x1 = x2 then
            je 400 1524 [some (.inr (72, 0)), some (.inr (10, 0)), some (.inr (11, 0)), some (.inl v3)] [] s2
          else
            some (some (.inl 0), s2)
        else
          none
      else
        none
    else
      none
  else
    none := (jev_rg jcy_400 (fun q => Nat.beq q 18 || Nat.beq q 200 || Nat.beq q 233 || Nat.beq q 286 || Nat.beq q 329 || Nat.beq q 362 || Nat.beq q 415 || Nat.beq q 458 || Nat.beq q 501 || Nat.beq q 554 || Nat.beq q 587 || Nat.beq q 630 || Nat.beq q 673 || Nat.beq q 706 || Nat.beq q 739 || Nat.beq q 772 || Nat.beq q 825 || Nat.beq q 848 || Nat.beq q 881 || Nat.beq q 914 || Nat.beq q 947 || Nat.beq q 990 || Nat.beq q 1033 || Nat.beq q 1076 || Nat.beq q 1129 || Nat.beq q 1162 || Nat.beq q 1205 || Nat.beq q 1238 || Nat.beq q 1281 || Nat.beq q 1314 || Nat.beq q 1347 || Nat.beq q 1380 || Nat.beq q 1413 || Nat.beq q 1426 || Nat.beq q 1449 || Nat.beq q 1462 || Nat.beq q 1475 || Nat.beq q 1488 || Nat.beq q 1501 || Nat.beq q 1524) 27 1281 _ _ _).trans rfl
set_option maxRecDepth 100000 in
theorem be_400_1314 (v3 : Int) (s : jM) : je 400 1314 [some (.inr (72, 0)), some (.inr (10, 0)), some (.inr (11, 0)), some (.inl v3)] [] s =
  if 0 ≤ (jw (v3 + 1)) ∧ (jw (v3 + 1)) < (s 72 1 0) then
    if 0 ≤ (jw (v3 + 2)) ∧ (jw (v3 + 2)) < (s 72 1 0) then
      jbI (jq 28 [.inr (10, 0), .inl (s 72 0 (Int.toNat (jw (v3 + 1)))), .inl (s 72 0 (Int.toNat (jw (v3 + 2))))] s) fun x1 s1 =>
      if 0 ≤ (jw (v3 + 1)) ∧ (jw (v3 + 1)) < (s1 72 1 0) then
        if 0 ≤ (jw (v3 + 2)) ∧ (jw (v3 + 2)) < (s1 72 1 0) then
          jbI (jq 259 [.inr (11, 0), .inl (s1 72 0 (Int.toNat (jw (v3 + 1)))), .inl (s1 72 0 (Int.toNat (jw (v3 + 2))))] s1) fun x2 s2 =>
          if x1 = x2 then
            je 400 1524 [some (.inr (72, 0)), some (.inr (10, 0)), some (.inr (11, 0)), some (.inl v3)] [] s2
          else
            some (some (.inl 0), s2)
        else
          none
      else
        none
    else
      none
  else
    none := (jev_rg jcy_400 (fun q => Nat.beq q 18 || Nat.beq q 200 || Nat.beq q 233 || Nat.beq q 286 || Nat.beq q 329 || Nat.beq q 362 || Nat.beq q 415 || Nat.beq q 458 || Nat.beq q 501 || Nat.beq q 554 || Nat.beq q 587 || Nat.beq q 630 || Nat.beq q 673 || Nat.beq q 706 || Nat.beq q 739 || Nat.beq q 772 || Nat.beq q 825 || Nat.beq q 848 || Nat.beq q 881 || Nat.beq q 914 || Nat.beq q 947 || Nat.beq q 990 || Nat.beq q 1033 || Nat.beq q 1076 || Nat.beq q 1129 || Nat.beq q 1162 || Nat.beq q 1205 || Nat.beq q 1238 || Nat.beq q 1281 || Nat.beq q 1314 || Nat.beq q 1347 || Nat.beq q 1380 || Nat.beq q 1413 || Nat.beq q 1426 || Nat.beq q 1449 || Nat.beq q 1462 || Nat.beq q 1475 || Nat.beq q 1488 || Nat.beq q 1501 || Nat.beq q 1524) 27 1314 _ _ _).trans rfl
set_option maxRecDepth 100000 in
theorem be_400_1347 (v3 : Int) (s : jM) : je 400 1347 [some (.inr (72, 0)), some (.inr (10, 0)), some (.inr (11, 0)), some (.inl v3)] [] s =
  if 0 ≤ (jw (v3 + 1)) ∧ (jw (v3 + 1)) < (s 72 1 0) then
    if 0 ≤ (jw (v3 + 2)) ∧ (jw (v3 + 2)) < (s 72 1 0) then
      jbI (jq 29 [.inr (10, 0), .inl (s 72 0 (Int.toNat (jw (v3 + 1)))), .inl (s 72 0 (Int.toNat (jw (v3 + 2))))] s) fun x1 s1 =>
      if 0 ≤ (jw (v3 + 1)) ∧ (jw (v3 + 1)) < (s1 72 1 0) then
        if 0 ≤ (jw (v3 + 2)) ∧ (jw (v3 + 2)) < (s1 72 1 0) then
          jbI (jq 260 [.inr (11, 0), .inl (s1 72 0 (Int.toNat (jw (v3 + 1)))), .inl (s1 72 0 (Int.toNat (jw (v3 + 2))))] s1) fun x2 s2 =>
          if x1 = x2 then
            je 400 1524 [some (.inr (72, 0)), some (.inr (10, 0)), some (.inr (11, 0)), some (.inl v3)] [] s2
          else
            some (some (.inl 0), s2)
        else
          none
      else
        none
    else
      none
  else
    none := (jev_rg jcy_400 (fun q => Nat.beq q 18 || Nat.beq q 200 || Nat.beq q 233 || Nat.beq q 286 || Nat.beq q 329 || Nat.beq q 362 || Nat.beq q 415 || Nat.beq q 458 || Nat.beq q 501 || Nat.beq q 554 || Nat.beq q 587 || Nat.beq q 630 || Nat.beq q 673 || Nat.beq q 706 || Nat.beq q 739 || Nat.beq q 772 || Nat.beq q 825 || Nat.beq q 848 || Nat.beq q 881 || Nat.beq q 914 || Nat.beq q 947 || Nat.beq q 990 || Nat.beq q 1033 || Nat.beq q 1076 || Nat.beq q 1129 || Nat.beq q 1162 || Nat.beq q 1205 || Nat.beq q 1238 || Nat.beq q 1281 || Nat.beq q 1314 || Nat.beq q 1347 || Nat.beq q 1380 || Nat.beq q 1413 || Nat.beq q 1426 || Nat.beq q 1449 || Nat.beq q 1462 || Nat.beq q 1475 || Nat.beq q 1488 || Nat.beq q 1501 || Nat.beq q 1524) 27 1347 _ _ _).trans rfl
set_option maxRecDepth 100000 in
theorem be_400_1380 (v3 : Int) (s : jM) : je 400 1380 [some (.inr (72, 0)), some (.inr (10, 0)), some (.inr (11, 0)), some (.inl v3)] [] s =
  if 0 ≤ (jw (v3 + 1)) ∧ (jw (v3 + 1)) < (s 72 1 0) then
    if 0 ≤ (jw (v3 + 2)) ∧ (jw (v3 + 2)) < (s 72 1 0) then
      jbI (jq 30 [.inr (10, 0), .inl (s 72 0 (Int.toNat (jw (v3 + 1)))), .inl (s 72 0 (Int.toNat (jw (v3 + 2))))] s) fun x1 s1 =>
      if 0 ≤ (jw (v3 + 1)) ∧ (jw (v3 + 1)) < (s1 72 1 0) then
        if 0 ≤ (jw (v3 + 2)) ∧ (jw (v3 + 2)) < (s1 72 1 0) then
          jbI (jq 264 [.inr (11, 0), .inl (s1 72 0 (Int.toNat (jw (v3 + 1)))), .inl (s1 72 0 (Int.toNat (jw (v3 + 2))))] s1) fun x2 s2 =>
          if x1 = x2 then
            je 400 1524 [some (.inr (72, 0)), some (.inr (10, 0)), some (.inr (11, 0)), some (.inl v3)] [] s2
          else
            some (some (.inl 0), s2)
        else
          none
      else
        none
    else
      none
  else
    none := (jev_rg jcy_400 (fun q => Nat.beq q 18 || Nat.beq q 200 || Nat.beq q 233 || Nat.beq q 286 || Nat.beq q 329 || Nat.beq q 362 || Nat.beq q 415 || Nat.beq q 458 || Nat.beq q 501 || Nat.beq q 554 || Nat.beq q 587 || Nat.beq q 630 || Nat.beq q 673 || Nat.beq q 706 || Nat.beq q 739 || Nat.beq q 772 || Nat.beq q 825 || Nat.beq q 848 || Nat.beq q 881 || Nat.beq q 914 || Nat.beq q 947 || Nat.beq q 990 || Nat.beq q 1033 || Nat.beq q 1076 || Nat.beq q 1129 || Nat.beq q 1162 || Nat.beq q 1205 || Nat.beq q 1238 || Nat.beq q 1281 || Nat.beq q 1314 || Nat.beq q 1347 || Nat.beq q 1380 || Nat.beq q 1413 || Nat.beq q 1426 || Nat.beq q 1449 || Nat.beq q 1462 || Nat.beq q 1475 || Nat.beq q 1488 || Nat.beq q 1501 || Nat.beq q 1524) 27 1380 _ _ _).trans rfl
set_option maxRecDepth 100000 in
theorem be_400_1413 (v3 : Int) (s : jM) : je 400 1413 [some (.inr (72, 0)), some (.inr (10, 0)), some (.inr (11, 0)), some (.inl v3)] [] s =
  jbI (jq 31 [.inr (10, 0)] s) fun x1 s1 =>
  jbI (jq 265 [.inr (11, 0)] s1) fun x2 s2 =>
  if x1 = x2 then
    je 400 1524 [some (.inr (72, 0)), some (.inr (10, 0)), some (.inr (11, 0)), some (.inl v3)] [] s2
  else
    some (some (.inl 0), s2) := (jev_rg jcy_400 (fun q => Nat.beq q 18 || Nat.beq q 200 || Nat.beq q 233 || Nat.beq q 286 || Nat.beq q 329 || Nat.beq q 362 || Nat.beq q 415 || Nat.beq q 458 || Nat.beq q 501 || Nat.beq q 554 || Nat.beq q 587 || Nat.beq q 630 || Nat.beq q 673 || Nat.beq q 706 || Nat.beq q 739 || Nat.beq q 772 || Nat.beq q 825 || Nat.beq q 848 || Nat.beq q 881 || Nat.beq q 914 || Nat.beq q 947 || Nat.beq q 990 || Nat.beq q 1033 || Nat.beq q 1076 || Nat.beq q 1129 || Nat.beq q 1162 || Nat.beq q 1205 || Nat.beq q 1238 || Nat.beq q 1281 || Nat.beq q 1314 || Nat.beq q 1347 || Nat.beq q 1380 || Nat.beq q 1413 || Nat.beq q 1426 || Nat.beq q 1449 || Nat.beq q 1462 || Nat.beq q 1475 || Nat.beq q 1488 || Nat.beq q 1501 || Nat.beq q 1524) 7 1413 _ _ _).trans rfl
set_option maxRecDepth 100000 in
theorem be_400_1426 (v3 : Int) (s : jM) : je 400 1426 [some (.inr (72, 0)), some (.inr (10, 0)), some (.inr (11, 0)), some (.inl v3)] [] s =
  if 0 ≤ (jw (v3 + 1)) ∧ (jw (v3 + 1)) < (s 72 1 0) then
    jbI (jq 32 [.inr (10, 0), .inl (s 72 0 (Int.toNat (jw (v3 + 1))))] s) fun x1 s1 =>
    if 0 ≤ (jw (v3 + 1)) ∧ (jw (v3 + 1)) < (s1 72 1 0) then
      jbI (jq 266 [.inr (11, 0), .inl (s1 72 0 (Int.toNat (jw (v3 + 1))))] s1) fun x2 s2 =>
      if x1 = x2 then
        je 400 1524 [some (.inr (72, 0)), some (.inr (10, 0)), some (.inr (11, 0)), some (.inl v3)] [] s2
      else
        some (some (.inl 0), s2)
    else
      none
  else
    none := (jev_rg jcy_400 (fun q => Nat.beq q 18 || Nat.beq q 200 || Nat.beq q 233 || Nat.beq q 286 || Nat.beq q 329 || Nat.beq q 362 || Nat.beq q 415 || Nat.beq q 458 || Nat.beq q 501 || Nat.beq q 554 || Nat.beq q 587 || Nat.beq q 630 || Nat.beq q 673 || Nat.beq q 706 || Nat.beq q 739 || Nat.beq q 772 || Nat.beq q 825 || Nat.beq q 848 || Nat.beq q 881 || Nat.beq q 914 || Nat.beq q 947 || Nat.beq q 990 || Nat.beq q 1033 || Nat.beq q 1076 || Nat.beq q 1129 || Nat.beq q 1162 || Nat.beq q 1205 || Nat.beq q 1238 || Nat.beq q 1281 || Nat.beq q 1314 || Nat.beq q 1347 || Nat.beq q 1380 || Nat.beq q 1413 || Nat.beq q 1426 || Nat.beq q 1449 || Nat.beq q 1462 || Nat.beq q 1475 || Nat.beq q 1488 || Nat.beq q 1501 || Nat.beq q 1524) 17 1426 _ _ _).trans rfl
set_option maxRecDepth 100000 in
theorem be_400_1449 (v3 : Int) (s : jM) : je 400 1449 [some (.inr (72, 0)), some (.inr (10, 0)), some (.inr (11, 0)), some (.inl v3)] [] s =
  jbI (jq 33 [.inr (10, 0)] s) fun x1 s1 =>
  jbI (jq 267 [.inr (11, 0)] s1) fun x2 s2 =>
  if x1 = x2 then
    je 400 1524 [some (.inr (72, 0)), some (.inr (10, 0)), some (.inr (11, 0)), some (.inl v3)] [] s2
  else
    some (some (.inl 0), s2) := (jev_rg jcy_400 (fun q => Nat.beq q 18 || Nat.beq q 200 || Nat.beq q 233 || Nat.beq q 286 || Nat.beq q 329 || Nat.beq q 362 || Nat.beq q 415 || Nat.beq q 458 || Nat.beq q 501 || Nat.beq q 554 || Nat.beq q 587 || Nat.beq q 630 || Nat.beq q 673 || Nat.beq q 706 || Nat.beq q 739 || Nat.beq q 772 || Nat.beq q 825 || Nat.beq q 848 || Nat.beq q 881 || Nat.beq q 914 || Nat.beq q 947 || Nat.beq q 990 || Nat.beq q 1033 || Nat.beq q 1076 || Nat.beq q 1129 || Nat.beq q 1162 || Nat.beq q 1205 || Nat.beq q 1238 || Nat.beq q 1281 || Nat.beq q 1314 || Nat.beq q 1347 || Nat.beq q 1380 || Nat.beq q 1413 || Nat.beq q 1426 || Nat.beq q 1449 || Nat.beq q 1462 || Nat.beq q 1475 || Nat.beq q 1488 || Nat.beq q 1501 || Nat.beq q 1524) 7 1449 _ _ _).trans rfl
set_option maxRecDepth 100000 in
theorem be_400_1462 (v3 : Int) (s : jM) : je 400 1462 [some (.inr (72, 0)), some (.inr (10, 0)), some (.inr (11, 0)), some (.inl v3)] [] s =
  jbI (jq 34 [.inr (10, 0)] s) fun x1 s1 =>
  jbI (jq 282 [.inr (11, 0)] s1) fun x2 s2 =>
  if x1 = x2 then
    je 400 1524 [some (.inr (72, 0)), some (.inr (10, 0)), some (.inr (11, 0)), some (.inl v3)] [] s2
  else
    some (some (.inl 0), s2) := (jev_rg jcy_400 (fun q => Nat.beq q 18 || Nat.beq q 200 || Nat.beq q 233 || Nat.beq q 286 || Nat.beq q 329 || Nat.beq q 362 || Nat.beq q 415 || Nat.beq q 458 || Nat.beq q 501 || Nat.beq q 554 || Nat.beq q 587 || Nat.beq q 630 || Nat.beq q 673 || Nat.beq q 706 || Nat.beq q 739 || Nat.beq q 772 || Nat.beq q 825 || Nat.beq q 848 || Nat.beq q 881 || Nat.beq q 914 || Nat.beq q 947 || Nat.beq q 990 || Nat.beq q 1033 || Nat.beq q 1076 || Nat.beq q 1129 || Nat.beq q 1162 || Nat.beq q 1205 || Nat.beq q 1238 || Nat.beq q 1281 || Nat.beq q 1314 || Nat.beq q 1347 || Nat.beq q 1380 || Nat.beq q 1413 || Nat.beq q 1426 || Nat.beq q 1449 || Nat.beq q 1462 || Nat.beq q 1475 || Nat.beq q 1488 || Nat.beq q 1501 || Nat.beq q 1524) 7 1462 _ _ _).trans rfl
set_option maxRecDepth 100000 in
theorem be_400_1475 (v3 : Int) (s : jM) : je 400 1475 [some (.inr (72, 0)), some (.inr (10, 0)), some (.inr (11, 0)), some (.inl v3)] [] s =
  jbI (jq 35 [.inr (10, 0)] s) fun x1 s1 =>
  jbI (jq 284 [.inr (11, 0)] s1) fun x2 s2 =>
  if x1 = x2 then
    je 400 1524 [some (.inr (72, 0)), some (.inr (10, 0)), some (.inr (11, 0)), some (.inl v3)] [] s2
  else
    some (some (.inl 0), s2) := (jev_rg jcy_400 (fun q => Nat.beq q 18 || Nat.beq q 200 || Nat.beq q 233 || Nat.beq q 286 || Nat.beq q 329 || Nat.beq q 362 || Nat.beq q 415 || Nat.beq q 458 || Nat.beq q 501 || Nat.beq q 554 || Nat.beq q 587 || Nat.beq q 630 || Nat.beq q 673 || Nat.beq q 706 || Nat.beq q 739 || Nat.beq q 772 || Nat.beq q 825 || Nat.beq q 848 || Nat.beq q 881 || Nat.beq q 914 || Nat.beq q 947 || Nat.beq q 990 || Nat.beq q 1033 || Nat.beq q 1076 || Nat.beq q 1129 || Nat.beq q 1162 || Nat.beq q 1205 || Nat.beq q 1238 || Nat.beq q 1281 || Nat.beq q 1314 || Nat.beq q 1347 || Nat.beq q 1380 || Nat.beq q 1413 || Nat.beq q 1426 || Nat.beq q 1449 || Nat.beq q 1462 || Nat.beq q 1475 || Nat.beq q 1488 || Nat.beq q 1501 || Nat.beq q 1524) 7 1475 _ _ _).trans rfl
set_option maxRecDepth 100000 in
theorem be_400_1488 (v3 : Int) (s : jM) : je 400 1488 [some (.inr (72, 0)), some (.inr (10, 0)), some (.inr (11, 0)), some (.inl v3)] [] s =
  jbI (jq 36 [.inr (10, 0)] s) fun x1 s1 =>
  jbI (jq 285 [.inr (11, 0)] s1) fun x2 s2 =>
  if x1 = x2 then
    je 400 1524 [some (.inr (72, 0)), some (.inr (10, 0)), some (.inr (11, 0)), some (.inl v3)] [] s2
  else
    some (some (.inl 0), s2) := (jev_rg jcy_400 (fun q => Nat.beq q 18 || Nat.beq q 200 || Nat.beq q 233 || Nat.beq q 286 || Nat.beq q 329 || Nat.beq q 362 || Nat.beq q 415 || Nat.beq q 458 || Nat.beq q 501 || Nat.beq q 554 || Nat.beq q 587 || Nat.beq q 630 || Nat.beq q 673 || Nat.beq q 706 || Nat.beq q 739 || Nat.beq q 772 || Nat.beq q 825 || Nat.beq q 848 || Nat.beq q 881 || Nat.beq q 914 || Nat.beq q 947 || Nat.beq q 990 || Nat.beq q 1033 || Nat.beq q 1076 || Nat.beq q 1129 || Nat.beq q 1162 || Nat.beq q 1205 || Nat.beq q 1238 || Nat.beq q 1281 || Nat.beq q 1314 || Nat.beq q 1347 || Nat.beq q 1380 || Nat.beq q 1413 || Nat.beq q 1426 || Nat.beq q 1449 || Nat.beq q 1462 || Nat.beq q 1475 || Nat.beq q 1488 || Nat.beq q 1501 || Nat.beq q 1524) 7 1488 _ _ _).trans rfl
set_option maxRecDepth 100000 in
theorem be_400_1501 (v3 : Int) (s : jM) : je 400 1501 [some (.inr (72, 0)), some (.inr (10, 0)), some (.inr (11, 0)), some (.inl v3)] [] s =
  if 0 ≤ (jw (v3 + 1)) ∧ (jw (v3 + 1)) < (s 72 1 0) then
    jbI (jq 37 [.inr (10, 0), .inl (s 72 0 (Int.toNat (jw (v3 + 1))))] s) fun x1 s1 =>
    if 0 ≤ (jw (v3 + 1)) ∧ (jw (v3 + 1)) < (s1 72 1 0) then
      jbI (jq 286 [.inr (11, 0), .inl (s1 72 0 (Int.toNat (jw (v3 + 1))))] s1) fun x2 s2 =>
      if x1 = x2 then
        je 400 1524 [some (.inr (72, 0)), some (.inr (10, 0)), some (.inr (11, 0)), some (.inl v3)] [] s2
      else
        some (some (.inl 0), s2)
    else
      none
  else
    none := (jev_rg jcy_400 (fun q => Nat.beq q 18 || Nat.beq q 200 || Nat.beq q 233 || Nat.beq q 286 || Nat.beq q 329 || Nat.beq q 362 || Nat.beq q 415 || Nat.beq q 458 || Nat.beq q 501 || Nat.beq q 554 || Nat.beq q 587 || Nat.beq q 630 || Nat.beq q 673 || Nat.beq q 706 || Nat.beq q 739 || Nat.beq q 772 || Nat.beq q 825 || Nat.beq q 848 || Nat.beq q 881 || Nat.beq q 914 || Nat.beq q 947 || Nat.beq q 990 || Nat.beq q 1033 || Nat.beq q 1076 || Nat.beq q 1129 || Nat.beq q 1162 || Nat.beq q 1205 || Nat.beq q 1238 || Nat.beq q 1281 || Nat.beq q 1314 || Nat.beq q 1347 || Nat.beq q 1380 || Nat.beq q 1413 || Nat.beq q 1426 || Nat.beq q 1449 || Nat.beq q 1462 || Nat.beq q 1475 || Nat.beq q 1488 || Nat.beq q 1501 || Nat.beq q 1524) 17 1501 _ _ _).trans rfl
set_option maxRecDepth 100000 in
theorem be_400_1524 (v3 : Int) (s : jM) : je 400 1524 [some (.inr (72, 0)), some (.inr (10, 0)), some (.inr (11, 0)), some (.inl v3)] [] s =
  je 400 18 [some (.inr (72, 0)), some (.inr (10, 0)), some (.inr (11, 0)), some (.inl (jw (v3 + 5)))] [] s := (jev_rg jcy_400 (fun q => Nat.beq q 18 || Nat.beq q 200 || Nat.beq q 233 || Nat.beq q 286 || Nat.beq q 329 || Nat.beq q 362 || Nat.beq q 415 || Nat.beq q 458 || Nat.beq q 501 || Nat.beq q 554 || Nat.beq q 587 || Nat.beq q 630 || Nat.beq q 673 || Nat.beq q 706 || Nat.beq q 739 || Nat.beq q 772 || Nat.beq q 825 || Nat.beq q 848 || Nat.beq q 881 || Nat.beq q 914 || Nat.beq q 947 || Nat.beq q 990 || Nat.beq q 1033 || Nat.beq q 1076 || Nat.beq q 1129 || Nat.beq q 1162 || Nat.beq q 1205 || Nat.beq q 1238 || Nat.beq q 1281 || Nat.beq q 1314 || Nat.beq q 1347 || Nat.beq q 1380 || Nat.beq q 1413 || Nat.beq q 1426 || Nat.beq q 1449 || Nat.beq q 1462 || Nat.beq q 1475 || Nat.beq q 1488 || Nat.beq q 1501 || Nat.beq q 1524) 3 1524 _ _ _).trans rfl
