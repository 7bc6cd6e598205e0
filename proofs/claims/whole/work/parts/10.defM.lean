def X12_four_3 : Nat → Int32 → Int32 → Mem → Option Mem
  | 0, _, _, _ => none
  | n + 1, x1, x2, σ =>
    if x2 < 0 then
      some σ
    else
      if ib (σ.1 1000 1) 1600 = true then bv (sI σ 1001 (σ.1 1000 1).toNatClampNeg ((x1 >>> (x2 &&& 31)) &&& 255)) fun σ2 =>
        bv (sI σ2 1000 1 ((σ2.1 1000 1) + 1)) fun σ3 =>
        bv (x2 + (-8) : Int32) fun v4 =>
        X12_four_3 n x1 v4 σ3
      else none
def X12_four (x1 : Int32) (σ : Mem) : Option Mem :=
  bv (24 : Int32) fun v1 =>
  X12_four_3 fu x1 v1 σ
def X12_feed (x1 : Int32) (x2 : Int32) (x3 : Int32) (x4 : Int32) (x5 : Int32) (σ : Mem) : Option (Int32 × Mem) :=
  if ((σ.1 1000 1) + 20) ≤ 1600 then
    (X12_four x1 σ).bind fun σ1 =>
    (X12_four x2 σ1).bind fun σ2 =>
    (X12_four x3 σ2).bind fun σ3 =>
    (X12_four x4 σ3).bind fun σ4 =>
    (X12_four x5 σ4).bind fun σ5 =>
    some (σ5.1 1000 1, σ5)
  else
    some ((-1), σ)
def X12_end (x1 : Int32) (σ : Mem) : Option (Int32 × Mem) :=
  if x1 < 0 then
    some ((-1), σ)
  else
    if x1 ≤ (σ.1 1000 1) then
      bv (sI σ 1000 1 x1) fun σ1 =>
      some (x1, σ1)
    else
      some ((-1), σ)
def X12_here (x1 : Int32) (σ : Mem) : Option (Int32 × Mem) :=
  if (σ.1 1000 5) ≤ ((σ.1 1000 4) + x1) then
    some ((-1), σ)
  else
    if ib ((σ.1 1000 4) + x1) 1600 = true then
      some (σ.1 1001 ((σ.1 1000 4) + x1).toNatClampNeg, σ)
    else none
def X12_isLetter (x0 : Int32) (σ : Mem) : Option (Int32 × Mem) :=
  if x0 < 97 then
    some (0, σ)
  else
    if 122 < x0 then
      some (0, σ)
    else
      some (1, σ)
def X12_isDigit (x0 : Int32) (σ : Mem) : Option (Int32 × Mem) :=
  if x0 < 48 then
    some (0, σ)
  else
    if 57 < x0 then
      some (0, σ)
    else
      some (1, σ)
def X12_isSign (x0 : Int32) (σ : Mem) : Option (Int32 × Mem) :=
  if x0 = 59 then
    some (1, σ)
  else
    if x0 = 40 then
      some (1, σ)
    else
      if x0 = 41 then
        some (1, σ)
      else
        if x0 = 60 then
          some (1, σ)
        else
          if x0 = 62 then
            some (1, σ)
          else
            if x0 = 61 then
              some (1, σ)
            else
              if x0 = 43 then
                some (1, σ)
              else
                if x0 = 45 then
                  some (1, σ)
                else
                  if x0 = 42 then
                    some (1, σ)
                  else
                    if x0 = 47 then
                      some (1, σ)
                    else
                      if x0 = 37 then
                        some (1, σ)
                      else
                        some (0, σ)
def X12_token_203 (k208 : Int32 → Int32 → Mem → Option Mem) (x2 : Int32) (σ : Mem) : Option Mem :=
  k208 x2 3 σ
def X12_token_208 (k232 : Int32 → Mem → Option Mem) (x2 : Int32) (s0 : Int32) (σ : Mem) : Option Mem :=
  bv (sI σ 1000 6 s0) fun σ27 =>
  k232 x2 σ27
def X12_token_180 (k144 : Int32 → Mem → Option Mem) (x2 : Int32) (σ : Mem) : Option Mem :=
  bv (x2 + 1 : Int32) fun v28 =>
  k144 v28 σ
def X12_token_229 (k232 : Int32 → Mem → Option Mem) (x2 : Int32) (s0 : Int32) (σ : Mem) : Option Mem :=
  bv (sI σ 1000 6 s0) fun σ15 =>
  k232 x2 σ15
def X12_token_131 (k232 : Int32 → Mem → Option Mem) (x2 : Int32) (s0 : Int32) (σ : Mem) : Option Mem :=
  bv (sI σ 1000 6 s0) fun σ29 =>
  k232 x2 σ29
def X12_token_113 (k78 : Int32 → Mem → Option Mem) (x2 : Int32) (σ : Mem) : Option Mem :=
  bv (x2 + 1 : Int32) fun v30 =>
  k78 v30 σ
def X12_token_144 (k232 : Int32 → Mem → Option Mem) : Nat → Int32 → Mem → Option Mem
  | 0, _, _ => none
  | n + 1, x2, σ =>
    (X12_here x2 σ).bind fun r16 =>
    (X12_isDigit r16.1 r16.2).bind fun r17 =>
    if r17.1 = 0 then
      if 4 < x2 then
        X12_token_203 (X12_token_208 (k232)) x2 r17.2
      else
        (X12_here x2 r17.2).bind fun r18 =>
        (X12_isLetter r18.1 r18.2).bind fun r19 =>
        if r19.1 = 0 then
          X12_token_208 (k232) x2 2 r19.2
        else
          X12_token_203 (X12_token_208 (k232)) x2 r19.2
    else
      if 4 ≤ x2 then
        X12_token_180 (X12_token_144 k232 n) x2 r17.2
      else
        (X12_here x2 r17.2).bind fun r20 =>
        bv (sI r20.2 1000 8 (((10 * (r17.2.1 1000 8)) + r20.1) - 48)) fun σ21 =>
        X12_token_180 (X12_token_144 k232 n) x2 σ21
def X12_token_78 (k232 : Int32 → Mem → Option Mem) : Nat → Int32 → Mem → Option Mem
  | 0, _, _ => none
  | n + 1, x2, σ =>
    (X12_here x2 σ).bind fun r22 =>
    (X12_isLetter r22.1 r22.2).bind fun r23 =>
    if r23.1 = 0 then
      if x2 ≤ 8 then
        X12_token_131 (k232) x2 1 r23.2
      else
        X12_token_131 (k232) x2 3 r23.2
    else
      if 8 ≤ x2 then
        X12_token_113 (X12_token_78 k232 n) x2 r23.2
      else
        (X12_here x2 r23.2).bind fun r24 =>
        bv (sL r24.2 1000 9 (((r23.2.2 1000 9) <<< ((8 : Int32).toInt64 &&& 63)) ||| r24.1.toInt64)) fun σ25 =>
        X12_token_113 (X12_token_78 k232 n) x2 σ25
def X12_token_232 (x2 : Int32) (σ : Mem) : Option Mem :=
  if (σ.1 1000 6) = 3 then
    some σ
  else
    bv (sI σ 1000 4 ((σ.1 1000 4) + x2)) fun σ26 =>
    some σ26
def X12_token_20 (k0 : Mem → Option Mem) (σ : Mem) : Option Mem :=
  bv (sI σ 1000 4 ((σ.1 1000 4) + 1)) fun σ14 =>
  k0 σ14
def X12_token_0 : Nat → Mem → Option Mem
  | 0, _ => none
  | n + 1, σ =>
    (X12_here 0 σ).bind fun r1 =>
    if r1.1 = 32 then
      X12_token_20 (X12_token_0 n) r1.2
    else
      (X12_here 0 r1.2).bind fun r2 =>
      if r2.1 = 10 then
        X12_token_20 (X12_token_0 n) r2.2
      else
        bv (sI r2.2 1000 7 (r2.2.1 1000 4)) fun σ3 =>
        (X12_here 0 σ3).bind fun r4 =>
        bv (r4.1 : Int32) fun v5 =>
        bv (0 : Int32) fun v6 =>
        bv (sL r4.2 1000 9 0) fun σ7 =>
        bv (sI σ7 1000 8 0) fun σ8 =>
        if 0 ≤ v5 then
          (X12_isLetter v5 σ8).bind fun r9 =>
          if r9.1 = 0 then
            (X12_isDigit v5 r9.2).bind fun r10 =>
            if r10.1 = 0 then
              bv (1 : Int32) fun v11 =>
              (X12_isSign v5 r10.2).bind fun r12 =>
              if r12.1 = 0 then
                X12_token_229 (X12_token_232) v11 3 r12.2
              else
                X12_token_229 (X12_token_232) v11 v5 r12.2
            else
              X12_token_144 (X12_token_232) fu v6 r10.2
          else
            X12_token_78 (X12_token_232) fu v6 r9.2
        else
          bv (sI σ8 1000 6 0) fun σ13 =>
          X12_token_232 v6 σ13
def X12_token (σ : Mem) : Option Mem :=
  X12_token_0 fu σ
def X12_wrong_22 (s0 : Int32) (σ : Mem) : Option Mem :=
  bv (sI σ 1000 2 s0) fun σ1 =>
  bv (sI σ1 1000 3 (σ1.1 1000 7)) fun σ2 =>
  some σ2
def X12_wrong (x1 : Int32) (σ : Mem) : Option Mem :=
  if (σ.1 1000 2) ≤ 0 then
    if (σ.1 1000 6) = 3 then
      X12_wrong_22 1 σ
    else
      X12_wrong_22 x1 σ
  else
    some σ
def X12_isWord (x1 : Int64) (σ : Mem) : Option (Int32 × Mem) :=
  if (σ.1 1000 6) = 1 then
    if (lg_cmp (σ.2 1000 9) x1) = 0 then
      some (1, σ)
    else
      some (0, σ)
  else
    some (0, σ)
def X12_isOwn (σ : Mem) : Option (Int32 × Mem) :=
  if (lg_cmp (σ.2 1000 9) 6578553) = 0 then
    some (1, σ)
  else
    if (lg_cmp (σ.2 1000 9) 123581014175598) = 0 then
      some (1, σ)
    else
      if (lg_cmp (σ.2 1000 9) 24948) = 0 then
        some (1, σ)
      else
        if (lg_cmp (σ.2 1000 9) 1869636974) = 0 then
          some (1, σ)
        else
          if (lg_cmp (σ.2 1000 9) 29807) = 0 then
            some (1, σ)
          else
            if (lg_cmp (σ.2 1000 9) 109299962049139) = 0 then
              some (1, σ)
            else
              if (lg_cmp (σ.2 1000 9) 1919251316) = 0 then
                some (1, σ)
              else
                if (lg_cmp (σ.2 1000 9) 482955846501) = 0 then
                  some (1, σ)
                else
                  if (lg_cmp (σ.2 1000 9) 1668245870) = 0 then
                    some (1, σ)
                  else
                    if (lg_cmp (σ.2 1000 9) 1684365940) = 0 then
                      some (1, σ)
                    else
                      if (lg_cmp (σ.2 1000 9) 7102839) = 0 then
                        some (1, σ)
                      else
                        if (lg_cmp (σ.2 1000 9) 7597137600480375668) = 0 then
                          some (1, σ)
                        else
                          if (lg_cmp (σ.2 1000 9) 1918986606) = 0 then
                            some (1, σ)
                          else
                            if (lg_cmp (σ.2 1000 9) 1870095716) = 0 then
                              some (1, σ)
                            else
                              if (lg_cmp (σ.2 1000 9) 1684108389) = 0 then
                                some (1, σ)
                              else
                                if (lg_cmp (σ.2 1000 9) 1752135026) = 0 then
                                  some (1, σ)
                                else
                                  if (lg_cmp (σ.2 1000 9) 7824756) = 0 then
                                    some (1, σ)
                                  else
                                    if (lg_cmp (σ.2 1000 9) 1936023924) = 0 then
                                      some (1, σ)
                                    else
                                      if (lg_cmp (σ.2 1000 9) 7169396) = 0 then
                                        some (1, σ)
                                      else
                                        if (lg_cmp (σ.2 1000 9) 482956245113) = 0 then
                                          some (1, σ)
                                        else
                                          if (lg_cmp (σ.2 1000 9) 6385252) = 0 then
                                            some (1, σ)
                                          else
                                            if (lg_cmp (σ.2 1000 9) 28530) = 0 then
                                              some (1, σ)
                                            else
                                              if (lg_cmp (σ.2 1000 9) 7237492) = 0 then
                                                some (1, σ)
                                              else
                                                some (0, σ)
def X12_isName (σ : Mem) : Option (Int32 × Mem) :=
  if (σ.1 1000 6) = 1 then
    (X12_isOwn σ).bind fun r1 =>
    if r1.1 = 0 then
      some (1, r1.2)
    else
      some (0, r1.2)
  else
    some (0, σ)
def X12_want (x1 : Int64) (σ : Mem) : Option Mem :=
  if (σ.1 1000 2) ≤ 0 then
    (X12_isWord x1 σ).bind fun r1 =>
    if r1.1 = 0 then
      (X12_wrong 2 r1.2).bind fun σ3 =>
      some σ3
    else
      (X12_token r1.2).bind fun σ2 =>
      some σ2
  else
    some σ
def X12_toldNumber_41 (k46 : Mem → Option (Int32 × Mem)) (σ : Mem) : Option (Int32 × Mem) :=
  (X12_wrong 4 σ).bind fun σ2 =>
  k46 σ2
def X12_toldNumber_46 (σ : Mem) : Option (Int32 × Mem) :=
  bv (σ.1 1000 8 : Int32) fun v3 =>
  if (σ.1 1000 2) = 0 then
    (X12_token σ).bind fun σ4 =>
    some (v3, σ4)
  else
    some (v3, σ)
def X12_toldNumber (x1 : Int32) (x2 : Int32) (σ : Mem) : Option (Int32 × Mem) :=
  if (σ.1 1000 2) ≤ 0 then
    if (σ.1 1000 6) = 2 then
      if (σ.1 1000 8) < x1 then
        X12_toldNumber_41 (X12_toldNumber_46) σ
      else
        if (σ.1 1000 8) ≤ x2 then
          X12_toldNumber_46 σ
        else
          X12_toldNumber_41 (X12_toldNumber_46) σ
    else
      (X12_wrong 2 σ).bind fun σ1 =>
      X12_toldNumber_46 σ1
  else
    some (0, σ)
def X12_told (x1 : Int64) (x3 : Int32) (x4 : Int32) (σ : Mem) : Option (Int32 × Mem) :=
  (X12_want x1 σ).bind fun σ1 =>
  (X12_toldNumber x3 x4 σ1).bind fun r2 =>
  some (r2.1, r2.2)
def X12_option (x1 : Int64) (x3 : Int32) (σ : Mem) : Option (Int32 × Mem) :=
  if (σ.1 1000 2) = 0 then
    (X12_isWord x1 σ).bind fun r1 =>
    if r1.1 = 0 then
      some (0, r1.2)
    else
      (X12_told x1 0 x3 r1.2).bind fun r2 =>
      some (r2.1, r2.2)
  else
    some (0, σ)
def X12_find_31 (k4 : Int32 → Int32 → Mem → Option (Int32 × Mem)) (x2 : Int32) (s0 : Int32) (σ : Mem) : Option (Int32 × Mem) :=
  bv (x2 + 1 : Int32) fun v3 =>
  k4 s0 v3 σ
def X12_find_4 : Nat → Int32 → Int32 → Mem → Option (Int32 × Mem)
  | 0, _, _, _ => none
  | n + 1, x1, x2, σ =>
    if (σ.1 1000 42) ≤ x2 then
      some (x1, σ)
    else
      if ib x2 6 = true then
        if (lg_cmp (σ.2 1002 x2.toNatClampNeg) (σ.2 1000 9)) = 0 then
          X12_find_31 (X12_find_4 n) x2 x2 σ
        else
          X12_find_31 (X12_find_4 n) x2 x1 σ
      else none
def X12_find (σ : Mem) : Option (Int32 × Mem) :=
  bv ((-1) : Int32) fun v1 =>
  bv (0 : Int32) fun v2 =>
  X12_find_4 fu v1 v2 σ
def X12_add (x1 : Int32) (x2 : Int32) (σ : Mem) : Option Mem :=
  if ib (σ.1 1000 19) 3 = true then
    if ib ((320 * (σ.1 1000 19)) + (σ.1 1005 (σ.1 1000 19).toNatClampNeg)) 960 = true then bv (sI σ 1003 ((320 * (σ.1 1000 19)) + (σ.1 1005 (σ.1 1000 19).toNatClampNeg)).toNatClampNeg x1) fun σ1 =>
      if ib (σ1.1 1000 19) 3 = true then
        if ib ((320 * (σ1.1 1000 19)) + (σ1.1 1005 (σ1.1 1000 19).toNatClampNeg)) 960 = true then bv (sI σ1 1004 ((320 * (σ1.1 1000 19)) + (σ1.1 1005 (σ1.1 1000 19).toNatClampNeg)).toNatClampNeg x2) fun σ2 =>
          bv (σ2.1 1000 19 : Int32) fun v3 =>
          if ib v3 3 = true then
            if ib v3 3 = true then bv (sI σ2 1005 v3.toNatClampNeg ((σ2.1 1005 v3.toNatClampNeg) + 1)) fun σ4 =>
              some σ4
            else none
          else none
        else none
      else none
    else none
  else none
def X12_tight (x0 : Int32) (σ : Mem) : Option (Int32 × Mem) :=
  if x0 = 21 then
    some (3, σ)
  else
  if x0 = 38 then
    some (2, σ)
  else
  if x0 = 43 then
    some (5, σ)
  else
  if x0 = 45 then
    some (5, σ)
  else
  if x0 = 60 then
    some (4, σ)
  else
  if x0 = 61 then
    some (4, σ)
  else
  if x0 = 62 then
    some (4, σ)
  else
  if x0 = 124 then
    some (1, σ)
  else
  some (6, σ)
def X12_close_0 : Nat → Int32 → Mem → Option Mem
  | 0, _, _ => none
  | n + 1, x1, σ =>
    if (σ.1 1000 20) ≤ 0 then
      some σ
    else
      if ib ((σ.1 1000 20) - 1) 160 = true then
        if (σ.1 1009 ((σ.1 1000 20) - 1).toNatClampNeg) = 20 then
          some σ
        else
          if ib ((σ.1 1000 20) - 1) 160 = true then
            (X12_tight (σ.1 1009 ((σ.1 1000 20) - 1).toNatClampNeg) σ).bind fun r1 =>
            if r1.1 < x1 then
              some r1.2
            else
              bv (sI r1.2 1000 20 ((r1.2.1 1000 20) - 1)) fun σ2 =>
              if ib (σ2.1 1000 20) 160 = true then
                if (σ2.1 1009 (σ2.1 1000 20).toNatClampNeg) = 21 then
                  (X12_add 2 0 σ2).bind fun σ4 =>
                  bv (sI σ4 1000 24 ((σ4.1 1000 24) - 1)) fun σ5 =>
                  X12_close_0 n x1 σ5
                else
                  if ib (σ2.1 1000 20) 160 = true then
                    (X12_add 3 (σ2.1 1009 (σ2.1 1000 20).toNatClampNeg) σ2).bind fun σ3 =>
                    X12_close_0 n x1 σ3
                  else none
              else none
          else none
      else none
def X12_close (x1 : Int32) (σ : Mem) : Option Mem :=
  X12_close_0 fu x1 σ
def X12_hasRelation_41 (x1 : Int32) (σ : Mem) : Option (Int32 × Mem) :=
  if x1 < 0 then
    some (0, σ)
  else
    if ib x1 160 = true then
      if (σ.1 1009 x1.toNatClampNeg) = 20 then
        some (0, σ)
      else
        if ib x1 160 = true then
          (X12_tight (σ.1 1009 x1.toNatClampNeg) σ).bind fun r4 =>
          if r4.1 = 4 then
            some (1, r4.2)
          else
            some (0, r4.2)
        else none
    else none
def X12_hasRelation_7 : Nat → Int32 → Mem → Option (Int32 × Mem)
  | 0, _, _ => none
  | n + 1, x1, σ =>
    if x1 < 0 then
      X12_hasRelation_41 x1 σ
    else
      if ib x1 160 = true then
        if (σ.1 1009 x1.toNatClampNeg) = 20 then
          X12_hasRelation_41 x1 σ
        else
          if ib x1 160 = true then
            (X12_tight (σ.1 1009 x1.toNatClampNeg) σ).bind fun r2 =>
            if r2.1 ≤ 4 then
              X12_hasRelation_41 x1 r2.2
            else
              bv (x1 + (-1) : Int32) fun v3 =>
              X12_hasRelation_7 n v3 r2.2
          else none
      else none
def X12_hasRelation (σ : Mem) : Option (Int32 × Mem) :=
  bv ((σ.1 1000 20) - 1 : Int32) fun v1 =>
  X12_hasRelation_7 fu v1 σ
def X12_mayNot (σ : Mem) : Option (Int32 × Mem) :=
  if (σ.1 1000 20) = 0 then
    some (1, σ)
  else
    if ib ((σ.1 1000 20) - 1) 160 = true then
      if (σ.1 1009 ((σ.1 1000 20) - 1).toNatClampNeg) = 20 then
        some (1, σ)
      else
        if ib ((σ.1 1000 20) - 1) 160 = true then
          (X12_tight (σ.1 1009 ((σ.1 1000 20) - 1).toNatClampNeg) σ).bind fun r1 =>
          if 4 ≤ r1.1 then
            some (0, r1.2)
          else
            some (1, r1.2)
        else none
    else none
def X12_asked (σ : Mem) : Option (Int32 × Mem) :=
  if (σ.1 1000 6) = 1 then
    if (lg_cmp (σ.2 1000 9) 1870095716) = 0 then
      some (0, σ)
    else
      if (lg_cmp (σ.2 1000 9) 1684108389) = 0 then
        some (1, σ)
      else
        if (lg_cmp (σ.2 1000 9) 1752135026) = 0 then
          some (2, σ)
        else
          if (lg_cmp (σ.2 1000 9) 7824756) = 0 then
            some (3, σ)
          else
            if (lg_cmp (σ.2 1000 9) 1936023924) = 0 then
              some (4, σ)
            else
              if (lg_cmp (σ.2 1000 9) 7169396) = 0 then
                some (5, σ)
              else
                if (lg_cmp (σ.2 1000 9) 482956245113) = 0 then
                  some (6, σ)
                else
                  some ((-1), σ)
  else
    some ((-1), σ)
def X12_isFull (σ : Mem) : Option (Int32 × Mem) :=
  if (σ.1 1000 21) = 80 then
    some (1, σ)
  else
    if (σ.1 1000 23) = 30 then
      some (1, σ)
    else
      some (0, σ)
def X12_countUnit (σ : Mem) : Option Mem :=
  bv (sI σ 1000 21 ((σ.1 1000 21) + 1)) fun σ1 =>
  bv (sI σ1 1000 23 ((σ1.1 1000 23) + 1)) fun σ2 =>
  some σ2
def X12_openUp (x1 : Int32) (σ : Mem) : Option Mem :=
  if ib (σ.1 1000 20) 160 = true then bv (sI σ 1009 (σ.1 1000 20).toNatClampNeg x1) fun σ1 =>
    bv (sI σ1 1000 20 ((σ1.1 1000 20) + 1)) fun σ2 =>
    bv (sI σ2 1000 24 ((σ2.1 1000 24) + 1)) fun σ3 =>
    if (σ3.1 1000 2) = 0 then
      (X12_token σ3).bind fun σ4 =>
      some σ4
    else
      some σ3
  else none
def X12_unit_172 (s0 : Int32) (s1 : Int32) (σ : Mem) : Option Mem :=
  (X12_add s1 s0 σ).bind fun σ16 =>
  (X12_token σ16).bind fun σ17 =>
  some σ17
def X12_unit_160 (x2 : Int32) (s0 : Int32) (σ : Mem) : Option Mem :=
  if 0 ≤ x2 then
    X12_unit_172 x2 s0 σ
  else
    X12_unit_172 (σ.1 1000 8) s0 σ
def X12_unit_44 (k2 : Int32 → Mem → Option Mem) (x1 : Int32) (σ : Mem) : Option Mem :=
  (X12_openUp 21 σ).bind fun σ9 =>
  k2 x1 σ9
def X12_unit_78 (k83 : Int32 → Mem → Option Mem) (x1 : Int32) (σ : Mem) : Option Mem :=
  (X12_wrong 2 σ).bind fun σ12 =>
  k83 x1 σ12
def X12_unit_83 (k2 : Int32 → Mem → Option Mem) (x1 : Int32) (σ : Mem) : Option Mem :=
  (X12_countUnit σ).bind fun σ13 =>
  (X12_openUp 20 σ13).bind fun σ14 =>
  k2 x1 σ14
def X12_unit_126 (k133 : Int32 → Mem → Option Mem) (k138 : Int32 → Mem → Option Mem) (x2 : Int32) (σ : Mem) : Option Mem :=
  (X12_isFull σ).bind fun r10 =>
  if r10.1 = 0 then
    k138 x2 r10.2
  else
    k133 x2 r10.2
def X12_unit_133 (k138 : Int32 → Mem → Option Mem) (x2 : Int32) (σ : Mem) : Option Mem :=
  (X12_wrong 2 σ).bind fun σ11 =>
  k138 x2 σ11
def X12_unit_138 (x2 : Int32) (σ : Mem) : Option Mem :=
  if (σ.1 1000 2) ≤ 0 then
    (X12_countUnit σ).bind fun σ15 =>
    if 0 ≤ x2 then
      X12_unit_160 x2 1 σ15
    else
      X12_unit_160 x2 0 σ15
  else
    some σ
def X12_unit_53 (k2 : Int32 → Mem → Option Mem) (x1 : Int32) (σ : Mem) : Option Mem :=
  if (σ.1 1000 6) = 40 then
    (X12_isFull σ).bind fun r8 =>
    if r8.1 = 0 then
      if (r8.2.1 1000 24) ≤ 6 then
        X12_unit_83 (k2) x1 r8.2
      else
        X12_unit_78 (X12_unit_83 (k2)) x1 r8.2
    else
      X12_unit_78 (X12_unit_83 (k2)) x1 r8.2
  else
    bv (0 : Int32) fun v7 =>
    k2 v7 σ
def X12_unit_101 (σ : Mem) : Option Mem :=
  if (σ.1 1000 2) ≤ 0 then
    (X12_asked σ).bind fun r5 =>
    bv (r5.1 : Int32) fun v6 =>
    if (r5.2.1 1000 6) = 2 then
      X12_unit_126 (X12_unit_133 (X12_unit_138)) (X12_unit_138) v6 r5.2
    else
      if v6 < 0 then
        X12_unit_133 (X12_unit_138) v6 r5.2
      else
        X12_unit_126 (X12_unit_133 (X12_unit_138)) (X12_unit_138) v6 r5.2
  else
    some σ
def X12_unit_2 : Nat → Int32 → Mem → Option Mem
  | 0, _, _ => none
  | n + 1, x1, σ =>
    if x1 = 0 then
      X12_unit_101 σ
    else
      if (σ.1 1000 2) = 0 then
        (X12_isWord 7237492 σ).bind fun r2 =>
        if r2.1 = 0 then
          X12_unit_53 (X12_unit_2 n) x1 r2.2
        else
          (X12_mayNot r2.2).bind fun r3 =>
          if r3.1 = 0 then
            X12_unit_53 (X12_unit_2 n) x1 r3.2
          else
            if (r3.2.1 1000 24) ≤ 6 then
              X12_unit_44 (X12_unit_2 n) x1 r3.2
            else
              (X12_wrong 2 r3.2).bind fun σ4 =>
              X12_unit_44 (X12_unit_2 n) x1 σ4
      else
        X12_unit_101 σ
def X12_unit (σ : Mem) : Option Mem :=
  bv (1 : Int32) fun v1 =>
  X12_unit_2 fu v1 σ
def X12_sign (σ : Mem) : Option (Int32 × Mem) :=
  (X12_isWord 6385252 σ).bind fun r1 =>
  if r1.1 = 0 then
    (X12_isWord 28530 r1.2).bind fun r2 =>
    if r2.1 = 0 then
      if (r2.2.1 1000 6) = 60 then
        some (r2.2.1 1000 6, r2.2)
      else
        if (r2.2.1 1000 6) = 62 then
          some (r2.2.1 1000 6, r2.2)
        else
          if (r2.2.1 1000 6) = 61 then
            some (r2.2.1 1000 6, r2.2)
          else
            if (r2.2.1 1000 6) = 43 then
              some (r2.2.1 1000 6, r2.2)
            else
              if (r2.2.1 1000 6) = 45 then
                some (r2.2.1 1000 6, r2.2)
              else
                if (r2.2.1 1000 6) = 42 then
                  some (r2.2.1 1000 6, r2.2)
                else
                  if (r2.2.1 1000 6) = 47 then
                    some (r2.2.1 1000 6, r2.2)
                  else
                    if (r2.2.1 1000 6) = 37 then
                      some (r2.2.1 1000 6, r2.2)
                    else
                      some (0, r2.2)
    else
      some (124, r2.2)
  else
    some (38, r1.2)
def X12_hasBracket_27 (k32 : Int32 → Int32 → Mem → Option (Int32 × Mem)) (x2 : Int32) (σ : Mem) : Option (Int32 × Mem) :=
  k32 x2 1 σ
def X12_hasBracket_32 (k4 : Int32 → Int32 → Mem → Option (Int32 × Mem)) (x2 : Int32) (s0 : Int32) (σ : Mem) : Option (Int32 × Mem) :=
  bv (x2 + 1 : Int32) fun v3 =>
  k4 s0 v3 σ
def X12_hasBracket_4 : Nat → Int32 → Int32 → Mem → Option (Int32 × Mem)
  | 0, _, _, _ => none
  | n + 1, x1, x2, σ =>
    if (σ.1 1000 20) ≤ x2 then
      some (x1 &&& 1, σ)
    else
      if x1 = 0 then
        if ib x2 160 = true then
          if (σ.1 1009 x2.toNatClampNeg) = 20 then
            X12_hasBracket_27 (X12_hasBracket_32 (X12_hasBracket_4 n)) x2 σ
          else
            X12_hasBracket_32 (X12_hasBracket_4 n) x2 0 σ
        else none
      else
        X12_hasBracket_27 (X12_hasBracket_32 (X12_hasBracket_4 n)) x2 σ
def X12_hasBracket (σ : Mem) : Option (Int32 × Mem) :=
  bv (0 : Int32) fun v1 =>
  bv (0 : Int32) fun v2 =>
  X12_hasBracket_4 fu v1 v2 σ
def X12_formula_123 (k164 : Int32 → Mem → Option Mem) (x2 : Int32) (x3 : Int32) (σ : Mem) : Option Mem :=
  (X12_tight x3 σ).bind fun r22 =>
  (X12_close r22.1 r22.2).bind fun σ23 =>
  if ib (σ23.1 1000 20) 160 = true then bv (sI σ23 1009 (σ23.1 1000 20).toNatClampNeg x3) fun σ24 =>
    bv (sI σ24 1000 20 ((σ24.1 1000 20) + 1)) fun σ25 =>
    (X12_token σ25).bind fun σ26 =>
    (X12_unit σ26).bind fun σ27 =>
    k164 x2 σ27
  else none
def X12_formula_162 (k164 : Int32 → Mem → Option Mem) (σ : Mem) : Option Mem :=
  bv (0 : Int32) fun v21 =>
  k164 v21 σ
def X12_formula_104 (k164 : Int32 → Mem → Option Mem) (x2 : Int32) (x3 : Int32) (σ : Mem) : Option Mem :=
  if x3 = 0 then
    X12_formula_162 (k164) σ
  else
    (X12_tight x3 σ).bind fun r18 =>
    if r18.1 = 4 then
      (X12_hasRelation r18.2).bind fun r19 =>
      if r19.1 = 0 then
        X12_formula_123 (k164) x2 x3 r19.2
      else
        X12_formula_162 (k164) r19.2
    else
      X12_formula_123 (k164) x2 x3 r18.2
def X12_formula_164 (k40 : Int32 → Mem → Option Mem) (x2 : Int32) (σ : Mem) : Option Mem :=
  k40 x2 σ
def X12_formula_186 (σ : Mem) : Option Mem :=
  if (σ.1 1000 2) = 0 then
    (X12_close 0 σ).bind fun σ20 =>
    some σ20
  else
    some σ
def X12_formula_167 (σ : Mem) : Option Mem :=
  if (σ.1 1000 2) = 0 then
    (X12_hasBracket σ).bind fun r16 =>
    if r16.1 = 0 then
      X12_formula_186 r16.2
    else
      (X12_wrong 2 r16.2).bind fun σ17 =>
      X12_formula_186 σ17
  else
    X12_formula_186 σ
def X12_formula_40 : Nat → Int32 → Mem → Option Mem
  | 0, _, _ => none
  | n + 1, x2, σ =>
    if x2 = 0 then
      X12_formula_167 σ
    else
      if (σ.1 1000 2) = 0 then
        (X12_sign σ).bind fun r9 =>
        bv (r9.1 : Int32) fun v10 =>
        if (r9.2.1 1000 6) = 41 then
          (X12_hasBracket r9.2).bind fun r11 =>
          if r11.1 = 0 then
            X12_formula_104 (X12_formula_164 (X12_formula_40 n)) x2 v10 r11.2
          else
            (X12_close 0 r11.2).bind fun σ12 =>
            bv (sI σ12 1000 20 ((σ12.1 1000 20) - 1)) fun σ13 =>
            bv (sI σ13 1000 24 ((σ13.1 1000 24) - 1)) fun σ14 =>
            (X12_token σ14).bind fun σ15 =>
            X12_formula_164 (X12_formula_40 n) x2 σ15
        else
          X12_formula_104 (X12_formula_164 (X12_formula_40 n)) x2 v10 r9.2
      else
        X12_formula_167 σ
def X12_formula (x1 : Int32) (σ : Mem) : Option Mem :=
  (X12_token σ).bind fun σ1 =>
  bv (sI σ1 1000 19 x1) fun σ2 =>
  if ib (σ2.1 1000 19) 3 = true then bv (sI σ2 1005 (σ2.1 1000 19).toNatClampNeg 0) fun σ3 =>
    bv (sI σ3 1000 20 0) fun σ4 =>
    bv (sI σ4 1000 24 0) fun σ5 =>
    bv (sI σ5 1000 23 0) fun σ6 =>
    (X12_unit σ6).bind fun σ7 =>
    bv (1 : Int32) fun v8 =>
    X12_formula_40 fu v8 σ7
  else none
def X12_truth (x0 : Int32) (σ : Mem) : Option (Int32 × Mem) :=
  if x0 = 0 then
    some (0, σ)
  else
    some (1, σ)
def X12_done_166 (s0 : Int32) (σ : Mem) : Option (Int32 × Mem) :=
  (X12_truth s0 σ).bind fun r2 =>
  some (r2.1, r2.2)
def X12_done_194 (s0 : Int32) (σ : Mem) : Option (Int32 × Mem) :=
  (X12_truth s0 σ).bind fun r3 =>
  some (r3.1, r3.2)
def X12_done_180 (s0 : Int32) (σ : Mem) : Option (Int32 × Mem) :=
  (X12_truth s0 σ).bind fun r4 =>
  some (r4.1, r4.2)
def X12_done_210 (k211 : Int32 → Mem → Option (Int32 × Mem)) (σ : Mem) : Option (Int32 × Mem) :=
  k211 0 σ
def X12_done_211 (s0 : Int32) (σ : Mem) : Option (Int32 × Mem) :=
  (X12_truth s0 σ).bind fun r1 =>
  some (r1.1, r1.2)
def X12_done_223 (k228 : Int32 → Mem → Option (Int32 × Mem)) (σ : Mem) : Option (Int32 × Mem) :=
  k228 1 σ
def X12_done_228 (s0 : Int32) (σ : Mem) : Option (Int32 × Mem) :=
  (X12_truth s0 σ).bind fun r5 =>
  some (r5.1, r5.2)
def X12_done (x0 : Int32) (x1 : Int32) (x2 : Int32) (σ : Mem) : Option (Int32 × Mem) :=
  if x0 = 37 then
    if x2 = 0 then
      some (0, σ)
    else
      if x2 = 0 then none else
      some (x1 - x1 / x2 * x2, σ)
  else
  if x0 = 38 then
    if x1 = 0 then
      X12_done_210 (X12_done_211) σ
    else
      if x2 = 0 then
        X12_done_210 (X12_done_211) σ
      else
        X12_done_211 1 σ
  else
  if x0 = 42 then
    some (x1 * x2, σ)
  else
  if x0 = 43 then
    some (x1 + x2, σ)
  else
  if x0 = 45 then
    some (x1 - x2, σ)
  else
  if x0 = 47 then
    if x2 = 0 then
      some (0, σ)
    else
      if x2 = 0 then none else
      some (x1 / x2, σ)
  else
  if x0 = 60 then
    if x2 ≤ x1 then
      X12_done_166 0 σ
    else
      X12_done_166 1 σ
  else
  if x0 = 61 then
    if x1 = x2 then
      X12_done_194 1 σ
    else
      X12_done_194 0 σ
  else
  if x0 = 62 then
    if x1 ≤ x2 then
      X12_done_180 0 σ
    else
      X12_done_180 1 σ
  else
  if x1 = 0 then
    if x2 = 0 then
      X12_done_228 0 σ
    else
      X12_done_223 (X12_done_228) σ
  else
    X12_done_223 (X12_done_228) σ
def X12_noAsks_2 : Nat → Int32 → Mem → Option Mem
  | 0, _, _ => none
  | n + 1, x1, σ =>
    if 7 ≤ x1 then
      some σ
    else
      if ib x1 7 = true then bv (sI σ 1011 x1.toNatClampNeg 0) fun σ2 =>
        bv (x1 + 1 : Int32) fun v3 =>
        X12_noAsks_2 n v3 σ2
      else none
def X12_noAsks (σ : Mem) : Option Mem :=
  bv (0 : Int32) fun v1 =>
  X12_noAsks_2 fu v1 σ
def X12_worked_117 (k158 : Int32 → Int32 → Int32 → Mem → Option (Int32 × Mem)) (x1 : Int32) (x2 : Int32) (x3 : Int32) (s0 : Int32) (s1 : Int32) (σ : Mem) : Option (Int32 × Mem) :=
  (X12_truth s0 σ).bind fun r7 =>
  if ib s1 64 = true then bv (sI r7.2 1010 s1.toNatClampNeg r7.1) fun σ8 =>
    k158 x1 x2 x3 σ8
  else none
def X12_worked_77 (k158 : Int32 → Int32 → Int32 → Mem → Option (Int32 × Mem)) (x1 : Int32) (x2 : Int32) (x3 : Int32) (s0 : Int32) (s1 : Int32) (σ : Mem) : Option (Int32 × Mem) :=
  if ib s1 64 = true then bv (sI σ 1010 s1.toNatClampNeg s0) fun σ9 =>
    bv (x2 + 1 : Int32) fun v10 =>
    k158 x1 v10 x3 σ9
  else none
def X12_worked_43 (k158 : Int32 → Int32 → Int32 → Mem → Option (Int32 × Mem)) (x1 : Int32) (x2 : Int32) (x3 : Int32) (σ : Mem) : Option (Int32 × Mem) :=
  if ib x3 960 = true then
    if (σ.1 1006 x3.toNatClampNeg) = 0 then
      if ib x3 960 = true then
        X12_worked_77 (k158) x1 x2 x3 (σ.1 1007 x3.toNatClampNeg) x2 σ
      else none
    else
      if ib x3 960 = true then
        if ib (σ.1 1007 x3.toNatClampNeg) 7 = true then
          X12_worked_77 (k158) x1 x2 x3 (σ.1 1011 (σ.1 1007 x3.toNatClampNeg).toNatClampNeg) x2 σ
        else none
      else none
  else none
def X12_worked_158 (k8 : Int32 → Int32 → Int32 → Mem → Option (Int32 × Mem)) (x1 : Int32) (x2 : Int32) (x3 : Int32) (σ : Mem) : Option (Int32 × Mem) :=
  bv (x3 + 1 : Int32) fun v6 =>
  k8 x1 x2 v6 σ
def X12_worked_8 : Nat → Int32 → Int32 → Int32 → Mem → Option (Int32 × Mem)
  | 0, _, _, _, _ => none
  | n + 1, x1, x2, x3, σ =>
    if ib x1 3 = true then
      if ((320 * x1) + (σ.1 1008 x1.toNatClampNeg)) ≤ x3 then
        some (σ.1 1010 0, σ)
      else
        if ib x3 960 = true then
          if (σ.1 1006 x3.toNatClampNeg) = 0 then
            X12_worked_43 (X12_worked_158 (X12_worked_8 n)) x1 x2 x3 σ
          else
            if ib x3 960 = true then
              if (σ.1 1006 x3.toNatClampNeg) = 1 then
                X12_worked_43 (X12_worked_158 (X12_worked_8 n)) x1 x2 x3 σ
              else
                if ib x3 960 = true then
                  if (σ.1 1006 x3.toNatClampNeg) = 2 then
                    if ib (x2 - 1) 64 = true then
                      if (σ.1 1010 (x2 - 1).toNatClampNeg) = 0 then
                        X12_worked_117 (X12_worked_158 (X12_worked_8 n)) x1 x2 x3 1 (x2 - 1) σ
                      else
                        X12_worked_117 (X12_worked_158 (X12_worked_8 n)) x1 x2 x3 0 (x2 - 1) σ
                    else none
                  else
                    bv (x2 + (-1) : Int32) fun v3 =>
                    if ib x3 960 = true then
                      if ib (v3 - 1) 64 = true then
                        if ib v3 64 = true then
                          (X12_done (σ.1 1007 x3.toNatClampNeg) (σ.1 1010 (v3 - 1).toNatClampNeg) (σ.1 1010 v3.toNatClampNeg) σ).bind fun r4 =>
                          if ib (v3 - 1) 64 = true then bv (sI r4.2 1010 (v3 - 1).toNatClampNeg r4.1) fun σ5 =>
                            X12_worked_158 (X12_worked_8 n) x1 v3 x3 σ5
                          else none
                        else none
                      else none
                    else none
                else none
            else none
        else none
    else none
def X12_worked (x1 : Int32) (σ : Mem) : Option (Int32 × Mem) :=
  bv (0 : Int32) fun v1 =>
  bv (320 * x1 : Int32) fun v2 =>
  X12_worked_8 fu x1 v1 v2 σ
def X12_readPerson_31 (σ : Mem) : Option Mem :=
  if (σ.1 1000 2) ≤ 0 then
    bv (σ.1 1000 42 : Int32) fun v6 =>
    if ib v6 6 = true then bv (sL σ 1002 v6.toNatClampNeg (σ.2 1000 9)) fun σ7 =>
      (X12_token σ7).bind fun σ8 =>
      (X12_told 24948 0 20 σ8).bind fun r9 =>
      if ib v6 6 = true then bv (sI r9.2 1012 v6.toNatClampNeg r9.1) fun σ10 =>
        (X12_told 1869636974 0 ((σ10.1 1000 44) - 1) σ10).bind fun r11 =>
        if ib v6 6 = true then bv (sI r11.2 1013 v6.toNatClampNeg r11.1) fun σ12 =>
          if ib v6 6 = true then
            (X12_told 29807 ((σ12.1 1013 v6.toNatClampNeg) + 1) (σ12.1 1000 44) σ12).bind fun r13 =>
            if ib v6 6 = true then bv (sI r13.2 1014 v6.toNatClampNeg r13.1) fun σ14 =>
              (X12_option 109299962049139 9 σ14).bind fun r15 =>
              if ib v6 6 = true then bv (sI r15.2 1015 v6.toNatClampNeg r15.1) fun σ16 =>
                (X12_option 1919251316 ((σ16.1 1000 44) - 1) σ16).bind fun r17 =>
                if ib v6 6 = true then bv (sI r17.2 1016 v6.toNatClampNeg r17.1) fun σ18 =>
                  (X12_option 482955846501 99 σ18).bind fun r19 =>
                  if ib v6 6 = true then bv (sI r19.2 1017 v6.toNatClampNeg r19.1) fun σ20 =>
                    (X12_option 1668245870 999 σ20).bind fun r21 =>
                    if ib v6 6 = true then bv (sI r21.2 1018 v6.toNatClampNeg r21.1) fun σ22 =>
                      if (σ22.1 1000 2) = 0 then
                        bv (sI σ22 1000 42 ((σ22.1 1000 42) + 1)) fun σ23 =>
                        some σ23
                      else
                        some σ22
                    else none
                  else none
                else none
              else none
            else none
          else none
        else none
      else none
    else none
  else
    some σ
def X12_readPerson (σ : Mem) : Option Mem :=
  (X12_token σ).bind fun σ1 =>
  (X12_isName σ1).bind fun r2 =>
  if r2.1 = 0 then
    (X12_wrong 2 r2.2).bind fun σ5 =>
    X12_readPerson_31 σ5
  else
    (X12_find r2.2).bind fun r3 =>
    if r3.1 < 0 then
      X12_readPerson_31 r3.2
    else
      (X12_wrong 3 r3.2).bind fun σ4 =>
      X12_readPerson_31 σ4
def X12_old_36 (σ : Mem) : Option (Int32 × Mem) :=
  if (σ.1 1000 2) ≤ 0 then
    (X12_find σ).bind fun r5 =>
    some (r5.1, r5.2)
  else
    some (0, σ)
def X12_old (σ : Mem) : Option (Int32 × Mem) :=
  if (σ.1 1000 2) ≤ 0 then
    (X12_isName σ).bind fun r1 =>
    if r1.1 = 0 then
      (X12_wrong 2 r1.2).bind fun σ4 =>
      X12_old_36 σ4
    else
      (X12_find r1.2).bind fun r2 =>
      if 0 ≤ r2.1 then
        X12_old_36 r2.2
      else
        (X12_wrong 5 r2.2).bind fun σ3 =>
        X12_old_36 σ3
  else
    some (0, σ)
def X12_readDebt_58 (k63 : Int32 → Int32 → Mem → Option Mem) (x1 : Int32) (x2 : Int32) (σ : Mem) : Option Mem :=
  (X12_wrong 3 σ).bind fun σ9 =>
  k63 x1 x2 σ9
def X12_readDebt_74 (x1 : Int32) (x2 : Int32) (σ : Mem) : Option Mem :=
  (X12_toldNumber 1 9999 σ).bind fun r10 =>
  bv (r10.1 : Int32) fun v11 =>
  if (r10.2.1 1000 2) ≤ 0 then
    if ib ((6 * x1) + x2) 36 = true then bv (sI r10.2 1019 ((6 * x1) + x2).toNatClampNeg v11) fun σ12 =>
      bv (sI σ12 1000 43 ((σ12.1 1000 43) + 1)) fun σ13 =>
      some σ13
    else none
  else
    some r10.2
def X12_readDebt_63 (x1 : Int32) (x2 : Int32) (σ : Mem) : Option Mem :=
  if (σ.1 1000 2) = 0 then
    (X12_token σ).bind fun σ8 =>
    X12_readDebt_74 x1 x2 σ8
  else
    X12_readDebt_74 x1 x2 σ
def X12_readDebt_20 (x1 : Int32) (σ : Mem) : Option Mem :=
  (X12_want 29807 σ).bind fun σ5 =>
  (X12_old σ5).bind fun r6 =>
  bv (r6.1 : Int32) fun v7 =>
  if (r6.2.1 1000 2) = 0 then
    if x1 = v7 then
      X12_readDebt_58 (X12_readDebt_63) x1 v7 r6.2
    else
      if ib ((6 * x1) + v7) 36 = true then
        if (r6.2.1 1019 ((6 * x1) + v7).toNatClampNeg) ≤ 0 then
          X12_readDebt_63 x1 v7 r6.2
        else
          X12_readDebt_58 (X12_readDebt_63) x1 v7 r6.2
      else none
  else
    X12_readDebt_63 x1 v7 r6.2
def X12_readDebt (σ : Mem) : Option Mem :=
  (X12_token σ).bind fun σ1 =>
  (X12_old σ1).bind fun r2 =>
  bv (r2.1 : Int32) fun v3 =>
  if (r2.2.1 1000 2) = 0 then
    (X12_token r2.2).bind fun σ4 =>
    X12_readDebt_20 v3 σ4
  else
    X12_readDebt_20 v3 r2.2
def X12_readLine_188 (k193 : Mem → Option Mem) (σ : Mem) : Option Mem :=
  (X12_wrong 2 σ).bind fun σ21 =>
  k193 σ21
def X12_readLine_158 (k193 : Mem → Option Mem) (σ : Mem) : Option Mem :=
  (X12_isWord 1918986606 σ).bind fun r18 =>
  if r18.1 = 0 then
    X12_readLine_188 (k193) r18.2
  else
    if (r18.2.1 1000 51) = 0 then
      bv (sI r18.2 1000 51 1) fun σ19 =>
      (X12_formula 2 σ19).bind fun σ20 =>
      k193 σ20
    else
      X12_readLine_188 (k193) r18.2
def X12_readLine_128 (k193 : Mem → Option Mem) (σ : Mem) : Option Mem :=
  (X12_isWord 7597137600480375668 σ).bind fun r15 =>
  if r15.1 = 0 then
    X12_readLine_158 (k193) r15.2
  else
    if (r15.2.1 1000 50) = 0 then
      bv (sI r15.2 1000 50 1) fun σ16 =>
      (X12_formula 1 σ16).bind fun σ17 =>
      k193 σ17
    else
      X12_readLine_158 (k193) r15.2
def X12_readLine_98 (k193 : Mem → Option Mem) (σ : Mem) : Option Mem :=
  (X12_isWord 7102839 σ).bind fun r12 =>
  if r12.1 = 0 then
    X12_readLine_128 (k193) r12.2
  else
    if (r12.2.1 1000 49) = 0 then
      bv (sI r12.2 1000 49 1) fun σ13 =>
      (X12_formula 0 σ13).bind fun σ14 =>
      k193 σ14
    else
      X12_readLine_128 (k193) r12.2
def X12_readLine_219 (σ : Mem) : Option Mem :=
  if (σ.1 1000 2) = 0 then
    (X12_token σ).bind fun σ11 =>
    some σ11
  else
    some σ
def X12_readLine_72 (k193 : Mem → Option Mem) (σ : Mem) : Option Mem :=
  (X12_isWord 1684365940 σ).bind fun r9 =>
  if r9.1 = 0 then
    X12_readLine_98 (k193) r9.2
  else
    if 20 ≤ (r9.2.1 1000 43) then
      X12_readLine_98 (k193) r9.2
    else
      (X12_readDebt r9.2).bind fun σ10 =>
      k193 σ10
def X12_readLine_46 (k193 : Mem → Option Mem) (σ : Mem) : Option Mem :=
  (X12_isWord 123581014175598 σ).bind fun r5 =>
  if r5.1 = 0 then
    X12_readLine_72 (k193) r5.2
  else
    if 6 ≤ (r5.2.1 1000 42) then
      X12_readLine_72 (k193) r5.2
    else
      (X12_readPerson r5.2).bind fun σ6 =>
      k193 σ6
def X12_readLine_193 (σ : Mem) : Option Mem :=
  bv (sI σ 1000 48 1) fun σ7 =>
  if (σ7.1 1000 2) = 0 then
    if (σ7.1 1000 6) = 59 then
      X12_readLine_219 σ7
    else
      (X12_wrong 2 σ7).bind fun σ8 =>
      X12_readLine_219 σ8
  else
    X12_readLine_219 σ7
def X12_readLine (σ : Mem) : Option Mem :=
  (X12_isWord 6578553 σ).bind fun r1 =>
  if r1.1 = 0 then
    X12_readLine_46 (X12_readLine_193) r1.2
  else
    if (r1.2.1 1000 47) = 0 then
      if (r1.2.1 1000 48) = 0 then
        bv (sI r1.2 1000 47 1) fun σ2 =>
        (X12_told 6578553 2 24 σ2).bind fun r3 =>
        bv (sI r3.2 1000 44 r3.1) fun σ4 =>
        X12_readLine_193 σ4
      else
        X12_readLine_46 (X12_readLine_193) r1.2
    else
      X12_readLine_46 (X12_readLine_193) r1.2
def X12_readAll_99 : Nat → Mem → Option Mem
  | 0, _ => none
  | n + 1, σ =>
    if (σ.1 1000 2) = 0 then
      if (σ.1 1000 6) = 0 then
        some σ
      else
        (X12_readLine σ).bind fun σ19 =>
        X12_readAll_99 n σ19
    else
      some σ
def X12_readAll_76 : Nat → Int32 → Mem → Option Mem
  | 0, _, _ => none
  | n + 1, x1, σ =>
    if 36 ≤ x1 then
      (X12_token σ).bind fun σ16 =>
      X12_readAll_99 fu σ16
    else
      if ib x1 36 = true then bv (sI σ 1019 x1.toNatClampNeg 0) fun σ17 =>
        bv (x1 + 1 : Int32) fun v18 =>
        X12_readAll_76 n v18 σ17
      else none
def X12_readAll (σ : Mem) : Option Mem :=
  bv (sI σ 1000 5 (σ.1 1000 1)) fun σ1 =>
  bv (sI σ1 1000 1 0) fun σ2 =>
  bv (sI σ2 1000 4 0) fun σ3 =>
  bv (sI σ3 1000 2 0) fun σ4 =>
  bv (sI σ4 1000 3 (-1)) fun σ5 =>
  bv (sI σ5 1000 42 0) fun σ6 =>
  bv (sI σ6 1000 43 0) fun σ7 =>
  bv (sI σ7 1000 44 10) fun σ8 =>
  bv (sI σ8 1000 47 0) fun σ9 =>
  bv (sI σ9 1000 48 0) fun σ10 =>
  bv (sI σ10 1000 49 0) fun σ11 =>
  bv (sI σ11 1000 50 0) fun σ12 =>
  bv (sI σ12 1000 51 0) fun σ13 =>
  bv (sI σ13 1000 21 0) fun σ14 =>
  bv (0 : Int32) fun v15 =>
  X12_readAll_76 fu v15 σ14
def X12_town_399 : Nat → Int32 → Mem → Option (Int32 × Mem)
  | 0, _, _ => none
  | n + 1, x1, σ =>
    if 3 ≤ x1 then
      some (σ.1 1000 45, σ)
    else
      if ib x1 3 = true then bv (sI σ 1050 x1.toNatClampNeg 0) fun σ44 =>
        bv (x1 + 1 : Int32) fun v45 =>
        X12_town_399 n v45 σ44
      else none
def X12_town_350 : Nat → Int32 → Mem → Option (Int32 × Mem)
  | 0, _, _ => none
  | n + 1, x1, σ =>
    if 36 ≤ x1 then
      bv (sI σ 1000 69 0) fun σ37 =>
      bv (sI σ37 1000 70 0) fun σ38 =>
      bv (sI σ38 1000 86 0) fun σ39 =>
      bv (sI σ39 1000 75 0) fun σ40 =>
      bv (0 : Int32) fun v41 =>
      X12_town_399 fu v41 σ40
    else
      if ib x1 36 = true then
        if ib (24 + x1) 64 = true then bv (sI σ 1028 (24 + x1).toNatClampNeg (σ.1 1027 x1.toNatClampNeg)) fun σ42 =>
          bv (x1 + 1 : Int32) fun v43 =>
          X12_town_350 n v43 σ42
        else none
      else none
def X12_town_285 : Nat → Int32 → Mem → Option (Int32 × Mem)
  | 0, _, _ => none
  | n + 1, x1, σ =>
    if (σ.1 1000 45) ≤ x1 then
      bv (0 : Int32) fun v31 =>
      X12_town_350 fu v31 σ
    else
      if ib x1 6 = true then
        if ib (0 + x1) 64 = true then bv (sI σ 1028 (0 + x1).toNatClampNeg (σ.1 1020 x1.toNatClampNeg)) fun σ32 =>
          if ib (6 + x1) 64 = true then bv (sI σ32 1028 (6 + x1).toNatClampNeg (-1)) fun σ33 =>
            if ib (12 + x1) 64 = true then bv (sI σ33 1028 (12 + x1).toNatClampNeg x1) fun σ34 =>
              if ib x1 6 = true then
                if ib (18 + x1) 64 = true then bv (sI σ34 1028 (18 + x1).toNatClampNeg (σ34.1 1026 x1.toNatClampNeg)) fun σ35 =>
                  bv (x1 + 1 : Int32) fun v36 =>
                  X12_town_285 n v36 σ35
                else none
              else none
            else none
          else none
        else none
      else none
def X12_town_86 (k63 : Int32 → Mem → Option (Int32 × Mem)) : Nat → Int32 → Int32 → Mem → Option (Int32 × Mem)
  | 0, _, _, _ => none
  | n + 1, x1, x2, σ =>
    if ib x1 3 = true then
      if ((320 * x1) + (σ.1 1008 x1.toNatClampNeg)) ≤ x2 then
        bv (x1 + 1 : Int32) fun v21 =>
        k63 v21 σ
      else
        if ib x2 960 = true then
          if ib x2 960 = true then bv (sI σ 1006 x2.toNatClampNeg (σ.1 1003 x2.toNatClampNeg)) fun σ22 =>
            if ib x2 960 = true then
              if ib x2 960 = true then bv (sI σ22 1007 x2.toNatClampNeg (σ22.1 1004 x2.toNatClampNeg)) fun σ23 =>
                bv (x2 + 1 : Int32) fun v24 =>
                X12_town_86 k63 n x1 v24 σ23
              else none
            else none
          else none
        else none
    else none
def X12_town_264 : Nat → Int32 → Mem → Option (Int32 × Mem)
  | 0, _, _ => none
  | n + 1, x1, σ =>
    if 63 ≤ x1 then
      bv (0 : Int32) fun v28 =>
      X12_town_285 fu v28 σ
    else
      if ib x1 64 = true then bv (sI σ 1028 x1.toNatClampNeg 0) fun σ29 =>
        bv (x1 + 1 : Int32) fun v30 =>
        X12_town_264 n v30 σ29
      else none
def X12_town_238 : Nat → Int32 → Mem → Option (Int32 × Mem)
  | 0, _, _ => none
  | n + 1, x1, σ =>
    if 36 ≤ x1 then
      bv (0 : Int32) fun v25 =>
      X12_town_264 fu v25 σ
    else
      if ib x1 36 = true then
        if ib x1 36 = true then bv (sI σ 1027 x1.toNatClampNeg (σ.1 1019 x1.toNatClampNeg)) fun σ26 =>
          bv (x1 + 1 : Int32) fun v27 =>
          X12_town_238 n v27 σ26
        else none
      else none
def X12_town_140 : Nat → Int32 → Mem → Option (Int32 × Mem)
  | 0, _, _ => none
  | n + 1, x1, σ =>
    if 6 ≤ x1 then
      bv (0 : Int32) fun v12 =>
      X12_town_238 fu v12 σ
    else
      if ib x1 6 = true then
        if ib x1 6 = true then bv (sI σ 1020 x1.toNatClampNeg (σ.1 1012 x1.toNatClampNeg)) fun σ13 =>
          if ib x1 6 = true then
            if ib x1 6 = true then bv (sI σ13 1021 x1.toNatClampNeg (σ13.1 1013 x1.toNatClampNeg)) fun σ14 =>
              if ib x1 6 = true then
                if ib x1 6 = true then bv (sI σ14 1022 x1.toNatClampNeg (σ14.1 1014 x1.toNatClampNeg)) fun σ15 =>
                  if ib x1 6 = true then
                    if ib x1 6 = true then bv (sI σ15 1023 x1.toNatClampNeg (σ15.1 1015 x1.toNatClampNeg)) fun σ16 =>
                      if ib x1 6 = true then
                        if ib x1 6 = true then bv (sI σ16 1024 x1.toNatClampNeg (σ16.1 1016 x1.toNatClampNeg)) fun σ17 =>
                          if ib x1 6 = true then
                            if ib x1 6 = true then bv (sI σ17 1025 x1.toNatClampNeg (σ17.1 1017 x1.toNatClampNeg)) fun σ18 =>
                              if ib x1 6 = true then
                                if ib x1 6 = true then bv (sI σ18 1026 x1.toNatClampNeg (σ18.1 1018 x1.toNatClampNeg)) fun σ19 =>
                                  bv (x1 + 1 : Int32) fun v20 =>
                                  X12_town_140 n v20 σ19
                                else none
                              else none
                            else none
                          else none
                        else none
                      else none
                    else none
                  else none
                else none
              else none
            else none
          else none
        else none
      else none
def X12_town_63 : Nat → Int32 → Mem → Option (Int32 × Mem)
  | 0, _, _ => none
  | n + 1, x1, σ =>
    if 3 ≤ x1 then
      bv (0 : Int32) fun v9 =>
      X12_town_140 fu v9 σ
    else
      if ib x1 3 = true then
        if ib x1 3 = true then bv (sI σ 1008 x1.toNatClampNeg (σ.1 1005 x1.toNatClampNeg)) fun σ10 =>
          bv (320 * x1 : Int32) fun v11 =>
          X12_town_86 (X12_town_63 n) fu x1 v11 σ10
        else none
      else none
def X12_town (σ : Mem) : Option (Int32 × Mem) :=
  (X12_readAll σ).bind fun σ1 =>
  if (σ1.1 1000 2) ≤ 0 then
    bv (sI σ1 1000 45 (σ1.1 1000 42)) fun σ2 =>
    bv (sI σ2 1000 46 (σ2.1 1000 44)) fun σ3 =>
    if (σ3.1 1000 49) = 0 ∨ (σ3.1 1000 49) = 1 then bv (sI σ3 1000 52 (σ3.1 1000 49)) fun σ4 =>
      if (σ4.1 1000 50) = 0 ∨ (σ4.1 1000 50) = 1 then bv (sI σ4 1000 53 (σ4.1 1000 50)) fun σ5 =>
        if (σ5.1 1000 51) = 0 ∨ (σ5.1 1000 51) = 1 then bv (sI σ5 1000 54 (σ5.1 1000 51)) fun σ6 =>
          bv (sI σ6 1000 22 (σ6.1 1000 21)) fun σ7 =>
          bv (0 : Int32) fun v8 =>
          X12_town_63 fu v8 σ7
        else none
      else none
    else none
  else
    some ((-1), σ1)
def X12_fault (x1 : Int32) (σ : Mem) : Option (Int32 × Mem) :=
  if x1 = 0 then
    some (σ.1 1000 2, σ)
  else
    if x1 = 1 then
      some (σ.1 1000 3, σ)
    else
      some ((-1), σ)
def X12_isIn (x0 : Int32) (x1 : Int32) (x2 : Int32) (σ : Mem) : Option (Int32 × Mem) :=
  if x0 < x1 then
    some (0, σ)
  else
    if x2 < x0 then
      some (0, σ)
    else
      some (1, σ)
def X12_isPerson (x1 : Int32) (σ : Mem) : Option (Int32 × Mem) :=
  (X12_isIn x1 0 ((σ.1 1000 45) - 1) σ).bind fun r1 =>
  some (r1.1 &&& 1, r1.2)
def X12_areTwo (x1 : Int32) (x2 : Int32) (σ : Mem) : Option (Int32 × Mem) :=
  (X12_isPerson x1 σ).bind fun r1 =>
  if r1.1 = 0 then
    some (0, r1.2)
  else
    (X12_isPerson x2 r1.2).bind fun r2 =>
    if r2.1 = 0 then
      some (0, r2.2)
    else
      if x1 = x2 then
        some (0, r2.2)
      else
        some (1, r2.2)
def X12_load_87 : Nat → Int32 → Mem → Option Mem
  | 0, _, _ => none
  | n + 1, x1, σ =>
    if 36 ≤ x1 then
      bv (sI σ 1000 62 (σ.1 1028 60)) fun σ9 =>
      bv (sI σ9 1000 63 (σ9.1 1028 61)) fun σ10 =>
      some σ10
    else
      if ib (24 + x1) 64 = true then
        if ib x1 36 = true then bv (sI σ 1033 x1.toNatClampNeg (σ.1 1028 (24 + x1).toNatClampNeg)) fun σ11 =>
          bv (x1 + 1 : Int32) fun v12 =>
          X12_load_87 n v12 σ11
        else none
      else none
def X12_load_2 : Nat → Int32 → Mem → Option Mem
  | 0, _, _ => none
  | n + 1, x1, σ =>
    if 6 ≤ x1 then
      bv (0 : Int32) fun v2 =>
      X12_load_87 fu v2 σ
    else
      if ib (0 + x1) 64 = true then
        if ib x1 6 = true then bv (sI σ 1029 x1.toNatClampNeg (σ.1 1028 (0 + x1).toNatClampNeg)) fun σ3 =>
          if ib (6 + x1) 64 = true then
            if ib x1 6 = true then bv (sI σ3 1030 x1.toNatClampNeg (σ3.1 1028 (6 + x1).toNatClampNeg)) fun σ4 =>
              if ib (12 + x1) 64 = true then
                if ib x1 6 = true then bv (sI σ4 1031 x1.toNatClampNeg (σ4.1 1028 (12 + x1).toNatClampNeg)) fun σ5 =>
                  if ib (18 + x1) 64 = true then
                    if ib x1 6 = true then bv (sI σ5 1032 x1.toNatClampNeg (σ5.1 1028 (18 + x1).toNatClampNeg)) fun σ6 =>
                      if ib x1 6 = true then
                        if ib x1 6 = true then bv (sI σ6 1034 x1.toNatClampNeg (σ6.1 1021 x1.toNatClampNeg)) fun σ7 =>
                          bv (x1 + 1 : Int32) fun v8 =>
                          X12_load_2 n v8 σ7
                        else none
                      else none
                    else none
                  else none
                else none
              else none
            else none
          else none
        else none
      else none
def X12_load (σ : Mem) : Option Mem :=
  bv (0 : Int32) fun v1 =>
  X12_load_2 fu v1 σ
def X12_keep_45 : Nat → Int32 → Mem → Option Mem
  | 0, _, _ => none
  | n + 1, x1, σ =>
    if 36 ≤ x1 then
      bv (sI σ 1028 60 (σ.1 1000 62)) fun σ6 =>
      bv (sI σ6 1028 61 (σ6.1 1000 63)) fun σ7 =>
      some σ7
    else
      if ib x1 36 = true then
        if ib (24 + x1) 64 = true then bv (sI σ 1028 (24 + x1).toNatClampNeg (σ.1 1033 x1.toNatClampNeg)) fun σ8 =>
          bv (x1 + 1 : Int32) fun v9 =>
          X12_keep_45 n v9 σ8
        else none
      else none
def X12_keep_2 : Nat → Int32 → Mem → Option Mem
  | 0, _, _ => none
  | n + 1, x1, σ =>
    if 6 ≤ x1 then
      bv (0 : Int32) fun v2 =>
      X12_keep_45 fu v2 σ
    else
      if ib x1 6 = true then
        if ib (0 + x1) 64 = true then bv (sI σ 1028 (0 + x1).toNatClampNeg (σ.1 1029 x1.toNatClampNeg)) fun σ3 =>
          if ib x1 6 = true then
            if ib (18 + x1) 64 = true then bv (sI σ3 1028 (18 + x1).toNatClampNeg (σ3.1 1032 x1.toNatClampNeg)) fun σ4 =>
              bv (x1 + 1 : Int32) fun v5 =>
              X12_keep_2 n v5 σ4
            else none
          else none
        else none
      else none
def X12_keep (σ : Mem) : Option Mem :=
  bv (0 : Int32) fun v1 =>
  X12_keep_2 fu v1 σ
def X12_wetAt_40 (s0 : Int32) (σ : Mem) : Option (Int32 × Mem) :=
  (X12_truth s0 σ).bind fun r5 =>
  some (r5.1, r5.2)
def X12_wetAt (x1 : Int32) (x2 : Int32) (σ : Mem) : Option (Int32 × Mem) :=
  if (σ.1 1000 54) = 0 then
    some (0, σ)
  else
    (X12_noAsks σ).bind fun σ1 =>
    bv (sI σ1 1011 1 x1) fun σ2 =>
    bv (sI σ2 1011 2 x2) fun σ3 =>
    (X12_worked 2 σ3).bind fun r4 =>
    if r4.1 = 0 then
      X12_wetAt_40 0 r4.2
    else
      X12_wetAt_40 1 r4.2
def X12_doesRest (x1 : Int32) (σ : Mem) : Option (Int32 × Mem) :=
  if ib x1 6 = true then
    if (σ.1 1000 63) < ((σ.1 1000 46) - (σ.1 1024 x1.toNatClampNeg)) then
      some (0, σ)
    else
      some (1, σ)
  else none
def X12_nearer (x0 : Int32) (x1 : Int32) (σ : Mem) : Option (Int32 × Mem) :=
  if x1 ≤ x0 then
    if x0 ≤ x1 then
      some (x0, σ)
    else
      some (x0 - 1, σ)
  else
    some (x0 + 1, σ)
def X12_goal_17 (x1 : Int32) (σ : Mem) : Option (Int32 × Mem) :=
  if ib x1 6 = true then
    some (σ.1 1020 x1.toNatClampNeg, σ)
  else none
def X12_goal (x1 : Int32) (σ : Mem) : Option (Int32 × Mem) :=
  if ib x1 6 = true then
    if (σ.1 1030 x1.toNatClampNeg) < 0 then
      X12_goal_17 x1 σ
    else
      (X12_doesRest x1 σ).bind fun r1 =>
      if r1.1 = 0 then
        if ib x1 6 = true then
          if ib (r1.2.1 1030 x1.toNatClampNeg) 6 = true then
            some (r1.2.1 1020 (r1.2.1 1030 x1.toNatClampNeg).toNatClampNeg, r1.2)
          else none
        else none
      else
        X12_goal_17 x1 r1.2
  else none
def X12_goOut_142 (k81 : Int32 → Mem → Option Mem) (x1 : Int32) (x2 : Int32) (s0 : Int32) (s1 : Int32) (σ : Mem) : Option Mem :=
  if ib s1 6 = true then bv (sI σ 1036 s1.toNatClampNeg (s0 &&& 1)) fun σ10 =>
    if ib x1 6 = true then bv (sI σ10 1029 x1.toNatClampNeg x2) fun σ11 =>
      bv (x1 + 1 : Int32) fun v12 =>
      k81 v12 σ11
    else none
  else none
def X12_goOut_121 (k81 : Int32 → Mem → Option Mem) (x1 : Int32) (s0 : Int32) (σ : Mem) : Option Mem :=
  if ib x1 6 = true then
    if s0 = (σ.1 1029 x1.toNatClampNeg) then
      X12_goOut_142 (k81) x1 s0 0 x1 σ
    else
      X12_goOut_142 (k81) x1 s0 1 x1 σ
  else none
def X12_goOut_71 (k72 : Int32 → Int32 → Int32 → Mem → Option Mem) (x1 : Int32) (s0 : Int32) (σ : Mem) : Option Mem :=
  k72 x1 0 s0 σ
def X12_goOut_72 (k2 : Int32 → Mem → Option Mem) (x1 : Int32) (s0 : Int32) (s1 : Int32) (σ : Mem) : Option Mem :=
  if ib s1 6 = true then bv (sI σ 1035 s1.toNatClampNeg (s0 &&& 1)) fun σ8 =>
    bv (x1 + 1 : Int32) fun v9 =>
    k2 v9 σ8
  else none
def X12_goOut_81 : Nat → Int32 → Mem → Option Mem
  | 0, _, _ => none
  | n + 1, x1, σ =>
    if (σ.1 1000 45) ≤ x1 then
      some σ
    else
      if ib x1 6 = true then
        if (σ.1 1035 x1.toNatClampNeg) = 0 then
          if ib x1 6 = true then
            (X12_goal x1 σ).bind fun r6 =>
            (X12_nearer (σ.1 1029 x1.toNatClampNeg) r6.1 r6.2).bind fun r7 =>
            X12_goOut_121 (X12_goOut_81 n) x1 r7.1 r7.2
          else none
        else
          if ib x1 6 = true then
            X12_goOut_121 (X12_goOut_81 n) x1 (σ.1 1029 x1.toNatClampNeg) σ
          else none
      else none
def X12_goOut_2 : Nat → Int32 → Mem → Option Mem
  | 0, _, _ => none
  | n + 1, x1, σ =>
    if (σ.1 1000 45) ≤ x1 then
      bv (0 : Int32) fun v2 =>
      X12_goOut_81 fu v2 σ
    else
      if ib x1 6 = true then
        bv (σ.1 1030 x1.toNatClampNeg : Int32) fun v3 =>
        if v3 < 0 then
          X12_goOut_71 (X12_goOut_72 (X12_goOut_2 n)) x1 x1 σ
        else
          if ib v3 6 = true then
            if (σ.1 1030 v3.toNatClampNeg) = x1 then
              if ib x1 6 = true then
                if ib v3 6 = true then
                  if (σ.1 1029 x1.toNatClampNeg) = (σ.1 1029 v3.toNatClampNeg) then
                    (X12_doesRest x1 σ).bind fun r4 =>
                    if r4.1 = 0 then
                      (X12_doesRest v3 r4.2).bind fun r5 =>
                      if r5.1 = 0 then
                        X12_goOut_72 (X12_goOut_2 n) x1 1 x1 r5.2
                      else
                        X12_goOut_71 (X12_goOut_72 (X12_goOut_2 n)) x1 x1 r5.2
                    else
                      X12_goOut_71 (X12_goOut_72 (X12_goOut_2 n)) x1 x1 r4.2
                  else
                    X12_goOut_71 (X12_goOut_72 (X12_goOut_2 n)) x1 x1 σ
                else none
              else none
            else
              X12_goOut_71 (X12_goOut_72 (X12_goOut_2 n)) x1 x1 σ
          else none
      else none
def X12_goOut (σ : Mem) : Option Mem :=
  bv (0 : Int32) fun v1 =>
  X12_goOut_2 fu v1 σ
def X12_isOpen (x1 : Int32) (σ : Mem) : Option (Int32 × Mem) :=
  if ib x1 6 = true then
    if (σ.1 1000 63) < (σ.1 1034 x1.toNatClampNeg) then
      some (0, σ)
    else
      if ib x1 6 = true then
        if ib x1 6 = true then
          if ib x1 6 = true then
            if (((σ.1 1034 x1.toNatClampNeg) + (σ.1 1022 x1.toNatClampNeg)) - (σ.1 1021 x1.toNatClampNeg)) ≤ (σ.1 1000 63) then
              some (0, σ)
            else
              some (1, σ)
          else none
        else none
      else none
  else none
def X12_doesWait (x1 : Int32) (σ : Mem) : Option (Int32 × Mem) :=
  if ib x1 6 = true then
    if (σ.1 1035 x1.toNatClampNeg) = 0 then
      (X12_doesRest x1 σ).bind fun r1 =>
      if r1.1 = 0 then
        if ib x1 6 = true then
          if (r1.2.1 1036 x1.toNatClampNeg) = 0 then
            if ib x1 6 = true then
              if (r1.2.1 1030 x1.toNatClampNeg) < 0 then
                some (0, r1.2)
              else
                if ib x1 6 = true then
                  (X12_isOpen (r1.2.1 1030 x1.toNatClampNeg) r1.2).bind fun r2 =>
                  if r2.1 = 0 then
                    some (0, r2.2)
                  else
                    some (1, r2.2)
                else none
            else none
          else
            some (0, r1.2)
        else none
      else
        some (0, r1.2)
    else
      some (1, σ)
  else none
def X12_atDoor (x1 : Int32) (x2 : Int32) (σ : Mem) : Option (Int32 × Mem) :=
  if ib x1 6 = true then
    if (σ.1 1037 x1.toNatClampNeg) = 0 then
      some (0, σ)
    else
      if ib x1 6 = true then
        if (σ.1 1035 x1.toNatClampNeg) = 0 then
          if ib x1 6 = true then
            if (σ.1 1030 x1.toNatClampNeg) = x2 then
              some (1, σ)
            else
              some (0, σ)
          else none
        else
          some (0, σ)
      else none
  else none
def X12_isSeated_4 : Nat → Int32 → Int32 → Int32 → Mem → Option (Int32 × Mem)
  | 0, _, _, _, _ => none
  | n + 1, x1, x2, x3, σ =>
    if x1 ≤ x3 then
      if ib x1 6 = true then
        if (σ.1 1035 x1.toNatClampNeg) = 0 then
          if ib x1 6 = true then
            if ib (σ.1 1030 x1.toNatClampNeg) 6 = true then
              if (σ.1 1023 (σ.1 1030 x1.toNatClampNeg).toNatClampNeg) ≤ x2 then
                some (0, σ)
              else
                some (1, σ)
            else none
          else none
        else
          some (0, σ)
      else none
    else
      if ib x1 6 = true then
        (X12_atDoor x3 (σ.1 1030 x1.toNatClampNeg) σ).bind fun r3 =>
        (X12_truth r3.1 r3.2).bind fun r4 =>
        bv (x2 + r4.1 : Int32) fun v5 =>
        bv (x3 + 1 : Int32) fun v6 =>
        X12_isSeated_4 n x1 v5 v6 r4.2
      else none
def X12_isSeated (x1 : Int32) (σ : Mem) : Option (Int32 × Mem) :=
  bv (0 : Int32) fun v1 =>
  bv (0 : Int32) fun v2 =>
  X12_isSeated_4 fu x1 v1 v2 σ
def X12_pay_300 (x1 : Int32) (x2 : Int32) (x5 : Int32) (σ : Mem) : Option Mem :=
  if ib x1 6 = true then bv (sI σ 1038 x1.toNatClampNeg x5) fun σ20 =>
    if ib x2 36 = true then
      if ib x2 36 = true then bv (sI σ20 1033 x2.toNatClampNeg ((σ20.1 1033 x2.toNatClampNeg) - x5)) fun σ21 =>
        some σ21
      else none
    else none
  else none
def X12_pay_260 (x1 : Int32) (x2 : Int32) (x4 : Int32) (x5 : Int32) (σ : Mem) : Option Mem :=
  if x4 = 0 then
    X12_pay_300 x1 x2 x5 σ
  else
    if ib x1 6 = true then
      bv (σ.1 1031 x1.toNatClampNeg : Int32) fun v17 =>
      if ib v17 6 = true then
        if ib x1 6 = true then
          if ib v17 6 = true then bv (sI σ 1032 v17.toNatClampNeg ((σ.1 1032 v17.toNatClampNeg) - (σ.1 1025 x1.toNatClampNeg))) fun σ18 =>
            if ib x1 6 = true then
              if ib x1 6 = true then
                if ib x1 6 = true then bv (sI σ18 1032 x1.toNatClampNeg ((σ18.1 1032 x1.toNatClampNeg) + (σ18.1 1025 x1.toNatClampNeg))) fun σ19 =>
                  X12_pay_300 x1 x2 x5 σ19
                else none
              else none
            else none
          else none
        else none
      else none
    else none
def X12_pay_227 (x1 : Int32) (x2 : Int32) (x4 : Int32) (s0 : Int32) (σ : Mem) : Option Mem :=
  if s0 = 0 then
    some σ
  else
    if x4 = 0 then
      X12_pay_260 x1 x2 x4 s0 σ
    else
      if ib x1 6 = true then
        if ib (σ.1 1031 x1.toNatClampNeg) 6 = true then
          if ib x1 6 = true then
            if (σ.1 1025 x1.toNatClampNeg) ≤ (σ.1 1032 (σ.1 1031 x1.toNatClampNeg).toNatClampNeg) then
              X12_pay_260 x1 x2 x4 s0 σ
            else
              some σ
          else none
        else none
      else none
def X12_pay_203 (x1 : Int32) (x2 : Int32) (x4 : Int32) (s0 : Int32) (σ : Mem) : Option Mem :=
  if ib x2 36 = true then
    if s0 ≤ (σ.1 1033 x2.toNatClampNeg) then
      X12_pay_227 x1 x2 x4 s0 σ
    else
      if ib x2 36 = true then
        X12_pay_227 x1 x2 x4 (σ.1 1033 x2.toNatClampNeg) σ
      else none
  else none
def X12_pay_176 (x1 : Int32) (x2 : Int32) (x4 : Int32) (s0 : Int32) (σ : Mem) : Option Mem :=
  if 0 ≤ s0 then
    if s0 ≤ 240 then
      X12_pay_203 x1 x2 x4 s0 σ
    else
      X12_pay_203 x1 x2 x4 240 σ
  else
    X12_pay_203 x1 x2 x4 0 σ
def X12_pay_77 (x1 : Int32) (x2 : Int32) (x3 : Int32) (s0 : Int32) (σ : Mem) : Option Mem :=
  if ib x2 36 = true then
    bv (sI σ 1011 0 (σ.1 1033 x2.toNatClampNeg)) fun σ5 =>
    bv (sI σ5 1011 1 (σ5.1 1000 62)) fun σ6 =>
    bv (sI σ6 1011 2 (σ6.1 1000 63)) fun σ7 =>
    bv (sI σ7 1011 3 x3) fun σ8 =>
    (X12_isSeated x1 σ8).bind fun r9 =>
    (X12_truth r9.1 r9.2).bind fun r10 =>
    bv (sI r10.2 1011 4 r10.1) fun σ11 =>
    if ib x1 6 = true then
      (X12_truth (σ11.1 1035 x1.toNatClampNeg) σ11).bind fun r12 =>
      bv (sI r12.2 1011 5 r12.1) fun σ13 =>
      (X12_truth s0 σ13).bind fun r14 =>
      bv (sI r14.2 1011 6 r14.1) fun σ15 =>
      if (σ15.1 1000 52) = 0 then
        X12_pay_176 x1 x2 s0 60 σ15
      else
        (X12_worked 0 σ15).bind fun r16 =>
        X12_pay_176 x1 x2 s0 r16.1 r16.2
    else none
  else none
def X12_pay (x1 : Int32) (σ : Mem) : Option Mem :=
  if ib x1 6 = true then bv (sI σ 1038 x1.toNatClampNeg 0) fun σ1 =>
    if ib x1 6 = true then
      if (σ1.1 1037 x1.toNatClampNeg) = 0 then
        some σ1
      else
        if ib x1 6 = true then
          if ib x1 6 = true then
            if (σ1.1 1031 x1.toNatClampNeg) = (σ1.1 1030 x1.toNatClampNeg) then
              some σ1
            else
              if ib x1 6 = true then
                if ib x1 6 = true then
                  bv ((6 * (σ1.1 1031 x1.toNatClampNeg)) + (σ1.1 1030 x1.toNatClampNeg) : Int32) fun v2 =>
                  (X12_wetAt (σ1.1 1000 62) (σ1.1 1000 63) σ1).bind fun r3 =>
                  bv (r3.1 : Int32) fun v4 =>
                  if ib x1 6 = true then
                    if (r3.2.1 1031 x1.toNatClampNeg) = x1 then
                      X12_pay_77 x1 v2 v4 0 r3.2
                    else
                      X12_pay_77 x1 v2 v4 1 r3.2
                  else none
                else none
              else none
          else none
        else none
    else none
  else none
def X12_dusk_115 (k116 : Int32 → Mem → Option Mem) (x1 : Int32) (s0 : Int32) (s1 : Int32) (σ : Mem) : Option Mem :=
  if ib s1 36 = true then bv (sI σ 1033 s1.toNatClampNeg s0) fun σ13 =>
    k116 x1 σ13
  else none
def X12_dusk_81 (k116 : Int32 → Mem → Option Mem) (x1 : Int32) (s0 : Int32) (σ : Mem) : Option Mem :=
  if ib x1 36 = true then
    if ((σ.1 1033 x1.toNatClampNeg) + s0) ≤ 9999 then
      if ib x1 36 = true then
        X12_dusk_115 (k116) x1 ((σ.1 1033 x1.toNatClampNeg) + s0) x1 σ
      else none
    else
      X12_dusk_115 (k116) x1 9999 x1 σ
  else none
def X12_dusk_116 (k2 : Int32 → Mem → Option Mem) (x1 : Int32) (σ : Mem) : Option Mem :=
  bv (x1 + 1 : Int32) fun v8 =>
  k2 v8 σ
def X12_dusk_124 : Nat → Int32 → Mem → Option Mem
  | 0, _, _ => none
  | n + 1, x1, σ =>
    if (σ.1 1000 45) ≤ x1 then
      bv (sI σ 1000 63 0) fun σ9 =>
      bv (sI σ9 1000 62 ((σ9.1 1000 62) + 1)) fun σ10 =>
      some σ10
    else
      if ib x1 6 = true then
        if ib x1 6 = true then bv (sI σ 1029 x1.toNatClampNeg (σ.1 1020 x1.toNatClampNeg)) fun σ11 =>
          bv (x1 + 1 : Int32) fun v12 =>
          X12_dusk_124 n v12 σ11
        else none
      else none
def X12_dusk_122 (σ : Mem) : Option Mem :=
  bv (0 : Int32) fun v7 =>
  X12_dusk_124 fu v7 σ
def X12_dusk_2 : Nat → Int32 → Mem → Option Mem
  | 0, _, _ => none
  | n + 1, x1, σ =>
    if 36 ≤ x1 then
      X12_dusk_122 σ
    else
      if (σ.1 1000 53) = 0 then
        X12_dusk_122 σ
      else
        if ib x1 36 = true then
          if (σ.1 1033 x1.toNatClampNeg) = 0 then
            X12_dusk_116 (X12_dusk_2 n) x1 σ
          else
            (X12_noAsks σ).bind fun σ2 =>
            if ib x1 36 = true then
              bv (sI σ2 1011 0 (σ2.1 1033 x1.toNatClampNeg)) fun σ3 =>
              bv (sI σ3 1011 1 (σ3.1 1000 62)) fun σ4 =>
              (X12_worked 1 σ4).bind fun r5 =>
              bv (r5.1 : Int32) fun v6 =>
              if 0 ≤ v6 then
                if v6 ≤ 9999 then
                  X12_dusk_81 (X12_dusk_116 (X12_dusk_2 n)) x1 v6 r5.2
                else
                  X12_dusk_81 (X12_dusk_116 (X12_dusk_2 n)) x1 9999 r5.2
              else
                X12_dusk_81 (X12_dusk_116 (X12_dusk_2 n)) x1 0 r5.2
            else none
        else none
def X12_dusk (σ : Mem) : Option Mem :=
  bv (0 : Int32) fun v1 =>
  X12_dusk_2 fu v1 σ
def X12_goHour_33 : Nat → Int32 → Mem → Option Mem
  | 0, _, _ => none
  | n + 1, x1, σ =>
    if (σ.1 1000 45) ≤ x1 then
      bv (sI σ 1000 63 ((σ.1 1000 63) + 1)) fun σ7 =>
      if (σ7.1 1000 63) = (σ7.1 1000 46) then
        (X12_dusk σ7).bind fun σ8 =>
        some σ8
      else
        some σ7
    else
      (X12_pay x1 σ).bind fun σ9 =>
      bv (x1 + 1 : Int32) fun v10 =>
      X12_goHour_33 n v10 σ9
def X12_goHour_6 : Nat → Int32 → Mem → Option Mem
  | 0, _, _ => none
  | n + 1, x1, σ =>
    if (σ.1 1000 45) ≤ x1 then
      bv (0 : Int32) fun v3 =>
      X12_goHour_33 fu v3 σ
    else
      (X12_doesWait x1 σ).bind fun r4 =>
      if ib x1 6 = true then bv (sI r4.2 1037 x1.toNatClampNeg (r4.1 &&& 1)) fun σ5 =>
        bv (x1 + 1 : Int32) fun v6 =>
        X12_goHour_6 n v6 σ5
      else none
def X12_goHour (σ : Mem) : Option Mem :=
  (X12_goOut σ).bind fun σ1 =>
  bv (0 : Int32) fun v2 =>
  X12_goHour_6 fu v2 σ1
def X12_goHours_2 : Nat → Int32 → Int32 → Mem → Option Mem
  | 0, _, _, _ => none
  | n + 1, x1, x2, σ =>
    if x1 ≤ x2 then
      some σ
    else
      (X12_goHour σ).bind fun σ2 =>
      bv (x2 + 1 : Int32) fun v3 =>
      X12_goHours_2 n x1 v3 σ2
def X12_goHours (x1 : Int32) (σ : Mem) : Option Mem :=
  bv (0 : Int32) fun v1 =>
  X12_goHours_2 fu x1 v1 σ
def X12_person (x1 : Int32) (x2 : Int32) (σ : Mem) : Option (Int32 × Mem) :=
  (X12_isPerson x1 σ).bind fun r1 =>
  if r1.1 = 0 then
    some ((-2), r1.2)
  else
    if x2 = 0 then
      if ib (0 + x1) 64 = true then
        some (r1.2.1 1028 (0 + x1).toNatClampNeg, r1.2)
      else none
    else
    if x2 = 1 then
      if ib (6 + x1) 64 = true then
        some (r1.2.1 1028 (6 + x1).toNatClampNeg, r1.2)
      else none
    else
    if x2 = 2 then
      if ib (12 + x1) 64 = true then
        some (r1.2.1 1028 (12 + x1).toNatClampNeg, r1.2)
      else none
    else
    if x2 = 3 then
      if ib (18 + x1) 64 = true then
        some (r1.2.1 1028 (18 + x1).toNatClampNeg, r1.2)
      else none
    else
    if x2 = 4 then
      if ib x1 6 = true then
        some (r1.2.1 1020 x1.toNatClampNeg, r1.2)
      else none
    else
    if x2 = 5 then
      if ib x1 6 = true then
        some (r1.2.1 1021 x1.toNatClampNeg, r1.2)
      else none
    else
    if x2 = 6 then
      if ib x1 6 = true then
        some (r1.2.1 1022 x1.toNatClampNeg, r1.2)
      else none
    else
    if x2 = 7 then
      if ib x1 6 = true then
        some (r1.2.1 1023 x1.toNatClampNeg, r1.2)
      else none
    else
    if x2 = 8 then
      if ib x1 6 = true then
        some (r1.2.1 1024 x1.toNatClampNeg, r1.2)
      else none
    else
    if x2 = 9 then
      if ib x1 6 = true then
        some (r1.2.1 1025 x1.toNatClampNeg, r1.2)
      else none
    else
    some ((-2), r1.2)
def X12_owed (x1 : Int32) (x2 : Int32) (σ : Mem) : Option (Int32 × Mem) :=
  (X12_areTwo x1 x2 σ).bind fun r1 =>
  if r1.1 = 0 then
    some ((-1), r1.2)
  else
    if ib ((24 + (6 * x1)) + x2) 64 = true then
      some (r1.2.1 1028 ((24 + (6 * x1)) + x2).toNatClampNeg, r1.2)
    else none
def X12_sumOf_46 (k5 : Int32 → Int32 → Int32 → Int32 → Mem → Option (Int32 × Mem)) (x1 : Int32) (x2 : Int32) (x4 : Int32) (s0 : Int32) (s1 : Int32) (σ : Mem) : Option (Int32 × Mem) :=
  bv (s1 + s0 : Int32) fun v3 =>
  bv (x4 + 1 : Int32) fun v4 =>
  k5 x1 x2 v3 v4 σ
def X12_sumOf_5 : Nat → Int32 → Int32 → Int32 → Int32 → Mem → Option (Int32 × Mem)
  | 0, _, _, _, _, _ => none
  | n + 1, x1, x2, x3, x4, σ =>
    if (σ.1 1000 45) ≤ x4 then
      some (x3, σ)
    else
      if x2 = 0 then
        if ib ((6 * x1) + x4) 36 = true then
          X12_sumOf_46 (X12_sumOf_5 n) x1 x2 x4 (σ.1 1033 ((6 * x1) + x4).toNatClampNeg) x3 σ
        else none
      else
        if ib ((6 * x4) + x1) 36 = true then
          X12_sumOf_46 (X12_sumOf_5 n) x1 x2 x4 (σ.1 1033 ((6 * x4) + x1).toNatClampNeg) x3 σ
        else none
def X12_sumOf (x1 : Int32) (x2 : Int32) (σ : Mem) : Option (Int32 × Mem) :=
  bv (0 : Int32) fun v1 =>
  bv (0 : Int32) fun v2 =>
  X12_sumOf_5 fu x1 x2 v1 v2 σ
def X12_sum (x1 : Int32) (x2 : Int32) (σ : Mem) : Option (Int32 × Mem) :=
  (X12_load σ).bind fun σ1 =>
  (X12_isPerson x1 σ1).bind fun r2 =>
  if r2.1 = 0 then
    some ((-1), r2.2)
  else
    (X12_sumOf x1 x2 r2.2).bind fun r3 =>
    some (r3.1, r3.2)
def X12_wet (x1 : Int32) (x2 : Int32) (σ : Mem) : Option (Int32 × Mem) :=
  (X12_isIn x1 0 999 σ).bind fun r1 =>
  if r1.1 = 0 then
    some ((-1), r1.2)
  else
    (X12_isIn x2 0 ((r1.2.1 1000 46) - 1) r1.2).bind fun r2 =>
    if r2.1 = 0 then
      some ((-1), r2.2)
    else
      (X12_wetAt x1 x2 r2.2).bind fun r3 =>
      some (r3.1, r3.2)
def X12_pays (x1 : Int32) (σ : Mem) : Option (Int32 × Mem) :=
  (X12_isPerson x1 σ).bind fun r1 =>
  if r1.1 = 0 then
    some ((-1), r1.2)
  else
    (X12_load r1.2).bind fun σ2 =>
    (X12_goHour σ2).bind fun σ3 =>
    if ib x1 6 = true then
      some (σ3.1 1038 x1.toNatClampNeg, σ3)
    else none
def X12_act_11 (k49 : Mem → Option Mem) : Nat → Int32 → Mem → Option Mem
  | 0, _, _ => none
  | n + 1, x1, σ =>
    if 2496 ≤ x1 then
      bv (sI σ 1000 69 ((σ.1 1000 69) - 1)) fun σ3 =>
      k49 σ3
    else
      if ib (64 + x1) 2560 = true then
        if ib x1 2560 = true then bv (sI σ 1039 x1.toNatClampNeg (σ.1 1039 (64 + x1).toNatClampNeg)) fun σ4 =>
          bv (x1 + 1 : Int32) fun v5 =>
          X12_act_11 k49 n v5 σ4
        else none
      else none
def X12_act_51 : Nat → Int32 → Mem → Option Mem
  | 0, _, _ => none
  | n + 1, x1, σ =>
    if 63 ≤ x1 then
      bv (sI σ 1000 69 ((σ.1 1000 69) + 1)) fun σ6 =>
      bv (sI σ6 1000 70 0) fun σ7 =>
      some σ7
    else
      if ib x1 64 = true then
        if ib ((64 * (σ.1 1000 69)) + x1) 2560 = true then bv (sI σ 1039 ((64 * (σ.1 1000 69)) + x1).toNatClampNeg (σ.1 1028 x1.toNatClampNeg)) fun σ8 =>
          bv (x1 + 1 : Int32) fun v9 =>
          X12_act_51 n v9 σ8
        else none
      else none
def X12_act_49 (σ : Mem) : Option Mem :=
  bv (0 : Int32) fun v2 =>
  X12_act_51 fu v2 σ
def X12_act (σ : Mem) : Option Mem :=
  if (σ.1 1000 69) = 40 then
    bv (0 : Int32) fun v1 =>
    X12_act_11 (X12_act_49) fu v1 σ
  else
    X12_act_49 σ
def X12_exchange_2 : Nat → Int32 → Int32 → Mem → Option Mem
  | 0, _, _, _ => none
  | n + 1, x1, x2, σ =>
    if 63 ≤ x2 then
      some σ
    else
      if ib (x1 + x2) 2560 = true then
        bv (σ.1 1039 (x1 + x2).toNatClampNeg : Int32) fun v2 =>
        if ib x2 64 = true then
          if ib (x1 + x2) 2560 = true then bv (sI σ 1039 (x1 + x2).toNatClampNeg (σ.1 1028 x2.toNatClampNeg)) fun σ3 =>
            if ib x2 64 = true then bv (sI σ3 1028 x2.toNatClampNeg v2) fun σ4 =>
              bv (x2 + 1 : Int32) fun v5 =>
              X12_exchange_2 n x1 v5 σ4
            else none
          else none
        else none
      else none
def X12_exchange (x1 : Int32) (σ : Mem) : Option Mem :=
  bv (0 : Int32) fun v1 =>
  X12_exchange_2 fu x1 v1 σ
def X12_aim_21 (x1 : Int32) (x2 : Int32) (σ : Mem) : Option (Int32 × Mem) :=
  if x2 = x1 then
    some ((-2), σ)
  else
    (X12_act σ).bind fun σ3 =>
    if ib (6 + x1) 64 = true then
      bv (σ3.1 1028 (6 + x1).toNatClampNeg : Int32) fun v4 =>
      if ib (6 + x1) 64 = true then bv (sI σ3 1028 (6 + x1).toNatClampNeg x2) fun σ5 =>
        some (v4, σ5)
      else none
    else none
def X12_aim (x1 : Int32) (x2 : Int32) (σ : Mem) : Option (Int32 × Mem) :=
  (X12_isPerson x1 σ).bind fun r1 =>
  if r1.1 = 0 then
    some ((-2), r1.2)
  else
    if x2 = (-1) then
      X12_aim_21 x1 x2 r1.2
    else
      (X12_isPerson x2 r1.2).bind fun r2 =>
      if r2.1 = 0 then
        some ((-2), r2.2)
      else
        X12_aim_21 x1 x2 r2.2
def X12_stand (x1 : Int32) (x2 : Int32) (σ : Mem) : Option (Int32 × Mem) :=
  (X12_isPerson x1 σ).bind fun r1 =>
  if r1.1 = 0 then
    some ((-1), r1.2)
  else
    (X12_isPerson x2 r1.2).bind fun r2 =>
    if r2.1 = 0 then
      some ((-1), r2.2)
    else
      (X12_act r2.2).bind fun σ3 =>
      if ib (12 + x1) 64 = true then
        bv (σ3.1 1028 (12 + x1).toNatClampNeg : Int32) fun v4 =>
        if ib (12 + x1) 64 = true then bv (sI σ3 1028 (12 + x1).toNatClampNeg x2) fun σ5 =>
          some (v4, σ5)
        else none
      else none
def X12_hours (x1 : Int32) (σ : Mem) : Option (Int32 × Mem) :=
  (X12_isIn x1 0 60 σ).bind fun r1 =>
  if r1.1 = 0 then
    some ((-1), r1.2)
  else
    if ((r1.2.1 1028 62) + x1) ≤ 2000 then
      (X12_act r1.2).bind fun σ2 =>
      (X12_load σ2).bind fun σ3 =>
      (X12_goHours x1 σ3).bind fun σ4 =>
      (X12_keep σ4).bind fun σ5 =>
      bv (sI σ5 1028 62 ((σ5.1 1028 62) + x1)) fun σ6 =>
      some (σ6.1 1028 62, σ6)
    else
      some ((-1), r1.2)
def X12_offset_64 (x3 : Int32) (x4 : Int32) (s0 : Int32) (σ : Mem) : Option (Int32 × Mem) :=
  if s0 = 0 then
    some ((-1), σ)
  else
    (X12_act σ).bind fun σ4 =>
    if ib x3 64 = true then
      if ib x3 64 = true then bv (sI σ4 1028 x3.toNatClampNeg ((σ4.1 1028 x3.toNatClampNeg) - s0)) fun σ5 =>
        if ib x4 64 = true then
          if ib x4 64 = true then bv (sI σ5 1028 x4.toNatClampNeg ((σ5.1 1028 x4.toNatClampNeg) - s0)) fun σ6 =>
            some (s0, σ6)
          else none
        else none
      else none
    else none
def X12_offset (x1 : Int32) (x2 : Int32) (σ : Mem) : Option (Int32 × Mem) :=
  (X12_areTwo x1 x2 σ).bind fun r1 =>
  if r1.1 = 0 then
    some ((-1), r1.2)
  else
    bv ((24 + (6 * x1)) + x2 : Int32) fun v2 =>
    bv ((24 + (6 * x2)) + x1 : Int32) fun v3 =>
    if ib v2 64 = true then
      if ib v3 64 = true then
        if (r1.2.1 1028 v3.toNatClampNeg) ≤ (r1.2.1 1028 v2.toNatClampNeg) then
          if ib v3 64 = true then
            X12_offset_64 v2 v3 (r1.2.1 1028 v3.toNatClampNeg) r1.2
          else none
        else
          if ib v2 64 = true then
            X12_offset_64 v2 v3 (r1.2.1 1028 v2.toNatClampNeg) r1.2
          else none
      else none
    else none
def X12_isInRow_26 (k31 : Int32 → Int32 → Int32 → Int32 → Mem → Option (Int32 × Mem)) (x1 : Int32) (x2 : Int32) (x4 : Int32) (σ : Mem) : Option (Int32 × Mem) :=
  k31 x1 x2 x4 1 σ
def X12_isInRow_31 (k5 : Int32 → Int32 → Int32 → Int32 → Mem → Option (Int32 × Mem)) (x1 : Int32) (x2 : Int32) (x4 : Int32) (s0 : Int32) (σ : Mem) : Option (Int32 × Mem) :=
  bv (x4 + 1 : Int32) fun v3 =>
  k5 x1 x2 s0 v3 σ
def X12_isInRow_5 : Nat → Int32 → Int32 → Int32 → Int32 → Mem → Option (Int32 × Mem)
  | 0, _, _, _, _, _ => none
  | n + 1, x1, x2, x3, x4, σ =>
    if x2 ≤ x4 then
      some (x3 &&& 1, σ)
    else
      if x3 = 0 then
        if ib x4 8 = true then
          if (σ.1 1043 x4.toNatClampNeg) = x1 then
            X12_isInRow_26 (X12_isInRow_31 (X12_isInRow_5 n)) x1 x2 x4 σ
          else
            X12_isInRow_31 (X12_isInRow_5 n) x1 x2 x4 0 σ
        else none
      else
        X12_isInRow_26 (X12_isInRow_31 (X12_isInRow_5 n)) x1 x2 x4 σ
def X12_isInRow (x1 : Int32) (x2 : Int32) (σ : Mem) : Option (Int32 × Mem) :=
  bv (0 : Int32) fun v1 =>
  bv (0 : Int32) fun v2 =>
  X12_isInRow_5 fu x1 x2 v1 v2 σ
def X12_debt (x1 : Int32) (x2 : Int32) (σ : Mem) : Option (Int32 × Mem) :=
  if ib ((24 + (6 * x1)) + x2) 64 = true then
    some (σ.1 1028 ((24 + (6 * x1)) + x2).toNatClampNeg, σ)
  else none
def X12_nextAt_49 (k4 : Int32 → Int32 → Mem → Option (Int32 × Mem)) (x1 : Int32) (x3 : Int32) (σ : Mem) : Option (Int32 × Mem) :=
  bv (x3 + 1 : Int32) fun v4 =>
  k4 x1 v4 σ
def X12_nextAt_4 : Nat → Int32 → Int32 → Mem → Option (Int32 × Mem)
  | 0, _, _, _ => none
  | n + 1, x1, x3, σ =>
    if (σ.1 1000 45) ≤ x3 then
      some ((-1), σ)
    else
      if x3 ≤ (σ.1 1043 0) then
        X12_nextAt_49 (X12_nextAt_4 n) x1 x3 σ
      else
        (X12_isInRow x3 x1 σ).bind fun r2 =>
        if r2.1 = 0 then
          if ib (x1 - 1) 8 = true then
            (X12_debt (r2.2.1 1043 (x1 - 1).toNatClampNeg) x3 r2.2).bind fun r3 =>
            if r3.1 ≤ 0 then
              X12_nextAt_49 (X12_nextAt_4 n) x1 x3 r3.2
            else
              some (x3, r3.2)
          else none
        else
          X12_nextAt_49 (X12_nextAt_4 n) x1 x3 r2.2
def X12_nextAt (x1 : Int32) (x2 : Int32) (σ : Mem) : Option (Int32 × Mem) :=
  bv (x2 + 1 : Int32) fun v1 =>
  X12_nextAt_4 fu x1 v1 σ
def X12_note_82 (k43 : Int32 → Int32 → Int32 → Mem → Option Mem) (x1 : Int32) (x3 : Int32) (s0 : Int32) (σ : Mem) : Option Mem :=
  bv (x3 + 1 : Int32) fun v12 =>
  k43 x1 s0 v12 σ
def X12_note_114 : Nat → Int32 → Int32 → Mem → Option Mem
  | 0, _, _, _ => none
  | n + 1, x1, x3, σ =>
    if x1 ≤ x3 then
      some σ
    else
      if ib x3 8 = true then
        if ib x3 8 = true then bv (sI σ 1044 x3.toNatClampNeg (σ.1 1043 x3.toNatClampNeg)) fun σ10 =>
          bv (x3 + 1 : Int32) fun v11 =>
          X12_note_114 n x1 v11 σ10
        else none
      else none
def X12_note_43 : Nat → Int32 → Int32 → Int32 → Mem → Option Mem
  | 0, _, _, _, _ => none
  | n + 1, x1, x2, x3, σ =>
    if x1 ≤ x3 then
      if (σ.1 1000 79) < (x2 * x1) then
        bv (sI σ 1000 79 (x2 * x1)) fun σ5 =>
        bv (sI σ5 1000 80 x1) fun σ6 =>
        bv (0 : Int32) fun v7 =>
        X12_note_114 fu x1 v7 σ6
      else
        some σ
    else
      if ib x3 8 = true then
        if x1 = 0 then none else
        if ib ((x3 + 1) - (x3 + 1) / x1 * x1) 8 = true then
          (X12_debt (σ.1 1043 x3.toNatClampNeg) (σ.1 1043 ((x3 + 1) - (x3 + 1) / x1 * x1).toNatClampNeg) σ).bind fun r8 =>
          bv (r8.1 : Int32) fun v9 =>
          if x2 ≤ v9 then
            X12_note_82 (X12_note_43 n) x1 x3 x2 r8.2
          else
            X12_note_82 (X12_note_43 n) x1 x3 v9 r8.2
        else none
      else none
def X12_note (x1 : Int32) (σ : Mem) : Option Mem :=
  if x1 < 2 then
    some σ
  else
    if ib (x1 - 1) 8 = true then
      (X12_debt (σ.1 1043 (x1 - 1).toNatClampNeg) (σ.1 1043 0) σ).bind fun r1 =>
      if r1.1 = 0 then
        some r1.2
      else
        bv (sI r1.2 1000 78 ((r1.2.1 1000 78) + 1)) fun σ2 =>
        bv (9999 : Int32) fun v3 =>
        bv (0 : Int32) fun v4 =>
        X12_note_43 fu x1 v3 v4 σ2
    else none
def X12_layRings_84 (k36 : Int32 → Int32 → Int32 → Mem → Option Mem) (x1 : Int32) (x2 : Int32) (x3 : Int32) (σ : Mem) : Option Mem :=
  k36 x1 x2 x3 σ
def X12_layRings_36 (k17 : Int32 → Mem → Option Mem) : Nat → Int32 → Int32 → Int32 → Mem → Option Mem
  | 0, _, _, _, _ => none
  | n + 1, x1, x2, x3, σ =>
    if x2 ≤ 0 then
      bv (x1 + 1 : Int32) fun v8 =>
      k17 v8 σ
    else
      (X12_nextAt x2 x3 σ).bind fun r9 =>
      bv (r9.1 : Int32) fun v10 =>
      if v10 < 0 then
        bv (x2 + (-1) : Int32) fun v11 =>
        if ib v11 8 = true then
          bv (r9.2.1 1043 v11.toNatClampNeg : Int32) fun v12 =>
          X12_layRings_84 (X12_layRings_36 k17 n) x1 v11 v12 r9.2
        else none
      else
        if ib x2 8 = true then bv (sI r9.2 1043 x2.toNatClampNeg v10) fun σ13 =>
          bv (x2 + 1 : Int32) fun v14 =>
          (X12_note v14 σ13).bind fun σ15 =>
          bv ((-1) : Int32) fun v16 =>
          X12_layRings_84 (X12_layRings_36 k17 n) x1 v14 v16 σ15
        else none
def X12_layRings_17 : Nat → Int32 → Mem → Option Mem
  | 0, _, _ => none
  | n + 1, x1, σ =>
    if (σ.1 1000 45) ≤ x1 then
      some σ
    else
      bv (sI σ 1043 0 x1) fun σ5 =>
      bv (1 : Int32) fun v6 =>
      bv ((-1) : Int32) fun v7 =>
      X12_layRings_36 (X12_layRings_17 n) fu x1 v6 v7 σ5
def X12_layRings (σ : Mem) : Option Mem :=
  bv (sI σ 1000 78 0) fun σ1 =>
  bv (sI σ1 1000 79 0) fun σ2 =>
  bv (sI σ2 1000 80 0) fun σ3 =>
  bv (0 : Int32) fun v4 =>
  X12_layRings_17 fu v4 σ3
def X12_clear_29 : Nat → Int32 → Int32 → Mem → Option (Int32 × Mem)
  | 0, _, _, _ => none
  | n + 1, x1, x2, σ =>
    if (σ.1 1000 80) ≤ x2 then
      some (σ.1 1000 79, σ)
    else
      if ib x2 8 = true then
        if σ.1 1000 80 = 0 then none else
        if ib ((x2 + 1) - (x2 + 1) / (σ.1 1000 80) * (σ.1 1000 80)) 8 = true then
          bv ((24 + (6 * (σ.1 1044 x2.toNatClampNeg))) + (σ.1 1044 ((x2 + 1) - (x2 + 1) / (σ.1 1000 80) * (σ.1 1000 80)).toNatClampNeg) : Int32) fun v5 =>
          if ib v5 64 = true then
            if ib v5 64 = true then bv (sI σ 1028 v5.toNatClampNeg ((σ.1 1028 v5.toNatClampNeg) - x1)) fun σ6 =>
              bv (x2 + 1 : Int32) fun v7 =>
              X12_clear_29 n x1 v7 σ6
            else none
          else none
        else none
      else none
def X12_clear (σ : Mem) : Option (Int32 × Mem) :=
  (X12_layRings σ).bind fun σ1 =>
  if (σ1.1 1000 78) = 0 then
    some ((-1), σ1)
  else
    (X12_act σ1).bind fun σ2 =>
    if σ2.1 1000 80 = 0 then none else
    bv ((σ2.1 1000 79) / (σ2.1 1000 80) : Int32) fun v3 =>
    bv (0 : Int32) fun v4 =>
    X12_clear_29 fu v3 v4 σ2
def X12_undo (σ : Mem) : Option (Int32 × Mem) :=
  if (σ.1 1000 69) = 0 then
    some (0, σ)
  else
    bv (sI σ 1000 69 ((σ.1 1000 69) - 1)) fun σ1 =>
    bv (sI σ1 1000 70 ((σ1.1 1000 70) + 1)) fun σ2 =>
    (X12_exchange (64 * (σ2.1 1000 69)) σ2).bind fun σ3 =>
    some (1, σ3)
def X12_redo (σ : Mem) : Option (Int32 × Mem) :=
  if (σ.1 1000 70) = 0 then
    some (0, σ)
  else
    (X12_exchange (64 * (σ.1 1000 69)) σ).bind fun σ1 =>
    bv (sI σ1 1000 69 ((σ1.1 1000 69) + 1)) fun σ2 =>
    bv (sI σ2 1000 70 ((σ2.1 1000 70) - 1)) fun σ3 =>
    some (1, σ3)
def X12_will (x1 : Int32) (x2 : Int32) (x3 : Int32) (σ : Mem) : Option (Int32 × Mem) :=
  (X12_areTwo x1 x2 σ).bind fun r1 =>
  if r1.1 = 0 then
    some ((-1), r1.2)
  else
    (X12_isIn x3 0 200 r1.2).bind fun r2 =>
    if r2.1 = 0 then
      some ((-1), r2.2)
    else
      (X12_load r2.2).bind fun σ3 =>
      (X12_goHours x3 σ3).bind fun σ4 =>
      if ib ((6 * x1) + x2) 36 = true then
        some (σ4.1 1033 ((6 * x1) + x2).toNatClampNeg, σ4)
      else none
def X12_paidIn_2 : Nat → Int32 → Int32 → Int32 → Mem → Option (Int32 × Mem)
  | 0, _, _, _, _ => none
  | n + 1, x1, x2, x3, σ =>
    if 200 < x3 then
      some ((-1), σ)
    else
      if ib ((6 * x1) + x2) 36 = true then
        if (σ.1 1033 ((6 * x1) + x2).toNatClampNeg) = 0 then
          some (x3, σ)
        else
          (X12_goHour σ).bind fun σ2 =>
          bv (x3 + 1 : Int32) fun v3 =>
          X12_paidIn_2 n x1 x2 v3 σ2
      else none
def X12_paidIn (x1 : Int32) (x2 : Int32) (σ : Mem) : Option (Int32 × Mem) :=
  bv (0 : Int32) fun v1 =>
  X12_paidIn_2 fu x1 x2 v1 σ
def X12_when (x1 : Int32) (x2 : Int32) (σ : Mem) : Option (Int32 × Mem) :=
  (X12_areTwo x1 x2 σ).bind fun r1 =>
  if r1.1 = 0 then
    some ((-2), r1.2)
  else
    (X12_load r1.2).bind fun σ2 =>
    (X12_paidIn x1 x2 σ2).bind fun r3 =>
    some (r3.1, r3.2)
def X12_throng_108 (k44 : Int32 → Int32 → Int32 → Int32 → Int32 → Int32 → Mem → Option (Int32 × Mem)) (x1 : Int32) (x2 : Int32) (x3 : Int32) (x4 : Int32) (x5 : Int32) (x6 : Int32) (σ : Mem) : Option (Int32 × Mem) :=
  bv (x6 + 1 : Int32) fun v15 =>
  k44 x1 x2 x3 x4 x5 v15 σ
def X12_throng_60 (k44 : Int32 → Int32 → Int32 → Int32 → Int32 → Int32 → Mem → Option (Int32 × Mem)) : Nat → Int32 → Int32 → Int32 → Int32 → Int32 → Int32 → Int32 → Int32 → Mem → Option (Int32 × Mem)
  | 0, _, _, _, _, _, _, _, _, _ => none
  | n + 1, x1, x2, x3, x4, x5, x6, x7, x8, σ =>
    if (σ.1 1000 45) ≤ x8 then
      if x4 < x7 then
        X12_throng_108 (k44) x1 x2 x3 x7 x6 x6 σ
      else
        X12_throng_108 (k44) x1 x2 x3 x4 x5 x6 σ
    else
      (X12_atDoor x8 x1 σ).bind fun r11 =>
      (X12_truth r11.1 r11.2).bind fun r12 =>
      bv (x7 + r12.1 : Int32) fun v13 =>
      bv (x8 + 1 : Int32) fun v14 =>
      X12_throng_60 k44 n x1 x2 x3 x4 x5 x6 v13 v14 r12.2
def X12_throng_44 : Nat → Int32 → Int32 → Int32 → Int32 → Int32 → Int32 → Mem → Option (Int32 × Mem)
  | 0, _, _, _, _, _, _, _ => none
  | n + 1, x1, x2, x3, x4, x5, x6, σ =>
    if x2 < x6 then
      if x3 = 0 then
        some (x4, σ)
      else
        some (x5, σ)
    else
      (X12_goHour σ).bind fun σ8 =>
      bv (0 : Int32) fun v9 =>
      bv (0 : Int32) fun v10 =>
      X12_throng_60 (X12_throng_44 n) fu x1 x2 x3 x4 x5 x6 v9 v10 σ8
def X12_throng (x1 : Int32) (x2 : Int32) (x3 : Int32) (σ : Mem) : Option (Int32 × Mem) :=
  (X12_isPerson x1 σ).bind fun r1 =>
  if r1.1 = 0 then
    some ((-2), r1.2)
  else
    (X12_isIn x2 1 200 r1.2).bind fun r2 =>
    if r2.1 = 0 then
      some ((-2), r2.2)
    else
      (X12_isIn x3 0 1 r2.2).bind fun r3 =>
      if r3.1 = 0 then
        some ((-2), r3.2)
      else
        (X12_load r3.2).bind fun σ4 =>
        bv (0 : Int32) fun v5 =>
        bv ((-1) : Int32) fun v6 =>
        bv (1 : Int32) fun v7 =>
        X12_throng_44 fu x1 x2 x3 v5 v6 v7 σ4
def X12_meeting_62 (k30 : Int32 → Int32 → Int32 → Int32 → Mem → Option (Int32 × Mem)) (x1 : Int32) (x2 : Int32) (x3 : Int32) (x4 : Int32) (σ : Mem) : Option (Int32 × Mem) :=
  bv (x4 + 1 : Int32) fun v6 =>
  k30 x1 x2 x3 v6 σ
def X12_meeting_30 : Nat → Int32 → Int32 → Int32 → Int32 → Mem → Option (Int32 × Mem)
  | 0, _, _, _, _, _ => none
  | n + 1, x1, x2, x3, x4, σ =>
    if x3 < x4 then
      some ((-1), σ)
    else
      (X12_goHour σ).bind fun σ5 =>
      if ib x1 6 = true then
        if (σ5.1 1035 x1.toNatClampNeg) = 0 then
          X12_meeting_62 (X12_meeting_30 n) x1 x2 x3 x4 σ5
        else
          if ib x1 6 = true then
            if (σ5.1 1030 x1.toNatClampNeg) = x2 then
              some (x4, σ5)
            else
              X12_meeting_62 (X12_meeting_30 n) x1 x2 x3 x4 σ5
          else none
      else none
def X12_meeting (x1 : Int32) (x2 : Int32) (x3 : Int32) (σ : Mem) : Option (Int32 × Mem) :=
  (X12_areTwo x1 x2 σ).bind fun r1 =>
  if r1.1 = 0 then
    some ((-2), r1.2)
  else
    (X12_isIn x3 1 200 r1.2).bind fun r2 =>
    if r2.1 = 0 then
      some ((-2), r2.2)
    else
      (X12_load r2.2).bind fun σ3 =>
      bv (1 : Int32) fun v4 =>
      X12_meeting_30 fu x1 x2 x3 v4 σ3
def X12_help_101 (k32 : Int32 → Int32 → Int32 → Int32 → Int32 → Int32 → Mem → Option (Int32 × Mem)) (x1 : Int32) (x2 : Int32) (x3 : Int32) (x4 : Int32) (x5 : Int32) (x6 : Int32) (σ : Mem) : Option (Int32 × Mem) :=
  bv (x6 + 1 : Int32) fun v11 =>
  k32 x1 x2 x3 x4 x5 v11 σ
def X12_help_32 : Nat → Int32 → Int32 → Int32 → Int32 → Int32 → Int32 → Mem → Option (Int32 × Mem)
  | 0, _, _, _, _, _, _, _ => none
  | n + 1, x1, x2, x3, x4, x5, x6, σ =>
    if (σ.1 1000 45) ≤ x6 then
      if 0 ≤ x5 then
        if x3 = 0 then
          some (x4, σ)
        else
          some (x5, σ)
      else
        some ((-1), σ)
    else
      if x6 = x2 then
        X12_help_101 (X12_help_32 n) x1 x2 x3 x4 x5 x6 σ
      else
        (X12_load σ).bind fun σ6 =>
        if ib x6 6 = true then bv (sI σ6 1030 x6.toNatClampNeg x2) fun σ7 =>
          if ib x6 6 = true then bv (sI σ7 1031 x6.toNatClampNeg x1) fun σ8 =>
            (X12_paidIn x1 x2 σ8).bind fun r9 =>
            bv (r9.1 : Int32) fun v10 =>
            if v10 < 0 then
              X12_help_101 (X12_help_32 n) x1 x2 x3 x4 x5 x6 r9.2
            else
              if v10 < x4 then
                X12_help_101 (X12_help_32 n) x1 x2 x3 v10 x6 x6 r9.2
              else
                X12_help_101 (X12_help_32 n) x1 x2 x3 x4 x5 x6 r9.2
          else none
        else none
def X12_help (x1 : Int32) (x2 : Int32) (x3 : Int32) (σ : Mem) : Option (Int32 × Mem) :=
  (X12_areTwo x1 x2 σ).bind fun r1 =>
  if r1.1 = 0 then
    some ((-2), r1.2)
  else
    (X12_isIn x3 0 1 r1.2).bind fun r2 =>
    if r2.1 = 0 then
      some ((-2), r2.2)
    else
      bv (201 : Int32) fun v3 =>
      bv ((-1) : Int32) fun v4 =>
      bv (0 : Int32) fun v5 =>
      X12_help_32 fu x1 x2 x3 v3 v4 v5 r2.2
def X12_layOrder_108 (k100 : Int32 → Int32 → Int32 → Int32 → Int32 → Int32 → Mem → Option Mem) : Nat → Int32 → Int32 → Int32 → Int32 → Int32 → Int32 → Mem → Option Mem
  | 0, _, _, _, _, _, _, _ => none
  | n + 1, x2, x3, x4, x5, x6, x7, σ =>
    if ((x2 >>> (x7 &&& 31)) &&& 1) = 1 then
      bv (x7 + 1 : Int32) fun v17 =>
      X12_layOrder_108 k100 n x2 x3 x4 x5 x6 v17 σ
    else
      bv (x6 + (-1) : Int32) fun v16 =>
      k100 x2 x3 x4 x5 v16 x7 σ
def X12_layOrder_100 (k35 : Int32 → Int32 → Int32 → Int32 → Mem → Option Mem) : Nat → Int32 → Int32 → Int32 → Int32 → Int32 → Int32 → Mem → Option Mem
  | 0, _, _, _, _, _, _, _ => none
  | n + 1, x2, x3, x4, x5, x6, x7, σ =>
    if x6 ≤ 0 then
      bv (x2 ||| (1 <<< (x7 &&& 31)) : Int32) fun v12 =>
      if ib x7 6 = true then
        if ib x5 6 = true then bv (sI σ 1041 x5.toNatClampNeg (σ.1 1040 x7.toNatClampNeg)) fun σ13 =>
          bv (x5 + 1 : Int32) fun v14 =>
          k35 v12 x3 x4 v14 σ13
        else none
      else none
    else
      bv (x7 + 1 : Int32) fun v15 =>
      X12_layOrder_108 (X12_layOrder_100 k35 n) fu x2 x3 x4 x5 x6 v15 σ
def X12_layOrder_84 (k35 : Int32 → Int32 → Int32 → Int32 → Mem → Option Mem) : Nat → Int32 → Int32 → Int32 → Int32 → Int32 → Int32 → Mem → Option Mem
  | 0, _, _, _, _, _, _, _ => none
  | n + 1, x2, x3, x4, x5, x6, x7, σ =>
    if ((x2 >>> (x7 &&& 31)) &&& 1) = 1 then
      bv (x7 + 1 : Int32) fun v11 =>
      X12_layOrder_84 k35 n x2 x3 x4 x5 x6 v11 σ
    else
      X12_layOrder_100 (k35) fu x2 x3 x4 x5 x6 x7 σ
def X12_layOrder_81 (k35 : Int32 → Int32 → Int32 → Int32 → Mem → Option Mem) (x2 : Int32) (x3 : Int32) (x4 : Int32) (x5 : Int32) (x6 : Int32) (σ : Mem) : Option Mem :=
  bv (0 : Int32) fun v10 =>
  X12_layOrder_84 (k35) fu x2 x3 x4 x5 x6 v10 σ
def X12_layOrder_35 : Nat → Int32 → Int32 → Int32 → Int32 → Mem → Option Mem
  | 0, _, _, _, _, _ => none
  | n + 1, x2, x3, x4, x5, σ =>
    if (σ.1 1000 74) ≤ x5 then
      some σ
    else
      if x4 = 0 then none else
      bv (x3 / x4 : Int32) fun v7 =>
      if x4 = 0 then none else
      bv (x3 - x3 / x4 * x4 : Int32) fun v8 =>
      if (((σ.1 1000 74) - 1) - x5) ≤ 0 then
        X12_layOrder_81 (X12_layOrder_35 n) x2 v8 x4 x5 v7 σ
      else
        if ((σ.1 1000 74) - 1) - x5 = 0 then none else
        bv (x4 / (((σ.1 1000 74) - 1) - x5) : Int32) fun v9 =>
        X12_layOrder_81 (X12_layOrder_35 n) x2 v8 v9 x5 v7 σ
def X12_layOrder_10 : Nat → Int32 → Int32 → Int32 → Int32 → Mem → Option Mem
  | 0, _, _, _, _, _ => none
  | n + 1, x2, x3, x4, x5, σ =>
    if (σ.1 1000 74) ≤ x5 then
      bv (0 : Int32) fun v4 =>
      X12_layOrder_35 fu x2 x3 x4 v4 σ
    else
      bv (x4 * x5 : Int32) fun v5 =>
      bv (x5 + 1 : Int32) fun v6 =>
      X12_layOrder_10 n x2 x3 v5 v6 σ
def X12_layOrder (x1 : Int32) (σ : Mem) : Option Mem :=
  bv (0 : Int32) fun v1 =>
  bv (1 : Int32) fun v2 =>
  bv (2 : Int32) fun v3 =>
  X12_layOrder_10 fu v1 x1 v2 v3 σ
def X12_hoursBy_78 (k39 : Int32 → Int32 → Int32 → Int32 → Mem → Option (Int32 × Mem)) (x1 : Int32) (x2 : Int32) (x3 : Int32) (x4 : Int32) (σ : Mem) : Option (Int32 × Mem) :=
  if x3 = (σ.1 1000 74) then
    some (x4, σ)
  else
    if ib x3 6 = true then
      if ib x1 6 = true then bv (sI σ 1030 x1.toNatClampNeg (σ.1 1041 x3.toNatClampNeg)) fun σ9 =>
        (X12_goHour σ9).bind fun σ10 =>
        bv (x4 + 1 : Int32) fun v11 =>
        k39 x1 x2 x3 v11 σ10
      else none
    else none
def X12_hoursBy_45 (k39 : Int32 → Int32 → Int32 → Int32 → Mem → Option (Int32 × Mem)) : Nat → Int32 → Int32 → Int32 → Int32 → Mem → Option (Int32 × Mem)
  | 0, _, _, _, _, _ => none
  | n + 1, x1, x2, x3, x4, σ =>
    if (σ.1 1000 74) ≤ x3 then
      X12_hoursBy_78 (k39) x1 x2 x3 x4 σ
    else
      if ib x3 6 = true then
        if ib ((6 * x1) + (σ.1 1041 x3.toNatClampNeg)) 36 = true then
          if (σ.1 1033 ((6 * x1) + (σ.1 1041 x3.toNatClampNeg)).toNatClampNeg) = 0 then
            bv (x3 + 1 : Int32) fun v8 =>
            X12_hoursBy_45 k39 n x1 x2 v8 x4 σ
          else
            X12_hoursBy_78 (k39) x1 x2 x3 x4 σ
        else none
      else none
def X12_hoursBy_39 : Nat → Int32 → Int32 → Int32 → Int32 → Mem → Option (Int32 × Mem)
  | 0, _, _, _, _, _ => none
  | n + 1, x1, x2, x3, x4, σ =>
    if x2 ≤ x4 then
      some (x2, σ)
    else
      X12_hoursBy_45 (X12_hoursBy_39 n) fu x1 x2 x3 x4 σ
def X12_hoursBy_6 : Nat → Int32 → Int32 → Int32 → Mem → Option (Int32 × Mem)
  | 0, _, _, _, _ => none
  | n + 1, x1, x2, x3, σ =>
    if (σ.1 1000 45) ≤ x3 then
      if ib x1 6 = true then bv (sI σ 1031 x1.toNatClampNeg x1) fun σ3 =>
        bv (0 : Int32) fun v4 =>
        bv (0 : Int32) fun v5 =>
        X12_hoursBy_39 fu x1 x2 v4 v5 σ3
      else none
    else
      if ib x3 6 = true then bv (sI σ 1030 x3.toNatClampNeg (-1)) fun σ6 =>
        bv (x3 + 1 : Int32) fun v7 =>
        X12_hoursBy_6 n x1 x2 v7 σ6
      else none
def X12_hoursBy (x1 : Int32) (x2 : Int32) (σ : Mem) : Option (Int32 × Mem) :=
  (X12_load σ).bind fun σ1 =>
  bv (0 : Int32) fun v2 =>
  X12_hoursBy_6 fu x1 x2 v2 σ1
def X12_plan_137 (k174 : Int32 → Int32 → Int32 → Int32 → Mem → Option (Int32 × Mem)) : Nat → Int32 → Int32 → Int32 → Int32 → Int32 → Mem → Option (Int32 × Mem)
  | 0, _, _, _, _, _, _ => none
  | n + 1, x1, x2, x3, x4, x6, σ =>
    if (σ.1 1000 74) ≤ x6 then
      bv (sI σ 1000 75 (σ.1 1000 74)) fun σ17 =>
      k174 x1 x2 x3 x4 σ17
    else
      if ib x6 6 = true then
        if ib x6 8 = true then bv (sI σ 1042 x6.toNatClampNeg (σ.1 1041 x6.toNatClampNeg)) fun σ18 =>
          bv (x6 + 1 : Int32) fun v19 =>
          X12_plan_137 k174 n x1 x2 x3 x4 v19 σ18
        else none
      else none
def X12_plan_174 (k102 : Int32 → Int32 → Int32 → Int32 → Mem → Option (Int32 × Mem)) (x1 : Int32) (x2 : Int32) (x3 : Int32) (x4 : Int32) (σ : Mem) : Option (Int32 × Mem) :=
  bv (x4 + 1 : Int32) fun v20 =>
  k102 x1 x2 x3 v20 σ
def X12_plan_80 (k28 : Int32 → Int32 → Int32 → Mem → Option (Int32 × Mem)) (x1 : Int32) (x2 : Int32) (x3 : Int32) (σ : Mem) : Option (Int32 × Mem) :=
  bv (x3 + 1 : Int32) fun v16 =>
  k28 x1 x2 v16 σ
def X12_plan_102 : Nat → Int32 → Int32 → Int32 → Int32 → Mem → Option (Int32 × Mem)
  | 0, _, _, _, _, _ => none
  | n + 1, x1, x2, x3, x4, σ =>
    if x2 ≤ x4 then
      if (σ.1 1000 75) = 0 then
        some ((-1), σ)
      else
        some (x3, σ)
    else
      (X12_layOrder x4 σ).bind fun σ12 =>
      (X12_hoursBy x1 x3 σ12).bind fun r13 =>
      bv (r13.1 : Int32) fun v14 =>
      if v14 < x3 then
        bv (0 : Int32) fun v15 =>
        X12_plan_137 (X12_plan_174 (X12_plan_102 n)) fu x1 x2 v14 x4 v15 r13.2
      else
        X12_plan_174 (X12_plan_102 n) x1 x2 x3 x4 r13.2
def X12_plan_28 : Nat → Int32 → Int32 → Int32 → Mem → Option (Int32 × Mem)
  | 0, _, _, _, _ => none
  | n + 1, x1, x2, x3, σ =>
    if (σ.1 1000 45) ≤ x3 then
      if (σ.1 1000 74) = 0 then
        some (0, σ)
      else
        bv (301 : Int32) fun v7 =>
        bv (0 : Int32) fun v8 =>
        X12_plan_102 fu x1 x2 v7 v8 σ
    else
      if ib ((6 * x1) + x3) 36 = true then
        if (σ.1 1033 ((6 * x1) + x3).toNatClampNeg) = 0 then
          X12_plan_80 (X12_plan_28 n) x1 x2 x3 σ
        else
          if ib (σ.1 1000 74) 6 = true then bv (sI σ 1040 (σ.1 1000 74).toNatClampNeg x3) fun σ9 =>
            bv (sI σ9 1000 74 ((σ9.1 1000 74) + 1)) fun σ10 =>
            bv (x2 * (σ10.1 1000 74) : Int32) fun v11 =>
            X12_plan_80 (X12_plan_28 n) x1 v11 x3 σ10
          else none
      else none
def X12_plan (x1 : Int32) (σ : Mem) : Option (Int32 × Mem) :=
  bv (sI σ 1000 75 0) fun σ1 =>
  (X12_isPerson x1 σ1).bind fun r2 =>
  if r2.1 = 0 then
    some ((-1), r2.2)
  else
    (X12_load r2.2).bind fun σ3 =>
    bv (sI σ3 1000 74 0) fun σ4 =>
    bv (1 : Int32) fun v5 =>
    bv (0 : Int32) fun v6 =>
    X12_plan_28 fu x1 v5 v6 σ4
def X12_rings (σ : Mem) : Option (Int32 × Mem) :=
  (X12_layRings σ).bind fun σ1 =>
  some (σ1.1 1000 78, σ1)
def X12_ring_14 : Nat → Int32 → Mem → Option (Int32 × Mem)
  | 0, _, _ => none
  | n + 1, x1, σ =>
    if (σ.1 1000 80) ≤ x1 then
      some (σ.1 1000 79, σ)
    else
      if ib x1 8 = true then
        if ib x1 8 = true then bv (sI σ 1042 x1.toNatClampNeg (σ.1 1044 x1.toNatClampNeg)) fun σ4 =>
          bv (x1 + 1 : Int32) fun v5 =>
          X12_ring_14 n v5 σ4
        else none
      else none
def X12_ring (σ : Mem) : Option (Int32 × Mem) :=
  (X12_layRings σ).bind fun σ1 =>
  bv (sI σ1 1000 75 (σ1.1 1000 80)) fun σ2 =>
  bv (0 : Int32) fun v3 =>
  X12_ring_14 fu v3 σ2
def X12_owedBy (x1 : Int32) (x2 : Int32) (x3 : Int32) (σ : Mem) : Option (Int32 × Mem) :=
  (X12_load σ).bind fun σ1 =>
  if ib x1 6 = true then bv (sI σ1 1034 x1.toNatClampNeg x3) fun σ2 =>
    (X12_goHours x2 σ2).bind fun σ3 =>
    (X12_sumOf x1 1 σ3).bind fun r4 =>
    some (r4.1, r4.2)
  else none
def X12_hide_102 (k51 : Int32 → Int32 → Int32 → Int32 → Int32 → Int32 → Mem → Option (Int32 × Mem)) (x1 : Int32) (x2 : Int32) (x3 : Int32) (x4 : Int32) (x5 : Int32) (x6 : Int32) (σ : Mem) : Option (Int32 × Mem) :=
  bv (x6 + 1 : Int32) fun v10 =>
  k51 x1 x2 x3 x4 x5 v10 σ
def X12_hide_51 : Nat → Int32 → Int32 → Int32 → Int32 → Int32 → Int32 → Mem → Option (Int32 × Mem)
  | 0, _, _, _, _, _, _, _ => none
  | n + 1, x1, x2, x3, x4, x5, x6, σ =>
    if ib x1 6 = true then
      if ib x1 6 = true then
        if ((σ.1 1000 46) - ((σ.1 1022 x1.toNatClampNeg) - (σ.1 1021 x1.toNatClampNeg))) < x6 then
          if x3 = 0 then
            some (x5, σ)
          else
            some (x4, σ)
        else
          (X12_owedBy x1 x2 x6 σ).bind fun r8 =>
          bv (r8.1 : Int32) fun v9 =>
          if x5 < v9 then
            X12_hide_102 (X12_hide_51 n) x1 x2 x3 x6 v9 x6 r8.2
          else
            X12_hide_102 (X12_hide_51 n) x1 x2 x3 x4 x5 x6 r8.2
      else none
    else none
def X12_hide (x1 : Int32) (x2 : Int32) (x3 : Int32) (σ : Mem) : Option (Int32 × Mem) :=
  (X12_isPerson x1 σ).bind fun r1 =>
  if r1.1 = 0 then
    some ((-2), r1.2)
  else
    (X12_isIn x2 1 60 r1.2).bind fun r2 =>
    if r2.1 = 0 then
      some ((-2), r2.2)
    else
      (X12_isIn x3 0 1 r2.2).bind fun r3 =>
      if r3.1 = 0 then
        some ((-2), r3.2)
      else
        if ib x1 6 = true then
          bv (r3.2.1 1021 x1.toNatClampNeg : Int32) fun v4 =>
          (X12_owedBy x1 x2 v4 r3.2).bind fun r5 =>
          bv (r5.1 : Int32) fun v6 =>
          bv (0 : Int32) fun v7 =>
          X12_hide_51 fu x1 x2 x3 v4 v6 v7 r5.2
        else none
def X12_word_160 (k163 : Int32 → Int32 → Int32 → Int32 → Int32 → Int32 → Int32 → Int32 → Mem → Option (Int32 × Mem)) (x1 : Int32) (x2 : Int32) (x3 : Int32) (x4 : Int32) (x5 : Int32) (x6 : Int32) (x7 : Int32) (x8 : Int32) (σ : Mem) : Option (Int32 × Mem) :=
  bv (x4 + 1 : Int32) fun v18 =>
  k163 x1 x2 x3 v18 x5 x6 x7 x8 σ
def X12_word_163 (k82 : Int32 → Int32 → Int32 → Int32 → Int32 → Int32 → Int32 → Int32 → Mem → Option (Int32 × Mem)) (x1 : Int32) (x2 : Int32) (x3 : Int32) (x4 : Int32) (x5 : Int32) (x6 : Int32) (x7 : Int32) (x8 : Int32) (σ : Mem) : Option (Int32 × Mem) :=
  bv (x8 + 1 : Int32) fun v19 =>
  k82 x1 x2 x3 x4 x5 x6 x7 v19 σ
def X12_word_82 (k181 : Int32 → Int32 → Int32 → Int32 → Int32 → Int32 → Mem → Option (Int32 × Mem)) : Nat → Int32 → Int32 → Int32 → Int32 → Int32 → Int32 → Int32 → Int32 → Mem → Option (Int32 × Mem)
  | 0, _, _, _, _, _, _, _, _, _ => none
  | n + 1, x1, x2, x3, x4, x5, x6, x7, x8, σ =>
    if 99 < x8 then
      if ib x6 960 = true then bv (sI σ 1007 x6.toNatClampNeg x7) fun σ9 =>
        bv (x5 + 1 : Int32) fun v10 =>
        k181 x1 x2 x3 x4 v10 x6 σ9
      else none
    else
      if x8 = x7 then
        X12_word_163 (X12_word_82 k181 n) x1 x2 x3 x4 x5 x6 x7 x8 σ
      else
        if ib x6 960 = true then bv (sI σ 1007 x6.toNatClampNeg x8) fun σ11 =>
          (X12_load σ11).bind fun σ12 =>
          (X12_goHours x3 σ12).bind fun σ13 =>
          if ib ((6 * x1) + x2) 36 = true then
            if (σ13.1 1033 ((6 * x1) + x2).toNatClampNeg) ≤ 0 then
              if x4 = 0 then
                bv (sI σ13 1042 0 x5) fun σ14 =>
                bv (sI σ14 1042 1 x8) fun σ15 =>
                bv (sI σ15 1000 75 2) fun σ16 =>
                X12_word_160 (X12_word_163 (X12_word_82 k181 n)) x1 x2 x3 x4 x5 x6 x7 x8 σ16
              else
                X12_word_160 (X12_word_163 (X12_word_82 k181 n)) x1 x2 x3 x4 x5 x6 x7 x8 σ13
            else
              X12_word_163 (X12_word_82 k181 n) x1 x2 x3 x4 x5 x6 x7 x8 σ13
          else none
        else none
def X12_word_181 (k35 : Int32 → Int32 → Int32 → Int32 → Int32 → Int32 → Mem → Option (Int32 × Mem)) (x1 : Int32) (x2 : Int32) (x3 : Int32) (x4 : Int32) (x5 : Int32) (x6 : Int32) (σ : Mem) : Option (Int32 × Mem) :=
  bv (x6 + 1 : Int32) fun v17 =>
  k35 x1 x2 x3 x4 x5 v17 σ
def X12_word_54 (k35 : Int32 → Int32 → Int32 → Int32 → Int32 → Int32 → Mem → Option (Int32 × Mem)) (x1 : Int32) (x2 : Int32) (x3 : Int32) (x4 : Int32) (x5 : Int32) (x6 : Int32) (s0 : Int32) (s1 : Int32) (σ : Mem) : Option (Int32 × Mem) :=
  if s0 ≤ s1 then
    some (x4, σ)
  else
    if ib x6 960 = true then
      if (σ.1 1006 x6.toNatClampNeg) = 0 then
        if ib x6 960 = true then
          bv (σ.1 1007 x6.toNatClampNeg : Int32) fun v7 =>
          bv (0 : Int32) fun v8 =>
          X12_word_82 (X12_word_181 (k35)) fu x1 x2 x3 x4 x5 x6 v7 v8 σ
        else none
      else
        X12_word_181 (k35) x1 x2 x3 x4 x5 x6 σ
    else none
def X12_word_35 : Nat → Int32 → Int32 → Int32 → Int32 → Int32 → Int32 → Mem → Option (Int32 × Mem)
  | 0, _, _, _, _, _, _, _ => none
  | n + 1, x1, x2, x3, x4, x5, x6, σ =>
    if (σ.1 1000 52) = 0 then
      X12_word_54 (X12_word_35 n) x1 x2 x3 x4 x5 x6 0 x6 σ
    else
      X12_word_54 (X12_word_35 n) x1 x2 x3 x4 x5 x6 (σ.1 1008 0) x6 σ
def X12_word (x1 : Int32) (x2 : Int32) (x3 : Int32) (σ : Mem) : Option (Int32 × Mem) :=
  bv (sI σ 1000 75 0) fun σ1 =>
  (X12_areTwo x1 x2 σ1).bind fun r2 =>
  if r2.1 = 0 then
    some ((-1), r2.2)
  else
    (X12_isIn x3 1 60 r2.2).bind fun r3 =>
    if r3.1 = 0 then
      some ((-1), r3.2)
    else
      bv (0 : Int32) fun v4 =>
      bv (0 : Int32) fun v5 =>
      bv (0 : Int32) fun v6 =>
      X12_word_35 fu x1 x2 x3 v4 v5 v6 r3.2
def X12_lies (x1 : Int32) (σ : Mem) : Option (Int32 × Mem) :=
  (X12_isIn x1 0 ((σ.1 1000 75) - 1) σ).bind fun r1 =>
  if r1.1 = 0 then
    some ((-1000000), r1.2)
  else
    if ib x1 8 = true then
      some (r1.2.1 1042 x1.toNatClampNeg, r1.2)
    else none
def X12_step (x1 : Int32) (x2 : Int32) (x3 : Int32) (σ : Mem) : Option (Int32 × Mem) :=
  (X12_isPerson x1 σ).bind fun r1 =>
  if r1.1 = 0 then
    some ((-1), r1.2)
  else
    (X12_isIn x2 0 ((r1.2.1 1000 46) - 1) r1.2).bind fun r2 =>
    if r2.1 = 0 then
      some ((-1), r2.2)
    else
      (X12_isIn x3 0 20 r2.2).bind fun r3 =>
      if r3.1 = 0 then
        some ((-1), r3.2)
      else
        if (r3.2.1 1000 86) = 30 then
          some ((-1), r3.2)
        else
          if ib (r3.2.1 1000 86) 30 = true then bv (sI r3.2 1045 (r3.2.1 1000 86).toNatClampNeg x1) fun σ4 =>
            if ib (σ4.1 1000 86) 30 = true then bv (sI σ4 1046 (σ4.1 1000 86).toNatClampNeg x2) fun σ5 =>
              if ib (σ5.1 1000 86) 30 = true then bv (sI σ5 1047 (σ5.1 1000 86).toNatClampNeg x3) fun σ6 =>
                if ib (σ6.1 1000 86) 30 = true then bv (sI σ6 1048 (σ6.1 1000 86).toNatClampNeg (σ6.1 1000 87)) fun σ7 =>
                  if ib (σ7.1 1000 86) 30 = true then bv (sI σ7 1049 (σ7.1 1000 86).toNatClampNeg (-1)) fun σ8 =>
                    bv (sI σ8 1000 86 ((σ8.1 1000 86) + 1)) fun σ9 =>
                    some ((σ9.1 1000 86) - 1, σ9)
                  else none
                else none
              else none
            else none
          else none
def X12_untell (x1 : Int32) (σ : Mem) : Option (Int32 × Mem) :=
  (X12_isIn x1 0 ((σ.1 1000 86) - 1) σ).bind fun r1 =>
  if r1.1 = 0 then
    some (0, r1.2)
  else
    if ib x1 30 = true then
      if (r1.2.1 1049 x1.toNatClampNeg) < 0 then
        if ib x1 30 = true then bv (sI r1.2 1049 x1.toNatClampNeg (r1.2.1 1000 87)) fun σ2 =>
          some (1, σ2)
        else none
      else
        some (0, r1.2)
    else none
def X12_later (x1 : Int32) (σ : Mem) : Option (Int32 × Mem) :=
  if x1 < 0 then
    some ((-1), σ)
  else
    if 1000 < x1 then
      some ((-1), σ)
    else
      if ((σ.1 1000 87) + x1) ≤ 100000 then
        bv (sI σ 1000 87 ((σ.1 1000 87) + x1)) fun σ1 =>
        some (σ1.1 1000 87, σ1)
      else
        some ((-1), σ)
def X12_placeBy_50 (k11 : Int32 → Int32 → Int32 → Int32 → Int32 → Mem → Option (Int32 × Mem)) (x1 : Int32) (x2 : Int32) (x3 : Int32) (x5 : Int32) (s0 : Int32) (s1 : Int32) (σ : Mem) : Option (Int32 × Mem) :=
  (X12_nearer s1 s0 σ).bind fun r3 =>
  bv (r3.1 : Int32) fun v4 =>
  bv (x5 + 1 : Int32) fun v5 =>
  k11 x1 x2 x3 v4 v5 r3.2
def X12_placeBy_11 : Nat → Int32 → Int32 → Int32 → Int32 → Int32 → Mem → Option (Int32 × Mem)
  | 0, _, _, _, _, _, _ => none
  | n + 1, x1, x2, x3, x4, x5, σ =>
    if x3 < x5 then
      some (x4, σ)
    else
      if ib x1 6 = true then
        if x5 < ((σ.1 1000 46) - (σ.1 1024 x1.toNatClampNeg)) then
          if ib x2 6 = true then
            X12_placeBy_50 (X12_placeBy_11 n) x1 x2 x3 x5 (σ.1 1020 x2.toNatClampNeg) x4 σ
          else none
        else
          if ib x1 6 = true then
            X12_placeBy_50 (X12_placeBy_11 n) x1 x2 x3 x5 (σ.1 1020 x1.toNatClampNeg) x4 σ
          else none
      else none
def X12_placeBy (x1 : Int32) (x2 : Int32) (x3 : Int32) (σ : Mem) : Option (Int32 × Mem) :=
  if ib x1 6 = true then
    bv (σ.1 1020 x1.toNatClampNeg : Int32) fun v1 =>
    bv (0 : Int32) fun v2 =>
    X12_placeBy_11 fu x1 x2 x3 v1 v2 σ
  else none
def X12_fitSet_105 (k106 : Int32 → Int32 → Int32 → Int32 → Int32 → Int32 → Mem → Option (Int32 × Mem)) (x1 : Int32) (x2 : Int32) (x3 : Int32) (x4 : Int32) (x6 : Int32) (σ : Mem) : Option (Int32 × Mem) :=
  k106 x1 x2 x3 x4 x6 0 σ
def X12_fitSet_106 (k108 : Int32 → Int32 → Int32 → Int32 → Int32 → Int32 → Mem → Option (Int32 × Mem)) (x1 : Int32) (x2 : Int32) (x3 : Int32) (x4 : Int32) (x6 : Int32) (s0 : Int32) (σ : Mem) : Option (Int32 × Mem) :=
  k108 x1 x2 x3 x4 s0 x6 σ
def X12_fitSet_72 (k108 : Int32 → Int32 → Int32 → Int32 → Int32 → Int32 → Mem → Option (Int32 × Mem)) (x1 : Int32) (x2 : Int32) (x3 : Int32) (x4 : Int32) (x5 : Int32) (x6 : Int32) (σ : Mem) : Option (Int32 × Mem) :=
  if x5 = 0 then
    X12_fitSet_105 (X12_fitSet_106 (k108)) x1 x2 x3 x4 x6 σ
  else
    if ib x6 30 = true then
      (X12_placeBy x1 x4 (σ.1 1046 x6.toNatClampNeg) σ).bind fun r8 =>
      if ib x6 30 = true then
        if r8.1 = (r8.2.1 1047 x6.toNatClampNeg) then
          X12_fitSet_106 (k108) x1 x2 x3 x4 x6 1 r8.2
        else
          X12_fitSet_105 (X12_fitSet_106 (k108)) x1 x2 x3 x4 x6 r8.2
      else none
    else none
def X12_fitSet_108 (k20 : Int32 → Int32 → Int32 → Int32 → Int32 → Int32 → Mem → Option (Int32 × Mem)) (x1 : Int32) (x2 : Int32) (x3 : Int32) (x4 : Int32) (x5 : Int32) (x6 : Int32) (σ : Mem) : Option (Int32 × Mem) :=
  bv (x6 + 1 : Int32) fun v7 =>
  k20 x1 x2 x3 x4 x5 v7 σ
def X12_fitSet_128 (k5 : Int32 → Int32 → Int32 → Int32 → Mem → Option (Int32 × Mem)) (x1 : Int32) (x2 : Int32) (x4 : Int32) (s0 : Int32) (s1 : Int32) (σ : Mem) : Option (Int32 × Mem) :=
  bv (s1 ||| s0 : Int32) fun v5 =>
  bv (x4 + 1 : Int32) fun v6 =>
  k5 x1 x2 v5 v6 σ
def X12_fitSet_20 (k5 : Int32 → Int32 → Int32 → Int32 → Mem → Option (Int32 × Mem)) : Nat → Int32 → Int32 → Int32 → Int32 → Int32 → Int32 → Mem → Option (Int32 × Mem)
  | 0, _, _, _, _, _, _, _ => none
  | n + 1, x1, x2, x3, x4, x5, x6, σ =>
    if (σ.1 1000 86) ≤ x6 then
      if x5 = 0 then
        X12_fitSet_128 (k5) x1 x2 x4 0 x3 σ
      else
        X12_fitSet_128 (k5) x1 x2 x4 (1 <<< (x4 &&& 31)) x3 σ
    else
      if ib x6 30 = true then
        if (σ.1 1045 x6.toNatClampNeg) = x1 then
          if ib x6 30 = true then
            if x2 < (σ.1 1048 x6.toNatClampNeg) then
              X12_fitSet_108 (X12_fitSet_20 k5 n) x1 x2 x3 x4 x5 x6 σ
            else
              if ib x6 30 = true then
                if (σ.1 1049 x6.toNatClampNeg) < 0 then
                  X12_fitSet_72 (X12_fitSet_108 (X12_fitSet_20 k5 n)) x1 x2 x3 x4 x5 x6 σ
                else
                  if ib x6 30 = true then
                    if (σ.1 1049 x6.toNatClampNeg) ≤ x2 then
                      X12_fitSet_108 (X12_fitSet_20 k5 n) x1 x2 x3 x4 x5 x6 σ
                    else
                      X12_fitSet_72 (X12_fitSet_108 (X12_fitSet_20 k5 n)) x1 x2 x3 x4 x5 x6 σ
                  else none
              else none
          else none
        else
          X12_fitSet_108 (X12_fitSet_20 k5 n) x1 x2 x3 x4 x5 x6 σ
      else none
def X12_fitSet_5 : Nat → Int32 → Int32 → Int32 → Int32 → Mem → Option (Int32 × Mem)
  | 0, _, _, _, _, _ => none
  | n + 1, x1, x2, x3, x4, σ =>
    if (σ.1 1000 45) ≤ x4 then
      some (x3, σ)
    else
      bv (1 : Int32) fun v3 =>
      bv (0 : Int32) fun v4 =>
      X12_fitSet_20 (X12_fitSet_5 n) fu x1 x2 x3 x4 v3 v4 σ
def X12_fitSet (x1 : Int32) (x2 : Int32) (σ : Mem) : Option (Int32 × Mem) :=
  bv (0 : Int32) fun v1 =>
  bv (0 : Int32) fun v2 =>
  X12_fitSet_5 fu x1 x2 v1 v2 σ
def X12_fit (x1 : Int32) (x2 : Int32) (σ : Mem) : Option (Int32 × Mem) :=
  (X12_isPerson x1 σ).bind fun r1 =>
  if r1.1 = 0 then
    some ((-1), r1.2)
  else
    (X12_fitSet x1 x2 r1.2).bind fun r2 =>
    some (r2.1, r2.2)
def X12_sham_29 (k4 : Int32 → Int32 → Int32 → Mem → Option (Int32 × Mem)) (x1 : Int32) (x3 : Int32) (s0 : Int32) (s1 : Int32) (σ : Mem) : Option (Int32 × Mem) :=
  bv (s1 ||| s0 : Int32) fun v4 =>
  bv (x3 + 1 : Int32) fun v5 =>
  k4 x1 v4 v5 σ
def X12_sham_4 : Nat → Int32 → Int32 → Int32 → Mem → Option (Int32 × Mem)
  | 0, _, _, _, _ => none
  | n + 1, x1, x2, x3, σ =>
    if (σ.1 1000 45) ≤ x3 then
      some (x2, σ)
    else
      (X12_fitSet x3 x1 σ).bind fun r3 =>
      if r3.1 = 0 then
        X12_sham_29 (X12_sham_4 n) x1 x3 (1 <<< (x3 &&& 31)) x2 r3.2
      else
        X12_sham_29 (X12_sham_4 n) x1 x3 0 x2 r3.2
def X12_sham (x1 : Int32) (σ : Mem) : Option (Int32 × Mem) :=
  bv (0 : Int32) fun v1 =>
  bv (0 : Int32) fun v2 =>
  X12_sham_4 fu x1 v1 v2 σ
def X12_mostAt_70 (k71 : Int32 → Int32 → Int32 → Int32 → Int32 → Int32 → Int32 → Int32 → Mem → Option (Int32 × Mem)) (x1 : Int32) (x2 : Int32) (x3 : Int32) (x4 : Int32) (x5 : Int32) (x7 : Int32) (s0 : Int32) (σ : Mem) : Option (Int32 × Mem) :=
  k71 x1 x2 x3 x4 x5 x7 0 s0 σ
def X12_mostAt_71 (k21 : Int32 → Int32 → Int32 → Int32 → Int32 → Int32 → Int32 → Mem → Option (Int32 × Mem)) (x1 : Int32) (x2 : Int32) (x3 : Int32) (x4 : Int32) (x5 : Int32) (x7 : Int32) (s0 : Int32) (s1 : Int32) (σ : Mem) : Option (Int32 × Mem) :=
  bv (s1 + s0 : Int32) fun v8 =>
  bv (x7 + 1 : Int32) fun v9 =>
  k21 x1 x2 x3 x4 x5 v8 v9 σ
def X12_mostAt_94 (k6 : Int32 → Int32 → Int32 → Int32 → Int32 → Mem → Option (Int32 × Mem)) (x1 : Int32) (x2 : Int32) (x3 : Int32) (x5 : Int32) (s0 : Int32) (σ : Mem) : Option (Int32 × Mem) :=
  bv (x5 + 1 : Int32) fun v7 =>
  k6 x1 x2 x3 s0 v7 σ
def X12_mostAt_21 (k6 : Int32 → Int32 → Int32 → Int32 → Int32 → Mem → Option (Int32 × Mem)) : Nat → Int32 → Int32 → Int32 → Int32 → Int32 → Int32 → Int32 → Mem → Option (Int32 × Mem)
  | 0, _, _, _, _, _, _, _, _ => none
  | n + 1, x1, x2, x3, x4, x5, x6, x7, σ =>
    if (σ.1 1000 45) ≤ x7 then
      if x6 ≤ x4 then
        X12_mostAt_94 (k6) x1 x2 x3 x5 x4 σ
      else
        X12_mostAt_94 (k6) x1 x2 x3 x5 x6 σ
    else
      if (((x2 >>> (x5 &&& 31)) &&& (x2 >>> (x7 &&& 31))) &&& 1) = 1 then
        (X12_placeBy x1 x5 x3 σ).bind fun r5 =>
        (X12_placeBy x1 x7 x3 r5.2).bind fun r6 =>
        if r5.1 = r6.1 then
          X12_mostAt_71 (X12_mostAt_21 k6 n) x1 x2 x3 x4 x5 x7 1 x6 r6.2
        else
          X12_mostAt_70 (X12_mostAt_71 (X12_mostAt_21 k6 n)) x1 x2 x3 x4 x5 x7 x6 r6.2
      else
        X12_mostAt_70 (X12_mostAt_71 (X12_mostAt_21 k6 n)) x1 x2 x3 x4 x5 x7 x6 σ
def X12_mostAt_6 : Nat → Int32 → Int32 → Int32 → Int32 → Int32 → Mem → Option (Int32 × Mem)
  | 0, _, _, _, _, _, _ => none
  | n + 1, x1, x2, x3, x4, x5, σ =>
    if (σ.1 1000 45) ≤ x5 then
      some (x4, σ)
    else
      bv (0 : Int32) fun v3 =>
      bv (0 : Int32) fun v4 =>
      X12_mostAt_21 (X12_mostAt_6 n) fu x1 x2 x3 x4 x5 v3 v4 σ
def X12_mostAt (x1 : Int32) (x2 : Int32) (x3 : Int32) (σ : Mem) : Option (Int32 × Mem) :=
  bv (0 : Int32) fun v1 =>
  bv (0 : Int32) fun v2 =>
  X12_mostAt_6 fu x1 x2 x3 v1 v2 σ
def X12_ask_74 (k40 : Int32 → Int32 → Int32 → Int32 → Int32 → Mem → Option (Int32 × Mem)) (x1 : Int32) (x2 : Int32) (x4 : Int32) (x5 : Int32) (x6 : Int32) (σ : Mem) : Option (Int32 × Mem) :=
  bv (x6 + 1 : Int32) fun v10 =>
  k40 x1 x2 x4 x5 v10 σ
def X12_ask_40 : Nat → Int32 → Int32 → Int32 → Int32 → Int32 → Mem → Option (Int32 × Mem)
  | 0, _, _, _, _, _, _ => none
  | n + 1, x1, x2, x4, x5, x6, σ =>
    if (σ.1 1000 46) ≤ x6 then
      if x2 = 0 then
        some (x5, σ)
      else
        (X12_mostAt x1 x4 x5 σ).bind fun r7 =>
        some (r7.1, r7.2)
    else
      (X12_mostAt x1 x4 x6 σ).bind fun r8 =>
      (X12_mostAt x1 x4 x5 r8.2).bind fun r9 =>
      if r9.1 ≤ r8.1 then
        X12_ask_74 (X12_ask_40 n) x1 x2 x4 x5 x6 r9.2
      else
        X12_ask_74 (X12_ask_40 n) x1 x2 x4 x6 x6 r9.2
def X12_ask (x1 : Int32) (x2 : Int32) (x3 : Int32) (σ : Mem) : Option (Int32 × Mem) :=
  (X12_isPerson x1 σ).bind fun r1 =>
  if r1.1 = 0 then
    some ((-1), r1.2)
  else
    (X12_isIn x2 0 1 r1.2).bind fun r2 =>
    if r2.1 = 0 then
      some ((-1), r2.2)
    else
      (X12_fitSet x1 x3 r2.2).bind fun r3 =>
      bv (r3.1 : Int32) fun v4 =>
      if v4 = 0 then
        some ((-1), r3.2)
      else
        bv (0 : Int32) fun v5 =>
        bv (1 : Int32) fun v6 =>
        X12_ask_40 fu x1 x2 v4 v5 v6 r3.2
def X12_isBox (x0 : Int32) (σ : Mem) : Option (Int32 × Mem) :=
  if x0 < 0 then
    some (0, σ)
  else
    if 3 ≤ x0 then
      some (0, σ)
    else
      some (1, σ)
def X12_image_18 : Nat → Int32 → Int32 → Mem → Option (Int32 × Mem)
  | 0, _, _, _ => none
  | n + 1, x1, x2, σ =>
    if 63 ≤ x2 then
      some (σ.1 1028 62, σ)
    else
      if ib x2 64 = true then
        if ib ((64 * x1) + x2) 192 = true then bv (sI σ 1051 ((64 * x1) + x2).toNatClampNeg (σ.1 1028 x2.toNatClampNeg)) fun σ4 =>
          bv (x2 + 1 : Int32) fun v5 =>
          X12_image_18 n x1 v5 σ4
        else none
      else none
def X12_image (x1 : Int32) (σ : Mem) : Option (Int32 × Mem) :=
  (X12_isBox x1 σ).bind fun r1 =>
  if r1.1 = 0 then
    some ((-1), r1.2)
  else
    if ib x1 3 = true then bv (sI r1.2 1050 x1.toNatClampNeg 1) fun σ2 =>
      bv (0 : Int32) fun v3 =>
      X12_image_18 fu x1 v3 σ2
    else none
def X12_back_20 : Nat → Int32 → Int32 → Mem → Option (Int32 × Mem)
  | 0, _, _, _ => none
  | n + 1, x1, x2, σ =>
    if 63 ≤ x2 then
      bv (sI σ 1000 69 0) fun σ3 =>
      bv (sI σ3 1000 70 0) fun σ4 =>
      some (σ4.1 1028 62, σ4)
    else
      if ib ((64 * x1) + x2) 192 = true then
        if ib x2 64 = true then bv (sI σ 1028 x2.toNatClampNeg (σ.1 1051 ((64 * x1) + x2).toNatClampNeg)) fun σ5 =>
          bv (x2 + 1 : Int32) fun v6 =>
          X12_back_20 n x1 v6 σ5
        else none
      else none
def X12_back (x1 : Int32) (σ : Mem) : Option (Int32 × Mem) :=
  (X12_isBox x1 σ).bind fun r1 =>
  if r1.1 = 0 then
    some ((-1), r1.2)
  else
    if ib x1 3 = true then
      if (r1.2.1 1050 x1.toNatClampNeg) = 0 then
        some ((-1), r1.2)
      else
        bv (0 : Int32) fun v2 =>
        X12_back_20 fu x1 v2 r1.2
    else none
def X12_numbers_40 (k4 : Int32 → Int32 → Mem → Option (Int32 × Mem)) (x2 : Int32) (s0 : Int32) (s1 : Int32) (σ : Mem) : Option (Int32 × Mem) :=
  (X12_truth s0 σ).bind fun r3 =>
  bv (s1 + r3.1 : Int32) fun v4 =>
  bv (x2 + 1 : Int32) fun v5 =>
  k4 v4 v5 r3.2
def X12_numbers_22 (k4 : Int32 → Int32 → Mem → Option (Int32 × Mem)) (x1 : Int32) (x2 : Int32) (s0 : Int32) (s1 : Int32) (σ : Mem) : Option (Int32 × Mem) :=
  if s0 ≤ s1 then
    some (x1, σ)
  else
    if ib x2 960 = true then
      if (σ.1 1006 x2.toNatClampNeg) = 0 then
        X12_numbers_40 (k4) x2 1 x1 σ
      else
        X12_numbers_40 (k4) x2 0 x1 σ
    else none
def X12_numbers_4 : Nat → Int32 → Int32 → Mem → Option (Int32 × Mem)
  | 0, _, _, _ => none
  | n + 1, x1, x2, σ =>
    if (σ.1 1000 52) = 0 then
      X12_numbers_22 (X12_numbers_4 n) x1 x2 0 x2 σ
    else
      X12_numbers_22 (X12_numbers_4 n) x1 x2 (σ.1 1008 0) x2 σ
def X12_numbers (σ : Mem) : Option (Int32 × Mem) :=
  bv (0 : Int32) fun v1 =>
  bv (0 : Int32) fun v2 =>
  X12_numbers_4 fu v1 v2 σ
def X12_debts_28 (k4 : Int32 → Int32 → Mem → Option (Int32 × Mem)) (x2 : Int32) (s0 : Int32) (s1 : Int32) (σ : Mem) : Option (Int32 × Mem) :=
  (X12_truth s0 σ).bind fun r3 =>
  bv (s1 + r3.1 : Int32) fun v4 =>
  bv (x2 + 1 : Int32) fun v5 =>
  k4 v4 v5 r3.2
def X12_debts_4 : Nat → Int32 → Int32 → Mem → Option (Int32 × Mem)
  | 0, _, _, _ => none
  | n + 1, x1, x2, σ =>
    if 36 ≤ x2 then
      some (x1, σ)
    else
      if ib (24 + x2) 64 = true then
        if (σ.1 1028 (24 + x2).toNatClampNeg) ≤ 0 then
          X12_debts_28 (X12_debts_4 n) x2 0 x1 σ
        else
          X12_debts_28 (X12_debts_4 n) x2 1 x1 σ
      else none
def X12_debts (σ : Mem) : Option (Int32 × Mem) :=
  bv (0 : Int32) fun v1 =>
  bv (0 : Int32) fun v2 =>
  X12_debts_4 fu v1 v2 σ
def X12_about (x1 : Int32) (σ : Mem) : Option (Int32 × Mem) :=
  if x1 = 0 then
    some (σ.1 1000 45, σ)
  else
  if x1 = 1 then
    some (σ.1 1000 46, σ)
  else
  if x1 = 2 then
    some (σ.1 1028 60, σ)
  else
  if x1 = 3 then
    some (σ.1 1028 61, σ)
  else
  if x1 = 4 then
    some (σ.1 1028 62, σ)
  else
  if x1 = 5 then
    some (σ.1 1000 69, σ)
  else
  if x1 = 6 then
    some (σ.1 1000 70, σ)
  else
  if x1 = 7 then
    some (σ.1 1000 86, σ)
  else
  if x1 = 8 then
    some (σ.1 1000 87, σ)
  else
  if x1 = 9 then
    some (σ.1 1000 1, σ)
  else
  if x1 = 10 then
    some (σ.1 1000 22, σ)
  else
  if x1 = 11 then
    (X12_numbers σ).bind fun r1 =>
    some (r1.1, r1.2)
  else
  if x1 = 12 then
    some (σ.1 1000 75, σ)
  else
  if x1 = 13 then
    (X12_debts σ).bind fun r2 =>
    some (r2.1, r2.2)
  else
  some ((-1), σ)
