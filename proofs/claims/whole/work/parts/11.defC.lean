def X10_rests (o : Nat) (x1 : Int32) (x2 : Int32) (σ : Mem) : Option (Int32 × Mem) :=
  if ib x1 6 = true then
    if x2 < ((σ.1 o 11) - (σ.1 (o + 5) x1.toNatClampNeg)) then
      some (0, σ)
    else
      some (1, σ)
  else none
def X0_meetings_99 (o : Nat) (t : Nat) (s : Nat) (k5 : Int32 → Int32 → Mem → Option (Int32 × Mem)) (x3 : Int32) (x4 : Int32) (σ : Mem) : Option (Int32 × Mem) :=
  bv (x4 + 1 : Int32) fun v7 =>
  k5 x3 v7 σ
def X0_meetings_5 (o : Nat) (t : Nat) (s : Nat) : Nat → Int32 → Int32 → Mem → Option (Int32 × Mem)
  | 0, _, _, _ => none
  | n + 1, x3, x4, σ =>
    if (σ.1 t 12) ≤ x4 then
      some (x3, σ)
    else
      if ib x4 6 = true then
        bv (σ.1 (s + 2) x4.toNatClampNeg : Int32) fun v3 =>
        if v3 = (-1) then
          X0_meetings_99 o t s (X0_meetings_5 o t s n) x3 x4 σ
        else
          if ib v3 6 = true then
            if (σ.1 (s + 2) v3.toNatClampNeg) = x4 then
              if ib v3 6 = true then
                if ib x4 6 = true then
                  if (σ.1 (s + 1) v3.toNatClampNeg) = (σ.1 (s + 1) x4.toNatClampNeg) then
                    (X10_rests t x4 (σ.1 s 6) σ).bind fun r4 =>
                    if r4.1 = 0 then
                      (X10_rests t v3 (r4.2.1 s 6) r4.2).bind fun r5 =>
                      if r5.1 = 0 then
                        bv (x3 ||| ((1 <<< (x4 &&& 31)) ||| (1 <<< ((6 + x4) &&& 31))) : Int32) fun v6 =>
                        X0_meetings_99 o t s (X0_meetings_5 o t s n) v6 x4 r5.2
                      else
                        X0_meetings_99 o t s (X0_meetings_5 o t s n) x3 x4 r5.2
                    else
                      X0_meetings_99 o t s (X0_meetings_5 o t s n) x3 x4 r4.2
                  else
                    X0_meetings_99 o t s (X0_meetings_5 o t s n) x3 x4 σ
                else none
              else none
            else
              X0_meetings_99 o t s (X0_meetings_5 o t s n) x3 x4 σ
          else none
      else none
def X0_meetings (o : Nat) (t : Nat) (s : Nat) (σ : Mem) : Option (Int32 × Mem) :=
  bv (0 : Int32) fun v1 =>
  bv (0 : Int32) fun v2 =>
  X0_meetings_5 o t s fu v1 v2 σ
def X0_isMeeting (x0 : Int32) (x1 : Int32) (σ : Mem) : Option (Int32 × Mem) :=
  if ((x0 >>> ((6 + x1) &&& 31)) &&& 1) = 0 then
    some (0, σ)
  else
    some (1, σ)
def X10_isOpen (o : Nat) (x1 : Int32) (x2 : Int32) (σ : Mem) : Option (Int32 × Mem) :=
  if ib x1 6 = true then
    if x2 < (σ.1 (o + 2) x1.toNatClampNeg) then
      some (0, σ)
    else
      if ib x1 6 = true then
        if (σ.1 (o + 3) x1.toNatClampNeg) ≤ x2 then
          some (0, σ)
        else
          some (1, σ)
      else none
  else none
def X0_staysToWait_118 (o : Nat) (t : Nat) (s : Nat) (s0 : Int32) (s1 : Int32) (σ : Mem) : Option (Int32 × Mem) :=
  if ib s1 6 = true then bv (sI σ (s + 1) s1.toNatClampNeg s0) fun σ5 =>
    some (0, σ5)
  else none
def X0_staysToWait_54 (o : Nat) (t : Nat) (s : Nat) (x3 : Int32) (x4 : Int32) (x5 : Int32) (s0 : Int32) (σ : Mem) : Option (Int32 × Mem) :=
  if ib x3 6 = true then
    bv (σ.1 (s + 1) x3.toNatClampNeg : Int32) fun v3 =>
    if v3 = s0 then
      if x5 = 0 then
        (X10_isOpen t x4 (σ.1 s 6) σ).bind fun r4 =>
        if r4.1 = 0 then
          some (0, r4.2)
        else
          some (1, r4.2)
      else
        some (0, σ)
    else
      if s0 ≤ v3 then
        X0_staysToWait_118 o t s (v3 - 1) x3 σ
      else
        X0_staysToWait_118 o t s (v3 + 1) x3 σ
  else none
def X0_staysToWait_26 (o : Nat) (t : Nat) (s : Nat) (k31 : Int32 → Int32 → Int32 → Mem → Option (Int32 × Mem)) (x3 : Int32) (x4 : Int32) (σ : Mem) : Option (Int32 × Mem) :=
  k31 x3 x4 1 σ
def X0_staysToWait_31 (o : Nat) (t : Nat) (s : Nat) (x3 : Int32) (x4 : Int32) (s0 : Int32) (σ : Mem) : Option (Int32 × Mem) :=
  if s0 = 0 then
    if ib x4 6 = true then
      X0_staysToWait_54 o t s x3 x4 s0 (σ.1 (t + 1) x4.toNatClampNeg) σ
    else none
  else
    if ib x3 6 = true then
      X0_staysToWait_54 o t s x3 x4 s0 (σ.1 (t + 1) x3.toNatClampNeg) σ
    else none
def X0_staysToWait (o : Nat) (t : Nat) (s : Nat) (x3 : Int32) (σ : Mem) : Option (Int32 × Mem) :=
  if ib x3 6 = true then
    bv (σ.1 (s + 2) x3.toNatClampNeg : Int32) fun v1 =>
    if v1 = (-1) then
      X0_staysToWait_26 o t s (X0_staysToWait_31 o t s) x3 v1 σ
    else
      (X10_rests t x3 (σ.1 s 6) σ).bind fun r2 =>
      if r2.1 = 0 then
        X0_staysToWait_31 o t s x3 v1 0 r2.2
      else
        X0_staysToWait_26 o t s (X0_staysToWait_31 o t s) x3 v1 r2.2
  else none
def J7_fill_53178_5 (a : Nat) (al : Nat) : Nat → Int32 → Int32 → Int32 → Mem → Option Mem
  | 0, _, _, _, _ => none
  | n + 1, x1, x2, x3, σ =>
    if x3 ≤ x2 then
      some σ
    else
      if ib x2 al = true then bv (sI σ a x2.toNatClampNeg x1) fun σ3 =>
        bv (x2 + 1 : Int32) fun v4 =>
        J7_fill_53178_5 a al n x1 v4 x3 σ3
      else none
def J7_fill_53178 (a : Nat) (al : Nat) (x1 : Int32) (σ : Mem) : Option Mem :=
  bv (0 : Int32) fun v1 =>
  bv (Int32.ofNat al : Int32) fun v2 =>
  J7_fill_53178_5 a al fu x1 v1 v2 σ
def X0_isWaiting (x0 : Int32) (x1 : Int32) (σ : Mem) : Option (Int32 × Mem) :=
  if ((x0 >>> (x1 &&& 31)) &&& 1) = 0 then
    some (0, σ)
  else
    some (1, σ)
def X0_seats_79 (o : Nat) (t : Nat) (s : Nat) (k90 : Int32 → Int32 → Int32 → Mem → Option (Int32 × Mem)) (x3 : Int32) (x4 : Int32) (x5 : Int32) (x6 : Int32) (σ : Mem) : Option (Int32 × Mem) :=
  if ib x6 6 = true then
    if ib x6 6 = true then bv (sI σ (o + 2) x6.toNatClampNeg ((σ.1 (o + 2) x6.toNatClampNeg) + 1)) fun σ9 =>
      k90 x3 x4 x5 σ9
    else none
  else none
def X0_seats_90 (o : Nat) (t : Nat) (s : Nat) (k14 : Int32 → Int32 → Int32 → Mem → Option (Int32 × Mem)) (x3 : Int32) (x4 : Int32) (x5 : Int32) (σ : Mem) : Option (Int32 × Mem) :=
  bv (x5 + 1 : Int32) fun v8 =>
  k14 x3 x4 v8 σ
def X0_seats_14 (o : Nat) (t : Nat) (s : Nat) : Nat → Int32 → Int32 → Int32 → Mem → Option (Int32 × Mem)
  | 0, _, _, _, _ => none
  | n + 1, x3, x4, x5, σ =>
    if (σ.1 t 12) ≤ x5 then
      some (x4, σ)
    else
      (X0_isWaiting x3 x5 σ).bind fun r4 =>
      if r4.1 = 0 then
        X0_seats_90 o t s (X0_seats_14 o t s n) x3 x4 x5 r4.2
      else
        (X0_isMeeting x3 x5 r4.2).bind fun r5 =>
        if r5.1 = 0 then
          if ib x5 6 = true then
            bv (r5.2.1 (s + 2) x5.toNatClampNeg : Int32) fun v6 =>
            if ib v6 6 = true then
              if ib v6 6 = true then
                if (r5.2.1 (t + 4) v6.toNatClampNeg) ≤ (r5.2.1 (o + 2) v6.toNatClampNeg) then
                  X0_seats_79 o t s (X0_seats_90 o t s (X0_seats_14 o t s n)) x3 x4 x5 v6 r5.2
                else
                  bv (x4 ||| (1 <<< ((12 + x5) &&& 31)) : Int32) fun v7 =>
                  X0_seats_79 o t s (X0_seats_90 o t s (X0_seats_14 o t s n)) x3 v7 x5 v6 r5.2
              else none
            else none
          else none
        else
          X0_seats_90 o t s (X0_seats_14 o t s n) x3 x4 x5 r5.2
def X0_seats (o : Nat) (t : Nat) (s : Nat) (x3 : Int32) (σ : Mem) : Option (Int32 × Mem) :=
  bv (0 : Int32) fun v1 =>
  (J7_fill_53178 (o + 2) 6 0 σ).bind fun σ2 =>
  bv (0 : Int32) fun v3 =>
  X0_seats_14 o t s fu x3 v1 v3 σ2
def X2_value_312 (o : Nat) (a : Nat) (al : Nat) (k448 : Int32 → Int32 → Mem → Option (Int32 × Mem)) (x2 : Int32) (x3 : Int32) (s0 : Int32) (s1 : Int32) (σ : Mem) : Option (Int32 × Mem) :=
  if ib s1 32 = true then bv (sI σ (o + 3) s1.toNatClampNeg s0) fun σ16 =>
    k448 x2 x3 σ16
  else none
def X2_value_354 (o : Nat) (a : Nat) (al : Nat) (k448 : Int32 → Int32 → Mem → Option (Int32 × Mem)) (x2 : Int32) (x3 : Int32) (s0 : Int32) (s1 : Int32) (σ : Mem) : Option (Int32 × Mem) :=
  if ib s1 32 = true then bv (sI σ (o + 3) s1.toNatClampNeg s0) fun σ17 =>
    k448 x2 x3 σ17
  else none
def X2_value_333 (o : Nat) (a : Nat) (al : Nat) (k448 : Int32 → Int32 → Mem → Option (Int32 × Mem)) (x2 : Int32) (x3 : Int32) (s0 : Int32) (s1 : Int32) (σ : Mem) : Option (Int32 × Mem) :=
  if ib s1 32 = true then bv (sI σ (o + 3) s1.toNatClampNeg s0) fun σ18 =>
    k448 x2 x3 σ18
  else none
def X2_value_442 (o : Nat) (a : Nat) (al : Nat) (k448 : Int32 → Int32 → Mem → Option (Int32 × Mem)) (x2 : Int32) (x3 : Int32) (s0 : Int32) (s1 : Int32) (σ : Mem) : Option (Int32 × Mem) :=
  if ib s1 32 = true then bv (sI σ (o + 3) s1.toNatClampNeg s0) fun σ14 =>
    k448 x2 x3 σ14
  else none
def X2_value_419 (o : Nat) (a : Nat) (al : Nat) (k448 : Int32 → Int32 → Mem → Option (Int32 × Mem)) (x2 : Int32) (x3 : Int32) (s0 : Int32) (s1 : Int32) (σ : Mem) : Option (Int32 × Mem) :=
  if ib s1 32 = true then bv (sI σ (o + 3) s1.toNatClampNeg s0) fun σ15 =>
    k448 x2 x3 σ15
  else none
def X2_value_286 (o : Nat) (a : Nat) (al : Nat) (k291 : Int32 → Int32 → Int32 → Int32 → Mem → Option (Int32 × Mem)) (x2 : Int32) (x3 : Int32) (s0 : Int32) (σ : Mem) : Option (Int32 × Mem) :=
  k291 x2 x3 1 s0 σ
def X2_value_291 (o : Nat) (a : Nat) (al : Nat) (k448 : Int32 → Int32 → Mem → Option (Int32 × Mem)) (x2 : Int32) (x3 : Int32) (s0 : Int32) (s1 : Int32) (σ : Mem) : Option (Int32 × Mem) :=
  if ib s1 32 = true then bv (sI σ (o + 3) s1.toNatClampNeg s0) fun σ19 =>
    k448 x2 x3 σ19
  else none
def X2_value_266 (o : Nat) (a : Nat) (al : Nat) (k267 : Int32 → Int32 → Int32 → Int32 → Mem → Option (Int32 × Mem)) (x2 : Int32) (x3 : Int32) (s0 : Int32) (σ : Mem) : Option (Int32 × Mem) :=
  k267 x2 x3 0 s0 σ
def X2_value_267 (o : Nat) (a : Nat) (al : Nat) (k448 : Int32 → Int32 → Mem → Option (Int32 × Mem)) (x2 : Int32) (x3 : Int32) (s0 : Int32) (s1 : Int32) (σ : Mem) : Option (Int32 × Mem) :=
  if ib s1 32 = true then bv (sI σ (o + 3) s1.toNatClampNeg s0) fun σ20 =>
    k448 x2 x3 σ20
  else none
def X2_value_243 (o : Nat) (a : Nat) (al : Nat) (k448 : Int32 → Int32 → Mem → Option (Int32 × Mem)) (x2 : Int32) (x3 : Int32) (s0 : Int32) (s1 : Int32) (σ : Mem) : Option (Int32 × Mem) :=
  if ib s1 32 = true then bv (sI σ (o + 3) s1.toNatClampNeg s0) fun σ21 =>
    k448 x2 x3 σ21
  else none
def X2_value_448 (o : Nat) (a : Nat) (al : Nat) (k4 : Int32 → Int32 → Mem → Option (Int32 × Mem)) (x2 : Int32) (x3 : Int32) (σ : Mem) : Option (Int32 × Mem) :=
  bv (x3 + 1 : Int32) fun v13 =>
  k4 x2 v13 σ
def X2_value_33 (o : Nat) (a : Nat) (al : Nat) (k49 : Int32 → Int32 → Int32 → Mem → Option (Int32 × Mem)) (x2 : Int32) (x3 : Int32) (x4 : Int32) (σ : Mem) : Option (Int32 × Mem) :=
  bv (x2 + 1 : Int32) fun v5 =>
  k49 v5 x3 x4 σ
def X2_value_49 (o : Nat) (a : Nat) (al : Nat) (k4 : Int32 → Int32 → Mem → Option (Int32 × Mem)) (x2 : Int32) (x3 : Int32) (x4 : Int32) (σ : Mem) : Option (Int32 × Mem) :=
  if x2 < 1 then
    some (0, σ)
  else
    if x2 ≤ 30 then
      if ib x2 32 = true then
        bv (σ.1 (o + 3) x2.toNatClampNeg : Int32) fun v6 =>
        if ib (x2 + 1) 32 = true then
          bv (σ.1 (o + 3) (x2 + 1).toNatClampNeg : Int32) fun v7 =>
          if x4 = 2 then
            if ib x3 270 = true then
              if ib x2 32 = true then bv (sI σ (o + 3) x2.toNatClampNeg (σ.1 (o + 2) x3.toNatClampNeg)) fun σ8 =>
                X2_value_448 o a al (k4) x2 x3 σ8
              else none
            else none
          else
          if x4 = 37 then
            if v7 = 0 then
              X2_value_442 o a al (X2_value_448 o a al (k4)) x2 x3 0 x2 σ
            else
              if v7 = 0 then none else
              X2_value_442 o a al (X2_value_448 o a al (k4)) x2 x3 (v6 - v6 / v7 * v7) x2 σ
          else
          if x4 = 42 then
            if ib x2 32 = true then bv (sI σ (o + 3) x2.toNatClampNeg (v6 * v7)) fun σ9 =>
              X2_value_448 o a al (k4) x2 x3 σ9
            else none
          else
          if x4 = 43 then
            if ib x2 32 = true then bv (sI σ (o + 3) x2.toNatClampNeg (v6 + v7)) fun σ10 =>
              X2_value_448 o a al (k4) x2 x3 σ10
            else none
          else
          if x4 = 45 then
            if ib x2 32 = true then bv (sI σ (o + 3) x2.toNatClampNeg (v6 - v7)) fun σ11 =>
              X2_value_448 o a al (k4) x2 x3 σ11
            else none
          else
          if x4 = 47 then
            if v7 = 0 then
              X2_value_419 o a al (X2_value_448 o a al (k4)) x2 x3 0 x2 σ
            else
              if v7 = 0 then none else
              X2_value_419 o a al (X2_value_448 o a al (k4)) x2 x3 (v6 / v7) x2 σ
          else
          if x4 = 60 then
            if v7 ≤ v6 then
              X2_value_312 o a al (X2_value_448 o a al (k4)) x2 x3 0 x2 σ
            else
              X2_value_312 o a al (X2_value_448 o a al (k4)) x2 x3 1 x2 σ
          else
          if x4 = 61 then
            if v6 = v7 then
              X2_value_354 o a al (X2_value_448 o a al (k4)) x2 x3 1 x2 σ
            else
              X2_value_354 o a al (X2_value_448 o a al (k4)) x2 x3 0 x2 σ
          else
          if x4 = 62 then
            if v6 ≤ v7 then
              X2_value_333 o a al (X2_value_448 o a al (k4)) x2 x3 0 x2 σ
            else
              X2_value_333 o a al (X2_value_448 o a al (k4)) x2 x3 1 x2 σ
          else
          if x4 = 113 then
            if v6 = 0 then
              if v7 = 0 then
                X2_value_291 o a al (X2_value_448 o a al (k4)) x2 x3 0 x2 σ
              else
                X2_value_286 o a al (X2_value_291 o a al (X2_value_448 o a al (k4))) x2 x3 x2 σ
            else
              X2_value_286 o a al (X2_value_291 o a al (X2_value_448 o a al (k4))) x2 x3 x2 σ
          else
          if x4 = 114 then
            if v6 = 0 then
              X2_value_266 o a al (X2_value_267 o a al (X2_value_448 o a al (k4))) x2 x3 x2 σ
            else
              if v7 = 0 then
                X2_value_266 o a al (X2_value_267 o a al (X2_value_448 o a al (k4))) x2 x3 x2 σ
              else
                X2_value_267 o a al (X2_value_448 o a al (k4)) x2 x3 1 x2 σ
          else
          if x4 = 115 then
            if v6 = 0 then
              X2_value_243 o a al (X2_value_448 o a al (k4)) x2 x3 1 x2 σ
            else
              X2_value_243 o a al (X2_value_448 o a al (k4)) x2 x3 0 x2 σ
          else
          if x4 = 116 then
            if ib x3 270 = true then
              if ib (σ.1 (o + 2) x3.toNatClampNeg) al = true then
                if ib x2 32 = true then bv (sI σ (o + 3) x2.toNatClampNeg (σ.1 a (σ.1 (o + 2) x3.toNatClampNeg).toNatClampNeg)) fun σ12 =>
                  X2_value_448 o a al (k4) x2 x3 σ12
                else none
              else none
            else none
          else
          some (0, σ)
        else none
      else none
    else
      some (0, σ)
def X2_value_4 (o : Nat) (a : Nat) (al : Nat) : Nat → Int32 → Int32 → Mem → Option (Int32 × Mem)
  | 0, _, _, _ => none
  | n + 1, x2, x3, σ =>
    if (σ.1 o 4) ≤ x3 then
      if ib x2 32 = true then
        some (σ.1 (o + 3) x2.toNatClampNeg, σ)
      else none
    else
      if ib x3 270 = true then
        bv (σ.1 (o + 1) x3.toNatClampNeg : Int32) fun v3 =>
        if v3 = 2 then
          X2_value_33 o a al (X2_value_49 o a al (X2_value_4 o a al n)) x2 x3 v3 σ
        else
          if v3 = 116 then
            X2_value_33 o a al (X2_value_49 o a al (X2_value_4 o a al n)) x2 x3 v3 σ
          else
            if v3 = 115 then
              X2_value_49 o a al (X2_value_4 o a al n) x2 x3 v3 σ
            else
              bv (x2 + (-1) : Int32) fun v4 =>
              X2_value_49 o a al (X2_value_4 o a al n) v4 x3 v3 σ
      else none
def X2_value (o : Nat) (a : Nat) (al : Nat) (σ : Mem) : Option (Int32 × Mem) :=
  bv (0 : Int32) fun v1 =>
  bv (0 : Int32) fun v2 =>
  X2_value_4 o a al fu v1 v2 σ
def X0_wetness (o : Nat) (t : Nat) (x2 : Int32) (x3 : Int32) (σ : Mem) : Option (Int32 × Mem) :=
  (J7_fill_53178 (o + 1) 7 0 σ).bind fun σ1 =>
  bv (sI σ1 (o + 1) 1 x2) fun σ2 =>
  bv (sI σ2 (o + 1) 2 x3) fun σ3 =>
  if (σ3.1 (t + 19) 5) = 0 then
    some (0, σ3)
  else
    (X2_value (t + 19) (o + 1) 7 σ3).bind fun r4 =>
    if r4.1 = 0 then
      some (0, r4.2)
    else
      some (1, r4.2)
def X0_call_46 (o : Nat) (t : Nat) (s : Nat) (k10 : Int32 → Int32 → Mem → Option (Int32 × Mem)) (x3 : Int32) (x4 : Int32) (σ : Mem) : Option (Int32 × Mem) :=
  bv (x4 + 1 : Int32) fun v11 =>
  k10 x3 v11 σ
def X0_call_10 (o : Nat) (t : Nat) (s : Nat) : Nat → Int32 → Int32 → Mem → Option (Int32 × Mem)
  | 0, _, _, _ => none
  | n + 1, x3, x4, σ =>
    if (σ.1 t 12) ≤ x4 then
      (X0_seats o t s x3 σ).bind fun r4 =>
      bv (x3 ||| r4.1 : Int32) fun v5 =>
      if (r4.2.1 (t + 9) 6) = 0 then
        some (v5, r4.2)
      else
        if v5 = 0 then
          some (v5, r4.2)
        else
          (X0_wetness o t (r4.2.1 s 5) (r4.2.1 s 6) r4.2).bind fun r6 =>
          if r6.1 = 0 then
            some (v5, r6.2)
          else
            bv (v5 ||| 262144 : Int32) fun v7 =>
            some (v7, r6.2)
    else
      (X0_isMeeting x3 x4 σ).bind fun r8 =>
      if r8.1 = 0 then
        (X0_staysToWait o t s x4 r8.2).bind fun r9 =>
        if r9.1 = 0 then
          X0_call_46 o t s (X0_call_10 o t s n) x3 x4 r9.2
        else
          bv (x3 ||| (1 <<< (x4 &&& 31)) : Int32) fun v10 =>
          X0_call_46 o t s (X0_call_10 o t s n) v10 x4 r9.2
      else
        X0_call_46 o t s (X0_call_10 o t s n) x3 x4 r8.2
def X0_call (o : Nat) (t : Nat) (s : Nat) (σ : Mem) : Option (Int32 × Mem) :=
  (X0_meetings o t s σ).bind fun r1 =>
  bv (r1.1 : Int32) fun v2 =>
  bv (0 : Int32) fun v3 =>
  X0_call_10 o t s fu v2 v3 r1.2
def X11_cell (x0 : Int32) (x1 : Int32) (σ : Mem) : Option (Int32 × Mem) :=
  some ((x0 * 6) + x1, σ)
def X0_takesPrice (o : Nat) (s : Nat) (x2 : Int32) (x3 : Int32) (x4 : Int32) (σ : Mem) : Option (Int32 × Mem) :=
  if ib x3 6 = true then
    if x4 ≤ (σ.1 (s + 4) x3.toNatClampNeg) then
      if ib x3 6 = true then
        if ib x3 6 = true then bv (sI σ (s + 4) x3.toNatClampNeg ((σ.1 (s + 4) x3.toNatClampNeg) - x4)) fun σ1 =>
          if ib x2 6 = true then
            if ib x2 6 = true then bv (sI σ1 (s + 4) x2.toNatClampNeg ((σ1.1 (s + 4) x2.toNatClampNeg) + x4)) fun σ2 =>
              some (1, σ2)
            else none
          else none
        else none
      else none
    else
      some (0, σ)
  else none
def X0_payment_141 (o : Nat) (t : Nat) (s : Nat) (k165 : Int32 → Int32 → Int32 → Int32 → Int32 → Mem → Option (Int32 × Mem)) (x4 : Int32) (x5 : Int32) (x6 : Int32) (x7 : Int32) (s0 : Int32) (s1 : Int32) (σ : Mem) : Option (Int32 × Mem) :=
  if ib s1 7 = true then bv (sI σ (o + 1) s1.toNatClampNeg s0) fun σ14 =>
    (X2_value (t + 9) (o + 1) 7 σ14).bind fun r15 =>
    bv (imax 0 (imin 240 r15.1) : Int32) fun v16 =>
    k165 x4 x5 x6 x7 v16 r15.2
  else none
def X0_payment_207 (o : Nat) (t : Nat) (s : Nat) (x6 : Int32) (x7 : Int32) (x8 : Int32) (σ : Mem) : Option (Int32 × Mem) :=
  if ib x6 36 = true then bv (sI σ (s + 5) x6.toNatClampNeg (x7 - x8)) fun σ17 =>
    some (x8, σ17)
  else none
def X0_payment_165 (o : Nat) (t : Nat) (s : Nat) (x4 : Int32) (x5 : Int32) (x6 : Int32) (x7 : Int32) (x8 : Int32) (σ : Mem) : Option (Int32 × Mem) :=
  bv (imin x8 x7 : Int32) fun v12 =>
  if v12 ≤ 0 then
    X0_payment_207 o t s x6 x7 v12 σ
  else
    if x5 = x4 then
      X0_payment_207 o t s x6 x7 v12 σ
    else
      if ib x4 6 = true then
        (X0_takesPrice o s x4 x5 (σ.1 (t + 6) x4.toNatClampNeg) σ).bind fun r13 =>
        if r13.1 = 0 then
          some (0, r13.2)
        else
          X0_payment_207 o t s x6 x7 v12 r13.2
      else none
def X0_payment (o : Nat) (t : Nat) (s : Nat) (x3 : Int32) (x4 : Int32) (σ : Mem) : Option (Int32 × Mem) :=
  if ib x4 6 = true then
    bv (σ.1 (s + 3) x4.toNatClampNeg : Int32) fun v1 =>
    if ib x4 6 = true then
      (X11_cell v1 (σ.1 (s + 2) x4.toNatClampNeg) σ).bind fun r2 =>
      bv (r2.1 : Int32) fun v3 =>
      if ib v3 36 = true then
        bv (r2.2.1 (s + 5) v3.toNatClampNeg : Int32) fun v4 =>
        if v4 = 0 then
          some (0, r2.2)
        else
          bv (60 : Int32) fun v5 =>
          if (r2.2.1 (t + 9) 5) = 0 then
            X0_payment_165 o t s x4 v1 v3 v4 v5 r2.2
          else
            bv (sI r2.2 (o + 1) 0 v4) fun σ6 =>
            bv (sI σ6 (o + 1) 1 (σ6.1 s 5)) fun σ7 =>
            bv (sI σ7 (o + 1) 2 (σ7.1 s 6)) fun σ8 =>
            bv (sI σ8 (o + 1) 3 ((x3 >>> (18 &&& 31)) &&& 1)) fun σ9 =>
            bv (sI σ9 (o + 1) 4 ((x3 >>> ((12 + x4) &&& 31)) &&& 1)) fun σ10 =>
            bv (sI σ10 (o + 1) 5 ((x3 >>> ((6 + x4) &&& 31)) &&& 1)) fun σ11 =>
            if v1 = x4 then
              X0_payment_141 o t s (X0_payment_165 o t s) x4 v1 v3 v4 0 6 σ11
            else
              X0_payment_141 o t s (X0_payment_165 o t s) x4 v1 v3 v4 1 6 σ11
      else none
    else none
  else none
def X0_settle_40 (o : Nat) (t : Nat) (s : Nat) (k3 : Int32 → Int32 → Mem → Option Mem) (x3 : Int32) (x4 : Int32) (s0 : Int32) (s1 : Int32) (σ : Mem) : Option Mem :=
  if ib s1 6 = true then bv (sI σ (o + 3) s1.toNatClampNeg s0) fun σ4 =>
    bv (x4 + 1 : Int32) fun v5 =>
    k3 x3 v5 σ4
  else none
def X0_settle_3 (o : Nat) (t : Nat) (s : Nat) : Nat → Int32 → Int32 → Mem → Option Mem
  | 0, _, _, _ => none
  | n + 1, x3, x4, σ =>
    if (σ.1 t 12) ≤ x4 then
      some σ
    else
      (X0_isWaiting x3 x4 σ).bind fun r2 =>
      if r2.1 = 0 then
        X0_settle_40 o t s (X0_settle_3 o t s n) x3 x4 0 x4 r2.2
      else
        (X0_payment o t s x3 x4 r2.2).bind fun r3 =>
        X0_settle_40 o t s (X0_settle_3 o t s n) x3 x4 r3.1 x4 r3.2
def X0_settle (o : Nat) (t : Nat) (s : Nat) (x3 : Int32) (σ : Mem) : Option Mem :=
  bv (0 : Int32) fun v1 =>
  X0_settle_3 o t s fu x3 v1 σ
def X0_addInterest_94 (o : Nat) (t : Nat) (s : Nat) (k95 : Int32 → Mem → Option Mem) (x3 : Int32) (s0 : Int32) (s1 : Int32) (σ : Mem) : Option Mem :=
  if ib s1 36 = true then bv (sI σ (s + 5) s1.toNatClampNeg s0) fun σ9 =>
    k95 x3 σ9
  else none
def X0_addInterest_95 (o : Nat) (t : Nat) (s : Nat) (k20 : Int32 → Mem → Option Mem) (x3 : Int32) (σ : Mem) : Option Mem :=
  bv (x3 + 1 : Int32) fun v8 =>
  k20 v8 σ
def X0_addInterest_20 (o : Nat) (t : Nat) (s : Nat) : Nat → Int32 → Mem → Option Mem
  | 0, _, _ => none
  | n + 1, x3, σ =>
    if 36 ≤ x3 then
      some σ
    else
      if ib x3 36 = true then
        bv (σ.1 (s + 5) x3.toNatClampNeg : Int32) fun v4 =>
        if v4 ≤ 0 then
          X0_addInterest_95 o t s (X0_addInterest_20 o t s n) x3 σ
        else
          bv (sI σ (o + 1) 0 v4) fun σ5 =>
          (X2_value (t + 14) (o + 1) 7 σ5).bind fun r6 =>
          bv (imax 0 r6.1 : Int32) fun v7 =>
          if v7 ≤ (9999 - v4) then
            X0_addInterest_94 o t s (X0_addInterest_95 o t s (X0_addInterest_20 o t s n)) x3 (v4 + v7) x3 r6.2
          else
            X0_addInterest_94 o t s (X0_addInterest_95 o t s (X0_addInterest_20 o t s n)) x3 9999 x3 r6.2
      else none
def X0_addInterest (o : Nat) (t : Nat) (s : Nat) (σ : Mem) : Option Mem :=
  (J7_fill_53178 (o + 1) 7 0 σ).bind fun σ1 =>
  bv (sI σ1 (o + 1) 1 (σ1.1 s 5)) fun σ2 =>
  bv (0 : Int32) fun v3 =>
  X0_addInterest_20 o t s fu v3 σ2
def X0_turn_48 (o : Nat) (t : Nat) (s : Nat) (σ : Mem) : Option Mem :=
  if cpok 0 0 6 6 6 = true then bv (sC σ (s + 1) (0 : Int32).toNatClampNeg (σ.1 (t + 1)) (0 : Int32).toNatClampNeg (6 : Int32).toNatClampNeg) fun σ4 =>
    bv (sI σ4 s 6 0) fun σ5 =>
    bv (sI σ5 s 5 ((σ5.1 s 5) + 1)) fun σ6 =>
    some σ6
  else none
def X0_turn (o : Nat) (t : Nat) (s : Nat) (σ : Mem) : Option Mem :=
  bv (sI σ s 7 ((σ.1 s 7) + 1)) fun σ1 =>
  bv (sI σ1 s 6 ((σ1.1 s 6) + 1)) fun σ2 =>
  if (σ2.1 t 11) ≤ (σ2.1 s 6) then
    if (σ2.1 (t + 14) 5) = 0 then
      X0_turn_48 o t s σ2
    else
      (X0_addInterest o t s σ2).bind fun σ3 =>
      X0_turn_48 o t s σ3
  else
    some σ2
def X0_pass (o : Nat) (t : Nat) (s : Nat) (σ : Mem) : Option (Int32 × Mem) :=
  (X0_call o t s σ).bind fun r1 =>
  bv (r1.1 : Int32) fun v2 =>
  (X0_settle o t s v2 r1.2).bind fun σ3 =>
  (X0_turn o t s σ3).bind fun σ4 =>
  some (v2, σ4)
def X7_copy (o : Nat) (s : Nat) (σ : Mem) : Option Mem :=
  if cpok 0 0 6 6 6 = true then bv (sC σ (o + 1) (0 : Int32).toNatClampNeg (σ.1 (s + 1)) (0 : Int32).toNatClampNeg (6 : Int32).toNatClampNeg) fun σ1 =>
    if cpok 0 0 6 6 6 = true then bv (sC σ1 (o + 2) (0 : Int32).toNatClampNeg (σ1.1 (s + 2)) (0 : Int32).toNatClampNeg (6 : Int32).toNatClampNeg) fun σ2 =>
      if cpok 0 0 6 6 6 = true then bv (sC σ2 (o + 3) (0 : Int32).toNatClampNeg (σ2.1 (s + 3)) (0 : Int32).toNatClampNeg (6 : Int32).toNatClampNeg) fun σ3 =>
        if cpok 0 0 6 6 6 = true then bv (sC σ3 (o + 4) (0 : Int32).toNatClampNeg (σ3.1 (s + 4)) (0 : Int32).toNatClampNeg (6 : Int32).toNatClampNeg) fun σ4 =>
          if cpok 0 0 36 36 36 = true then bv (sC σ4 (o + 5) (0 : Int32).toNatClampNeg (σ4.1 (s + 5)) (0 : Int32).toNatClampNeg (36 : Int32).toNatClampNeg) fun σ5 =>
            bv (sI σ5 o 5 (σ5.1 s 5)) fun σ6 =>
            bv (sI σ6 o 6 (σ6.1 s 6)) fun σ7 =>
            bv (sI σ7 o 7 (σ7.1 s 7)) fun σ8 =>
            some σ8
          else none
        else none
      else none
    else none
  else none
def X1_lookAhead_11 (t : Nat) (s : Nat) : Nat → Int32 → Int32 → Mem → Option Mem
  | 0, _, _, _ => none
  | n + 1, x3, x4, σ =>
    if x3 ≤ x4 then
      some σ
    else
      (X0_pass 44 t 48 σ).bind fun r3 =>
      bv (x4 + 1 : Int32) fun v4 =>
      X1_lookAhead_11 t s n x3 v4 r3.2
def X1_lookAhead (t : Nat) (s : Nat) (x3 : Int32) (σ : Mem) : Option Mem :=
  (X7_copy 48 s σ).bind fun σ1 =>
  bv (0 : Int32) fun v2 =>
  X1_lookAhead_11 t s fu x3 v2 σ1
def X1_payOfNextHour (t : Nat) (s : Nat) (x3 : Int32) (σ : Mem) : Option (Int32 × Mem) :=
  (X1_lookAhead t s 1 σ).bind fun σ1 =>
  if ib x3 6 = true then
    some (σ1.1 47 x3.toNatClampNeg, σ1)
  else none
def X1_owedBehind (t : Nat) (s : Nat) (x3 : Int32) (x4 : Int32) (σ : Mem) : Option (Int32 × Mem) :=
  (X1_lookAhead t s x4 σ).bind fun σ1 =>
  if ib x3 36 = true then
    some (σ1.1 53 x3.toNatClampNeg, σ1)
  else none
def X1_hoursOfTrial_2 (t : Nat) : Nat → Int32 → Int32 → Mem → Option (Int32 × Mem)
  | 0, _, _, _ => none
  | n + 1, x2, x3, σ =>
    if 200 ≤ x3 then
      if ib x2 36 = true then
        if (σ.1 53 x2.toNatClampNeg) = 0 then
          some (200, σ)
        else
          some ((-1), σ)
      else none
    else
      if ib x2 36 = true then
        if (σ.1 53 x2.toNatClampNeg) = 0 then
          some (x3, σ)
        else
          (X0_pass 44 t 48 σ).bind fun r2 =>
          bv (x3 + 1 : Int32) fun v3 =>
          X1_hoursOfTrial_2 t n x2 v3 r2.2
      else none
def X1_hoursOfTrial (t : Nat) (x2 : Int32) (σ : Mem) : Option (Int32 × Mem) :=
  bv (0 : Int32) fun v1 =>
  X1_hoursOfTrial_2 t fu x2 v1 σ
def X1_hoursTillPaid (t : Nat) (s : Nat) (x3 : Int32) (σ : Mem) : Option (Int32 × Mem) :=
  (X7_copy 48 s σ).bind fun σ1 =>
  (X1_hoursOfTrial t x3 σ1).bind fun r2 =>
  some (r2.1, r2.2)
def X1_findThrong_76 (t : Nat) (s : Nat) (k21 : Int32 → Int32 → Int32 → Mem → Option Mem) (x3 : Int32) (x4 : Int32) (x5 : Int32) (σ : Mem) : Option Mem :=
  bv (x5 + 1 : Int32) fun v8 =>
  k21 x3 x4 v8 σ
def X1_findThrong_21 (t : Nat) (s : Nat) : Nat → Int32 → Int32 → Int32 → Mem → Option Mem
  | 0, _, _, _, _ => none
  | n + 1, x3, x4, x5, σ =>
    if x4 < x5 then
      some σ
    else
      (X0_pass 44 t 48 σ).bind fun r5 =>
      if ib x3 6 = true then
        if (r5.2.1 46 x3.toNatClampNeg) ≤ (r5.2.1 43 4) then
          X1_findThrong_76 t s (X1_findThrong_21 t s n) x3 x4 x5 r5.2
        else
          if ib x3 6 = true then
            bv (sI r5.2 43 4 (r5.2.1 46 x3.toNatClampNeg)) fun σ6 =>
            bv (sI σ6 43 5 x5) fun σ7 =>
            X1_findThrong_76 t s (X1_findThrong_21 t s n) x3 x4 x5 σ7
          else none
      else none
def X1_findThrong (t : Nat) (s : Nat) (x3 : Int32) (x4 : Int32) (σ : Mem) : Option Mem :=
  bv (sI σ 43 4 0) fun σ1 =>
  bv (sI σ1 43 5 (-1)) fun σ2 =>
  (X7_copy 48 s σ2).bind fun σ3 =>
  bv (1 : Int32) fun v4 =>
  X1_findThrong_21 t s fu x3 x4 v4 σ3
def X1_hourOfMeeting_35 (t : Nat) (s : Nat) : Nat → Int32 → Int32 → Int32 → Mem → Option (Int32 × Mem)
  | 0, _, _, _, _ => none
  | n + 1, x3, x5, x6, σ =>
    if x5 < x6 then
      some ((-1), σ)
    else
      (X0_pass 44 t 48 σ).bind fun r3 =>
      (X0_isMeeting r3.1 x3 r3.2).bind fun r4 =>
      if r4.1 = 0 then
        bv (x6 + 1 : Int32) fun v5 =>
        X1_hourOfMeeting_35 t s n x3 x5 v5 r4.2
      else
        some (x6, r4.2)
def X1_hourOfMeeting (t : Nat) (s : Nat) (x3 : Int32) (x4 : Int32) (x5 : Int32) (σ : Mem) : Option (Int32 × Mem) :=
  if ib x3 6 = true then
    if (σ.1 (s + 2) x3.toNatClampNeg) = x4 then
      if ib x4 6 = true then
        if (σ.1 (s + 2) x4.toNatClampNeg) = x3 then
          (X7_copy 48 s σ).bind fun σ1 =>
          bv (1 : Int32) fun v2 =>
          X1_hourOfMeeting_35 t s fu x3 x5 v2 σ1
        else
          some ((-1), σ)
      else none
    else
      some ((-1), σ)
  else none
def X1_findHelper_99 (t : Nat) (s : Nat) (k111 : Int32 → Int32 → Int32 → Mem → Option Mem) (x3 : Int32) (x4 : Int32) (x5 : Int32) (x6 : Int32) (σ : Mem) : Option Mem :=
  bv (sI σ 43 4 x6) fun σ11 =>
  bv (sI σ11 43 5 x5) fun σ12 =>
  k111 x3 x4 x5 σ12
def X1_findHelper_111 (t : Nat) (s : Nat) (k13 : Int32 → Int32 → Int32 → Mem → Option Mem) (x3 : Int32) (x4 : Int32) (x5 : Int32) (σ : Mem) : Option Mem :=
  bv (x5 + 1 : Int32) fun v10 =>
  k13 x3 x4 v10 σ
def X1_findHelper_13 (t : Nat) (s : Nat) : Nat → Int32 → Int32 → Int32 → Mem → Option Mem
  | 0, _, _, _, _ => none
  | n + 1, x3, x4, x5, σ =>
    if (σ.1 t 12) ≤ x5 then
      some σ
    else
      if x5 = x4 then
        X1_findHelper_111 t s (X1_findHelper_13 t s n) x3 x4 x5 σ
      else
        (X7_copy 48 s σ).bind fun σ4 =>
        if ib x5 6 = true then bv (sI σ4 50 x5.toNatClampNeg x4) fun σ5 =>
          if ib x5 6 = true then bv (sI σ5 51 x5.toNatClampNeg x3) fun σ6 =>
            (X11_cell x3 x4 σ6).bind fun r7 =>
            (X1_hoursOfTrial t r7.1 r7.2).bind fun r8 =>
            bv (r8.1 : Int32) fun v9 =>
            if v9 = (-1) then
              X1_findHelper_111 t s (X1_findHelper_13 t s n) x3 x4 x5 r8.2
            else
              if (r8.2.1 43 4) = (-1) then
                X1_findHelper_99 t s (X1_findHelper_111 t s (X1_findHelper_13 t s n)) x3 x4 x5 v9 r8.2
              else
                if (r8.2.1 43 4) ≤ v9 then
                  X1_findHelper_111 t s (X1_findHelper_13 t s n) x3 x4 x5 r8.2
                else
                  X1_findHelper_99 t s (X1_findHelper_111 t s (X1_findHelper_13 t s n)) x3 x4 x5 v9 r8.2
          else none
        else none
def X1_findHelper (t : Nat) (s : Nat) (x3 : Int32) (x4 : Int32) (σ : Mem) : Option Mem :=
  bv (sI σ 43 4 (-1)) fun σ1 =>
  bv (sI σ1 43 5 (-1)) fun σ2 =>
  bv (0 : Int32) fun v3 =>
  X1_findHelper_13 t s fu x3 x4 v3 σ2
def X7_owedTo_4 (o : Nat) : Nat → Int32 → Int32 → Int32 → Mem → Option (Int32 × Mem)
  | 0, _, _, _, _ => none
  | n + 1, x1, x2, x3, σ =>
    if 6 ≤ x3 then
      some (x2, σ)
    else
      (X11_cell x3 x1 σ).bind fun r3 =>
      if ib r3.1 36 = true then
        bv (x2 + (r3.2.1 (o + 5) r3.1.toNatClampNeg) : Int32) fun v4 =>
        bv (x3 + 1 : Int32) fun v5 =>
        X7_owedTo_4 o n x1 v4 v5 r3.2
      else none
def X7_owedTo (o : Nat) (x1 : Int32) (σ : Mem) : Option (Int32 × Mem) :=
  bv (0 : Int32) fun v1 =>
  bv (0 : Int32) fun v2 =>
  X7_owedTo_4 o fu x1 v1 v2 σ
def X1_findHiding_123 (t : Nat) (s : Nat) (k45 : Int32 → Int32 → Int32 → Int32 → Int32 → Mem → Option Mem) (x3 : Int32) (x4 : Int32) (x5 : Int32) (x6 : Int32) (x7 : Int32) (σ : Mem) : Option Mem :=
  bv (x7 + 1 : Int32) fun v17 =>
  k45 x3 x4 x5 x6 v17 σ
def X1_findHiding_45 (t : Nat) (s : Nat) : Nat → Int32 → Int32 → Int32 → Int32 → Int32 → Mem → Option Mem
  | 0, _, _, _, _, _, _ => none
  | n + 1, x3, x4, x5, x6, x7, σ =>
    if (σ.1 t 11) < ((x7 + x6) - x5) then
      if ib x3 6 = true then bv (sI σ (t + 2) x3.toNatClampNeg x5) fun σ8 =>
        if ib x3 6 = true then bv (sI σ8 (t + 3) x3.toNatClampNeg x6) fun σ9 =>
          some σ9
        else none
      else none
    else
      if ib x3 6 = true then bv (sI σ (t + 2) x3.toNatClampNeg x7) fun σ10 =>
        if ib x3 6 = true then bv (sI σ10 (t + 3) x3.toNatClampNeg ((x7 + x6) - x5)) fun σ11 =>
          (X1_lookAhead t s x4 σ11).bind fun σ12 =>
          (X7_owedTo 48 x3 σ12).bind fun r13 =>
          if r13.1 ≤ (r13.2.1 43 4) then
            X1_findHiding_123 t s (X1_findHiding_45 t s n) x3 x4 x5 x6 x7 r13.2
          else
            (X7_owedTo 48 x3 r13.2).bind fun r14 =>
            bv (sI r14.2 43 4 r14.1) fun σ15 =>
            bv (sI σ15 43 5 x7) fun σ16 =>
            X1_findHiding_123 t s (X1_findHiding_45 t s n) x3 x4 x5 x6 x7 σ16
        else none
      else none
def X1_findHiding (t : Nat) (s : Nat) (x3 : Int32) (x4 : Int32) (σ : Mem) : Option Mem :=
  if ib x3 6 = true then
    bv (σ.1 (t + 2) x3.toNatClampNeg : Int32) fun v1 =>
    if ib x3 6 = true then
      bv (σ.1 (t + 3) x3.toNatClampNeg : Int32) fun v2 =>
      (X1_lookAhead t s x4 σ).bind fun σ3 =>
      (X7_owedTo 48 x3 σ3).bind fun r4 =>
      bv (sI r4.2 43 4 r4.1) fun σ5 =>
      bv (sI σ5 43 5 v1) fun σ6 =>
      bv (0 : Int32) fun v7 =>
      X1_findHiding_45 t s fu x3 x4 v1 v2 v7 σ6
    else none
  else none
def X1_keepRolls_11 (t : Nat) (s : Nat) : Nat → Int32 → Int32 → Mem → Option Mem
  | 0, _, _, _ => none
  | n + 1, x3, x4, σ =>
    if x3 ≤ x4 then
      some σ
    else
      (X0_call 44 t 48 σ).bind fun r3 =>
      if ib x4 60 = true then bv (sI r3.2 60 x4.toNatClampNeg r3.1) fun σ4 =>
        (X0_turn 44 t 48 σ4).bind fun σ5 =>
        bv (x4 + 1 : Int32) fun v6 =>
        X1_keepRolls_11 t s n x3 v6 σ5
      else none
def X1_keepRolls (t : Nat) (s : Nat) (x3 : Int32) (σ : Mem) : Option Mem :=
  (X7_copy 48 s σ).bind fun σ1 =>
  bv (0 : Int32) fun v2 =>
  X1_keepRolls_11 t s fu x3 v2 σ1
def X1_hangsOnCoins_80 (t : Nat) (s : Nat) (k3 : Int32 → Int32 → Mem → Option (Int32 × Mem)) (x3 : Int32) (x4 : Int32) (σ : Mem) : Option (Int32 × Mem) :=
  bv (x4 + 1 : Int32) fun v3 =>
  k3 x3 v3 σ
def X1_hangsOnCoins_38 (t : Nat) (s : Nat) (k39 : Int32 → Int32 → Int32 → Mem → Option (Int32 × Mem)) (x3 : Int32) (x4 : Int32) (σ : Mem) : Option (Int32 × Mem) :=
  k39 x3 x4 0 σ
def X1_hangsOnCoins_39 (t : Nat) (s : Nat) (k3 : Int32 → Int32 → Mem → Option (Int32 × Mem)) (x3 : Int32) (x4 : Int32) (s0 : Int32) (σ : Mem) : Option (Int32 × Mem) :=
  if s0 = 0 then
    X1_hangsOnCoins_80 t s (k3) x3 x4 σ
  else
    if ib x4 6 = true then
      if (σ.1 (s + 2) x4.toNatClampNeg) = (-1) then
        X1_hangsOnCoins_80 t s (k3) x3 x4 σ
      else
        if ib x4 6 = true then
          if ib x4 6 = true then
            (X11_cell (σ.1 (s + 3) x4.toNatClampNeg) (σ.1 (s + 2) x4.toNatClampNeg) σ).bind fun r2 =>
            if r2.1 = x3 then
              some (1, r2.2)
            else
              X1_hangsOnCoins_80 t s (k3) x3 x4 r2.2
          else none
        else none
    else none
def X1_hangsOnCoins_3 (t : Nat) (s : Nat) : Nat → Int32 → Int32 → Mem → Option (Int32 × Mem)
  | 0, _, _, _ => none
  | n + 1, x3, x4, σ =>
    if (σ.1 t 12) ≤ x4 then
      some (0, σ)
    else
      if ib x4 6 = true then
        if (σ.1 (s + 3) x4.toNatClampNeg) = x4 then
          X1_hangsOnCoins_38 t s (X1_hangsOnCoins_39 t s (X1_hangsOnCoins_3 t s n)) x3 x4 σ
        else
          if ib x4 6 = true then
            if (σ.1 (t + 6) x4.toNatClampNeg) ≤ 0 then
              X1_hangsOnCoins_38 t s (X1_hangsOnCoins_39 t s (X1_hangsOnCoins_3 t s n)) x3 x4 σ
            else
              X1_hangsOnCoins_39 t s (X1_hangsOnCoins_3 t s n) x3 x4 1 σ
          else none
      else none
def X1_hangsOnCoins (t : Nat) (s : Nat) (x3 : Int32) (σ : Mem) : Option (Int32 × Mem) :=
  bv (0 : Int32) fun v1 =>
  X1_hangsOnCoins_3 t s fu x3 v1 σ
def X1_keepStart (t : Nat) (s : Nat) (x3 : Int32) (σ : Mem) : Option Mem :=
  (X7_copy 54 s σ).bind fun σ1 =>
  (X1_hangsOnCoins t s x3 σ1).bind fun r2 =>
  if r2.1 = 0 then
    (J7_fill_53178 59 36 0 r2.2).bind fun σ3 =>
    if ib x3 36 = true then
      if ib x3 36 = true then bv (sI σ3 59 x3.toNatClampNeg (σ3.1 (s + 5) x3.toNatClampNeg)) fun σ4 =>
        some σ4
      else none
    else none
  else
    some r2.2
def X2_numberTold (o : Nat) (x1 : Int32) (σ : Mem) : Option (Int32 × Mem) :=
  if ib x1 30 = true then
    if ib (σ.1 (o + 4) x1.toNatClampNeg) 270 = true then
      some (σ.1 (o + 2) (σ.1 (o + 4) x1.toNatClampNeg).toNatClampNeg, σ)
    else none
  else none
def X2_tellOtherwise (o : Nat) (x1 : Int32) (x2 : Int32) (σ : Mem) : Option Mem :=
  if ib x1 30 = true then
    if ib (σ.1 (o + 4) x1.toNatClampNeg) 270 = true then bv (sI σ (o + 2) (σ.1 (o + 4) x1.toNatClampNeg).toNatClampNeg x2) fun σ1 =>
      some σ1
    else none
  else none
def X1_isFreed_61 (t : Nat) (k14 : Int32 → Int32 → Int32 → Mem → Option (Int32 × Mem)) (x2 : Int32) (x3 : Int32) (x4 : Int32) (σ : Mem) : Option (Int32 × Mem) :=
  (X0_turn 44 t 48 σ).bind fun σ4 =>
  bv (x4 + 1 : Int32) fun v5 =>
  k14 x2 x3 v5 σ4
def X1_isFreed_79 (t : Nat) (x2 : Int32) (σ : Mem) : Option (Int32 × Mem) :=
  if ib x2 36 = true then
    if (σ.1 53 x2.toNatClampNeg) = 0 then
      some (1, σ)
    else
      some (0, σ)
  else none
def X1_isFreed_14 (t : Nat) : Nat → Int32 → Int32 → Int32 → Mem → Option (Int32 × Mem)
  | 0, _, _, _, _ => none
  | n + 1, x2, x3, x4, σ =>
    if x3 ≤ x4 then
      X1_isFreed_79 t x2 σ
    else
      if ib x2 36 = true then
        if (σ.1 53 x2.toNatClampNeg) ≤ 0 then
          X1_isFreed_79 t x2 σ
        else
          if ib x4 60 = true then
            if (σ.1 60 x4.toNatClampNeg) = 0 then
              X1_isFreed_61 t (X1_isFreed_14 t n) x2 x3 x4 σ
            else
              if ib x4 60 = true then
                (X0_settle 44 t 48 (σ.1 60 x4.toNatClampNeg) σ).bind fun σ3 =>
                X1_isFreed_61 t (X1_isFreed_14 t n) x2 x3 x4 σ3
              else none
          else none
      else none
def X1_isFreed (t : Nat) (x2 : Int32) (x3 : Int32) (σ : Mem) : Option (Int32 × Mem) :=
  (X7_copy 48 54 σ).bind fun σ1 =>
  bv (0 : Int32) fun v2 =>
  X1_isFreed_14 t fu x2 x3 v2 σ1
def X1_countWords_100 (t : Nat) (s : Nat) (k103 : Int32 → Int32 → Int32 → Int32 → Int32 → Int32 → Mem → Option (Int32 × Mem)) (x3 : Int32) (x4 : Int32) (x6 : Int32) (x7 : Int32) (x8 : Int32) (x9 : Int32) (σ : Mem) : Option (Int32 × Mem) :=
  bv (x6 + 1 : Int32) fun v15 =>
  k103 x3 x4 v15 x7 x8 x9 σ
def X1_countWords_103 (t : Nat) (s : Nat) (k49 : Int32 → Int32 → Int32 → Int32 → Int32 → Int32 → Mem → Option (Int32 × Mem)) (x3 : Int32) (x4 : Int32) (x6 : Int32) (x7 : Int32) (x8 : Int32) (x9 : Int32) (σ : Mem) : Option (Int32 × Mem) :=
  bv (x9 + 1 : Int32) fun v14 =>
  k49 x3 x4 x6 x7 x8 v14 σ
def X1_countWords_49 (t : Nat) (s : Nat) (k27 : Int32 → Int32 → Int32 → Int32 → Mem → Option (Int32 × Mem)) : Nat → Int32 → Int32 → Int32 → Int32 → Int32 → Int32 → Mem → Option (Int32 × Mem)
  | 0, _, _, _, _, _, _, _ => none
  | n + 1, x3, x4, x6, x7, x8, x9, σ =>
    if 99 < x9 then
      (X2_tellOtherwise (t + 9) x7 x8 σ).bind fun σ8 =>
      bv (x7 + 1 : Int32) fun v9 =>
      k27 x3 x4 x6 v9 σ8
    else
      (X2_tellOtherwise (t + 9) x7 x9 σ).bind fun σ10 =>
      if x9 = x8 then
        X1_countWords_103 t s (X1_countWords_49 t s k27 n) x3 x4 x6 x7 x8 x9 σ10
      else
        (X1_isFreed t x3 x4 σ10).bind fun r11 =>
        if r11.1 = 0 then
          X1_countWords_103 t s (X1_countWords_49 t s k27 n) x3 x4 x6 x7 x8 x9 r11.2
        else
          if x6 = 0 then
            bv (sI r11.2 43 4 x7) fun σ12 =>
            bv (sI σ12 43 5 x9) fun σ13 =>
            X1_countWords_100 t s (X1_countWords_103 t s (X1_countWords_49 t s k27 n)) x3 x4 x6 x7 x8 x9 σ13
          else
            X1_countWords_100 t s (X1_countWords_103 t s (X1_countWords_49 t s k27 n)) x3 x4 x6 x7 x8 x9 r11.2
def X1_countWords_27 (t : Nat) (s : Nat) : Nat → Int32 → Int32 → Int32 → Int32 → Mem → Option (Int32 × Mem)
  | 0, _, _, _, _, _ => none
  | n + 1, x3, x4, x6, x7, σ =>
    if (σ.1 (t + 9) 7) ≤ x7 then
      some (x6, σ)
    else
      (X2_numberTold (t + 9) x7 σ).bind fun r5 =>
      bv (r5.1 : Int32) fun v6 =>
      bv (0 : Int32) fun v7 =>
      X1_countWords_49 t s (X1_countWords_27 t s n) fu x3 x4 x6 x7 v6 v7 r5.2
def X1_countWords (t : Nat) (s : Nat) (x3 : Int32) (x4 : Int32) (σ : Mem) : Option (Int32 × Mem) :=
  bv (0 : Int32) fun v1 =>
  (X1_keepRolls t s x4 σ).bind fun σ2 =>
  (X1_keepStart t s x3 σ2).bind fun σ3 =>
  bv (0 : Int32) fun v4 =>
  X1_countWords_27 t s fu x3 x4 v1 v4 σ3
def X2_forget (o : Nat) (σ : Mem) : Option Mem :=
  bv (sI σ o 4 0) fun σ1 =>
  bv (sI σ1 o 5 0) fun σ2 =>
  bv (sI σ2 o 6 0) fun σ3 =>
  bv (sI σ3 o 7 0) fun σ4 =>
  some σ4
def X2_addOperation (o : Nat) (x1 : Int32) (σ : Mem) : Option Mem :=
  if 270 ≤ (σ.1 o 4) then
    some σ
  else
    if ib (σ.1 o 4) 270 = true then bv (sI σ (o + 1) (σ.1 o 4).toNatClampNeg x1) fun σ1 =>
      bv (sI σ1 o 4 ((σ1.1 o 4) + 1)) fun σ2 =>
      some σ2
    else none
def X2_addNumber (o : Nat) (x1 : Int32) (σ : Mem) : Option Mem :=
  if 30 ≤ (σ.1 o 7) then
    some σ
  else
    if 270 ≤ (σ.1 o 4) then
      some σ
    else
      if ib (σ.1 o 7) 30 = true then bv (sI σ (o + 4) (σ.1 o 7).toNatClampNeg (σ.1 o 4)) fun σ1 =>
        bv (sI σ1 o 7 ((σ1.1 o 7) + 1)) fun σ2 =>
        if ib (σ2.1 o 4) 270 = true then bv (sI σ2 (o + 2) (σ2.1 o 4).toNatClampNeg x1) fun σ3 =>
          (X2_addOperation o 2 σ3).bind fun σ4 =>
          some σ4
        else none
      else none
def X2_addGiven_35 (o : Nat) (x1 : Int32) (s0 : Int32) (s1 : Int32) (σ : Mem) : Option Mem :=
  if (s1 ||| s0) = 0 ∨ (s1 ||| s0) = 1 then bv (sI σ o 6 (s1 ||| s0)) fun σ1 =>
    if ib (σ1.1 o 4) 270 = true then bv (sI σ1 (o + 2) (σ1.1 o 4).toNatClampNeg x1) fun σ2 =>
      (X2_addOperation o 116 σ2).bind fun σ3 =>
      some σ3
    else none
  else none
def X2_addGiven (o : Nat) (x1 : Int32) (σ : Mem) : Option Mem :=
  if x1 < 0 then
    some σ
  else
    if 7 ≤ x1 then
      some σ
    else
      if 270 ≤ (σ.1 o 4) then
        some σ
      else
        if x1 = 3 then
          X2_addGiven_35 o x1 1 (σ.1 o 6) σ
        else
          X2_addGiven_35 o x1 0 (σ.1 o 6) σ
def X7_store (o : Nat) (a : Nat) (al : Nat) (x2 : Int32) (σ : Mem) : Option Mem :=
  if cpok 0 x2 6 6 al = true then bv (sC σ a (x2 : Int32).toNatClampNeg (σ.1 (o + 1)) (0 : Int32).toNatClampNeg (6 : Int32).toNatClampNeg) fun σ1 =>
    if cpok 0 (x2 + 6) 6 6 al = true then bv (sC σ1 a (x2 + 6 : Int32).toNatClampNeg (σ1.1 (o + 2)) (0 : Int32).toNatClampNeg (6 : Int32).toNatClampNeg) fun σ2 =>
      if cpok 0 (x2 + 12) 6 6 al = true then bv (sC σ2 a (x2 + 12 : Int32).toNatClampNeg (σ2.1 (o + 3)) (0 : Int32).toNatClampNeg (6 : Int32).toNatClampNeg) fun σ3 =>
        if cpok 0 (x2 + 18) 6 6 al = true then bv (sC σ3 a (x2 + 18 : Int32).toNatClampNeg (σ3.1 (o + 4)) (0 : Int32).toNatClampNeg (6 : Int32).toNatClampNeg) fun σ4 =>
          if cpok 0 (x2 + 24) 36 36 al = true then bv (sC σ4 a (x2 + 24 : Int32).toNatClampNeg (σ4.1 (o + 5)) (0 : Int32).toNatClampNeg (36 : Int32).toNatClampNeg) fun σ5 =>
            if ib ((x2 + 63) - 3) al = true then bv (sI σ5 a ((x2 + 63) - 3).toNatClampNeg (σ5.1 o 5)) fun σ6 =>
              if ib ((x2 + 63) - 2) al = true then bv (sI σ6 a ((x2 + 63) - 2).toNatClampNeg (σ6.1 o 6)) fun σ7 =>
                if ib ((x2 + 63) - 1) al = true then bv (sI σ7 a ((x2 + 63) - 1).toNatClampNeg (σ7.1 o 7)) fun σ8 =>
                  some σ8
                else none
              else none
            else none
          else none
        else none
      else none
    else none
  else none
def X3_begin (s : Nat) (σ : Mem) : Option Mem :=
  bv (sI σ 37 1 0) fun σ1 =>
  bv (sI σ1 37 2 0) fun σ2 =>
  (X7_store s 38 2583 0 σ2).bind fun σ3 =>
  some σ3
def X3_add_39 (s : Nat) (σ : Mem) : Option Mem :=
  bv (sI σ 37 2 (σ.1 37 1)) fun σ3 =>
  (X7_store s 38 2583 ((σ3.1 37 1) * 63) σ3).bind fun σ4 =>
  some σ4
def X3_add (s : Nat) (σ : Mem) : Option Mem :=
  if (σ.1 37 1) = 40 then
    if cpok 63 0 2520 2583 2583 = true then bv (sC σ 38 (0 : Int32).toNatClampNeg (σ.1 38) (63 : Int32).toNatClampNeg (2520 : Int32).toNatClampNeg) fun σ2 =>
      X3_add_39 s σ2
    else none
  else
    bv (sI σ 37 1 ((σ.1 37 1) + 1)) fun σ1 =>
    X3_add_39 s σ1
def X7_load (o : Nat) (a : Nat) (al : Nat) (x2 : Int32) (σ : Mem) : Option Mem :=
  if cpok x2 0 6 al 6 = true then bv (sC σ (o + 1) (0 : Int32).toNatClampNeg (σ.1 a) (x2 : Int32).toNatClampNeg (6 : Int32).toNatClampNeg) fun σ1 =>
    if cpok (x2 + 6) 0 6 al 6 = true then bv (sC σ1 (o + 2) (0 : Int32).toNatClampNeg (σ1.1 a) (x2 + 6 : Int32).toNatClampNeg (6 : Int32).toNatClampNeg) fun σ2 =>
      if cpok (x2 + 12) 0 6 al 6 = true then bv (sC σ2 (o + 3) (0 : Int32).toNatClampNeg (σ2.1 a) (x2 + 12 : Int32).toNatClampNeg (6 : Int32).toNatClampNeg) fun σ3 =>
        if cpok (x2 + 18) 0 6 al 6 = true then bv (sC σ3 (o + 4) (0 : Int32).toNatClampNeg (σ3.1 a) (x2 + 18 : Int32).toNatClampNeg (6 : Int32).toNatClampNeg) fun σ4 =>
          if cpok (x2 + 24) 0 36 al 36 = true then bv (sC σ4 (o + 5) (0 : Int32).toNatClampNeg (σ4.1 a) (x2 + 24 : Int32).toNatClampNeg (36 : Int32).toNatClampNeg) fun σ5 =>
            if ib ((x2 + 63) - 3) al = true then
              bv (sI σ5 o 5 (σ5.1 a ((x2 + 63) - 3).toNatClampNeg)) fun σ6 =>
              if ib ((x2 + 63) - 2) al = true then
                bv (sI σ6 o 6 (σ6.1 a ((x2 + 63) - 2).toNatClampNeg)) fun σ7 =>
                if ib ((x2 + 63) - 1) al = true then
                  bv (sI σ7 o 7 (σ7.1 a ((x2 + 63) - 1).toNatClampNeg)) fun σ8 =>
                  some σ8
                else none
              else none
            else none
          else none
        else none
      else none
    else none
  else none
def X3_goBack (s : Nat) (σ : Mem) : Option (Int32 × Mem) :=
  if (σ.1 37 1) = 0 then
    some (0, σ)
  else
    bv (sI σ 37 1 ((σ.1 37 1) - 1)) fun σ1 =>
    (X7_load s 38 2583 ((σ1.1 37 1) * 63) σ1).bind fun σ2 =>
    some (1, σ2)
def X3_goForth (s : Nat) (σ : Mem) : Option (Int32 × Mem) :=
  if (σ.1 37 1) = (σ.1 37 2) then
    some (0, σ)
  else
    bv (sI σ 37 1 ((σ.1 37 1) + 1)) fun σ1 =>
    (X7_load s 38 2583 ((σ1.1 37 1) * 63) σ1).bind fun σ2 =>
    some (1, σ2)
def X4_payOff_36 (t : Nat) (q1 : Nat) : Nat → Int32 → Int32 → Mem → Option (Int32 × Mem)
  | 0, _, _, _ => none
  | n + 1, x3, x6, σ =>
    if (σ.1 61 4) ≤ x6 then
      some (σ.1 61 4, σ)
    else
      (X11_cell (σ.1 61 3) x3 σ).bind fun r5 =>
      if ib r5.1 36 = true then
        if (r5.2.1 (q1 + 5) r5.1.toNatClampNeg) = 0 then
          some (x6, r5.2)
        else
          (X0_pass 62 t q1 r5.2).bind fun r6 =>
          bv (x6 + 1 : Int32) fun v7 =>
          X4_payOff_36 t q1 n x3 v7 r6.2
      else none
def X4_payOff (t : Nat) (x2 : Int32) (x3 : Int32) (x4 : Int32) (σ : Mem) : Option (Int32 × Mem) :=
  gS (σ.1 66 (x2 + 1).toNatClampNeg) (x2 + 1) fun q1 =>
  gS (σ.1 66 x2.toNatClampNeg) x2 fun q2 =>
  (X7_copy q1 q2 σ).bind fun σ3 =>
  if ib (σ3.1 61 3) 6 = true then bv (sI σ3 (q1 + 2) (σ3.1 61 3).toNatClampNeg x3) fun σ4 =>
    X4_payOff_36 t q1 fu x3 x4 σ4
  else none
def X4_tryOrders_107 (R : (Nat → Int32 → Int32 → Mem → Option Mem)) (t : Nat) (k38 : Int32 → Int32 → Int32 → Mem → Option Mem) (x2 : Int32) (x3 : Int32) (x4 : Int32) (σ : Mem) : Option Mem :=
  bv (x4 + 1 : Int32) fun v10 =>
  k38 x2 x3 v10 σ
def X4_tryOrders_38 (R : (Nat → Int32 → Int32 → Mem → Option Mem)) (t : Nat) : Nat → Int32 → Int32 → Int32 → Mem → Option Mem
  | 0, _, _, _, _ => none
  | n + 1, x2, x3, x4, σ =>
    if (σ.1 t 12) ≤ x4 then
      some σ
    else
      gS (σ.1 66 x2.toNatClampNeg) x2 fun q4 =>
      (X11_cell (σ.1 61 3) x4 σ).bind fun r5 =>
      if ib r5.1 36 = true then
        if (r5.2.1 (q4 + 5) r5.1.toNatClampNeg) ≤ 0 then
          X4_tryOrders_107 R t (X4_tryOrders_38 R t n) x2 x3 x4 r5.2
        else
          if ib x2 6 = true then bv (sI r5.2 67 x2.toNatClampNeg x4) fun σ6 =>
            (X4_payOff t x2 x4 x3 σ6).bind fun r7 =>
            bv (r7.1 : Int32) fun v8 =>
            if (r7.2.1 61 4) ≤ v8 then
              X4_tryOrders_107 R t (X4_tryOrders_38 R t n) x2 x3 x4 r7.2
            else
              (R t (x2 + 1) v8 r7.2).bind fun σ9 =>
              X4_tryOrders_107 R t (X4_tryOrders_38 R t n) x2 x3 x4 σ9
          else none
      else none
def X4_tryOrders_14 (R : (Nat → Int32 → Int32 → Mem → Option Mem)) (t : Nat) (x3 : Int32) (σ : Mem) : Option Mem :=
  bv (sI σ 61 4 x3) fun σ2 =>
  if cpok 0 0 6 6 6 = true then bv (sC σ2 68 (0 : Int32).toNatClampNeg (σ2.1 67) (0 : Int32).toNatClampNeg (6 : Int32).toNatClampNeg) fun σ3 =>
    some σ3
  else none
def X4_tryOrders (R : (Nat → Int32 → Int32 → Mem → Option Mem)) (t : Nat) (x2 : Int32) (x3 : Int32) (σ : Mem) : Option Mem :=
  if (σ.1 61 6) ≤ x2 then
    X4_tryOrders_14 R t x3 σ
  else
    if x2 < 6 then
      bv (0 : Int32) fun v1 =>
      X4_tryOrders_38 R t fu x2 x3 v1 σ
    else
      X4_tryOrders_14 R t x3 σ
def C_tryOrders : Nat → Nat → Int32 → Int32 → Mem → Option Mem
  | 0, _, _, _, _ => none
  | e + 1, t, x2, x3, σ => X4_tryOrders (C_tryOrders e) t x2 x3 σ
def X4_hoursOfBest_80 (t : Nat) (s : Nat) (q4 : Nat) (k34 : Int32 → Mem → Option (Int32 × Mem)) (x5 : Int32) (σ : Mem) : Option (Int32 × Mem) :=
  bv (x5 + 1 : Int32) fun v12 =>
  k34 v12 σ
def X4_hoursOfBest_34 (t : Nat) (s : Nat) (q4 : Nat) : Nat → Int32 → Mem → Option (Int32 × Mem)
  | 0, _, _ => none
  | n + 1, x5, σ =>
    if (σ.1 t 12) ≤ x5 then
      if ib (σ.1 61 3) 6 = true then bv (sI σ (q4 + 3) (σ.1 61 3).toNatClampNeg (σ.1 61 3)) fun σ7 =>
        (C_tryOrders 8 t 0 0 σ7).bind fun σ8 =>
        if (σ8.1 61 4) ≤ 300 then
          some (σ8.1 61 4, σ8)
        else
          some ((-1), σ8)
      else none
    else
      if ib x5 6 = true then bv (sI σ (q4 + 2) x5.toNatClampNeg (-1)) fun σ9 =>
        (X11_cell (σ9.1 61 3) x5 σ9).bind fun r10 =>
        if ib r10.1 36 = true then
          if (r10.2.1 (q4 + 5) r10.1.toNatClampNeg) ≤ 0 then
            X4_hoursOfBest_80 t s q4 (X4_hoursOfBest_34 t s q4 n) x5 r10.2
          else
            bv (sI r10.2 61 6 ((r10.2.1 61 6) + 1)) fun σ11 =>
            X4_hoursOfBest_80 t s q4 (X4_hoursOfBest_34 t s q4 n) x5 σ11
        else none
      else none
def X4_hoursOfBest (t : Nat) (s : Nat) (x3 : Int32) (σ : Mem) : Option (Int32 × Mem) :=
  bv (sI σ 61 3 x3) fun σ1 =>
  bv (sI σ1 61 4 301) fun σ2 =>
  bv (sI σ2 61 6 0) fun σ3 =>
  gS (σ3.1 66 (0 : Int32).toNatClampNeg) 0 fun q4 =>
  (X7_copy q4 s σ3).bind fun σ5 =>
  bv (0 : Int32) fun v6 =>
  X4_hoursOfBest_34 t s q4 fu v6 σ5
def X10_forget (o : Nat) (σ : Mem) : Option Mem :=
  (J7_fill_53178 (o + 8) 36 0 σ).bind fun σ1 =>
  (X2_forget (o + 9) σ1).bind fun σ2 =>
  (X2_forget (o + 14) σ2).bind fun σ3 =>
  (X2_forget (o + 19) σ3).bind fun σ4 =>
  bv (sI σ4 o 11 10) fun σ5 =>
  bv (sI σ5 o 12 0) fun σ6 =>
  bv (sI σ6 o 13 0) fun σ7 =>
  bv (sI σ7 o 14 0) fun σ8 =>
  some σ8
def X9_isLetter (x1 : Int32) (σ : Mem) : Option (Int32 × Mem) :=
  if σ.1 3 0 = nI 1 then
    if ib x1 1600 = true then
      if (σ.1 1 x1.toNatClampNeg) < 97 then
        some (0, σ)
      else
        if σ.1 3 0 = nI 1 then
          if ib x1 1600 = true then
            if 122 < (σ.1 1 x1.toNatClampNeg) then
              some (0, σ)
            else
              some (1, σ)
          else none
        else none
    else none
  else none
def X9_readLetters_5 : Nat → Int32 → Mem → Option Mem
  | 0, _, _ => none
  | n + 1, x1, σ =>
    if (σ.1 3 1) ≤ x1 then
      some σ
    else
      (X9_isLetter x1 σ).bind fun r2 =>
      if r2.1 = 0 then
        some r2.2
      else
        bv (sI r2.2 3 4 (x1 + 1)) fun σ3 =>
        bv (x1 + 1 : Int32) fun v4 =>
        X9_readLetters_5 n v4 σ3
def X9_readLetters (σ : Mem) : Option Mem :=
  bv (σ.1 3 3 : Int32) fun v1 =>
  X9_readLetters_5 fu v1 σ
def J0_coder_7d493 (i : Nat) (σ : Mem) : Option (Int32 × Mem) :=
  if (1 : Int32) = 0 then
    some ((1 : Int32).toInt8.toInt32, σ)
  else
    some ((0 : Int32).toInt8.toInt32, σ)
def J0_length_8abf5 (i : Nat) (σ : Mem) : Option (Int32 × Mem) :=
  (J0_coder_7d493 i σ).bind fun r1 =>
  some ((Int32.ofNat (j_len.getD i 0)) >>> (r1.1 &&& 31), r1.2)
def J0_isLatin1_aae02 (i : Nat) (σ : Mem) : Option (Int32 × Mem) :=
  if (1 : Int32) = 0 then
    some (0, σ)
  else
    if (0 : Int32) = 0 then
      some (1, σ)
    else
      some (0, σ)
def J1_charAt_3b067 (i : Nat) (x1 : Int32) (σ : Mem) : Option (Int32 × Mem) :=
  (J0_checkIndex_df160 x1 (Int32.ofNat (j_len.getD i 0)) σ).bind fun σ1 =>
  if ib x1 (j_len.getD i 0) = true then
    some ((((((j_byt.getD i []).getD x1.toNatClampNeg 0) &&& 255).toUInt32 % 65536).toInt32).toUInt32.toUInt16.toUInt32.toInt32, σ1)
  else none
def J0_charAt_5068e (i : Nat) (x1 : Int32) (σ : Mem) : Option (Int32 × Mem) :=
  (J0_isLatin1_aae02 i σ).bind fun r1 =>
  if r1.1 = 0 then
    none
  else
    (J1_charAt_3b067 i x1 r1.2).bind fun r2 =>
    some (r2.1.toUInt32.toUInt16.toUInt32.toInt32, r2.2)
def X9_kindOfWord_93 (k95 : Int32 → Int32 → Int32 → Mem → Option (Int32 × Mem)) (x1 : Int32) (x3 : Int32) (σ : Mem) : Option (Int32 × Mem) :=
  bv ((-1) : Int32) fun v10 =>
  k95 x1 v10 x3 σ
def X9_kindOfWord_95 (k7 : Int32 → Int32 → Int32 → Mem → Option (Int32 × Mem)) (x1 : Int32) (x2 : Int32) (x3 : Int32) (σ : Mem) : Option (Int32 × Mem) :=
  bv (x3 + 1 : Int32) fun v11 =>
  k7 x1 x2 v11 σ
def X9_kindOfWord_7 : Nat → Int32 → Int32 → Int32 → Mem → Option (Int32 × Mem)
  | 0, _, _, _, _ => none
  | n + 1, x1, x2, x3, σ =>
    (J0_length_8abf5 1 σ).bind fun r4 =>
    if r4.1 ≤ x3 then
      some (3, r4.2)
    else
      (J0_charAt_5068e 1 x3 r4.2).bind fun r5 =>
      bv (r5.1 : Int32) fun v6 =>
      if v6 = 32 then
        if x2 = ((r5.2.1 3 4) - (r5.2.1 3 3)) then
          some (x1, r5.2)
        else
          bv (x1 + 1 : Int32) fun v8 =>
          bv (0 : Int32) fun v9 =>
          X9_kindOfWord_95 (X9_kindOfWord_7 n) v8 v9 x3 r5.2
      else
        if x2 < 0 then
          X9_kindOfWord_93 (X9_kindOfWord_95 (X9_kindOfWord_7 n)) x1 x3 r5.2
        else
          if ((r5.2.1 3 4) - (r5.2.1 3 3)) ≤ x2 then
            X9_kindOfWord_93 (X9_kindOfWord_95 (X9_kindOfWord_7 n)) x1 x3 r5.2
          else
            if r5.2.1 3 0 = nI 1 then
              if ib ((r5.2.1 3 3) + x2) 1600 = true then
                if (r5.2.1 1 ((r5.2.1 3 3) + x2).toNatClampNeg) = v6 then
                  bv (x2 + 1 : Int32) fun v7 =>
                  X9_kindOfWord_95 (X9_kindOfWord_7 n) x1 v7 x3 r5.2
                else
                  X9_kindOfWord_93 (X9_kindOfWord_95 (X9_kindOfWord_7 n)) x1 x3 r5.2
              else none
            else none
def X9_kindOfWord (σ : Mem) : Option (Int32 × Mem) :=
  bv (100 : Int32) fun v1 =>
  bv (0 : Int32) fun v2 =>
  bv (0 : Int32) fun v3 =>
  X9_kindOfWord_7 fu v1 v2 v3 σ
def X9_isDigit (x1 : Int32) (σ : Mem) : Option (Int32 × Mem) :=
  if σ.1 3 0 = nI 1 then
    if ib x1 1600 = true then
      if (σ.1 1 x1.toNatClampNeg) < 48 then
        some (0, σ)
      else
        if σ.1 3 0 = nI 1 then
          if ib x1 1600 = true then
            if 57 < (σ.1 1 x1.toNatClampNeg) then
              some (0, σ)
            else
              some (1, σ)
          else none
        else none
    else none
  else none
def X9_readNumber_95 (k100 : Int32 → Mem → Option Mem) (σ : Mem) : Option Mem :=
  k100 1 σ
def X9_readNumber_111 (s0 : Int32) (σ : Mem) : Option Mem :=
  bv (sI σ 3 2 s0) fun σ8 =>
  some σ8
def X9_readNumber_99 (k100 : Int32 → Mem → Option Mem) (σ : Mem) : Option Mem :=
  k100 0 σ
def X9_readNumber_100 (s0 : Int32) (σ : Mem) : Option Mem :=
  if s0 = 0 then
    X9_readNumber_111 1 σ
  else
    X9_readNumber_111 2 σ
def X9_readNumber_60 (σ : Mem) : Option Mem :=
  if 4 < ((σ.1 3 4) - (σ.1 3 3)) then
    X9_readNumber_99 (X9_readNumber_100) σ
  else
    if (σ.1 3 1) ≤ (σ.1 3 4) then
      X9_readNumber_95 (X9_readNumber_100) σ
    else
      (X9_isLetter (σ.1 3 4) σ).bind fun r7 =>
      if r7.1 = 0 then
        X9_readNumber_95 (X9_readNumber_100) r7.2
      else
        X9_readNumber_99 (X9_readNumber_100) r7.2
def X9_readNumber_10 : Nat → Int32 → Mem → Option Mem
  | 0, _, _ => none
  | n + 1, x1, σ =>
    if (σ.1 3 1) ≤ x1 then
      X9_readNumber_60 σ
    else
      (X9_isDigit x1 σ).bind fun r3 =>
      if r3.1 = 0 then
        X9_readNumber_60 r3.2
      else
        if r3.2.1 3 0 = nI 1 then
          if ib x1 1600 = true then
            bv (sI r3.2 3 5 ((((r3.2.1 3 5) * 10) + (r3.2.1 1 x1.toNatClampNeg)) - 48)) fun σ4 =>
            bv (sI σ4 3 4 (x1 + 1)) fun σ5 =>
            bv (x1 + 1 : Int32) fun v6 =>
            X9_readNumber_10 n v6 σ5
          else none
        else none
def X9_readNumber (σ : Mem) : Option Mem :=
  bv (sI σ 3 5 0) fun σ1 =>
  bv (σ1.1 3 3 : Int32) fun v2 =>
  X9_readNumber_10 fu v2 σ1
def J1_canEncode_9a6ad (x0 : Int32) (σ : Mem) : Option (Int32 × Mem) :=
  if x0 < 0 then
    some (0, σ)
  else
    if 255 < x0 then
      some (0, σ)
    else
      some (1, σ)
def J1_indexOfChar_4cfef_7 (i : Nat) : Nat → Int32 → Int32 → Int32 → Mem → Option (Int32 × Mem)
  | 0, _, _, _, _ => none
  | n + 1, x3, x4, x5, σ =>
    if x3 ≤ x5 then
      some ((-1), σ)
    else
      if ib x5 (j_len.getD i 0) = true then
        if ((j_byt.getD i []).getD x5.toNatClampNeg 0) = x4 then
          some (x5, σ)
        else
          bv (x5 + 1 : Int32) fun v2 =>
          J1_indexOfChar_4cfef_7 i n x3 x4 v2 σ
      else none
def J1_indexOfChar_4cfef (i : Nat) (x1 : Int32) (x2 : Int32) (x3 : Int32) (σ : Mem) : Option (Int32 × Mem) :=
  bv (x1.toInt8.toInt32 : Int32) fun v1 =>
  J1_indexOfChar_4cfef_7 i fu x3 v1 x2 σ
def J1_indexOf_4cfef (i : Nat) (x1 : Int32) (x2 : Int32) (x3 : Int32) (σ : Mem) : Option (Int32 × Mem) :=
  (J1_canEncode_9a6ad x1 σ).bind fun r1 =>
  if r1.1 = 0 then
    some ((-1), r1.2)
  else
    bv (imax x2 0 : Int32) fun v2 =>
    bv (imin x3 (Int32.ofNat (j_len.getD i 0)) : Int32) fun v3 =>
    if v2 < v3 then
      (J1_indexOfChar_4cfef i x1 v2 v3 r1.2).bind fun r4 =>
      some (r4.1, r4.2)
    else
      some ((-1), r1.2)
def J0_indexOf_7cf53 (i : Nat) (x1 : Int32) (x2 : Int32) (σ : Mem) : Option (Int32 × Mem) :=
  (J0_isLatin1_aae02 i σ).bind fun r1 =>
  if r1.1 = 0 then
    (J0_length_8abf5 i r1.2).bind fun r2 =>
    none
  else
    (J0_length_8abf5 i r1.2).bind fun r3 =>
    (J1_indexOf_4cfef i x1 x2 r3.1 r3.2).bind fun r4 =>
    some (r4.1, r4.2)
def J0_indexOf_0f7a4 (i : Nat) (x1 : Int32) (σ : Mem) : Option (Int32 × Mem) :=
  (J0_indexOf_7cf53 i x1 0 σ).bind fun r1 =>
  some (r1.1, r1.2)
def X9_next_199 (k200 : Int32 → Mem → Option Mem) (σ : Mem) : Option Mem :=
  k200 1 σ
def X9_next_200 (s0 : Int32) (σ : Mem) : Option Mem :=
  bv (sI σ 3 2 s0) fun σ14 =>
  some σ14
def X9_next_122 (s0 : Int32) (σ : Mem) : Option Mem :=
  bv (sI σ 3 2 s0) fun σ15 =>
  some σ15
def X9_next_51 (k13 : Int32 → Mem → Option Mem) (x1 : Int32) (σ : Mem) : Option Mem :=
  bv (x1 + 1 : Int32) fun v13 =>
  k13 v13 σ
def X9_next_57 (σ : Mem) : Option Mem :=
  bv (sI σ 3 4 (σ.1 3 3)) fun σ4 =>
  if (σ4.1 3 3) < (σ4.1 3 1) then
    (X9_isLetter (σ4.1 3 3) σ4).bind fun r5 =>
    if r5.1 = 0 then
      (X9_isDigit (r5.2.1 3 3) r5.2).bind fun r6 =>
      if r6.1 = 0 then
        bv (sI r6.2 3 4 ((r6.2.1 3 3) + 1)) fun σ7 =>
        if σ7.1 3 0 = nI 1 then
          if ib (σ7.1 3 3) 1600 = true then
            if (σ7.1 1 (σ7.1 3 3).toNatClampNeg) ≤ 0 then
              X9_next_199 (X9_next_200) σ7
            else
              if σ7.1 3 0 = nI 1 then
                if ib (σ7.1 3 3) 1600 = true then
                  (J0_indexOf_0f7a4 0 (((σ7.1 1 (σ7.1 3 3).toNatClampNeg).toUInt32 % 65536).toInt32) σ7).bind fun r8 =>
                  if r8.1 < 0 then
                    X9_next_199 (X9_next_200) r8.2
                  else
                    if r8.2.1 3 0 = nI 1 then
                      if ib (r8.2.1 3 3) 1600 = true then
                        X9_next_200 (r8.2.1 1 (r8.2.1 3 3).toNatClampNeg) r8.2
                      else none
                    else none
                else none
              else none
          else none
        else none
      else
        (X9_readNumber r6.2).bind fun σ9 =>
        some σ9
    else
      (X9_readLetters r5.2).bind fun σ10 =>
      if ((σ10.1 3 4) - (σ10.1 3 3)) ≤ 8 then
        (X9_kindOfWord σ10).bind fun r11 =>
        X9_next_122 r11.1 r11.2
      else
        X9_next_122 1 σ10
  else
    bv (sI σ4 3 2 0) fun σ12 =>
    some σ12
def X9_next_13 : Nat → Int32 → Mem → Option Mem
  | 0, _, _ => none
  | n + 1, x1, σ =>
    if (σ.1 3 1) ≤ x1 then
      X9_next_57 σ
    else
      if σ.1 3 0 = nI 1 then
        if ib x1 1600 = true then
          if (σ.1 1 x1.toNatClampNeg) = 32 then
            X9_next_51 (X9_next_13 n) x1 σ
          else
            if σ.1 3 0 = nI 1 then
              if ib x1 1600 = true then
                if (σ.1 1 x1.toNatClampNeg) = 10 then
                  X9_next_51 (X9_next_13 n) x1 σ
                else
                  bv (sI σ 3 3 x1) fun σ3 =>
                  X9_next_57 σ3
              else none
            else none
        else none
      else none
def X9_next (σ : Mem) : Option Mem :=
  bv (sI σ 3 3 (σ.1 3 1)) fun σ1 =>
  bv (σ1.1 3 4 : Int32) fun v2 =>
  X9_next_13 fu v2 σ1
def X9_begin (x2 : Int32) (σ : Mem) : Option Mem :=
  bv (sI σ 3 0 (nI 1)) fun σ1 =>
  bv (sI σ1 3 1 (imin x2 1600)) fun σ2 =>
  bv (sI σ2 3 4 0) fun σ3 =>
  (X9_next σ3).bind fun σ4 =>
  some σ4
def X5_isGood (σ : Mem) : Option (Int32 × Mem) :=
  if (σ.1 2 5) = 0 then
    some (1, σ)
  else
    some (0, σ)
def X5_fail_24 (s0 : Int32) (σ : Mem) : Option Mem :=
  bv (sI σ 2 5 s0) fun σ2 =>
  bv (sI σ2 2 6 (σ2.1 3 3)) fun σ3 =>
  some σ3
def X5_fail (x1 : Int32) (σ : Mem) : Option Mem :=
  (X5_isGood σ).bind fun r1 =>
  if r1.1 = 0 then
    some r1.2
  else
    if (r1.2.1 3 2) = 1 then
      X5_fail_24 1 r1.2
    else
      X5_fail_24 x1 r1.2
def X5_isAt (x1 : Int32) (σ : Mem) : Option (Int32 × Mem) :=
  (X5_isGood σ).bind fun r1 =>
  if r1.1 = 0 then
    some (0, r1.2)
  else
    if (r1.2.1 3 2) = x1 then
      some (1, r1.2)
    else
      some (0, r1.2)
def X5_expectNumber_33 (σ : Mem) : Option (Int32 × Mem) :=
  (X5_fail 4 σ).bind fun σ5 =>
  some (0, σ5)
def X5_expectNumber (x1 : Int32) (x2 : Int32) (σ : Mem) : Option (Int32 × Mem) :=
  (X5_isAt 2 σ).bind fun r1 =>
  if r1.1 = 0 then
    (X5_fail 2 r1.2).bind fun σ4 =>
    some (0, σ4)
  else
    bv (r1.2.1 3 5 : Int32) fun v2 =>
    if v2 < x1 then
      X5_expectNumber_33 r1.2
    else
      if v2 ≤ x2 then
        (X9_next r1.2).bind fun σ3 =>
        some (v2, σ3)
      else
        X5_expectNumber_33 r1.2
def X5_readDay (x1 : Int32) (σ : Mem) : Option Mem :=
  if x1 = 0 then
    (X5_fail 2 σ).bind fun σ5 =>
    some σ5
  else
    (X9_next σ).bind fun σ1 =>
    gT (σ1.1 2 3) fun q2 =>
    (X5_expectNumber 2 24 σ1).bind fun r3 =>
    bv (sI r3.2 q2 11 r3.1) fun σ4 =>
    some σ4
def X9_isSameWord_19 : Nat → Int32 → Int32 → Mem → Option (Int32 × Mem)
  | 0, _, _, _ => none
  | n + 1, x1, x3, σ =>
    if ((σ.1 3 4) - (σ.1 3 3)) ≤ x3 then
      some (1, σ)
    else
      if σ.1 3 0 = nI 1 then
        if ib ((σ.1 3 3) + x3) 1600 = true then
          if σ.1 3 0 = nI 1 then
            if ib (x1 + x3) 1600 = true then
              if (σ.1 1 ((σ.1 3 3) + x3).toNatClampNeg) = (σ.1 1 (x1 + x3).toNatClampNeg) then
                bv (x3 + 1 : Int32) fun v2 =>
                X9_isSameWord_19 n x1 v2 σ
              else
                some (0, σ)
            else none
          else none
        else none
      else none
def X9_isSameWord (x1 : Int32) (x2 : Int32) (σ : Mem) : Option (Int32 × Mem) :=
  if (x2 - x1) = ((σ.1 3 4) - (σ.1 3 3)) then
    bv (0 : Int32) fun v1 =>
    X9_isSameWord_19 fu x1 v1 σ
  else
    some (0, σ)
def X5_personHere_2 : Nat → Int32 → Mem → Option (Int32 × Mem)
  | 0, _, _ => none
  | n + 1, x1, σ =>
    gT (σ.1 2 3) fun q2 =>
    if (σ.1 q2 12) ≤ x1 then
      some ((-1), σ)
    else
      if ib x1 6 = true then
        if ib x1 6 = true then
          (X9_isSameWord (σ.1 5 x1.toNatClampNeg) (σ.1 6 x1.toNatClampNeg) σ).bind fun r3 =>
          if r3.1 = 0 then
            bv (x1 + 1 : Int32) fun v4 =>
            X5_personHere_2 n v4 r3.2
          else
            some (x1, r3.2)
        else none
      else none
def X5_personHere (σ : Mem) : Option (Int32 × Mem) :=
  bv (0 : Int32) fun v1 =>
  X5_personHere_2 fu v1 σ
def X5_readNewName (x1 : Int32) (σ : Mem) : Option Mem :=
  (X5_isAt 3 σ).bind fun r1 =>
  if r1.1 = 0 then
    (X5_fail 2 r1.2).bind fun σ7 =>
    some σ7
  else
    (X5_personHere r1.2).bind fun r2 =>
    if r2.1 = (-1) then
      if ib x1 6 = true then bv (sI r2.2 5 x1.toNatClampNeg (r2.2.1 3 3)) fun σ3 =>
        if ib x1 6 = true then bv (sI σ3 6 x1.toNatClampNeg (σ3.1 3 4)) fun σ4 =>
          (X9_next σ4).bind fun σ5 =>
          some σ5
        else none
      else none
    else
      (X5_fail 3 r2.2).bind fun σ6 =>
      some σ6
def X5_expect (x1 : Int32) (σ : Mem) : Option Mem :=
  (X5_isAt x1 σ).bind fun r1 =>
  if r1.1 = 0 then
    (X5_fail 2 r1.2).bind fun σ2 =>
    some σ2
  else
    (X9_next r1.2).bind fun σ3 =>
    some σ3
def X5_numberBehind (x1 : Int32) (x2 : Int32) (σ : Mem) : Option (Int32 × Mem) :=
  (X5_isAt x1 σ).bind fun r1 =>
  if r1.1 = 0 then
    some (0, r1.2)
  else
    (X9_next r1.2).bind fun σ2 =>
    (X5_expectNumber 0 x2 σ2).bind fun r3 =>
    some (r3.1, r3.2)
def X5_readPerson (σ : Mem) : Option Mem :=
  gT (σ.1 2 3) fun q1 =>
  bv (σ.1 q1 12 : Int32) fun v2 =>
  if v2 < 6 then
    (X9_next σ).bind fun σ3 =>
    (X5_readNewName v2 σ3).bind fun σ4 =>
    (X5_expect 102 σ4).bind fun σ5 =>
    gT (σ5.1 2 3) fun q6 =>
    (X5_expectNumber 0 20 σ5).bind fun r7 =>
    if ib v2 6 = true then bv (sI r7.2 (q6 + 1) v2.toNatClampNeg r7.1) fun σ8 =>
      (X5_expect 103 σ8).bind fun σ9 =>
      gT (σ9.1 2 3) fun q10 =>
      (X5_expectNumber 0 ((σ9.1 q10 11) - 1) σ9).bind fun r11 =>
      bv (r11.1 : Int32) fun v12 =>
      (X5_expect 104 r11.2).bind fun σ13 =>
      gT (σ13.1 2 3) fun q14 =>
      if ib v2 6 = true then bv (sI σ13 (q14 + 2) v2.toNatClampNeg v12) fun σ15 =>
        gT (σ15.1 2 3) fun q16 =>
        gT (σ15.1 2 3) fun q17 =>
        (X5_expectNumber (v12 + 1) (σ15.1 q17 11) σ15).bind fun r18 =>
        if ib v2 6 = true then bv (sI r18.2 (q16 + 3) v2.toNatClampNeg r18.1) fun σ19 =>
          gT (σ19.1 2 3) fun q20 =>
          (X5_numberBehind 105 9 σ19).bind fun r21 =>
          if ib v2 6 = true then bv (sI r21.2 (q20 + 4) v2.toNatClampNeg r21.1) fun σ22 =>
            gT (σ22.1 2 3) fun q23 =>
            gT (σ22.1 2 3) fun q24 =>
            (X5_numberBehind 106 ((σ22.1 q24 11) - 1) σ22).bind fun r25 =>
            if ib v2 6 = true then bv (sI r25.2 (q23 + 5) v2.toNatClampNeg r25.1) fun σ26 =>
              gT (σ26.1 2 3) fun q27 =>
              (X5_numberBehind 107 99 σ26).bind fun r28 =>
              if ib v2 6 = true then bv (sI r28.2 (q27 + 6) v2.toNatClampNeg r28.1) fun σ29 =>
                gT (σ29.1 2 3) fun q30 =>
                (X5_numberBehind 108 999 σ29).bind fun r31 =>
                if ib v2 6 = true then bv (sI r31.2 (q30 + 7) v2.toNatClampNeg r31.1) fun σ32 =>
                  gT (σ32.1 2 3) fun q33 =>
                  bv (sI σ32 q33 12 ((σ32.1 q33 12) + 1)) fun σ34 =>
                  some σ34
                else none
              else none
            else none
          else none
        else none
      else none
    else none
  else
    (X5_fail 2 σ).bind fun σ35 =>
    some σ35
def X5_knownPersonHere (σ : Mem) : Option (Int32 × Mem) :=
  (X5_isAt 3 σ).bind fun r1 =>
  if r1.1 = 0 then
    (X5_fail 2 r1.2).bind fun σ5 =>
    some ((-1), σ5)
  else
    (X5_personHere r1.2).bind fun r2 =>
    bv (r2.1 : Int32) fun v3 =>
    if v3 = (-1) then
      (X5_fail 5 r2.2).bind fun σ4 =>
      some (v3, σ4)
    else
      some (v3, r2.2)
def X5_readDebt_78 (σ : Mem) : Option Mem :=
  (X5_fail 3 σ).bind fun σ19 =>
  some σ19
def X5_readDebt (σ : Mem) : Option Mem :=
  gT (σ.1 2 3) fun q1 =>
  if (σ.1 q1 13) < 20 then
    (X9_next σ).bind fun σ2 =>
    (X5_knownPersonHere σ2).bind fun r3 =>
    bv (r3.1 : Int32) fun v4 =>
    (X5_expect 3 r3.2).bind fun σ5 =>
    (X5_expect 104 σ5).bind fun σ6 =>
    (X5_knownPersonHere σ6).bind fun r7 =>
    bv (r7.1 : Int32) fun v8 =>
    if v4 = (-1) then
      some r7.2
    else
      if v8 = (-1) then
        some r7.2
      else
        if v4 = v8 then
          X5_readDebt_78 r7.2
        else
          gT (r7.2.1 2 3) fun q9 =>
          (X11_cell v4 v8 r7.2).bind fun r10 =>
          if ib r10.1 36 = true then
            if (r10.2.1 (q9 + 8) r10.1.toNatClampNeg) = 0 then
              (X5_expect 3 r10.2).bind fun σ11 =>
              gT (σ11.1 2 3) fun q12 =>
              (X11_cell v4 v8 σ11).bind fun r13 =>
              (X5_expectNumber 1 9999 r13.2).bind fun r14 =>
              if ib r13.1 36 = true then bv (sI r14.2 (q12 + 8) r13.1.toNatClampNeg r14.1) fun σ15 =>
                gT (σ15.1 2 3) fun q16 =>
                bv (sI σ15 q16 13 ((σ15.1 q16 13) + 1)) fun σ17 =>
                some σ17
              else none
            else
              X5_readDebt_78 r10.2
          else none
  else
    (X5_fail 2 σ).bind fun σ18 =>
    some σ18
def X5_readUnit_189 (R : (Nat → Nat → Int32 → Mem → Option Mem)) (f : Nat) (σ : Mem) : Option Mem :=
  (X9_next σ).bind fun σ15 =>
  some σ15
def X5_readUnit_68 (R : (Nat → Nat → Int32 → Mem → Option Mem)) (f : Nat) (k69 : Int32 → Int32 → Int32 → Mem → Option Mem) (x2 : Int32) (x3 : Int32) (σ : Mem) : Option Mem :=
  k69 x2 x3 0 σ
def X5_readUnit_97 (R : (Nat → Nat → Int32 → Mem → Option Mem)) (f : Nat) (σ : Mem) : Option Mem :=
  (X5_fail 2 σ).bind fun σ14 =>
  some σ14
def X5_readUnit_64 (R : (Nat → Nat → Int32 → Mem → Option Mem)) (f : Nat) (k69 : Int32 → Int32 → Int32 → Mem → Option Mem) (x2 : Int32) (x3 : Int32) (σ : Mem) : Option Mem :=
  k69 x2 x3 1 σ
def X5_readUnit_69 (R : (Nat → Nat → Int32 → Mem → Option Mem)) (f : Nat) (x2 : Int32) (x3 : Int32) (s0 : Int32) (σ : Mem) : Option Mem :=
  if s0 = 0 then
    X5_readUnit_97 R f σ
  else
    if 30 ≤ (σ.1 2 4) then
      X5_readUnit_97 R f σ
    else
      gT (σ.1 2 3) fun q4 =>
      if (σ.1 q4 14) < 80 then
        bv (sI σ 2 4 ((σ.1 2 4) + 1)) fun σ5 =>
        gT (σ5.1 2 3) fun q6 =>
        bv (sI σ5 q6 14 ((σ5.1 q6 14) + 1)) fun σ7 =>
        (X5_isAt 40 σ7).bind fun r8 =>
        if r8.1 = 0 then
          if x3 = 0 then
            (X2_addNumber f (r8.2.1 3 5) r8.2).bind fun σ9 =>
            X5_readUnit_189 R f σ9
          else
            (X2_addGiven f ((r8.2.1 3 2) - 116) r8.2).bind fun σ10 =>
            X5_readUnit_189 R f σ10
        else
          (X9_next r8.2).bind fun σ11 =>
          (R 0 f (x2 + 1) σ11).bind fun σ12 =>
          (X5_expect 41 σ12).bind fun σ13 =>
          some σ13
      else
        X5_readUnit_97 R f σ
def X5_readUnit_35 (R : (Nat → Nat → Int32 → Mem → Option Mem)) (f : Nat) (k36 : Int32 → Int32 → Mem → Option Mem) (x2 : Int32) (σ : Mem) : Option Mem :=
  k36 x2 0 σ
def X5_readUnit_36 (R : (Nat → Nat → Int32 → Mem → Option Mem)) (f : Nat) (x2 : Int32) (s0 : Int32) (σ : Mem) : Option Mem :=
  if s0 = 0 then
    (X5_isAt 2 σ).bind fun r2 =>
    if r2.1 = 0 then
      (X5_isAt 40 r2.2).bind fun r3 =>
      if r3.1 = 0 then
        X5_readUnit_68 R f (X5_readUnit_69 R f) x2 s0 r3.2
      else
        if 6 < x2 then
          X5_readUnit_68 R f (X5_readUnit_69 R f) x2 s0 r3.2
        else
          X5_readUnit_64 R f (X5_readUnit_69 R f) x2 s0 r3.2
    else
      X5_readUnit_64 R f (X5_readUnit_69 R f) x2 s0 r2.2
  else
    X5_readUnit_64 R f (X5_readUnit_69 R f) x2 s0 σ
def X5_readUnit (R : (Nat → Nat → Int32 → Mem → Option Mem)) (f : Nat) (x2 : Int32) (σ : Mem) : Option Mem :=
  (X5_isGood σ).bind fun r1 =>
  if r1.1 = 0 then
    X5_readUnit_35 R f (X5_readUnit_36 R f) x2 r1.2
  else
    if (r1.2.1 3 2) < 116 then
      X5_readUnit_35 R f (X5_readUnit_36 R f) x2 r1.2
    else
      if 123 ≤ (r1.2.1 3 2) then
        X5_readUnit_35 R f (X5_readUnit_36 R f) x2 r1.2
      else
        X5_readUnit_36 R f x2 1 r1.2
def X5_readTerm_42 (R : (Nat → Nat → Int32 → Mem → Option Mem)) (f : Nat) (k8 : Int32 → Int32 → Mem → Option Mem) (x2 : Int32) (x3 : Int32) (σ : Mem) : Option Mem :=
  bv (σ.1 3 2 : Int32) fun v6 =>
  (X9_next σ).bind fun σ7 =>
  (R 5 f x2 σ7).bind fun σ8 =>
  (X2_addOperation f v6 σ8).bind fun σ9 =>
  bv (x3 + 1 : Int32) fun v10 =>
  k8 x2 v10 σ9
def X5_readTerm_8 (R : (Nat → Nat → Int32 → Mem → Option Mem)) (f : Nat) : Nat → Int32 → Int32 → Mem → Option Mem
  | 0, _, _, _ => none
  | n + 1, x2, x3, σ =>
    if 1600 ≤ x3 then
      some σ
    else
      (X5_isAt 42 σ).bind fun r3 =>
      if r3.1 = 0 then
        (X5_isAt 47 r3.2).bind fun r4 =>
        if r4.1 = 0 then
          (X5_isAt 37 r4.2).bind fun r5 =>
          if r5.1 = 0 then
            some r5.2
          else
            X5_readTerm_42 R f (X5_readTerm_8 R f n) x2 x3 r5.2
        else
          X5_readTerm_42 R f (X5_readTerm_8 R f n) x2 x3 r4.2
      else
        X5_readTerm_42 R f (X5_readTerm_8 R f n) x2 x3 r3.2
def X5_readTerm (R : (Nat → Nat → Int32 → Mem → Option Mem)) (f : Nat) (x2 : Int32) (σ : Mem) : Option Mem :=
  (R 5 f x2 σ).bind fun σ1 =>
  bv (0 : Int32) fun v2 =>
  X5_readTerm_8 R f fu x2 v2 σ1
def X5_readSum_33 (R : (Nat → Nat → Int32 → Mem → Option Mem)) (f : Nat) (k8 : Int32 → Int32 → Mem → Option Mem) (x2 : Int32) (x3 : Int32) (σ : Mem) : Option Mem :=
  bv (σ.1 3 2 : Int32) fun v5 =>
  (X9_next σ).bind fun σ6 =>
  (R 4 f x2 σ6).bind fun σ7 =>
  (X2_addOperation f v5 σ7).bind fun σ8 =>
  bv (x3 + 1 : Int32) fun v9 =>
  k8 x2 v9 σ8
def X5_readSum_8 (R : (Nat → Nat → Int32 → Mem → Option Mem)) (f : Nat) : Nat → Int32 → Int32 → Mem → Option Mem
  | 0, _, _, _ => none
  | n + 1, x2, x3, σ =>
    if 1600 ≤ x3 then
      some σ
    else
      (X5_isAt 43 σ).bind fun r3 =>
      if r3.1 = 0 then
        (X5_isAt 45 r3.2).bind fun r4 =>
        if r4.1 = 0 then
          some r4.2
        else
          X5_readSum_33 R f (X5_readSum_8 R f n) x2 x3 r4.2
      else
        X5_readSum_33 R f (X5_readSum_8 R f n) x2 x3 r3.2
def X5_readSum (R : (Nat → Nat → Int32 → Mem → Option Mem)) (f : Nat) (x2 : Int32) (σ : Mem) : Option Mem :=
  (R 4 f x2 σ).bind fun σ1 =>
  bv (0 : Int32) fun v2 =>
  X5_readSum_8 R f fu x2 v2 σ1
def X5_readOne_76 (R : (Nat → Nat → Int32 → Mem → Option Mem)) (f : Nat) (x2 : Int32) (σ : Mem) : Option Mem :=
  bv (σ.1 3 2 : Int32) fun v10 =>
  (X9_next σ).bind fun σ11 =>
  (R 3 f x2 σ11).bind fun σ12 =>
  (X2_addOperation f v10 σ12).bind fun σ13 =>
  some σ13
def X5_readOne (R : (Nat → Nat → Int32 → Mem → Option Mem)) (f : Nat) (x2 : Int32) (σ : Mem) : Option Mem :=
  (X5_isAt 115 σ).bind fun r1 =>
  if r1.1 = 0 then
    (R 3 f x2 r1.2).bind fun σ2 =>
    (X5_isAt 60 σ2).bind fun r3 =>
    if r3.1 = 0 then
      (X5_isAt 62 r3.2).bind fun r4 =>
      if r4.1 = 0 then
        (X5_isAt 61 r4.2).bind fun r5 =>
        if r5.1 = 0 then
          some r5.2
        else
          X5_readOne_76 R f x2 r5.2
      else
        X5_readOne_76 R f x2 r4.2
    else
      X5_readOne_76 R f x2 r3.2
  else
    if x2 ≤ 6 then
      (X9_next r1.2).bind fun σ6 =>
      (R 2 f (x2 + 1) σ6).bind fun σ7 =>
      (X2_addOperation f 115 σ7).bind fun σ8 =>
      some σ8
    else
      (X5_fail 2 r1.2).bind fun σ9 =>
      some σ9
def X5_readBoth_8 (R : (Nat → Nat → Int32 → Mem → Option Mem)) (f : Nat) : Nat → Int32 → Int32 → Mem → Option Mem
  | 0, _, _, _ => none
  | n + 1, x2, x3, σ =>
    if 1600 ≤ x3 then
      some σ
    else
      (X5_isAt 114 σ).bind fun r3 =>
      if r3.1 = 0 then
        some r3.2
      else
        (X9_next r3.2).bind fun σ4 =>
        (R 2 f x2 σ4).bind fun σ5 =>
        (X2_addOperation f 114 σ5).bind fun σ6 =>
        bv (x3 + 1 : Int32) fun v7 =>
        X5_readBoth_8 R f n x2 v7 σ6
def X5_readBoth (R : (Nat → Nat → Int32 → Mem → Option Mem)) (f : Nat) (x2 : Int32) (σ : Mem) : Option Mem :=
  (R 2 f x2 σ).bind fun σ1 =>
  bv (0 : Int32) fun v2 =>
  X5_readBoth_8 R f fu x2 v2 σ1
def X5_readWhole_8 (R : (Nat → Nat → Int32 → Mem → Option Mem)) (f : Nat) : Nat → Int32 → Int32 → Mem → Option Mem
  | 0, _, _, _ => none
  | n + 1, x2, x3, σ =>
    if 1600 ≤ x3 then
      some σ
    else
      (X5_isAt 113 σ).bind fun r3 =>
      if r3.1 = 0 then
        some r3.2
      else
        (X9_next r3.2).bind fun σ4 =>
        (R 1 f x2 σ4).bind fun σ5 =>
        (X2_addOperation f 113 σ5).bind fun σ6 =>
        bv (x3 + 1 : Int32) fun v7 =>
        X5_readWhole_8 R f n x2 v7 σ6
def X5_readWhole (R : (Nat → Nat → Int32 → Mem → Option Mem)) (f : Nat) (x2 : Int32) (σ : Mem) : Option Mem :=
  (R 1 f x2 σ).bind fun σ1 =>
  bv (0 : Int32) fun v2 =>
  X5_readWhole_8 R f fu x2 v2 σ1
def C_rd : Nat → Nat → Nat → Int32 → Mem → Option Mem
  | 0, _, _, _, _ => none
  | e + 1, i, f, x2, σ =>
    if i = 0 then X5_readWhole (C_rd e) f x2 σ else if i = 1 then X5_readBoth (C_rd e) f x2 σ else if i = 2 then X5_readOne (C_rd e) f x2 σ else if i = 3 then X5_readSum (C_rd e) f x2 σ else if i = 4 then X5_readTerm (C_rd e) f x2 σ else X5_readUnit (C_rd e) f x2 σ
def X5_readFormula (f : Nat) (σ : Mem) : Option Mem :=
  if (σ.1 f 5) = 0 then
    bv (sI σ f 5 1) fun σ1 =>
    bv (sI σ1 2 4 0) fun σ2 =>
    (X9_next σ2).bind fun σ3 =>
    (C_rd 100 0 f 0 σ3).bind fun σ4 =>
    some σ4
  else
    (X5_fail 2 σ).bind fun σ5 =>
    some σ5
def X5_read_134 (k201 : Int32 → Mem → Option (Int32 × Mem)) (x3 : Int32) (s0 : Int32) (σ : Mem) : Option (Int32 × Mem) :=
  (X5_readDay s0 σ).bind fun σ19 =>
  k201 x3 σ19
def X5_read_201 (k28 : Int32 → Mem → Option (Int32 × Mem)) (x3 : Int32) (σ : Mem) : Option (Int32 × Mem) :=
  (X5_expect 59 σ).bind fun σ20 =>
  bv (x3 + 1 : Int32) fun v21 =>
  k28 v21 σ20
def X5_read_213 (σ : Mem) : Option (Int32 × Mem) :=
  (X5_isGood σ).bind fun r18 =>
  some (r18.1 &&& 1, r18.2)
def X5_read_28 : Nat → Int32 → Mem → Option (Int32 × Mem)
  | 0, _, _ => none
  | n + 1, x3, σ =>
    if 1600 ≤ x3 then
      X5_read_213 σ
    else
      (X5_isGood σ).bind fun r7 =>
      if r7.1 = 0 then
        X5_read_213 r7.2
      else
        if (r7.2.1 3 2) = 0 then
          X5_read_213 r7.2
        else
          bv (r7.2.1 3 2 : Int32) fun v8 =>
          if v8 = 100 then
            if x3 = 0 then
              X5_read_134 (X5_read_201 (X5_read_28 n)) x3 1 r7.2
            else
              X5_read_134 (X5_read_201 (X5_read_28 n)) x3 0 r7.2
          else
          if v8 = 101 then
            (X5_readPerson r7.2).bind fun σ9 =>
            X5_read_201 (X5_read_28 n) x3 σ9
          else
          if v8 = 109 then
            (X5_readDebt r7.2).bind fun σ10 =>
            X5_read_201 (X5_read_28 n) x3 σ10
          else
          if v8 = 110 then
            gT (r7.2.1 2 3) fun q11 =>
            (X5_readFormula (q11 + 9) r7.2).bind fun σ12 =>
            X5_read_201 (X5_read_28 n) x3 σ12
          else
          if v8 = 111 then
            gT (r7.2.1 2 3) fun q13 =>
            (X5_readFormula (q13 + 14) r7.2).bind fun σ14 =>
            X5_read_201 (X5_read_28 n) x3 σ14
          else
          if v8 = 112 then
            gT (r7.2.1 2 3) fun q15 =>
            (X5_readFormula (q15 + 19) r7.2).bind fun σ16 =>
            X5_read_201 (X5_read_28 n) x3 σ16
          else
          (X5_fail 2 r7.2).bind fun σ17 =>
          X5_read_201 (X5_read_28 n) x3 σ17
def X5_read (x2 : Int32) (σ : Mem) : Option (Int32 × Mem) :=
  bv (sI σ 2 5 0) fun σ1 =>
  bv (sI σ1 2 6 (-1)) fun σ2 =>
  gT (σ2.1 2 3) fun q3 =>
  (X10_forget q3 σ2).bind fun σ4 =>
  (X9_begin x2 σ4).bind fun σ5 =>
  bv (0 : Int32) fun v6 =>
  X5_read_28 fu v6 σ5
def X5_exchange (t : Nat) (σ : Mem) : Option (Nat × Mem) :=
  gT (σ.1 2 3) fun q1 =>
  bv (sI σ 2 3 (nI t)) fun σ2 =>
  some (q1, σ2)
def X6_keep (x1 : Int32) (x2 : Int32) (σ : Mem) : Option Mem :=
  bv (sI σ 111 5 ((σ.1 111 5) + 1)) fun σ1 =>
  if (x2 * x1) ≤ (σ1.1 111 4) then
    some σ1
  else
    bv (sI σ1 111 4 (x2 * x1)) fun σ2 =>
    bv (sI σ2 111 1 x2) fun σ3 =>
    bv (sI σ3 111 3 x1) fun σ4 =>
    if cpok 0 0 x1 6 6 = true then bv (sC σ4 113 (0 : Int32).toNatClampNeg (σ4.1 112) (0 : Int32).toNatClampNeg (x1 : Int32).toNatClampNeg) fun σ5 =>
      some σ5
    else none
def X6_isInRow_2 : Nat → Int32 → Int32 → Int32 → Mem → Option (Int32 × Mem)
  | 0, _, _, _, _ => none
  | n + 1, x1, x2, x3, σ =>
    if x2 ≤ x3 then
      some (0, σ)
    else
      if ib x3 6 = true then
        if (σ.1 112 x3.toNatClampNeg) = x1 then
          some (1, σ)
        else
          bv (x3 + 1 : Int32) fun v2 =>
          X6_isInRow_2 n x1 x2 v2 σ
      else none
def X6_isInRow (x1 : Int32) (x2 : Int32) (σ : Mem) : Option (Int32 × Mem) :=
  bv (0 : Int32) fun v1 =>
  X6_isInRow_2 fu x1 x2 v1 σ
def X6_goOn_115 (R : (Nat → Nat → Int32 → Int32 → Int32 → Mem → Option Mem)) (a : Nat) (al : Nat) (k59 : Int32 → Int32 → Int32 → Int32 → Int32 → Mem → Option Mem) (x1 : Int32) (x3 : Int32) (x4 : Int32) (x5 : Int32) (x7 : Int32) (σ : Mem) : Option Mem :=
  bv (x7 + 1 : Int32) fun v11 =>
  k59 x1 x3 x4 x5 v11 σ
def X6_goOn_59 (R : (Nat → Nat → Int32 → Int32 → Int32 → Mem → Option Mem)) (a : Nat) (al : Nat) : Nat → Int32 → Int32 → Int32 → Int32 → Int32 → Mem → Option Mem
  | 0, _, _, _, _, _, _ => none
  | n + 1, x1, x3, x4, x5, x7, σ =>
    if x1 ≤ x7 then
      some σ
    else
      (X11_cell x5 x7 σ).bind fun r6 =>
      if ib r6.1 al = true then
        bv (r6.2.1 a r6.1.toNatClampNeg : Int32) fun v7 =>
        if v7 ≤ 0 then
          X6_goOn_115 R a al (X6_goOn_59 R a al n) x1 x3 x4 x5 x7 r6.2
        else
          (X6_isInRow x7 x3 r6.2).bind fun r8 =>
          if r8.1 = 0 then
            if ib x3 6 = true then bv (sI r8.2 112 x3.toNatClampNeg x7) fun σ9 =>
              (R a al x1 (x3 + 1) (imin x4 v7) σ9).bind fun σ10 =>
              X6_goOn_115 R a al (X6_goOn_59 R a al n) x1 x3 x4 x5 x7 σ10
            else none
          else
            X6_goOn_115 R a al (X6_goOn_59 R a al n) x1 x3 x4 x5 x7 r8.2
      else none
def X6_goOn_42 (R : (Nat → Nat → Int32 → Int32 → Int32 → Mem → Option Mem)) (a : Nat) (al : Nat) (x1 : Int32) (x3 : Int32) (x4 : Int32) (x5 : Int32) (σ : Mem) : Option Mem :=
  if x3 < 6 then
    bv ((σ.1 112 0) + 1 : Int32) fun v5 =>
    X6_goOn_59 R a al fu x1 x3 x4 x5 v5 σ
  else
    some σ
def X6_goOn (R : (Nat → Nat → Int32 → Int32 → Int32 → Mem → Option Mem)) (a : Nat) (al : Nat) (x1 : Int32) (x3 : Int32) (x4 : Int32) (σ : Mem) : Option Mem :=
  if ib (x3 - 1) 6 = true then
    bv (σ.1 112 (x3 - 1).toNatClampNeg : Int32) fun v1 =>
    (X11_cell v1 (σ.1 112 0) σ).bind fun r2 =>
    if ib r2.1 al = true then
      bv (r2.2.1 a r2.1.toNatClampNeg : Int32) fun v3 =>
      if v3 ≤ 0 then
        X6_goOn_42 R a al x1 x3 x4 v1 r2.2
      else
        (X6_keep x3 (imin x4 v3) r2.2).bind fun σ4 =>
        X6_goOn_42 R a al x1 x3 x4 v1 σ4
    else none
  else none
def C_goOn : Nat → Nat → Nat → Int32 → Int32 → Int32 → Mem → Option Mem
  | 0, _, _, _, _, _, _ => none
  | e + 1, a, al, x1, x3, x4, σ => X6_goOn (C_goOn e) a al x1 x3 x4 σ
def X6_find_22 (a : Nat) (al : Nat) : Nat → Int32 → Int32 → Mem → Option Mem
  | 0, _, _, _ => none
  | n + 1, x1, x3, σ =>
    if x1 ≤ x3 then
      some σ
    else
      bv (sI σ 112 0 x3) fun σ6 =>
      (C_goOn 8 a al x1 1 9999 σ6).bind fun σ7 =>
      bv (x3 + 1 : Int32) fun v8 =>
      X6_find_22 a al n x1 v8 σ7
def X6_find (a : Nat) (al : Nat) (x1 : Int32) (σ : Mem) : Option Mem :=
  bv (sI σ 111 1 0) fun σ1 =>
  bv (sI σ1 111 3 0) fun σ2 =>
  bv (sI σ2 111 4 0) fun σ3 =>
  bv (sI σ3 111 5 0) fun σ4 =>
  bv (0 : Int32) fun v5 =>
  X6_find_22 a al fu x1 v5 σ4
def X6_takeBestFrom_37 (a : Nat) (al : Nat) (k2 : Int32 → Mem → Option Mem) (x2 : Int32) (s0 : Int32) (σ : Mem) : Option Mem :=
  if ib x2 6 = true then
    (X11_cell (σ.1 113 x2.toNatClampNeg) s0 σ).bind fun r2 =>
    if ib r2.1 al = true then
      if ib r2.1 al = true then bv (sI r2.2 a r2.1.toNatClampNeg ((r2.2.1 a r2.1.toNatClampNeg) - (r2.2.1 111 1))) fun σ3 =>
        bv (x2 + 1 : Int32) fun v4 =>
        k2 v4 σ3
      else none
    else none
  else none
def X6_takeBestFrom_2 (a : Nat) (al : Nat) : Nat → Int32 → Mem → Option Mem
  | 0, _, _ => none
  | n + 1, x2, σ =>
    if (σ.1 111 3) ≤ x2 then
      some σ
    else
      if (σ.1 111 3) ≤ (x2 + 1) then
        X6_takeBestFrom_37 a al (X6_takeBestFrom_2 a al n) x2 (σ.1 113 0) σ
      else
        if ib (x2 + 1) 6 = true then
          X6_takeBestFrom_37 a al (X6_takeBestFrom_2 a al n) x2 (σ.1 113 (x2 + 1).toNatClampNeg) σ
        else none
def X6_takeBestFrom (a : Nat) (al : Nat) (σ : Mem) : Option Mem :=
  bv (0 : Int32) fun v1 =>
  X6_takeBestFrom_2 a al fu v1 σ
def X7_begin_50 (o : Nat) (t : Nat) : Nat → Int32 → Mem → Option Mem
  | 0, _, _ => none
  | n + 1, x2, σ =>
    if 6 ≤ x2 then
      bv (sI σ o 5 0) fun σ5 =>
      bv (sI σ5 o 6 0) fun σ6 =>
      bv (sI σ6 o 7 0) fun σ7 =>
      some σ7
    else
      if ib x2 6 = true then bv (sI σ (o + 2) x2.toNatClampNeg (-1)) fun σ8 =>
        if ib x2 6 = true then bv (sI σ8 (o + 3) x2.toNatClampNeg x2) fun σ9 =>
          bv (x2 + 1 : Int32) fun v10 =>
          X7_begin_50 o t n v10 σ9
        else none
      else none
def X7_begin (o : Nat) (t : Nat) (σ : Mem) : Option Mem :=
  if cpok 0 0 6 6 6 = true then bv (sC σ (o + 1) (0 : Int32).toNatClampNeg (σ.1 (t + 1)) (0 : Int32).toNatClampNeg (6 : Int32).toNatClampNeg) fun σ1 =>
    if cpok 0 0 6 6 6 = true then bv (sC σ1 (o + 4) (0 : Int32).toNatClampNeg (σ1.1 (t + 7)) (0 : Int32).toNatClampNeg (6 : Int32).toNatClampNeg) fun σ2 =>
      if cpok 0 0 36 36 36 = true then bv (sC σ2 (o + 5) (0 : Int32).toNatClampNeg (σ2.1 (t + 8)) (0 : Int32).toNatClampNeg (36 : Int32).toNatClampNeg) fun σ3 =>
        bv (0 : Int32) fun v4 =>
        X7_begin_50 o t fu v4 σ3
      else none
    else none
  else none
def X7_owedBy_4 (o : Nat) : Nat → Int32 → Int32 → Int32 → Mem → Option (Int32 × Mem)
  | 0, _, _, _, _ => none
  | n + 1, x1, x2, x3, σ =>
    if 6 ≤ x3 then
      some (x2, σ)
    else
      (X11_cell x1 x3 σ).bind fun r3 =>
      if ib r3.1 36 = true then
        bv (x2 + (r3.2.1 (o + 5) r3.1.toNatClampNeg) : Int32) fun v4 =>
        bv (x3 + 1 : Int32) fun v5 =>
        X7_owedBy_4 o n x1 v4 v5 r3.2
      else none
def X7_owedBy (o : Nat) (x1 : Int32) (σ : Mem) : Option (Int32 × Mem) :=
  bv (0 : Int32) fun v1 =>
  bv (0 : Int32) fun v2 =>
  X7_owedBy_4 o fu x1 v1 v2 σ
def X7_debtsLeft_25 (o : Nat) (k4 : Int32 → Int32 → Mem → Option (Int32 × Mem)) (x1 : Int32) (x2 : Int32) (σ : Mem) : Option (Int32 × Mem) :=
  bv (x2 + 1 : Int32) fun v4 =>
  k4 x1 v4 σ
def X7_debtsLeft_4 (o : Nat) : Nat → Int32 → Int32 → Mem → Option (Int32 × Mem)
  | 0, _, _, _ => none
  | n + 1, x1, x2, σ =>
    if 36 ≤ x2 then
      some (x1, σ)
    else
      if ib x2 36 = true then
        if (σ.1 (o + 5) x2.toNatClampNeg) ≤ 0 then
          X7_debtsLeft_25 o (X7_debtsLeft_4 o n) x1 x2 σ
        else
          bv (x1 + 1 : Int32) fun v3 =>
          X7_debtsLeft_25 o (X7_debtsLeft_4 o n) v3 x2 σ
      else none
def X7_debtsLeft (o : Nat) (σ : Mem) : Option (Int32 × Mem) :=
  bv (0 : Int32) fun v1 =>
  bv (0 : Int32) fun v2 =>
  X7_debtsLeft_4 o fu v1 v2 σ
def X8_forget (σ : Mem) : Option Mem :=
  bv (sI σ 114 6 0) fun σ1 =>
  some σ1
def X8_tell (x1 : Int32) (x2 : Int32) (x3 : Int32) (σ : Mem) : Option (Int32 × Mem) :=
  if (σ.1 114 6) < 30 then
    if ib (σ.1 114 6) 30 = true then bv (sI σ 115 (σ.1 114 6).toNatClampNeg x1) fun σ1 =>
      if ib (σ1.1 114 6) 30 = true then bv (sI σ1 116 (σ1.1 114 6).toNatClampNeg x2) fun σ2 =>
        if ib (σ2.1 114 6) 30 = true then bv (sI σ2 117 (σ2.1 114 6).toNatClampNeg x3) fun σ3 =>
          if ib (σ3.1 114 6) 30 = true then bv (sI σ3 118 (σ3.1 114 6).toNatClampNeg (σ3.1 114 7)) fun σ4 =>
            if ib (σ4.1 114 6) 30 = true then bv (sI σ4 119 (σ4.1 114 6).toNatClampNeg (-1)) fun σ5 =>
              bv (sI σ5 114 6 ((σ5.1 114 6) + 1)) fun σ6 =>
              some ((σ6.1 114 6) - 1, σ6)
            else none
          else none
        else none
      else none
    else none
  else
    some ((-1), σ)
def X8_takeBack (x1 : Int32) (σ : Mem) : Option (Int32 × Mem) :=
  if x1 < 0 then
    some (0, σ)
  else
    if (σ.1 114 6) ≤ x1 then
      some (0, σ)
    else
      if ib x1 30 = true then
        if (σ.1 119 x1.toNatClampNeg) = (-1) then
          if ib x1 30 = true then bv (sI σ 119 x1.toNatClampNeg (σ.1 114 7)) fun σ1 =>
            some (1, σ1)
          else none
        else
          some (0, σ)
      else none
def X8_goOn (x1 : Int32) (σ : Mem) : Option (Int32 × Mem) :=
  if x1 < 0 then
    some ((-1), σ)
  else
    if 1000 < x1 then
      some ((-1), σ)
    else
      if ((σ.1 114 7) + x1) ≤ 100000 then
        bv (sI σ 114 7 ((σ.1 114 7) + x1)) fun σ1 =>
        some (σ1.1 114 7, σ1)
      else
        some ((-1), σ)
def X8_layWay_68 (t : Nat) (k71 : Int32 → Int32 → Int32 → Int32 → Mem → Option Mem) (x2 : Int32) (x3 : Int32) (x5 : Int32) (s0 : Int32) (s1 : Int32) (σ : Mem) : Option Mem :=
  bv (s1 + s0 : Int32) fun v6 =>
  k71 x2 x3 v6 x5 σ
def X8_layWay_71 (t : Nat) (k11 : Int32 → Int32 → Int32 → Int32 → Mem → Option Mem) (x2 : Int32) (x3 : Int32) (x4 : Int32) (x5 : Int32) (σ : Mem) : Option Mem :=
  if ib ((x3 * 24) + x5) 144 = true then bv (sI σ 120 ((x3 * 24) + x5).toNatClampNeg x4) fun σ4 =>
    bv (x5 + 1 : Int32) fun v5 =>
    k11 x2 x3 x4 v5 σ4
  else none
def X8_layWay_45 (t : Nat) (k11 : Int32 → Int32 → Int32 → Int32 → Mem → Option Mem) (x2 : Int32) (x3 : Int32) (x4 : Int32) (x5 : Int32) (s0 : Int32) (σ : Mem) : Option Mem :=
  if x4 = s0 then
    X8_layWay_71 t (k11) x2 x3 x4 x5 σ
  else
    if s0 ≤ x4 then
      X8_layWay_68 t (X8_layWay_71 t (k11)) x2 x3 x5 (-1) x4 σ
    else
      X8_layWay_68 t (X8_layWay_71 t (k11)) x2 x3 x5 1 x4 σ
def X8_layWay_11 (t : Nat) : Nat → Int32 → Int32 → Int32 → Int32 → Mem → Option Mem
  | 0, _, _, _, _, _ => none
  | n + 1, x2, x3, x4, x5, σ =>
    if (σ.1 t 11) ≤ x5 then
      some σ
    else
      (X10_rests t x2 x5 σ).bind fun r3 =>
      if r3.1 = 0 then
        if ib x3 6 = true then
          X8_layWay_45 t (X8_layWay_11 t n) x2 x3 x4 x5 (r3.2.1 (t + 1) x3.toNatClampNeg) r3.2
        else none
      else
        if ib x2 6 = true then
          X8_layWay_45 t (X8_layWay_11 t n) x2 x3 x4 x5 (r3.2.1 (t + 1) x2.toNatClampNeg) r3.2
        else none
def X8_layWay (t : Nat) (x2 : Int32) (x3 : Int32) (σ : Mem) : Option Mem :=
  if ib x2 6 = true then
    bv (σ.1 (t + 1) x2.toNatClampNeg : Int32) fun v1 =>
    bv (0 : Int32) fun v2 =>
    X8_layWay_11 t fu x2 x3 v1 v2 σ
  else none
def X8_isFitting_45 (k50 : Int32 → Int32 → Int32 → Int32 → Int32 → Mem → Option (Int32 × Mem)) (x1 : Int32) (x2 : Int32) (x3 : Int32) (x4 : Int32) (σ : Mem) : Option (Int32 × Mem) :=
  k50 x1 x2 x3 x4 1 σ
def X8_isFitting_97 (k3 : Int32 → Int32 → Int32 → Int32 → Mem → Option (Int32 × Mem)) (x1 : Int32) (x2 : Int32) (x3 : Int32) (x4 : Int32) (σ : Mem) : Option (Int32 × Mem) :=
  bv (x4 + 1 : Int32) fun v2 =>
  k3 x1 x2 x3 v2 σ
def X8_isFitting_49 (k50 : Int32 → Int32 → Int32 → Int32 → Int32 → Mem → Option (Int32 × Mem)) (x1 : Int32) (x2 : Int32) (x3 : Int32) (x4 : Int32) (σ : Mem) : Option (Int32 × Mem) :=
  k50 x1 x2 x3 x4 0 σ
def X8_isFitting_50 (k3 : Int32 → Int32 → Int32 → Int32 → Mem → Option (Int32 × Mem)) (x1 : Int32) (x2 : Int32) (x3 : Int32) (x4 : Int32) (s0 : Int32) (σ : Mem) : Option (Int32 × Mem) :=
  if s0 = 0 then
    X8_isFitting_97 (k3) x1 x2 x3 x4 σ
  else
    if ib x4 30 = true then
      if (σ.1 115 x4.toNatClampNeg) = x1 then
        if ib x4 30 = true then
          if ib ((x2 * 24) + (σ.1 116 x4.toNatClampNeg)) 144 = true then
            if ib x4 30 = true then
              if (σ.1 120 ((x2 * 24) + (σ.1 116 x4.toNatClampNeg)).toNatClampNeg) = (σ.1 117 x4.toNatClampNeg) then
                X8_isFitting_97 (k3) x1 x2 x3 x4 σ
              else
                some (0, σ)
            else none
          else none
        else none
      else
        X8_isFitting_97 (k3) x1 x2 x3 x4 σ
    else none
def X8_isFitting_3 : Nat → Int32 → Int32 → Int32 → Int32 → Mem → Option (Int32 × Mem)
  | 0, _, _, _, _, _ => none
  | n + 1, x1, x2, x3, x4, σ =>
    if (σ.1 114 6) ≤ x4 then
      some (1, σ)
    else
      if ib x4 30 = true then
        if x3 < (σ.1 118 x4.toNatClampNeg) then
          X8_isFitting_49 (X8_isFitting_50 (X8_isFitting_3 n)) x1 x2 x3 x4 σ
        else
          if ib x4 30 = true then
            if (σ.1 119 x4.toNatClampNeg) = (-1) then
              X8_isFitting_45 (X8_isFitting_50 (X8_isFitting_3 n)) x1 x2 x3 x4 σ
            else
              if ib x4 30 = true then
                if (σ.1 119 x4.toNatClampNeg) ≤ x3 then
                  X8_isFitting_49 (X8_isFitting_50 (X8_isFitting_3 n)) x1 x2 x3 x4 σ
                else
                  X8_isFitting_45 (X8_isFitting_50 (X8_isFitting_3 n)) x1 x2 x3 x4 σ
              else none
          else none
      else none
def X8_isFitting (x1 : Int32) (x2 : Int32) (x3 : Int32) (σ : Mem) : Option (Int32 × Mem) :=
  bv (0 : Int32) fun v1 =>
  X8_isFitting_3 fu x1 x2 x3 v1 σ
def X8_fittingAims_43 (t : Nat) (k6 : Int32 → Int32 → Int32 → Int32 → Mem → Option (Int32 × Mem)) (x2 : Int32) (x3 : Int32) (x4 : Int32) (x5 : Int32) (σ : Mem) : Option (Int32 × Mem) :=
  bv (x5 + 1 : Int32) fun v6 =>
  k6 x2 x3 x4 v6 σ
def X8_fittingAims_6 (t : Nat) : Nat → Int32 → Int32 → Int32 → Int32 → Mem → Option (Int32 × Mem)
  | 0, _, _, _, _, _ => none
  | n + 1, x2, x3, x4, x5, σ =>
    if (σ.1 t 12) ≤ x5 then
      some (x4, σ)
    else
      (X8_layWay t x2 x5 σ).bind fun σ3 =>
      (X8_isFitting x2 x5 x3 σ3).bind fun r4 =>
      if r4.1 = 0 then
        X8_fittingAims_43 t (X8_fittingAims_6 t n) x2 x3 x4 x5 r4.2
      else
        bv (x4 ||| (1 <<< (x5 &&& 31)) : Int32) fun v5 =>
        X8_fittingAims_43 t (X8_fittingAims_6 t n) x2 x3 v5 x5 r4.2
def X8_fittingAims (t : Nat) (x2 : Int32) (x3 : Int32) (σ : Mem) : Option (Int32 × Mem) :=
  bv (0 : Int32) fun v1 =>
  bv (0 : Int32) fun v2 =>
  X8_fittingAims_6 t fu x2 x3 v1 v2 σ
def X8_mostAtOnePlace_68 (k18 : Int32 → Int32 → Int32 → Int32 → Int32 → Int32 → Int32 → Mem → Option (Int32 × Mem)) (x1 : Int32) (x2 : Int32) (x3 : Int32) (x4 : Int32) (x5 : Int32) (x6 : Int32) (x7 : Int32) (σ : Mem) : Option (Int32 × Mem) :=
  bv (x7 + 1 : Int32) fun v8 =>
  k18 x1 x2 x3 x4 x5 x6 v8 σ
def X8_mostAtOnePlace_18 (k6 : Int32 → Int32 → Int32 → Int32 → Int32 → Mem → Option (Int32 × Mem)) : Nat → Int32 → Int32 → Int32 → Int32 → Int32 → Int32 → Int32 → Mem → Option (Int32 × Mem)
  | 0, _, _, _, _, _, _, _, _ => none
  | n + 1, x1, x2, x3, x4, x5, x6, x7, σ =>
    if x1 ≤ x7 then
      bv (imax x4 x6 : Int32) fun v5 =>
      bv (x5 + 1 : Int32) fun v6 =>
      k6 x1 x2 x3 v5 v6 σ
    else
      if (((x2 >>> (x5 &&& 31)) &&& (x2 >>> (x7 &&& 31))) &&& 1) = 0 then
        X8_mostAtOnePlace_68 (X8_mostAtOnePlace_18 k6 n) x1 x2 x3 x4 x5 x6 x7 σ
      else
        if ib ((x5 * 24) + x3) 144 = true then
          if ib ((x7 * 24) + x3) 144 = true then
            if (σ.1 120 ((x5 * 24) + x3).toNatClampNeg) = (σ.1 120 ((x7 * 24) + x3).toNatClampNeg) then
              bv (x6 + 1 : Int32) fun v7 =>
              X8_mostAtOnePlace_68 (X8_mostAtOnePlace_18 k6 n) x1 x2 x3 x4 x5 v7 x7 σ
            else
              X8_mostAtOnePlace_68 (X8_mostAtOnePlace_18 k6 n) x1 x2 x3 x4 x5 x6 x7 σ
          else none
        else none
def X8_mostAtOnePlace_6 : Nat → Int32 → Int32 → Int32 → Int32 → Int32 → Mem → Option (Int32 × Mem)
  | 0, _, _, _, _, _, _ => none
  | n + 1, x1, x2, x3, x4, x5, σ =>
    if x1 ≤ x5 then
      some (x4, σ)
    else
      bv (0 : Int32) fun v3 =>
      bv (0 : Int32) fun v4 =>
      X8_mostAtOnePlace_18 (X8_mostAtOnePlace_6 n) fu x1 x2 x3 x4 x5 v3 v4 σ
def X8_mostAtOnePlace (x1 : Int32) (x2 : Int32) (x3 : Int32) (σ : Mem) : Option (Int32 × Mem) :=
  bv (0 : Int32) fun v1 =>
  bv (0 : Int32) fun v2 =>
  X8_mostAtOnePlace_6 fu x1 x2 x3 v1 v2 σ
def X8_findHourToAsk_67 (t : Nat) (k79 : Int32 → Int32 → Mem → Option (Int32 × Mem)) (x4 : Int32) (x5 : Int32) (x6 : Int32) (σ : Mem) : Option (Int32 × Mem) :=
  bv (sI σ 114 8 x5) fun σ8 =>
  bv (sI σ8 114 9 x6) fun σ9 =>
  k79 x4 x5 σ9
def X8_findHourToAsk_79 (t : Nat) (k22 : Int32 → Int32 → Mem → Option (Int32 × Mem)) (x4 : Int32) (x5 : Int32) (σ : Mem) : Option (Int32 × Mem) :=
  bv (x5 + 1 : Int32) fun v10 =>
  k22 x4 v10 σ
def X8_findHourToAsk_85 (t : Nat) (x4 : Int32) (σ : Mem) : Option (Int32 × Mem) :=
  if x4 = 0 then
    some (0, σ)
  else
    some (1, σ)
def X8_findHourToAsk_22 (t : Nat) : Nat → Int32 → Int32 → Mem → Option (Int32 × Mem)
  | 0, _, _, _ => none
  | n + 1, x4, x5, σ =>
    if (σ.1 t 11) ≤ x5 then
      X8_findHourToAsk_85 t x4 σ
    else
      if x4 = 0 then
        X8_findHourToAsk_85 t x4 σ
      else
        (X8_mostAtOnePlace (σ.1 t 12) x4 x5 σ).bind fun r6 =>
        bv (r6.1 : Int32) fun v7 =>
        if (r6.2.1 114 8) = (-1) then
          X8_findHourToAsk_67 t (X8_findHourToAsk_79 t (X8_findHourToAsk_22 t n)) x4 x5 v7 r6.2
        else
          if (r6.2.1 114 9) ≤ v7 then
            X8_findHourToAsk_79 t (X8_findHourToAsk_22 t n) x4 x5 r6.2
          else
            X8_findHourToAsk_67 t (X8_findHourToAsk_79 t (X8_findHourToAsk_22 t n)) x4 x5 v7 r6.2
def X8_findHourToAsk (t : Nat) (x2 : Int32) (x3 : Int32) (σ : Mem) : Option (Int32 × Mem) :=
  (X8_fittingAims t x2 x3 σ).bind fun r1 =>
  bv (r1.1 : Int32) fun v2 =>
  bv (sI r1.2 114 8 (-1)) fun σ3 =>
  bv (sI σ3 114 9 (-1)) fun σ4 =>
  bv (0 : Int32) fun v5 =>
  X8_findHourToAsk_22 t fu v2 v5 σ4
def X11_putOnTape_3 : Nat → Int32 → Int32 → Mem → Option Mem
  | 0, _, _, _ => none
  | n + 1, x1, x2, σ =>
    if x2 < 0 then
      some σ
    else
      if 1600 ≤ (σ.1 0 13) then
        some σ
      else
        if ib (σ.1 0 13) 1600 = true then bv (sI σ 1 (σ.1 0 13).toNatClampNeg ((((x1.toUInt32 >>> (x2.toUInt32 &&& Int32.toUInt32 31)).toInt32).toInt8.toInt32).toInt8.toInt32)) fun σ2 =>
          bv (sI σ2 0 13 ((σ2.1 0 13) + 1)) fun σ3 =>
          bv (x2 + (-8) : Int32) fun v4 =>
          X11_putOnTape_3 n x1 v4 σ3
        else none
def X11_putOnTape (x1 : Int32) (σ : Mem) : Option Mem :=
  bv (24 : Int32) fun v1 =>
  X11_putOnTape_3 fu x1 v1 σ
def X11_feed (x1 : Int32) (x2 : Int32) (x3 : Int32) (x4 : Int32) (x5 : Int32) (σ : Mem) : Option (Int32 × Mem) :=
  if ((σ.1 0 13) + 20) ≤ 1600 then
    (X11_putOnTape x1 σ).bind fun σ1 =>
    (X11_putOnTape x2 σ1).bind fun σ2 =>
    (X11_putOnTape x3 σ2).bind fun σ3 =>
    (X11_putOnTape x4 σ3).bind fun σ4 =>
    (X11_putOnTape x5 σ4).bind fun σ5 =>
    some (σ5.1 0 13, σ5)
  else
    some ((-1), σ)
def X11_end (x1 : Int32) (σ : Mem) : Option (Int32 × Mem) :=
  if x1 < 0 then
    some ((-1), σ)
  else
    if x1 ≤ (σ.1 0 13) then
      bv (sI σ 0 13 x1) fun σ1 =>
      some (x1, σ1)
    else
      some ((-1), σ)
def X11_town_78 : Nat → Int32 → Mem → Option (Int32 × Mem)
  | 0, _, _ => none
  | n + 1, x2, σ =>
    if 3 ≤ x2 then
      gT (σ.1 0 12) fun q13 =>
      some (σ.1 q13 12, σ)
    else
      if ib x2 3 = true then bv (sI σ 122 x2.toNatClampNeg 0) fun σ14 =>
        bv (x2 + 1 : Int32) fun v15 =>
        X11_town_78 n v15 σ14
      else none
def X11_town (σ : Mem) : Option (Int32 × Mem) :=
  (X5_read (σ.1 0 13) σ).bind fun r1 =>
  bv (r1.1 : Int32) fun v2 =>
  bv (sI r1.2 0 13 0) fun σ3 =>
  if v2 = 0 then
    some ((-1), σ3)
  else
    gT (σ3.1 0 12) fun q4 =>
    (X5_exchange q4 σ3).bind fun r5 =>
    if r5.1 = 7 ∨ r5.1 = 124 then
      bv (sI r5.2 0 12 (nI r5.1)) fun σ6 =>
      gT (σ6.1 0 12) fun q7 =>
      (X7_begin 31 q7 σ6).bind fun σ8 =>
      (X3_begin 31 σ8).bind fun σ9 =>
      (X8_forget σ9).bind fun σ10 =>
      bv (sI σ10 0 14 0) fun σ11 =>
      bv (0 : Int32) fun v12 =>
      X11_town_78 fu v12 σ11
    else none
def X11_fault (x1 : Int32) (σ : Mem) : Option (Int32 × Mem) :=
  if x1 = 0 then
    some (σ.1 2 5, σ)
  else
    if x1 = 1 then
      some (σ.1 2 6, σ)
    else
      some ((-1), σ)
def X11_isPerson (x1 : Int32) (σ : Mem) : Option (Int32 × Mem) :=
  if x1 < 0 then
    some (0, σ)
  else
    gT (σ.1 0 12) fun q1 =>
    if (σ.1 q1 12) ≤ x1 then
      some (0, σ)
    else
      some (1, σ)
def X11_person (x1 : Int32) (x2 : Int32) (σ : Mem) : Option (Int32 × Mem) :=
  (X11_isPerson x1 σ).bind fun r1 =>
  if r1.1 = 0 then
    some ((-2), r1.2)
  else
    if x2 = 0 then
      if ib x1 6 = true then
        some (r1.2.1 32 x1.toNatClampNeg, r1.2)
      else none
    else
    if x2 = 1 then
      if ib x1 6 = true then
        some (r1.2.1 33 x1.toNatClampNeg, r1.2)
      else none
    else
    if x2 = 2 then
      if ib x1 6 = true then
        some (r1.2.1 34 x1.toNatClampNeg, r1.2)
      else none
    else
    if x2 = 3 then
      if ib x1 6 = true then
        some (r1.2.1 35 x1.toNatClampNeg, r1.2)
      else none
    else
    if x2 = 4 then
      gT (r1.2.1 0 12) fun q2 =>
      if ib x1 6 = true then
        some (r1.2.1 (q2 + 1) x1.toNatClampNeg, r1.2)
      else none
    else
    if x2 = 5 then
      gT (r1.2.1 0 12) fun q3 =>
      if ib x1 6 = true then
        some (r1.2.1 (q3 + 2) x1.toNatClampNeg, r1.2)
      else none
    else
    if x2 = 6 then
      gT (r1.2.1 0 12) fun q4 =>
      if ib x1 6 = true then
        some (r1.2.1 (q4 + 3) x1.toNatClampNeg, r1.2)
      else none
    else
    if x2 = 7 then
      gT (r1.2.1 0 12) fun q5 =>
      if ib x1 6 = true then
        some (r1.2.1 (q5 + 4) x1.toNatClampNeg, r1.2)
      else none
    else
    if x2 = 8 then
      gT (r1.2.1 0 12) fun q6 =>
      if ib x1 6 = true then
        some (r1.2.1 (q6 + 5) x1.toNatClampNeg, r1.2)
      else none
    else
    if x2 = 9 then
      gT (r1.2.1 0 12) fun q7 =>
      if ib x1 6 = true then
        some (r1.2.1 (q7 + 6) x1.toNatClampNeg, r1.2)
      else none
    else
    some ((-2), r1.2)
def X11_isPair (x1 : Int32) (x2 : Int32) (σ : Mem) : Option (Int32 × Mem) :=
  (X11_isPerson x1 σ).bind fun r1 =>
  if r1.1 = 0 then
    some (0, r1.2)
  else
    (X11_isPerson x2 r1.2).bind fun r2 =>
    if r2.1 = 0 then
      some (0, r2.2)
    else
      if x1 = x2 then
        some (0, r2.2)
      else
        some (1, r2.2)
def X11_owed (x1 : Int32) (x2 : Int32) (σ : Mem) : Option (Int32 × Mem) :=
  (X11_isPair x1 x2 σ).bind fun r1 =>
  if r1.1 = 0 then
    some ((-1), r1.2)
  else
    (X11_cell x1 x2 r1.2).bind fun r2 =>
    if ib r2.1 36 = true then
      some (r2.2.1 36 r2.1.toNatClampNeg, r2.2)
    else none
def X11_sum (x1 : Int32) (x2 : Int32) (σ : Mem) : Option (Int32 × Mem) :=
  (X11_isPerson x1 σ).bind fun r1 =>
  if r1.1 = 0 then
    some ((-1), r1.2)
  else
    if x2 = 0 then
      (X7_owedBy 31 x1 r1.2).bind fun r2 =>
      some (r2.1, r2.2)
    else
      (X7_owedTo 31 x1 r1.2).bind fun r3 =>
      some (r3.1, r3.2)
def X11_wet (x1 : Int32) (x2 : Int32) (σ : Mem) : Option (Int32 × Mem) :=
  if x1 < 0 then
    some ((-1), σ)
  else
    if 999 < x1 then
      some ((-1), σ)
    else
      if x2 < 0 then
        some ((-1), σ)
      else
        gT (σ.1 0 12) fun q1 =>
        if x2 < (σ.1 q1 11) then
          gT (σ.1 0 12) fun q2 =>
          (X0_wetness 39 q2 x1 x2 σ).bind fun r3 =>
          some (r3.1, r3.2)
        else
          some ((-1), σ)
def X11_pays (x1 : Int32) (σ : Mem) : Option (Int32 × Mem) :=
  (X11_isPerson x1 σ).bind fun r1 =>
  if r1.1 = 0 then
    some ((-1), r1.2)
  else
    gT (r1.2.1 0 12) fun q2 =>
    (X1_payOfNextHour q2 31 x1 r1.2).bind fun r3 =>
    some (r3.1, r3.2)
def X11_aim_25 (x1 : Int32) (x2 : Int32) (σ : Mem) : Option (Int32 × Mem) :=
  if ib x1 6 = true then
    bv (σ.1 33 x1.toNatClampNeg : Int32) fun v3 =>
    if ib x1 6 = true then bv (sI σ 33 x1.toNatClampNeg x2) fun σ4 =>
      (X3_add 31 σ4).bind fun σ5 =>
      some (v3, σ5)
    else none
  else none
def X11_aim (x1 : Int32) (x2 : Int32) (σ : Mem) : Option (Int32 × Mem) :=
  (X11_isPerson x1 σ).bind fun r1 =>
  if r1.1 = 0 then
    some ((-2), r1.2)
  else
    if x2 = (-1) then
      X11_aim_25 x1 x2 r1.2
    else
      (X11_isPair x1 x2 r1.2).bind fun r2 =>
      if r2.1 = 0 then
        some ((-2), r2.2)
      else
        X11_aim_25 x1 x2 r2.2
def X11_stand (x1 : Int32) (x2 : Int32) (σ : Mem) : Option (Int32 × Mem) :=
  (X11_isPerson x1 σ).bind fun r1 =>
  if r1.1 = 0 then
    some ((-1), r1.2)
  else
    (X11_isPerson x2 r1.2).bind fun r2 =>
    if r2.1 = 0 then
      some ((-1), r2.2)
    else
      if ib x1 6 = true then
        bv (r2.2.1 34 x1.toNatClampNeg : Int32) fun v3 =>
        if ib x1 6 = true then bv (sI r2.2 34 x1.toNatClampNeg x2) fun σ4 =>
          (X3_add 31 σ4).bind fun σ5 =>
          some (v3, σ5)
        else none
      else none
def X11_hours_29 : Nat → Int32 → Int32 → Mem → Option (Int32 × Mem)
  | 0, _, _, _ => none
  | n + 1, x1, x2, σ =>
    if x1 ≤ x2 then
      (X3_add 31 σ).bind fun σ2 =>
      some (σ2.1 31 7, σ2)
    else
      gT (σ.1 0 12) fun q3 =>
      (X0_pass 39 q3 31 σ).bind fun r4 =>
      bv (x2 + 1 : Int32) fun v5 =>
      X11_hours_29 n x1 v5 r4.2
def X11_hours (x1 : Int32) (σ : Mem) : Option (Int32 × Mem) :=
  if x1 < 0 then
    some ((-1), σ)
  else
    if 60 < x1 then
      some ((-1), σ)
    else
      if ((σ.1 31 7) + x1) ≤ 2000 then
        bv (0 : Int32) fun v1 =>
        X11_hours_29 fu x1 v1 σ
      else
        some ((-1), σ)
def X11_offset (x1 : Int32) (x2 : Int32) (σ : Mem) : Option (Int32 × Mem) :=
  (X11_isPair x1 x2 σ).bind fun r1 =>
  if r1.1 = 0 then
    some ((-1), r1.2)
  else
    (X11_cell x1 x2 r1.2).bind fun r2 =>
    bv (r2.1 : Int32) fun v3 =>
    (X11_cell x2 x1 r2.2).bind fun r4 =>
    bv (r4.1 : Int32) fun v5 =>
    if ib v3 36 = true then
      if ib v5 36 = true then
        bv (imin (r4.2.1 36 v3.toNatClampNeg) (r4.2.1 36 v5.toNatClampNeg) : Int32) fun v6 =>
        if v6 = 0 then
          some ((-1), r4.2)
        else
          if ib v3 36 = true then
            if ib v3 36 = true then bv (sI r4.2 36 v3.toNatClampNeg ((r4.2.1 36 v3.toNatClampNeg) - v6)) fun σ7 =>
              if ib v5 36 = true then
                if ib v5 36 = true then bv (sI σ7 36 v5.toNatClampNeg ((σ7.1 36 v5.toNatClampNeg) - v6)) fun σ8 =>
                  (X3_add 31 σ8).bind fun σ9 =>
                  some (v6, σ9)
                else none
              else none
            else none
          else none
      else none
    else none
def X11_clear (σ : Mem) : Option (Int32 × Mem) :=
  gT (σ.1 0 12) fun q1 =>
  (X6_find 36 36 (σ.1 q1 12) σ).bind fun σ2 =>
  if (σ2.1 111 5) = 0 then
    some ((-1), σ2)
  else
    (X6_takeBestFrom 36 36 σ2).bind fun σ3 =>
    (X3_add 31 σ3).bind fun σ4 =>
    some (σ4.1 111 4, σ4)
def X11_undo (σ : Mem) : Option (Int32 × Mem) :=
  (X3_goBack 31 σ).bind fun r1 =>
  some (r1.1 &&& 1, r1.2)
def X11_redo (σ : Mem) : Option (Int32 × Mem) :=
  (X3_goForth 31 σ).bind fun r1 =>
  some (r1.1 &&& 1, r1.2)
def X11_will (x1 : Int32) (x2 : Int32) (x3 : Int32) (σ : Mem) : Option (Int32 × Mem) :=
  (X11_isPair x1 x2 σ).bind fun r1 =>
  if r1.1 = 0 then
    some ((-1), r1.2)
  else
    if x3 < 0 then
      some ((-1), r1.2)
    else
      if x3 ≤ 200 then
        gT (r1.2.1 0 12) fun q2 =>
        (X11_cell x1 x2 r1.2).bind fun r3 =>
        (X1_owedBehind q2 31 r3.1 x3 r3.2).bind fun r4 =>
        some (r4.1, r4.2)
      else
        some ((-1), r1.2)
def X11_when (x1 : Int32) (x2 : Int32) (σ : Mem) : Option (Int32 × Mem) :=
  (X11_isPair x1 x2 σ).bind fun r1 =>
  if r1.1 = 0 then
    some ((-2), r1.2)
  else
    gT (r1.2.1 0 12) fun q2 =>
    (X11_cell x1 x2 r1.2).bind fun r3 =>
    (X1_hoursTillPaid q2 31 r3.1 r3.2).bind fun r4 =>
    some (r4.1, r4.2)
def X11_isZeroOrOne (x0 : Int32) (σ : Mem) : Option (Int32 × Mem) :=
  if x0 = 0 then
    some (1, σ)
  else
    if x0 = 1 then
      some (1, σ)
    else
      some (0, σ)
def X11_throng (x1 : Int32) (x2 : Int32) (x3 : Int32) (σ : Mem) : Option (Int32 × Mem) :=
  (X11_isPerson x1 σ).bind fun r1 =>
  if r1.1 = 0 then
    some ((-2), r1.2)
  else
    if x2 < 1 then
      some ((-2), r1.2)
    else
      if 200 < x2 then
        some ((-2), r1.2)
      else
        (X11_isZeroOrOne x3 r1.2).bind fun r2 =>
        if r2.1 = 0 then
          some ((-2), r2.2)
        else
          gT (r2.2.1 0 12) fun q3 =>
          (X1_findThrong q3 31 x1 x2 r2.2).bind fun σ4 =>
          if x3 = 0 then
            some (σ4.1 43 4, σ4)
          else
            some (σ4.1 43 5, σ4)
def X11_meeting (x1 : Int32) (x2 : Int32) (x3 : Int32) (σ : Mem) : Option (Int32 × Mem) :=
  (X11_isPair x1 x2 σ).bind fun r1 =>
  if r1.1 = 0 then
    some ((-2), r1.2)
  else
    if x3 < 1 then
      some ((-2), r1.2)
    else
      if x3 ≤ 200 then
        gT (r1.2.1 0 12) fun q2 =>
        (X1_hourOfMeeting q2 31 x1 x2 x3 r1.2).bind fun r3 =>
        some (r3.1, r3.2)
      else
        some ((-2), r1.2)
def X11_help (x1 : Int32) (x2 : Int32) (x3 : Int32) (σ : Mem) : Option (Int32 × Mem) :=
  (X11_isPair x1 x2 σ).bind fun r1 =>
  if r1.1 = 0 then
    some ((-2), r1.2)
  else
    (X11_isZeroOrOne x3 r1.2).bind fun r2 =>
    if r2.1 = 0 then
      some ((-2), r2.2)
    else
      gT (r2.2.1 0 12) fun q3 =>
      (X1_findHelper q3 31 x1 x2 r2.2).bind fun σ4 =>
      if x3 = 0 then
        some (σ4.1 43 4, σ4)
      else
        some (σ4.1 43 5, σ4)
def X11_layDown (a : Nat) (al : Nat) (x2 : Int32) (σ : Mem) : Option Mem :=
  bv (sI σ 0 14 (imin x2 6)) fun σ1 =>
  if cpok 0 0 (σ1.1 0 14) al 6 = true then bv (sC σ1 123 (0 : Int32).toNatClampNeg (σ1.1 a) (0 : Int32).toNatClampNeg (σ1.1 0 14 : Int32).toNatClampNeg) fun σ2 =>
    some σ2
  else none
def X11_plan (x1 : Int32) (σ : Mem) : Option (Int32 × Mem) :=
  bv (sI σ 0 14 0) fun σ1 =>
  (X11_isPerson x1 σ1).bind fun r2 =>
  if r2.1 = 0 then
    some ((-1), r2.2)
  else
    gT (r2.2.1 0 12) fun q3 =>
    (X4_hoursOfBest q3 31 x1 r2.2).bind fun r4 =>
    bv (r4.1 : Int32) fun v5 =>
    if v5 = (-1) then
      some (v5, r4.2)
    else
      (X11_layDown 68 6 (r4.2.1 61 6) r4.2).bind fun σ6 =>
      some (v5, σ6)
def X11_rings (σ : Mem) : Option (Int32 × Mem) :=
  gT (σ.1 0 12) fun q1 =>
  (X6_find 36 36 (σ.1 q1 12) σ).bind fun σ2 =>
  some (σ2.1 111 5, σ2)
def X11_ring (σ : Mem) : Option (Int32 × Mem) :=
  gT (σ.1 0 12) fun q1 =>
  (X6_find 36 36 (σ.1 q1 12) σ).bind fun σ2 =>
  (X11_layDown 113 6 (σ2.1 111 3) σ2).bind fun σ3 =>
  some (σ3.1 111 4, σ3)
def X11_hide (x1 : Int32) (x2 : Int32) (x3 : Int32) (σ : Mem) : Option (Int32 × Mem) :=
  (X11_isPerson x1 σ).bind fun r1 =>
  if r1.1 = 0 then
    some ((-2), r1.2)
  else
    if x2 < 1 then
      some ((-2), r1.2)
    else
      if 60 < x2 then
        some ((-2), r1.2)
      else
        (X11_isZeroOrOne x3 r1.2).bind fun r2 =>
        if r2.1 = 0 then
          some ((-2), r2.2)
        else
          gT (r2.2.1 0 12) fun q3 =>
          (X1_findHiding q3 31 x1 x2 r2.2).bind fun σ4 =>
          if x3 = 0 then
            some (σ4.1 43 4, σ4)
          else
            some (σ4.1 43 5, σ4)
def X11_word (x1 : Int32) (x2 : Int32) (x3 : Int32) (σ : Mem) : Option (Int32 × Mem) :=
  bv (sI σ 0 14 0) fun σ1 =>
  (X11_isPair x1 x2 σ1).bind fun r2 =>
  if r2.1 = 0 then
    some ((-1), r2.2)
  else
    if x3 < 1 then
      some ((-1), r2.2)
    else
      if x3 ≤ 60 then
        gT (r2.2.1 0 12) fun q3 =>
        (X11_cell x1 x2 r2.2).bind fun r4 =>
        (X1_countWords q3 31 r4.1 x3 r4.2).bind fun r5 =>
        bv (r5.1 : Int32) fun v6 =>
        if v6 ≤ 0 then
          some (v6, r5.2)
        else
          bv (sI r5.2 123 0 (r5.2.1 43 4)) fun σ7 =>
          bv (sI σ7 123 1 (σ7.1 43 5)) fun σ8 =>
          bv (sI σ8 0 14 2) fun σ9 =>
          some (v6, σ9)
      else
        some ((-1), r2.2)
def X11_lies (x1 : Int32) (σ : Mem) : Option (Int32 × Mem) :=
  if x1 < 0 then
    some ((-1000000), σ)
  else
    if (σ.1 0 14) ≤ x1 then
      some ((-1000000), σ)
    else
      if ib x1 6 = true then
        some (σ.1 123 x1.toNatClampNeg, σ)
      else none
def X11_step (x1 : Int32) (x2 : Int32) (x3 : Int32) (σ : Mem) : Option (Int32 × Mem) :=
  (X11_isPerson x1 σ).bind fun r1 =>
  if r1.1 = 0 then
    some ((-1), r1.2)
  else
    if x2 < 0 then
      some ((-1), r1.2)
    else
      gT (r1.2.1 0 12) fun q2 =>
      if (r1.2.1 q2 11) ≤ x2 then
        some ((-1), r1.2)
      else
        if x3 < 0 then
          some ((-1), r1.2)
        else
          if x3 ≤ 20 then
            (X8_tell x1 x2 x3 r1.2).bind fun r3 =>
            some (r3.1, r3.2)
          else
            some ((-1), r1.2)
def X11_untell (x1 : Int32) (σ : Mem) : Option (Int32 × Mem) :=
  (X8_takeBack x1 σ).bind fun r1 =>
  some (r1.1 &&& 1, r1.2)
def X11_later (x1 : Int32) (σ : Mem) : Option (Int32 × Mem) :=
  (X8_goOn x1 σ).bind fun r1 =>
  some (r1.1, r1.2)
def X11_fit (x1 : Int32) (x2 : Int32) (σ : Mem) : Option (Int32 × Mem) :=
  (X11_isPerson x1 σ).bind fun r1 =>
  if r1.1 = 0 then
    some ((-1), r1.2)
  else
    gT (r1.2.1 0 12) fun q2 =>
    (X8_fittingAims q2 x1 x2 r1.2).bind fun r3 =>
    some (r3.1, r3.2)
def X11_sham_37 (k4 : Int32 → Int32 → Int32 → Mem → Option (Int32 × Mem)) (x1 : Int32) (x2 : Int32) (x3 : Int32) (σ : Mem) : Option (Int32 × Mem) :=
  bv (x3 + 1 : Int32) fun v7 =>
  k4 x1 x2 v7 σ
def X11_sham_4 : Nat → Int32 → Int32 → Int32 → Mem → Option (Int32 × Mem)
  | 0, _, _, _, _ => none
  | n + 1, x1, x2, x3, σ =>
    gT (σ.1 0 12) fun q3 =>
    if (σ.1 q3 12) ≤ x3 then
      some (x2, σ)
    else
      gT (σ.1 0 12) fun q4 =>
      (X8_fittingAims q4 x3 x1 σ).bind fun r5 =>
      if r5.1 = 0 then
        bv (x2 ||| (1 <<< (x3 &&& 31)) : Int32) fun v6 =>
        X11_sham_37 (X11_sham_4 n) x1 v6 x3 r5.2
      else
        X11_sham_37 (X11_sham_4 n) x1 x2 x3 r5.2
def X11_sham (x1 : Int32) (σ : Mem) : Option (Int32 × Mem) :=
  bv (0 : Int32) fun v1 =>
  bv (0 : Int32) fun v2 =>
  X11_sham_4 fu x1 v1 v2 σ
def X11_ask (x1 : Int32) (x2 : Int32) (x3 : Int32) (σ : Mem) : Option (Int32 × Mem) :=
  (X11_isPerson x1 σ).bind fun r1 =>
  if r1.1 = 0 then
    some ((-1), r1.2)
  else
    (X11_isZeroOrOne x2 r1.2).bind fun r2 =>
    if r2.1 = 0 then
      some ((-1), r2.2)
    else
      gT (r2.2.1 0 12) fun q3 =>
      (X8_findHourToAsk q3 x1 x3 r2.2).bind fun r4 =>
      if r4.1 = 0 then
        some ((-1), r4.2)
      else
        if x2 = 0 then
          some (r4.2.1 114 8, r4.2)
        else
          some (r4.2.1 114 9, r4.2)
def X11_image (x1 : Int32) (σ : Mem) : Option (Int32 × Mem) :=
  if x1 < 0 then
    some ((-1), σ)
  else
    if x1 < 3 then
      (X7_store 31 121 189 (x1 * 63) σ).bind fun σ1 =>
      if ib x1 3 = true then bv (sI σ1 122 x1.toNatClampNeg 1) fun σ2 =>
        some (σ2.1 31 7, σ2)
      else none
    else
      some ((-1), σ)
def X11_back (x1 : Int32) (σ : Mem) : Option (Int32 × Mem) :=
  if x1 < 0 then
    some ((-1), σ)
  else
    if 3 ≤ x1 then
      some ((-1), σ)
    else
      if ib x1 3 = true then
        if (σ.1 122 x1.toNatClampNeg) = 0 then
          some ((-1), σ)
        else
          (X7_load 31 121 189 (x1 * 63) σ).bind fun σ1 =>
          (X3_begin 31 σ1).bind fun σ2 =>
          some (σ2.1 31 7, σ2)
      else none
def X11_about (x1 : Int32) (σ : Mem) : Option (Int32 × Mem) :=
  if x1 = 0 then
    gT (σ.1 0 12) fun q1 =>
    some (σ.1 q1 12, σ)
  else
  if x1 = 1 then
    gT (σ.1 0 12) fun q2 =>
    some (σ.1 q2 11, σ)
  else
  if x1 = 2 then
    some (σ.1 31 5, σ)
  else
  if x1 = 3 then
    some (σ.1 31 6, σ)
  else
  if x1 = 4 then
    some (σ.1 31 7, σ)
  else
  if x1 = 5 then
    some (σ.1 37 1, σ)
  else
  if x1 = 6 then
    some ((σ.1 37 2) - (σ.1 37 1), σ)
  else
  if x1 = 7 then
    some (σ.1 114 6, σ)
  else
  if x1 = 8 then
    some (σ.1 114 7, σ)
  else
  if x1 = 9 then
    some (σ.1 0 13, σ)
  else
  if x1 = 10 then
    gT (σ.1 0 12) fun q3 =>
    some (σ.1 q3 14, σ)
  else
  if x1 = 11 then
    gT (σ.1 0 12) fun q4 =>
    some (σ.1 (q4 + 9) 7, σ)
  else
  if x1 = 12 then
    some (σ.1 0 14, σ)
  else
  if x1 = 13 then
    (X7_debtsLeft 31 σ).bind fun r5 =>
    some (r5.1, r5.2)
  else
  some ((-1), σ)
