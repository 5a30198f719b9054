/-! SacredHens$Tape.append -/
def fX8_append_3 (x1 : Int32) : Nat → HW → Int32 → Option HW
  | 0, _, _ => none
  | n + 1, w, x2 =>
    if ¬ x2 < 0 then
      if ¬ gI w 1 1 < 0 then
        if gI w 1 1 < 800 then
          if inB (gI w 1 1) 800 = true then
            lT (uI w 2 (ix (gI w 1 1)) (vp_nar .byte (iB (iSr x1 x2)))) fun w_5 =>
            lT (uI w_5 1 1 ((gI w_5 1 1) + 1)) fun w_6 =>
            fX8_append_3 x1 n w_6 (x2 + (-8))
          else none
        else
        fX8_append_3 x1 n w (x2 + (-8))
      else
      fX8_append_3 x1 n w (x2 + (-8))
    else
    some w
def fX8_append (w : HW) (x1 : Int32) : Option HW :=
  fX8_append_3 x1 FU w 24
/-! SacredHens.feed -/
def fX9_feed (w : HW) (x1 : Int32) (x2 : Int32) (x3 : Int32) (x4 : Int32) (x5 : Int32) : Option (Int32 × HW) :=
  if 780 < gI w 1 1 then
    some ((-1), w)
  else
  bI (fX8_append w x1) fun w_3 =>
  bI (fX8_append w_3 x2) fun w_5 =>
  bI (fX8_append w_5 x3) fun w_7 =>
  bI (fX8_append w_7 x4) fun w_9 =>
  bI (fX8_append w_9 x5) fun w_11 =>
  some (gI w_11 1 1, w_11)
/-! SacredHens.end -/
def fX9_end (w : HW) (x1 : Int32) : Option (Int32 × HW) :=
  if ¬ x1 < 0 then
    if gI w 1 1 < x1 then
      some ((-1), w)
    else
    lT (uI w 1 1 x1) fun w_3 =>
    some (x1, w_3)
  else
  some ((-1), w)
/-! SacredHens$Camp.forget -/
def fX0_forget (w : HW) (k0 : Nat) : Option HW :=
  lT (uI w k0 0 0) fun w_1 =>
  lT (uI w_1 k0 1 0) fun w_2 =>
  lT (uI w_2 k0 2 0) fun w_3 =>
  lT (uI w_3 k0 3 0) fun w_4 =>
  lT (uI w_4 k0 4 0) fun w_5 =>
  lT (uI w_5 k0 5 0) fun w_6 =>
  lT (uI w_6 k0 6 0) fun w_7 =>
  lT (uI w_7 k0 10 0) fun w_8 =>
  lT (uI w_8 k0 14 0) fun w_9 =>
  some w_9
/-! SacredHens$Reader.byteAt -/
def fX4_byteAt (w : HW) (x1 : Int32) : Option Int32 :=
  if ¬ x1 < 0 then
    if (gR w 3 2 == 1) = true then
      if x1 < gI w 1 1 then
        if (gR w 3 2 == 1) = true then
          if ¬ x1 < 800 then
            some (-1)
          else
          if (gR w 3 2 == 1) = true then
            if inB x1 800 = true then
              some ((gI w 2 (ix x1)) &&& 255)
            else none
          else none
        else none
      else
      some (-1)
    else none
  else
  some (-1)
/-! SacredHens$Reader.kindOf -/
def fX4_kindOf_35 (w : HW) (x0 : Int32) : Option Int32 :=
  if ¬ x0 < 48 then
    if ¬ 57 < x0 then
      some 2
    else
    if x0 = 59 then
      some 3
    else
    some 4
  else
  if x0 = 59 then
    some 3
  else
  some 4
def fX4_kindOf (w : HW) (x0 : Int32) : Option Int32 :=
  if x0 = (-1) then
    some 0
  else
  if ¬ x0 = 32 then
    if x0 = 10 then
      some 5
    else
    if ¬ x0 < 97 then
      if ¬ 122 < x0 then
        some 1
      else
      fX4_kindOf_35 w x0
    else
    fX4_kindOf_35 w x0
  else
  some 5
/-! SacredHens$Reader.step -/
def fX4_step_172 (w : HW) (K45 : HW → Int32 → Option HW) : Option HW :=
  bI (fX4_byteAt w (gI w 3 6)) fun r_28 =>
  bI (fX4_kindOf w r_28) fun r_30 =>
  if r_30 = gI w 3 4 then
    K45 w 1
  else
  K45 w 0
def fX4_step_146 (w : HW) (K45 : HW → Int32 → Option HW) : Option HW :=
  lT (uI w 3 6 ((gI w 3 6) + 1)) fun w_25 =>
  if ¬ gI w_25 3 4 = 1 then
    if gI w_25 3 4 = 2 then
      fX4_step_172 w_25 K45
    else
    K45 w_25 0
  else
  fX4_step_172 w_25 K45
def fX4_step_91 : Nat → HW → Int32 → Option HW
  | 0, _, _ => none
  | n + 1, w, x1 =>
    if ¬ x1 = 0 then
      if (gR w 3 2 == 1) = true then
        if gI w 3 6 < gI w 1 1 then
          if gI w 3 4 = 2 then
            bI (fX4_byteAt w (gI w 3 6)) fun r_22 =>
            lT (uI w 3 7 (iMn 1000 ((((gI w 3 7) * 10) + r_22) - 48))) fun w_24 =>
            fX4_step_146 w_24 (fun w x1 => fX4_step_91 n w x1)
          else
          fX4_step_146 w (fun w x1 => fX4_step_91 n w x1)
        else
        some w
      else none
    else
    some w
def fX4_step_50 (w : HW) : Option HW :=
  lT (uI w 3 6 (gI w 3 5)) fun w_10 =>
  bI (fX4_byteAt w_10 (gI w_10 3 5)) fun r_11 =>
  bI (fX4_kindOf w_10 r_11) fun r_13 =>
  lT (uI w_10 3 4 r_13) fun w_15 =>
  lT (uI w_15 3 7 0) fun w_16 =>
  if ¬ gI w_16 3 4 = 0 then
    fX4_step_91 FU w_16 1
  else
  fX4_step_91 FU w_16 0
def fX4_step_8 : Nat → HW → Option HW
  | 0, _ => none
  | n + 1, w =>
    if (gR w 3 2 == 1) = true then
      if gI w 3 5 < gI w 1 1 then
        bI (fX4_byteAt w (gI w 3 5)) fun r_4 =>
        bI (fX4_kindOf w r_4) fun r_6 =>
        if r_6 = 5 then
          lT (uI w 3 5 ((gI w 3 5) + 1)) fun w_9 =>
          fX4_step_8 n w_9
        else
        fX4_step_50 w
      else
      fX4_step_50 w
    else none
def fX4_step (w : HW) : Option HW :=
  lT (uI w 3 5 (gI w 3 6)) fun w_1 =>
  fX4_step_8 FU w_1
/-! SacredHens$Reader.isWord -/
def fX4_isWord_28 (w : HW) (q1 : Nat) : Nat → Int32 → Option Int32
  | 0, _ => none
  | n + 1, x2 =>
    if decide (q1 < 13) = true then
      if x2 < sLn q1 then
        bI (fX4_byteAt w ((gI w 3 5) + x2)) fun r_6 =>
        if (decide (q1 < 13) && inB x2 (hlen.getD q1 0)) = true then
          if ¬ r_6 = sCh q1 x2 then
            some 0
          else
          fX4_isWord_28 w q1 n (x2 + 1)
        else none
      else
      some 1
    else none
def fX4_isWord (w : HW) (q1 : Nat) : Option Int32 :=
  if gI w 3 4 = 1 then
    if decide (q1 < 13) = true then
      if ¬ (gI w 3 6) - (gI w 3 5) = sLn q1 then
        some 0
      else
      fX4_isWord_28 w q1 FU 0
    else none
  else
  some 0
/-! SacredHens$Reader.fail -/
def fX4_fail (w : HW) (x1 : Int32) : Option HW :=
  if gI w 3 0 = 0 then
    lT (uI w 3 0 x1) fun w_2 =>
    lT (uI w_2 3 1 (gI w_2 3 5)) fun w_3 =>
    some w_3
  else
  some w
/-! SacredHens$Reader.takeWord -/
def fX4_takeWord (w : HW) (q1 : Nat) : Option HW :=
  if ¬ gI w 3 0 = 0 then
    some w
  else
  bI (fX4_isWord w q1) fun r_2 =>
  if r_2 = 0 then
    bI (fX4_fail w 1) fun w_6 =>
    some w_6
  else
  bI (fX4_step w) fun w_8 =>
  some w_8
/-! SacredHens$Reader.takeNumber -/
def fX4_takeNumber (w : HW) (x1 : Int32) (x2 : Int32) : Option (Int32 × HW) :=
  if ¬ gI w 3 0 = 0 then
    some (0, w)
  else
  if ¬ gI w 3 4 = 2 then
    bI (fX4_fail w 1) fun w_4 =>
    some (0, w_4)
  else
  if ¬ gI w 3 7 < x1 then
    if x2 < gI w 3 7 then
      bI (fX4_fail w 2) fun w_8 =>
      some (0, w_8)
    else
    lT (gI w 3 7) fun x3_9 =>
    bI (fX4_step w) fun w_11 =>
    some (x3_9, w_11)
  else
  bI (fX4_fail w 2) fun w_13 =>
  some (0, w_13)
/-! SacredHens$Reader.readCamp -/
def fX4_readCamp (w : HW) : Option HW :=
  bI (fX4_takeWord w 0) fun w_2 =>
  bI (fX4_takeWord w_2 1) fun w_4 =>
  bW (fX4_takeNumber w_4 1 14) fun r_5 w_6 =>
  bI (fX4_takeWord w_6 2) fun w_8 =>
  bW (fX4_takeNumber w_8 0 9) fun r_9 w_10 =>
  bI (fX4_takeWord w_10 3) fun w_12 =>
  bW (fX4_takeNumber w_12 1 9) fun r_13 w_14 =>
  bI (fX4_takeWord w_14 4) fun w_16 =>
  bW (fX4_takeNumber w_16 0 10) fun r_17 w_18 =>
  if gI w_18 3 0 = 0 then
    lT (gR w_18 3 3) fun j_20 =>
    if isC j_20 = true then
      lT (uI w_18 j_20 1 r_5) fun w_21 =>
      lT (gR w_21 3 3) fun j_22 =>
      if isC j_22 = true then
        lT (uI w_21 j_22 2 r_9) fun w_23 =>
        lT (gR w_23 3 3) fun j_24 =>
        if isC j_24 = true then
          lT (uI w_23 j_24 3 r_13) fun w_25 =>
          lT (gR w_25 3 3) fun j_26 =>
          if isC j_26 = true then
            lT (uI w_25 j_26 4 r_17) fun w_27 =>
            some w_27
          else none
        else none
      else none
    else none
  else
  some w_18
/-! SacredHens$Reader.readMark -/
def fX4_readMark (w : HW) : Option HW :=
  bI (fX4_takeWord w 5) fun w_2 =>
  lT (gR w_2 3 3) fun j_3 =>
  if isC j_3 = true then
    bW (fX4_takeNumber w_2 0 ((gI w_2 j_3 1) - 1)) fun r_4 w_5 =>
    if gI w_5 3 0 = 0 then
      lT (gR w_5 3 3) fun j_7 =>
      if isC j_7 = true then
        lT (uI w_5 j_7 5 ((gI w_5 j_7 5) ||| (iSl 1 r_4))) fun w_8 =>
        some w_8
      else none
    else
    some w_5
  else none
/-! SacredHens$Reader.readAugur -/
def fX4_readAugur (w : HW) : Option HW :=
  lT (gR w 3 3) fun j_1 =>
  if isC j_1 = true then
    if ¬ gI w j_1 6 < 8 then
      bI (fX4_fail w 3) fun w_4 =>
      some w_4
    else
    bI (fX4_takeWord w 6) fun w_6 =>
    bI (fX4_takeWord w_6 7) fun w_8 =>
    bW (fX4_takeNumber w_8 0 1) fun r_9 w_10 =>
    bI (fX4_takeWord w_10 8) fun w_12 =>
    lT (gR w_12 3 3) fun j_13 =>
    if isC j_13 = true then
      bW (fX4_takeNumber w_12 0 ((gI w_12 j_13 1) - 1)) fun r_14 w_15 =>
      bI (fX4_takeWord w_15 9) fun w_17 =>
      lT (gR w_17 3 3) fun j_18 =>
      if isC j_18 = true then
        bW (fX4_takeNumber w_17 r_14 ((gI w_17 j_18 1) - 1)) fun r_19 w_20 =>
        if gI w_20 3 0 = 0 then
          lT (gR w_20 3 3) fun j_22 =>
          if isC j_22 = true then
            lT (gR w_20 3 3) fun j_23 =>
            if isC j_23 = true then
              if inB (gI w_20 j_23 6) 8 = true then
                lT (uI w_20 (j_22 + 1) (ix (gI w_20 j_23 6)) r_9) fun w_25 =>
                lT (gR w_25 3 3) fun j_26 =>
                if isC j_26 = true then
                  lT (gR w_25 3 3) fun j_27 =>
                  if isC j_27 = true then
                    if inB (gI w_25 j_27 6) 8 = true then
                      lT (uI w_25 (j_26 + 2) (ix (gI w_25 j_27 6)) r_14) fun w_29 =>
                      lT (gR w_29 3 3) fun j_30 =>
                      if isC j_30 = true then
                        lT (gR w_29 3 3) fun j_31 =>
                        if isC j_31 = true then
                          if inB (gI w_29 j_31 6) 8 = true then
                            lT (uI w_29 (j_30 + 3) (ix (gI w_29 j_31 6)) r_19) fun w_33 =>
                            lT (gR w_33 3 3) fun j_34 =>
                            if isC j_34 = true then
                              lT (uI w_33 j_34 6 ((gI w_33 j_34 6) + 1)) fun w_35 =>
                              some w_35
                            else none
                          else none
                        else none
                      else none
                    else none
                  else none
                else none
              else none
            else none
          else none
        else
        some w_20
      else none
    else none
  else none
/-! SacredHens$Reader.readBill -/
def fX4_readBill_83 (w : HW) (x1 : Int32) (x2 : Int32) (x3 : Int32) : Option HW :=
  if gI w 3 0 = 0 then
    lT (gR w 3 3) fun j_24 =>
    if isC j_24 = true then
      lT (gR w 3 3) fun j_25 =>
      if isC j_25 = true then
        if inB (gI w j_25 10) 8 = true then
          lT (uI w (j_24 + 4) (ix (gI w j_25 10)) x1) fun w_27 =>
          lT (gR w_27 3 3) fun j_28 =>
          if isC j_28 = true then
            lT (gR w_27 3 3) fun j_29 =>
            if isC j_29 = true then
              if inB (gI w_27 j_29 10) 8 = true then
                lT (uI w_27 (j_28 + 5) (ix (gI w_27 j_29 10)) x2) fun w_31 =>
                lT (gR w_31 3 3) fun j_32 =>
                if isC j_32 = true then
                  lT (gR w_31 3 3) fun j_33 =>
                  if isC j_33 = true then
                    if inB (gI w_31 j_33 10) 8 = true then
                      lT (uI w_31 (j_32 + 6) (ix (gI w_31 j_33 10)) x3) fun w_35 =>
                      lT (gR w_35 3 3) fun j_36 =>
                      if isC j_36 = true then
                        lT (uI w_35 j_36 10 ((gI w_35 j_36 10) + 1)) fun w_37 =>
                        some w_37
                      else none
                    else none
                  else none
                else none
              else none
            else none
          else none
        else none
      else none
    else none
  else
  some w
def fX4_readBill (w : HW) : Option HW :=
  lT (gR w 3 3) fun j_1 =>
  if isC j_1 = true then
    if ¬ gI w j_1 10 < 8 then
      bI (fX4_fail w 3) fun w_4 =>
      some w_4
    else
    bI (fX4_takeWord w 10) fun w_6 =>
    bI (fX4_takeWord w_6 7) fun w_8 =>
    bW (fX4_takeNumber w_8 0 1) fun r_9 w_10 =>
    bI (fX4_takeWord w_10 11) fun w_12 =>
    bW (fX4_takeNumber w_12 0 99) fun r_13 w_14 =>
    bI (fX4_isWord w_14 12) fun r_15 =>
    if ¬ r_15 = 0 then
      bI (fX4_takeWord w_14 12) fun w_19 =>
      lT (gR w_19 3 3) fun j_20 =>
      if isC j_20 = true then
        bW (fX4_takeNumber w_19 0 ((gI w_19 j_20 10) - 1)) fun r_21 w_22 =>
        fX4_readBill_83 w_22 r_9 r_13 r_21
      else none
    else
    fX4_readBill_83 w_14 r_9 r_13 (-1)
  else none
/-! SacredHens$Reader.takeSign -/
def fX4_takeSign (w : HW) : Option HW :=
  if ¬ gI w 3 0 = 0 then
    some w
  else
  if ¬ gI w 3 4 = 3 then
    bI (fX4_fail w 1) fun w_4 =>
    some w_4
  else
  lT (gR w 3 3) fun j_5 =>
  if isC j_5 = true then
    lT (uI w j_5 0 ((gI w j_5 0) + 1)) fun w_6 =>
    bI (fX4_step w_6) fun w_8 =>
    some w_8
  else none
/-! SacredHens$Reader.readLine -/
def fX4_readLine (w : HW) : Option HW :=
  lT (gR w 3 3) fun j_1 =>
  if isC j_1 = true then
    if gI w j_1 0 = 0 then
      bI (fX4_readCamp w) fun w_4 =>
      bI (fX4_takeSign w_4) fun w_6 =>
      some w_6
    else
    bI (fX4_isWord w 5) fun r_7 =>
    if ¬ r_7 = 0 then
      bI (fX4_readMark w) fun w_11 =>
      bI (fX4_takeSign w_11) fun w_13 =>
      some w_13
    else
    bI (fX4_isWord w 6) fun r_14 =>
    if ¬ r_14 = 0 then
      bI (fX4_readAugur w) fun w_18 =>
      bI (fX4_takeSign w_18) fun w_20 =>
      some w_20
    else
    bI (fX4_isWord w 10) fun r_21 =>
    if ¬ r_21 = 0 then
      bI (fX4_readBill w) fun w_25 =>
      bI (fX4_takeSign w_25) fun w_27 =>
      some w_27
    else
    bI (fX4_fail w 1) fun w_29 =>
    bI (fX4_takeSign w_29) fun w_31 =>
    some w_31
  else none
/-! SacredHens$Reader.read -/
def fX4_read_38 : Nat → HW → Int32 → Option (Int32 × HW)
  | 0, _, _ => none
  | n + 1, w, x3 =>
    if x3 < 800 then
      if ¬ gI w 3 4 = 0 then
        if gI w 3 0 = 0 then
          bI (fX4_readLine w) fun w_15 =>
          fX4_read_38 n w_15 (x3 + 1)
        else
        if gI w 3 0 = 0 then
          some (1, w)
        else
        some (0, w)
      else
      if gI w 3 0 = 0 then
        some (1, w)
      else
      some (0, w)
    else
    if gI w 3 0 = 0 then
      some (1, w)
    else
    some (0, w)
def fX4_read (w : HW) (k2 : Nat) : Option (Int32 × HW) :=
  lT (uR w 3 2 1) fun w_1 =>
  lT (uR w_1 3 3 k2) fun w_2 =>
  lT (gR w_2 3 3) fun j_3 =>
  if isC j_3 = true then
    bI (fX0_forget w_2 j_3) fun w_5 =>
    lT (uI w_5 3 0 0) fun w_6 =>
    lT (uI w_6 3 1 (-1)) fun w_7 =>
    lT (uI w_7 3 6 0) fun w_8 =>
    bI (fX4_step w_8) fun w_10 =>
    fX4_read_38 FU w_10 0
  else none
/-! SacredHens.camp -/
def fX9_camp (w : HW) : Option (Int32 × HW) :=
  lT (gR w 0 11) fun j_1 =>
  if isC j_1 = true then
    bW (fX4_read w j_1) fun r_2 w_3 =>
    lT (uI w_3 1 1 0) fun w_4 =>
    if r_2 = 0 then
      some ((-4), w_4)
    else
    lT (gR w_4 0 10) fun j_6 =>
    if isC j_6 = true then
      lT (gR w_4 0 11) fun j_7 =>
      if isC j_7 = true then
        lT (uR w_4 0 10 j_7) fun w_8 =>
        lT (uR w_8 0 11 j_6) fun w_9 =>
        lT (gR w_9 0 10) fun j_10 =>
        if isC j_10 = true then
          some (gI w_9 j_10 0, w_9)
        else none
      else none
    else none
  else none
/-! SacredHens.fault -/
def fX9_fault (w : HW) (x1 : Int32) : Option Int32 :=
  if x1 = 0 then
    some (gI w 3 0)
  else
  if x1 = 1 then
    some (gI w 3 1)
  else
  some (-1)
/-! SacredHens$Camp.hasAugur -/
def fX0_hasAugur (w : HW) (k0 : Nat) (x1 : Int32) : Option Int32 :=
  if ¬ x1 < 0 then
    if x1 < gI w k0 6 then
      some 1
    else
    some 0
  else
  some 0
/-! SacredHens.augur -/
def fX9_augur (w : HW) (x1 : Int32) (x2 : Int32) : Option Int32 :=
  lT (gR w 0 10) fun j_1 =>
  if isC j_1 = true then
    bI (fX0_hasAugur w j_1 x1) fun r_2 =>
    if r_2 = 0 then
      some (-2)
    else
    if x2 = 0 then
      lT (gR w 0 10) fun j_6 =>
      if isC j_6 = true then
        if inB x1 8 = true then
          some (gI w (j_6 + 1) (ix x1))
        else none
      else none
    else
    if x2 = 1 then
      lT (gR w 0 10) fun j_9 =>
      if isC j_9 = true then
        if inB x1 8 = true then
          some (gI w (j_9 + 2) (ix x1))
        else none
      else none
    else
    if x2 = 2 then
      lT (gR w 0 10) fun j_12 =>
      if isC j_12 = true then
        if inB x1 8 = true then
          some (gI w (j_12 + 3) (ix x1))
        else none
      else none
    else
    some (-2)
  else none
/-! SacredHens$Camp.hasBill -/
def fX0_hasBill (w : HW) (k0 : Nat) (x1 : Int32) : Option Int32 :=
  if ¬ x1 < 0 then
    if x1 < gI w k0 10 then
      some 1
    else
    some 0
  else
  some 0
/-! SacredHens.bill -/
def fX9_bill (w : HW) (x1 : Int32) (x2 : Int32) : Option Int32 :=
  lT (gR w 0 10) fun j_1 =>
  if isC j_1 = true then
    bI (fX0_hasBill w j_1 x1) fun r_2 =>
    if r_2 = 0 then
      some (-2)
    else
    if x2 = 0 then
      lT (gR w 0 10) fun j_6 =>
      if isC j_6 = true then
        if inB x1 8 = true then
          some (gI w (j_6 + 4) (ix x1))
        else none
      else none
    else
    if x2 = 1 then
      lT (gR w 0 10) fun j_9 =>
      if isC j_9 = true then
        if inB x1 8 = true then
          some (gI w (j_9 + 5) (ix x1))
        else none
      else none
    else
    if x2 = 2 then
      lT (gR w 0 10) fun j_12 =>
      if isC j_12 = true then
        if inB x1 8 = true then
          some (gI w (j_12 + 6) (ix x1))
        else none
      else none
    else
    some (-2)
  else none
/-! SacredHens$Camp.isTold -/
def fX0_isTold (w : HW) (k0 : Nat) : Option Int32 :=
  if 0 < gI w k0 0 then
    some 1
  else
  some 0
/-! SacredHens.marks -/
def fX9_marks (w : HW) : Option Int32 :=
  lT (gR w 0 10) fun j_1 =>
  if isC j_1 = true then
    bI (fX0_isTold w j_1) fun r_2 =>
    if ¬ r_2 = 0 then
      lT (gR w 0 10) fun j_5 =>
      if isC j_5 = true then
        some (gI w j_5 5)
      else none
    else
    some (-2)
  else none
/-! SacredHens.isChoice -/
def fX9_isChoice (w : HW) (x0 : Int32) : Option Int32 :=
  if ¬ x0 = 0 then
    if x0 = 1 then
      some 1
    else
    some 0
  else
  some 1
/-! SacredHens$Camp.hasSide -/
def fX0_hasSide (w : HW) (k0 : Nat) (x1 : Int32) : Option Int32 :=
  bI (fX0_isTold w k0) fun r_1 =>
  if ¬ r_1 = 0 then
    bI (fX9_isChoice w x1) fun r_4 =>
    if ¬ r_4 = 0 then
      some 1
    else
    some 0
  else
  some 0
/-! SacredHens$Camp.augursOf -/
def fX0_augursOf_4 (w : HW) (k0 : Nat) (x1 : Int32) : Nat → Int32 → Int32 → Option Int32
  | 0, _, _ => none
  | n + 1, x2, x3 =>
    if x3 < gI w k0 6 then
      if inB x3 8 = true then
        if gI w (k0 + 1) (ix x3) = x1 then
          lT (x2 ||| (iSl 1 x3)) fun x2_4 =>
          fX0_augursOf_4 w k0 x1 n x2_4 (x3 + 1)
        else
        fX0_augursOf_4 w k0 x1 n x2 (x3 + 1)
      else none
    else
    some x2
def fX0_augursOf (w : HW) (k0 : Nat) (x1 : Int32) : Option Int32 :=
  fX0_augursOf_4 w k0 x1 FU 0 0
/-! SacredHens.holds -/
def fX9_holds (w : HW) (x0 : Int32) (x1 : Int32) : Option Int32 :=
  if ¬ (iSr x0 x1) &&& 1 = 0 then
    some 1
  else
  some 0
/-! SacredHens$Camp.daysOfAugur -/
def fX0_daysOfAugur (w : HW) (k0 : Nat) (x1 : Int32) : Option Int32 :=
  if inB x1 8 = true then
    if inB x1 8 = true then
      some ((iSl 2 (gI w (k0 + 3) (ix x1))) - (iSl 1 (gI w (k0 + 2) (ix x1))))
    else none
  else none
/-! SacredHens$Camp.skyOf -/
def fX0_skyOf_4 (w : HW) (k0 : Nat) (x1 : Int32) : Nat → Int32 → Int32 → Option Int32
  | 0, _, _ => none
  | n + 1, x2, x3 =>
    if x3 < gI w k0 6 then
      bI (fX9_holds w x1 x3) fun r_2 =>
      if ¬ r_2 = 0 then
        bI (fX0_daysOfAugur w k0 x3) fun r_5 =>
        lT (x2 ||| r_5) fun x2_7 =>
        fX0_skyOf_4 w k0 x1 n x2_7 (x3 + 1)
      else
      fX0_skyOf_4 w k0 x1 n x2 (x3 + 1)
    else
    some x2
def fX0_skyOf (w : HW) (k0 : Nat) (x1 : Int32) : Option Int32 :=
  fX0_skyOf_4 w k0 x1 FU 0 0
/-! SacredHens.sky -/
def fX9_sky (w : HW) (x1 : Int32) : Option Int32 :=
  lT (gR w 0 10) fun j_1 =>
  if isC j_1 = true then
    bI (fX0_hasSide w j_1 x1) fun r_2 =>
    if ¬ r_2 = 0 then
      lT (gR w 0 10) fun j_5 =>
      if isC j_5 = true then
        lT (gR w 0 10) fun j_6 =>
        if isC j_6 = true then
          bI (fX0_augursOf w j_6 x1) fun r_7 =>
          bI (fX0_skyOf w j_5 r_7) fun r_9 =>
          some r_9
        else none
      else none
    else
    some (-2)
  else none
/-! SacredHens$Camp.hasDay -/
def fX0_hasDay (w : HW) (k0 : Nat) (x1 : Int32) : Option Int32 :=
  if ¬ x1 < 0 then
    if x1 < gI w k0 1 then
      some 1
    else
    some 0
  else
  some 0
/-! SacredHens$Camp.augursOn -/
def fX0_augursOn_4 (w : HW) (k0 : Nat) (x1 : Int32) : Nat → Int32 → Int32 → Option Int32
  | 0, _, _ => none
  | n + 1, x2, x3 =>
    if x3 < gI w k0 6 then
      bI (fX0_daysOfAugur w k0 x3) fun r_2 =>
      bI (fX9_holds w r_2 x1) fun r_4 =>
      if ¬ r_4 = 0 then
        lT (x2 ||| (iSl 1 x3)) fun x2_7 =>
        fX0_augursOn_4 w k0 x1 n x2_7 (x3 + 1)
      else
      fX0_augursOn_4 w k0 x1 n x2 (x3 + 1)
    else
    some x2
def fX0_augursOn (w : HW) (k0 : Nat) (x1 : Int32) : Option Int32 :=
  fX0_augursOn_4 w k0 x1 FU 0 0
/-! SacredHens.watch -/
def fX9_watch (w : HW) (x1 : Int32) : Option Int32 :=
  lT (gR w 0 10) fun j_1 =>
  if isC j_1 = true then
    bI (fX0_hasDay w j_1 x1) fun r_2 =>
    if ¬ r_2 = 0 then
      lT (gR w 0 10) fun j_5 =>
      if isC j_5 = true then
        bI (fX0_augursOn w j_5 x1) fun r_6 =>
        some r_6
      else none
    else
    some (-2)
  else none
/-! SacredHens$Camp.allDays -/
def fX0_allDays (w : HW) (k0 : Nat) : Option Int32 :=
  some ((iSl 1 (gI w k0 1)) - 1)
/-! SacredHens$Camp.clearDays -/
def fX0_clearDays (w : HW) (k0 : Nat) (x1 : Int32) : Option Int32 :=
  bI (fX0_allDays w k0) fun r_1 =>
  bI (fX0_augursOf w k0 (1 - x1)) fun r_3 =>
  bI (fX0_skyOf w k0 r_3) fun r_5 =>
  some ((r_1 &&& ((gI w k0 5) ^^^ (-1))) &&& (r_5 ^^^ (-1)))
/-! SacredHens$Season.layOut -/
def fX6_layOut_86 (k1 : Nat) : Nat → HW → Int32 → Option HW
  | 0, _, _ => none
  | n + 1, w, x2 =>
    if x2 < gI w k1 14 then
      if inB x2 20 = true then
        lT (gI w (k1 + 8) (ix x2)) fun x3_22 =>
        if inB x2 20 = true then
          if x3_22 = (-1) then
            if inB (gI w (k1 + 7) (ix x2)) 14 = true then
              lT (uI w 9 (ix (gI w (k1 + 7) (ix x2))) (-1)) fun w_26 =>
              fX6_layOut_86 k1 n w_26 (x2 + 1)
            else none
          else
          if inB (gI w (k1 + 7) (ix x2)) 14 = true then
            lT (uI w 9 (ix (gI w (k1 + 7) (ix x2))) x3_22) fun w_28 =>
            fX6_layOut_86 k1 n w_28 (x2 + 1)
          else none
        else none
      else none
    else
    some w
def fX6_layOut_51 (k1 : Nat) : Nat → HW → Int32 → Option HW
  | 0, _, _ => none
  | n + 1, w, x2 =>
    if x2 < 8 then
      if inB x2 8 = true then
        lT (uI w 6 (ix x2) (-1)) fun w_15 =>
        if inB x2 8 = true then
          lT (uI w_15 7 (ix x2) (-1)) fun w_17 =>
          if inB x2 8 = true then
            lT (uI w_17 8 (ix x2) (-1)) fun w_19 =>
            fX6_layOut_51 k1 n w_19 (x2 + 1)
          else none
        else none
      else none
    else
    fX6_layOut_86 k1 FU w 0
def fX6_layOut_29 (k1 : Nat) : Nat → HW → Int32 → Option HW
  | 0, _, _ => none
  | n + 1, w, x2 =>
    if x2 < 14 then
      if inB x2 14 = true then
        lT (uI w 9 (ix x2) (-2)) fun w_12 =>
        fX6_layOut_29 k1 n w_12 (x2 + 1)
      else none
    else
    fX6_layOut_51 k1 FU w 0
def fX6_layOut (w : HW) (k1 : Nat) : Option HW :=
  lT (uI w 4 4 0) fun w_1 =>
  bI (fX0_clearDays w_1 k1 0) fun r_2 =>
  if inB 0 2 = true then
    lT (uI w_1 10 (ix 0) r_2) fun w_5 =>
    bI (fX0_clearDays w_5 k1 1) fun r_6 =>
    if inB 1 2 = true then
      lT (uI w_5 10 (ix 1) r_6) fun w_9 =>
      fX6_layOut_29 k1 FU w_9 0
    else none
  else none
/-! SacredHens$Season.nextDraw -/
def fX6_nextDraw (w : HW) : Option (Int32 × HW) :=
  lT (uI w 4 4 ((gI w 4 4) + 1)) fun w_1 =>
  lT (uL w_1 4 7 (lRm ((1103515245 * (gL w_1 4 7)) + 12345) 2147483648)) fun w_2 =>
  some ((lRm ((gL w_2 4 7) / 65536) 10).toInt32, w_2)
/-! SacredHens$Season.hasPassedAhead -/
def fX6_hasPassedAhead (w : HW) (x1 : Int32) (x2 : Int32) : Option Int32 :=
  if ¬ x1 = (-1) then
    if inB x1 8 = true then
      if ¬ gI w 7 (ix x1) = (-1) then
        if inB x1 8 = true then
          if gI w 7 (ix x1) < x2 then
            some 1
          else
          some 0
        else none
      else
      some 0
    else none
  else
  some 1
/-! SacredHens$Season.whyNot -/
def fX6_whyNot (w : HW) (k1 : Nat) (x2 : Int32) (x3 : Int32) (x4 : Int32) : Option Int32 :=
  if x4 = 0 then
    some 1
  else
  bI (fX9_holds w (gI w k1 5) x3) fun r_2 =>
  if ¬ r_2 = 0 then
    some 2
  else
  if inB x2 8 = true then
    if inB (gI w (k1 + 4) (ix x2)) 2 = true then
      bI (fX9_holds w (gI w 10 (ix (gI w (k1 + 4) (ix x2)))) x3) fun r_7 =>
      if r_7 = 0 then
        some 3
      else
      if inB x2 8 = true then
        bI (fX6_hasPassedAhead w (gI w (k1 + 6) (ix x2)) x3) fun r_11 =>
        if ¬ r_11 = 0 then
          some 0
        else
        some 4
      else none
    else none
  else none
/-! SacredHens$Season.settle -/
def fX6_settle (w : HW) (k1 : Nat) (x2 : Int32) (x3 : Int32) (x4 : Int32) : Option HW :=
  if inB x2 8 = true then
    lT (uI w 6 (ix x2) x3) fun w_2 =>
    bI (fX6_whyNot w_2 k1 x2 x3 x4) fun r_3 =>
    if inB x2 8 = true then
      lT (uI w_2 8 (ix x2) r_3) fun w_6 =>
      if inB x2 8 = true then
        if gI w_6 8 (ix x2) = 0 then
          if inB x2 8 = true then
            lT (uI w_6 7 (ix x2) x3) fun w_10 =>
            some w_10
          else none
        else
        some w_6
      else none
    else none
  else none
/-! SacredHens$Season.live -/
def fX6_live_97 (w : HW) (K8 : HW → Int32 → Int32 → Option HW) (k1 : Nat) (x2 : Int32) (x3 : Int32) (x4 : Int32) (x5 : Int32) : Option HW :=
  if x5 = (-2) then
    lT (x3 + 1) fun x3_25 =>
    K8 w x3_25 (x4 + 1)
  else
  K8 w 1 (x4 + 1)
def fX6_live_57 (w : HW) (K8 : HW → Int32 → Int32 → Option HW) (k1 : Nat) (x2 : Int32) (x3 : Int32) (x4 : Int32) (x5 : Int32) (s0 : Int32) : Option HW :=
  if ¬ s0 = 0 then
    if ¬ x2 = 0 then
      bW (fX6_nextDraw w) fun r_13 w_14 =>
      if r_13 < gI w_14 k1 4 then
        bI (fX6_settle w_14 k1 x5 x4 1) fun w_17 =>
        fX6_live_97 w_17 K8 k1 x2 x3 x4 x5
      else
      bI (fX6_settle w_14 k1 x5 x4 0) fun w_19 =>
      fX6_live_97 w_19 K8 k1 x2 x3 x4 x5
    else
    bI (fX6_settle w k1 x5 x4 s0) fun w_21 =>
    fX6_live_97 w_21 K8 k1 x2 x3 x4 x5
  else
  bI (fX6_settle w k1 x5 x4 s0) fun w_23 =>
  fX6_live_97 w_23 K8 k1 x2 x3 x4 x5
def fX6_live_13 (k1 : Nat) (x2 : Int32) : Nat → HW → Int32 → Int32 → Option HW
  | 0, _, _, _ => none
  | n + 1, w, x3, x4 =>
    if x4 < gI w k1 1 then
      if inB x4 14 = true then
        lT (uI w 5 (ix x4) x3) fun w_6 =>
        if inB x4 14 = true then
          lT (gI w_6 9 (ix x4)) fun x5_8 =>
          if ¬ x5_8 < 0 then
            if ¬ x3 < gI w_6 k1 3 then
              fX6_live_57 w_6 (fun w x3 x4 => fX6_live_13 k1 x2 n w x3 x4) k1 x2 x3 x4 x5_8 1
            else
            fX6_live_57 w_6 (fun w x3 x4 => fX6_live_13 k1 x2 n w x3 x4) k1 x2 x3 x4 x5_8 0
          else
          fX6_live_97 w_6 (fun w x3 x4 => fX6_live_13 k1 x2 n w x3 x4) k1 x2 x3 x4 x5_8
        else none
      else none
    else
    some w
def fX6_live (w : HW) (k1 : Nat) (x2 : Int32) : Option HW :=
  bI (fX6_layOut w k1) fun w_2 =>
  lT (gI w_2 k1 2) fun x3_3 =>
  fX6_live_13 k1 x2 FU w_2 x3_3 0
/-! SacredHens$Season.play -/
def fX6_play (w : HW) (k1 : Nat) : Option HW :=
  bI (fX6_live w k1 0) fun w_2 =>
  some w_2
/-! SacredHens.hunger -/
def fX9_hunger (w : HW) (x1 : Int32) : Option (Int32 × HW) :=
  lT (gR w 0 10) fun j_1 =>
  if isC j_1 = true then
    bI (fX0_hasDay w j_1 x1) fun r_2 =>
    if r_2 = 0 then
      some ((-2), w)
    else
    lT (gR w 0 10) fun j_5 =>
    if isC j_5 = true then
      bI (fX6_play w j_5) fun w_7 =>
      if inB x1 14 = true then
        some (gI w_7 5 (ix x1), w_7)
      else none
    else none
  else none
/-! SacredHens.eat -/
def fX9_eat_28 : Nat → HW → Int32 → Int32 → Option (Int32 × HW)
  | 0, _, _, _ => none
  | n + 1, w, x1, x2 =>
    lT (gR w 0 10) fun j_8 =>
    if isC j_8 = true then
      if x2 < gI w j_8 1 then
        if inB x2 14 = true then
          lT (gR w 0 10) fun j_11 =>
          if isC j_11 = true then
            if ¬ gI w 5 (ix x2) < gI w j_11 3 then
              lT (x1 ||| (iSl 1 x2)) fun x1_13 =>
              fX9_eat_28 n w x1_13 (x2 + 1)
            else
            fX9_eat_28 n w x1 (x2 + 1)
          else none
        else none
      else
      some (x1, w)
    else none
def fX9_eat (w : HW) : Option (Int32 × HW) :=
  lT (gR w 0 10) fun j_1 =>
  if isC j_1 = true then
    bI (fX0_isTold w j_1) fun r_2 =>
    if r_2 = 0 then
      some ((-2), w)
    else
    lT (gR w 0 10) fun j_5 =>
    if isC j_5 = true then
      bI (fX6_play w j_5) fun w_7 =>
      fX9_eat_28 FU w_7 0 0
    else none
  else none
/-! SacredHens$Season.couldPass -/
def fX6_couldPass_25 (w : HW) (k1 : Nat) (x2 : Int32) (x3 : Int32) (s0 : Int32) : Option Int32 :=
  if s0 = 0 then
    if inB x3 14 = true then
      if ¬ gI w 5 (ix x3) < gI w k1 3 then
        bI (fX6_whyNot w k1 x2 x3 1) fun r_8 =>
        if r_8 = 0 then
          some 1
        else
        some 0
      else
      bI (fX6_whyNot w k1 x2 x3 0) fun r_11 =>
      if r_11 = 0 then
        some 1
      else
      some 0
    else none
  else
  some 0
def fX6_couldPass (w : HW) (k1 : Nat) (x2 : Int32) (x3 : Int32) : Option Int32 :=
  if inB x2 8 = true then
    if ¬ gI w 6 (ix x2) = (-1) then
      if inB x2 8 = true then
        if ¬ gI w 6 (ix x2) = x3 then
          fX6_couldPass_25 w k1 x2 x3 1
        else
        fX6_couldPass_25 w k1 x2 x3 0
      else none
    else
    fX6_couldPass_25 w k1 x2 x3 0
  else none
/-! SacredHens.open -/
def fX9_open_43 (K16 : HW → Int32 → Int32 → Option (Int32 × HW)) (x1 : Int32) (x3 : Int32) : Nat → HW → Int32 → Int32 → Option (Int32 × HW)
  | 0, _, _, _ => none
  | n + 1, w, x2, x4 =>
    lT (gR w 0 10) fun j_10 =>
    if isC j_10 = true then
      if x4 < gI w j_10 10 then
        lT (gR w 0 10) fun j_12 =>
        if isC j_12 = true then
          if inB x4 8 = true then
            if gI w (j_12 + 4) (ix x4) = x1 then
              lT (gR w 0 10) fun j_15 =>
              if isC j_15 = true then
                bI (fX6_couldPass w j_15 x4 x3) fun r_16 =>
                if ¬ r_16 = 0 then
                  lT (x2 ||| (iSl 1 x3)) fun x2_19 =>
                  fX9_open_43 K16 x1 x3 n w x2_19 (x4 + 1)
                else
                fX9_open_43 K16 x1 x3 n w x2 (x4 + 1)
              else none
            else
            fX9_open_43 K16 x1 x3 n w x2 (x4 + 1)
          else none
        else none
      else
      K16 w x2 (x3 + 1)
    else none
def fX9_open_29 (x1 : Int32) : Nat → HW → Int32 → Int32 → Option (Int32 × HW)
  | 0, _, _, _ => none
  | n + 1, w, x2, x3 =>
    lT (gR w 0 10) fun j_8 =>
    if isC j_8 = true then
      if x3 < gI w j_8 1 then
        fX9_open_43 (fun w x2 x3 => fX9_open_29 x1 n w x2 x3) x1 x3 FU w x2 0
      else
      some (x2, w)
    else none
def fX9_open (w : HW) (x1 : Int32) : Option (Int32 × HW) :=
  lT (gR w 0 10) fun j_1 =>
  if isC j_1 = true then
    bI (fX0_hasSide w j_1 x1) fun r_2 =>
    if r_2 = 0 then
      some ((-2), w)
    else
    lT (gR w 0 10) fun j_5 =>
    if isC j_5 = true then
      bI (fX6_play w j_5) fun w_7 =>
      fX9_open_29 x1 FU w_7 0 0
    else none
  else none
/-! SacredHens.best -/
def fX9_best_32 (x1 : Int32) : Nat → HW → Int32 → Int32 → Int32 → Option (Int32 × HW)
  | 0, _, _, _, _ => none
  | n + 1, w, x2, x3, x4 =>
    lT (gR w 0 10) fun j_8 =>
    if isC j_8 = true then
      if x4 < gI w j_8 10 then
        lT (gR w 0 10) fun j_10 =>
        if isC j_10 = true then
          if inB x4 8 = true then
            if x3 < gI w (j_10 + 5) (ix x4) then
              lT (gR w 0 10) fun j_13 =>
              if isC j_13 = true then
                bI (fX6_couldPass w j_13 x4 x1) fun r_14 =>
                if ¬ r_14 = 0 then
                  lT (gR w 0 10) fun j_17 =>
                  if isC j_17 = true then
                    if inB x4 8 = true then
                      lT (gI w (j_17 + 5) (ix x4)) fun x3_19 =>
                      fX9_best_32 x1 n w x4 x3_19 (x4 + 1)
                    else none
                  else none
                else
                fX9_best_32 x1 n w x2 x3 (x4 + 1)
              else none
            else
            fX9_best_32 x1 n w x2 x3 (x4 + 1)
          else none
        else none
      else
      some (x2, w)
    else none
def fX9_best (w : HW) (x1 : Int32) : Option (Int32 × HW) :=
  lT (gR w 0 10) fun j_1 =>
  if isC j_1 = true then
    bI (fX0_hasDay w j_1 x1) fun r_2 =>
    if r_2 = 0 then
      some ((-2), w)
    else
    lT (gR w 0 10) fun j_5 =>
    if isC j_5 = true then
      bI (fX6_play w j_5) fun w_7 =>
      fX9_best_32 x1 FU w_7 (-1) (-1) 0
    else none
  else none
/-! SacredHens$Camp.askedDays -/
def fX0_askedDays_4 (w : HW) (k0 : Nat) : Nat → Int32 → Int32 → Option Int32
  | 0, _, _ => none
  | n + 1, x1, x2 =>
    if x2 < gI w k0 14 then
      if inB x2 20 = true then
        if ¬ gI w (k0 + 8) (ix x2) = (-1) then
          if inB x2 20 = true then
            lT (x1 ||| (iSl 1 (gI w (k0 + 7) (ix x2)))) fun x1_5 =>
            fX0_askedDays_4 w k0 n x1_5 (x2 + 1)
          else none
        else
        fX0_askedDays_4 w k0 n x1 (x2 + 1)
      else none
    else
    some x1
def fX0_askedDays (w : HW) (k0 : Nat) : Option Int32 :=
  fX0_askedDays_4 w k0 FU 0 0
/-! SacredHens.asked -/
def fX9_asked (w : HW) : Option Int32 :=
  lT (gR w 0 10) fun j_1 =>
  if isC j_1 = true then
    bI (fX0_isTold w j_1) fun r_2 =>
    if ¬ r_2 = 0 then
      lT (gR w 0 10) fun j_5 =>
      if isC j_5 = true then
        bI (fX0_askedDays w j_5) fun r_6 =>
        some r_6
      else none
    else
    some (-2)
  else none
/-! SacredHens$Camp.fedDays -/
def fX0_fedDays_4 (w : HW) (k0 : Nat) : Nat → Int32 → Int32 → Option Int32
  | 0, _, _ => none
  | n + 1, x1, x2 =>
    if x2 < gI w k0 14 then
      if inB x2 20 = true then
        if gI w (k0 + 8) (ix x2) = (-1) then
          if inB x2 20 = true then
            lT (x1 ||| (iSl 1 (gI w (k0 + 7) (ix x2)))) fun x1_5 =>
            fX0_fedDays_4 w k0 n x1_5 (x2 + 1)
          else none
        else
        fX0_fedDays_4 w k0 n x1 (x2 + 1)
      else none
    else
    some x1
def fX0_fedDays (w : HW) (k0 : Nat) : Option Int32 :=
  fX0_fedDays_4 w k0 FU 0 0
/-! SacredHens.fattened -/
def fX9_fattened (w : HW) : Option Int32 :=
  lT (gR w 0 10) fun j_1 =>
  if isC j_1 = true then
    bI (fX0_isTold w j_1) fun r_2 =>
    if ¬ r_2 = 0 then
      lT (gR w 0 10) fun j_5 =>
      if isC j_5 = true then
        bI (fX0_fedDays w j_5) fun r_6 =>
        some r_6
      else none
    else
    some (-2)
  else none
/-! SacredHens.longestRun -/
def fX9_longestRun_6 (w : HW) (x0 : Int32) : Nat → Int32 → Int32 → Int32 → Option Int32
  | 0, _, _, _ => none
  | n + 1, x1, x2, x3 =>
    if x3 < 14 then
      bI (fX9_holds w x0 x3) fun r_2 =>
      if ¬ r_2 = 0 then
        lT (x2 + 1) fun x2_5 =>
        lT (iMx x1 x2_5) fun x1_6 =>
        fX9_longestRun_6 w x0 n x1_6 x2_5 (x3 + 1)
      else
      lT (iMx x1 0) fun x1_7 =>
      fX9_longestRun_6 w x0 n x1_7 0 (x3 + 1)
    else
    some x1
def fX9_longestRun (w : HW) (x0 : Int32) : Option Int32 :=
  fX9_longestRun_6 w x0 FU 0 0 0
/-! SacredHens.fast -/
def fX9_fast (w : HW) : Option Int32 :=
  lT (gR w 0 10) fun j_1 =>
  if isC j_1 = true then
    bI (fX0_isTold w j_1) fun r_2 =>
    if r_2 = 0 then
      some (-2)
    else
    lT (gR w 0 10) fun j_5 =>
    if isC j_5 = true then
      bI (fX0_allDays w j_5) fun r_6 =>
      lT (gR w 0 10) fun j_8 =>
      if isC j_8 = true then
        bI (fX0_askedDays w j_8) fun r_9 =>
        lT (gR w 0 10) fun j_11 =>
        if isC j_11 = true then
          bI (fX0_fedDays w j_11) fun r_12 =>
          bI (fX9_longestRun w ((r_6 &&& (r_9 ^^^ (-1))) &&& (r_12 ^^^ (-1)))) fun r_14 =>
          some r_14
        else none
      else none
    else none
  else none
/-! SacredHens$Season.lastActAhead -/
def fX6_lastActAhead_4 (w : HW) : Nat → Int32 → Option Int32
  | 0, _ => none
  | n + 1, x2 =>
    if ¬ x2 < 0 then
      if inB x2 14 = true then
        if ¬ gI w 9 (ix x2) = (-2) then
          some x2
        else
        fX6_lastActAhead_4 w n (x2 + (-1))
      else none
    else
    some (-1)
def fX6_lastActAhead (w : HW) (x1 : Int32) : Option Int32 :=
  lT (x1 - 1) fun x2_1 =>
  fX6_lastActAhead_4 w FU x2_1
/-! SacredHens.first -/
def fX9_first (w : HW) (x1 : Int32) : Option (Int32 × HW) :=
  lT (gR w 0 10) fun j_1 =>
  if isC j_1 = true then
    bI (fX0_hasDay w j_1 x1) fun r_2 =>
    if r_2 = 0 then
      some ((-2), w)
    else
    lT (gR w 0 10) fun j_5 =>
    if isC j_5 = true then
      bI (fX6_play w j_5) fun w_7 =>
      bI (fX6_lastActAhead w_7 x1) fun r_8 =>
      if r_8 = (-1) then
        lT (gR w_7 0 10) fun j_11 =>
        if isC j_11 = true then
          some (iMx 0 ((gI w_7 j_11 3) - x1), w_7)
        else none
      else
      lT (gR w_7 0 10) fun j_12 =>
      if isC j_12 = true then
        if ¬ x1 - r_8 < gI w_7 j_12 3 then
          some (0, w_7)
        else
        some ((-1), w_7)
      else none
    else none
  else none
/-! SacredHens$Season.passingOn -/
def fX6_passingOn_2 (w : HW) (k1 : Nat) (x2 : Int32) : Nat → Int32 → Option Int32
  | 0, _ => none
  | n + 1, x3 =>
    if x3 < gI w k1 10 then
      if inB x3 8 = true then
        if gI w 7 (ix x3) = x2 then
          some x3
        else
        fX6_passingOn_2 w k1 x2 n (x3 + 1)
      else none
    else
    some (-1)
def fX6_passingOn (w : HW) (k1 : Nat) (x2 : Int32) : Option Int32 :=
  fX6_passingOn_2 w k1 x2 FU 0
/-! SacredHens.passed -/
def fX9_passed (w : HW) (x1 : Int32) : Option (Int32 × HW) :=
  lT (gR w 0 10) fun j_1 =>
  if isC j_1 = true then
    bI (fX0_hasDay w j_1 x1) fun r_2 =>
    if r_2 = 0 then
      some ((-2), w)
    else
    lT (gR w 0 10) fun j_5 =>
    if isC j_5 = true then
      bI (fX6_play w j_5) fun w_7 =>
      lT (gR w_7 0 10) fun j_8 =>
      if isC j_8 = true then
        bI (fX6_passingOn w_7 j_8 x1) fun r_9 =>
        some (r_9, w_7)
      else none
    else none
  else none
/-! SacredHens.when -/
def fX9_when (w : HW) (x1 : Int32) : Option (Int32 × HW) :=
  lT (gR w 0 10) fun j_1 =>
  if isC j_1 = true then
    bI (fX0_hasBill w j_1 x1) fun r_2 =>
    if r_2 = 0 then
      some ((-2), w)
    else
    lT (gR w 0 10) fun j_5 =>
    if isC j_5 = true then
      bI (fX6_play w j_5) fun w_7 =>
      if inB x1 8 = true then
        some (gI w_7 7 (ix x1), w_7)
      else none
    else none
  else none
/-! SacredHens.why -/
def fX9_why (w : HW) (x1 : Int32) : Option (Int32 × HW) :=
  lT (gR w 0 10) fun j_1 =>
  if isC j_1 = true then
    bI (fX0_hasBill w j_1 x1) fun r_2 =>
    if r_2 = 0 then
      some ((-2), w)
    else
    lT (gR w 0 10) fun j_5 =>
    if isC j_5 = true then
      bI (fX6_play w j_5) fun w_7 =>
      if inB x1 8 = true then
        some (gI w_7 8 (ix x1), w_7)
      else none
    else none
  else none
/-! SacredHens$Season.passing -/
def fX6_passing_4 (w : HW) (k1 : Nat) : Nat → Int32 → Int32 → Option Int32
  | 0, _, _ => none
  | n + 1, x2, x3 =>
    if x3 < gI w k1 10 then
      if inB x3 8 = true then
        if ¬ gI w 7 (ix x3) = (-1) then
          lT (x2 ||| (iSl 1 x3)) fun x2_4 =>
          fX6_passing_4 w k1 n x2_4 (x3 + 1)
        else
        fX6_passing_4 w k1 n x2 (x3 + 1)
      else none
    else
    some x2
def fX6_passing (w : HW) (k1 : Nat) : Option Int32 :=
  fX6_passing_4 w k1 FU 0 0
/-! SacredHens$Camp.billsOf -/
def fX0_billsOf_4 (w : HW) (k0 : Nat) (x1 : Int32) : Nat → Int32 → Int32 → Option Int32
  | 0, _, _ => none
  | n + 1, x2, x3 =>
    if x3 < gI w k0 10 then
      if inB x3 8 = true then
        if gI w (k0 + 4) (ix x3) = x1 then
          lT (x2 ||| (iSl 1 x3)) fun x2_4 =>
          fX0_billsOf_4 w k0 x1 n x2_4 (x3 + 1)
        else
        fX0_billsOf_4 w k0 x1 n x2 (x3 + 1)
      else none
    else
    some x2
def fX0_billsOf (w : HW) (k0 : Nat) (x1 : Int32) : Option Int32 :=
  fX0_billsOf_4 w k0 x1 FU 0 0
/-! SacredHens$Camp.worthOf -/
def fX0_worthOf_4 (w : HW) (k0 : Nat) (x1 : Int32) : Nat → Int32 → Int32 → Option Int32
  | 0, _, _ => none
  | n + 1, x2, x3 =>
    if x3 < gI w k0 10 then
      bI (fX9_holds w x1 x3) fun r_2 =>
      if ¬ r_2 = 0 then
        if inB x3 8 = true then
          lT (x2 + (gI w (k0 + 5) (ix x3))) fun x2_6 =>
          fX0_worthOf_4 w k0 x1 n x2_6 (x3 + 1)
        else none
      else
      fX0_worthOf_4 w k0 x1 n x2 (x3 + 1)
    else
    some x2
def fX0_worthOf (w : HW) (k0 : Nat) (x1 : Int32) : Option Int32 :=
  fX0_worthOf_4 w k0 x1 FU 0 0
/-! SacredHens.worth -/
def fX9_worth (w : HW) (x1 : Int32) : Option (Int32 × HW) :=
  lT (gR w 0 10) fun j_1 =>
  if isC j_1 = true then
    bI (fX0_hasSide w j_1 x1) fun r_2 =>
    if r_2 = 0 then
      some ((-2), w)
    else
    lT (gR w 0 10) fun j_5 =>
    if isC j_5 = true then
      bI (fX6_play w j_5) fun w_7 =>
      lT (gR w_7 0 10) fun j_8 =>
      if isC j_8 = true then
        lT (gR w_7 0 10) fun j_9 =>
        if isC j_9 = true then
          bI (fX6_passing w_7 j_9) fun r_10 =>
          lT (gR w_7 0 10) fun j_12 =>
          if isC j_12 = true then
            bI (fX0_billsOf w_7 j_12 x1) fun r_13 =>
            bI (fX0_worthOf w_7 j_8 (r_10 &&& r_13)) fun r_15 =>
            some (r_15, w_7)
          else none
        else none
      else none
    else none
  else none
/-! SacredHens$Planner.billsByWorth -/
def fX3_billsByWorth_2 (k1 : Nat) : Nat → HW → Int32 → Option HW
  | 0, _, _ => none
  | n + 1, w, x2 =>
    if x2 < gI w k1 10 then
      if inB x2 8 = true then
        if inB x2 8 = true then
          lT (uI w 14 (ix x2) (gI w (k1 + 5) (ix x2))) fun w_4 =>
          fX3_billsByWorth_2 k1 n w_4 (x2 + 1)
        else none
      else none
    else
    some w
def fX3_billsByWorth (w : HW) (k1 : Nat) : Option HW :=
  fX3_billsByWorth_2 k1 FU w 0
/-! SacredHens$Camp.firstHungryDay -/
def fX0_firstHungryDay (w : HW) (k0 : Nat) : Option Int32 :=
  some (iMn (gI w k0 1) (iMx 0 ((gI w k0 3) - (gI w k0 2))))
/-! SacredHens$Planner.openBill -/
def fX3_openBill_2 (x1 : Int32) (x2 : Int32) : Nat → HW → Int32 → Option HW
  | 0, _, _ => none
  | n + 1, w, x3 =>
    if x3 < 14 then
      bI (fX9_holds w x2 x3) fun r_2 =>
      if ¬ r_2 = 0 then
        if inB x3 14 = true then
          if inB x3 14 = true then
            lT (uI w 16 (ix x3) ((gI w 16 (ix x3)) ||| (iSl 1 x1))) fun w_7 =>
            fX3_openBill_2 x1 x2 n w_7 (x3 + 1)
          else none
        else none
      else
      fX3_openBill_2 x1 x2 n w (x3 + 1)
    else
    some w
def fX3_openBill (w : HW) (x1 : Int32) (x2 : Int32) : Option HW :=
  fX3_openBill_2 x1 x2 FU w 0
/-! java/lang/Integer.bitCount -/
def fJ6_bitCount_0f7a4 (w : HW) (x0 : Int32) : Option Int32 :=
  lT (x0 - ((iUr x0 1) &&& 1431655765)) fun x0_1 =>
  lT ((x0_1 &&& 858993459) + ((iUr x0_1 2) &&& 858993459)) fun x0_2 =>
  lT ((x0_2 + (iUr x0_2 4)) &&& 252645135) fun x0_3 =>
  lT (x0_3 + (iUr x0_3 8)) fun x0_4 =>
  lT (x0_4 + (iUr x0_4 16)) fun x0_5 =>
  some (x0_5 &&& 63)
/-! SacredHens$Planner.settle -/
def fX3_settle_172 (w : HW) (x3 : Int32) (x5 : Int32) (x6 : Int32) : Option HW :=
  if inB x3 3840 = true then
    lT (uI w 12 (ix x3) x5) fun w_23 =>
    if inB x3 3840 = true then
      lT (uI w_23 13 (ix x3) x6) fun w_25 =>
      some w_25
    else none
  else none
def fX3_settle_147 (w : HW) (K41 : HW → Int32 → Int32 → Int32 → Option HW) (x2 : Int32) (x3 : Int32) (x4 : Int32) (x5 : Int32) (x6 : Int32) (x7 : Int32) (x8 : Int32) (x9 : Int32) (x10 : Int32) : Option HW :=
  if x10 = x5 then
    if inB x9 3840 = true then
      lT (x6 + (gI w 13 (ix x9))) fun x6_21 =>
      K41 w x5 x6_21 (x8 + 1)
    else none
  else
  K41 w x5 x6 (x8 + 1)
def fX3_settle_66 (x2 : Int32) (x3 : Int32) (x4 : Int32) (x7 : Int32) : Nat → HW → Int32 → Int32 → Int32 → Option HW
  | 0, _, _, _, _ => none
  | n + 1, w, x5, x6, x8 =>
    if x8 < 8 then
      if ¬ x7 = 0 then
        if ¬ (iSr x7 x8) &&& 1 = 0 then
          if inB x8 8 = true then
            if ¬ (gI w 15 (ix x8)) &&& (x2 ^^^ (-1)) = 0 then
              fX3_settle_66 x2 x3 x4 x7 n w x5 x6 (x8 + 1)
            else
            lT (x4 + (x2 ||| (iSl 1 x8))) fun x9_14 =>
            if inB x8 8 = true then
              if inB x9_14 3840 = true then
                lT ((gI w 14 (ix x8)) + (gI w 12 (ix x9_14))) fun x10_17 =>
                if x5 < x10_17 then
                  fX3_settle_147 w (fun w x5 x6 x8 => fX3_settle_66 x2 x3 x4 x7 n w x5 x6 x8) x2 x3 x4 x10_17 0 x7 x8 x9_14 x10_17
                else
                fX3_settle_147 w (fun w x5 x6 x8 => fX3_settle_66 x2 x3 x4 x7 n w x5 x6 x8) x2 x3 x4 x5 x6 x7 x8 x9_14 x10_17
              else none
            else none
          else none
        else
        fX3_settle_66 x2 x3 x4 x7 n w x5 x6 (x8 + 1)
      else
      fX3_settle_172 w x3 x5 x6
    else
    fX3_settle_172 w x3 x5 x6
def fX3_settle (w : HW) (x1 : Int32) (x2 : Int32) : Option HW :=
  lT ((x1 * 256) + x2) fun x3_1 =>
  lT ((iMn (gI w 11 6) (x1 + (gI w 11 7))) * 256) fun x4_2 =>
  if inB (x3_1 + 256) 3840 = true then
    lT (gI w 12 (ix (x3_1 + 256))) fun x5_4 =>
    if inB (x3_1 + 256) 3840 = true then
      lT (gI w 13 (ix (x3_1 + 256))) fun x6_6 =>
      if inB x1 14 = true then
        lT ((gI w 16 (ix x1)) &&& (x2 ^^^ (-1))) fun x7_8 =>
        fX3_settle_66 x2 x3_1 x4_2 x7_8 FU w x5_4 x6_6 0
      else none
    else none
  else none
/-! SacredHens$Planner.goBack -/
def fX3_goBack_64 (K32 : HW → Int32 → Option HW) (x1 : Int32) (x2 : Int32) : Nat → HW → Int32 → Option HW
  | 0, _, _ => none
  | n + 1, w, x3 =>
    if x3 < 256 then
      if x3 &&& x1 = x3 then
        bI (fJ6_bitCount_0f7a4 w x3) fun r_10 =>
        if ¬ x2 - (gI w 11 5) < r_10 * (gI w 11 7) then
          bI (fX3_settle w x2 x3) fun w_14 =>
          fX3_goBack_64 K32 x1 x2 n w_14 (x3 + 1)
        else
        fX3_goBack_64 K32 x1 x2 n w (x3 + 1)
      else
      fX3_goBack_64 K32 x1 x2 n w (x3 + 1)
    else
    K32 w (x2 + (-1))
def fX3_goBack_54 (x1 : Int32) : Nat → HW → Int32 → Option HW
  | 0, _, _ => none
  | n + 1, w, x2 =>
    if ¬ x2 < gI w 11 5 then
      fX3_goBack_64 (fun w x2 => fX3_goBack_54 x1 n w x2) x1 x2 FU w 0
    else
    some w
def fX3_goBack_2 (x1 : Int32) : Nat → HW → Int32 → Option HW
  | 0, _, _ => none
  | n + 1, w, x2 =>
    if x2 < 256 then
      if inB (((gI w 11 6) * 256) + x2) 3840 = true then
        lT (uI w 12 (ix (((gI w 11 6) * 256) + x2)) 0) fun w_3 =>
        if inB (((gI w_3 11 6) * 256) + x2) 3840 = true then
          lT (uI w_3 13 (ix (((gI w_3 11 6) * 256) + x2)) 1) fun w_5 =>
          fX3_goBack_2 x1 n w_5 (x2 + 1)
        else none
      else none
    else
    lT ((gI w 11 6) - 1) fun x2_6 =>
    fX3_goBack_54 x1 FU w x2_6
def fX3_goBack (w : HW) (x1 : Int32) : Option HW :=
  fX3_goBack_2 x1 FU w 0
/-! SacredHens$Planner.solve -/
def fX3_solve_155 (w : HW) (x2 : Int32) : Option (Int32 × HW) :=
  bI (fX3_goBack w x2) fun w_28 =>
  if inB ((gI w_28 11 5) * 256) 3840 = true then
    some (gI w_28 12 (ix ((gI w_28 11 5) * 256)), w_28)
  else none
def fX3_solve_93 (w : HW) (K28 : HW → Int32 → Option (Int32 × HW)) (k1 : Nat) (x2 : Int32) (x3 : Int32) (x4 : Int32) (x5 : Int32) (x6 : Int32) (s0 : Int32) (s1 : Int32) : Option (Int32 × HW) :=
  if inB s1 8 = true then
    lT (uI w 15 (ix s1) s0) fun w_14 =>
    bI (fX9_holds w_14 x2 x6) fun r_15 =>
    if ¬ r_15 = 0 then
      if inB x6 8 = true then
        bI (fX0_augursOf w_14 k1 (1 - (gI w_14 (k1 + 4) (ix x6)))) fun r_19 =>
        bI (fX0_skyOf w_14 k1 (x4 &&& r_19)) fun r_21 =>
        bI (fX0_allDays w_14 k1) fun r_23 =>
        bI (fX3_openBill w_14 x6 (((r_23 &&& (x3 ^^^ (-1))) &&& (r_21 ^^^ (-1))) &&& (x5 ^^^ (-1)))) fun w_26 =>
        K28 w_26 (x6 + 1)
      else none
    else
    K28 w_14 (x6 + 1)
  else none
def fX3_solve_55 (k1 : Nat) (x2 : Int32) (x3 : Int32) (x4 : Int32) (x5 : Int32) : Nat → HW → Int32 → Option (Int32 × HW)
  | 0, _, _ => none
  | n + 1, w, x6 =>
    if x6 < gI w k1 10 then
      if inB x6 8 = true then
        lT (gI w (k1 + 6) (ix x6)) fun x7_11 =>
        if x7_11 = (-1) then
          fX3_solve_93 w (fun w x6 => fX3_solve_55 k1 x2 x3 x4 x5 n w x6) k1 x2 x3 x4 x5 x6 0 x6
        else
        fX3_solve_93 w (fun w x6 => fX3_solve_55 k1 x2 x3 x4 x5 n w x6) k1 x2 x3 x4 x5 x6 (iSl 1 x7_11) x6
      else none
    else
    fX3_solve_155 w x2
def fX3_solve_31 (k1 : Nat) (x2 : Int32) (x3 : Int32) (x4 : Int32) (x5 : Int32) : Nat → HW → Int32 → Option (Int32 × HW)
  | 0, _, _ => none
  | n + 1, w, x6 =>
    if x6 < 14 then
      if inB x6 14 = true then
        lT (uI w 16 (ix x6) 0) fun w_8 =>
        fX3_solve_31 k1 x2 x3 x4 x5 n w_8 (x6 + 1)
      else none
    else
    fX3_solve_55 k1 x2 x3 x4 x5 FU w 0
def fX3_solve (w : HW) (k1 : Nat) (x2 : Int32) (x3 : Int32) (x4 : Int32) (x5 : Int32) : Option (Int32 × HW) :=
  bI (fX0_firstHungryDay w k1) fun r_1 =>
  lT (uI w 11 5 r_1) fun w_3 =>
  lT (uI w_3 11 6 (gI w_3 k1 1)) fun w_4 =>
  lT (uI w_4 11 7 (iMx 1 (gI w_4 k1 3))) fun w_5 =>
  fX3_solve_31 k1 x2 x3 x4 x5 FU w_5 0
/-! SacredHens.worthOfPlans -/
def fX9_worthOfPlans (w : HW) (x1 : Int32) (x2 : Int32) (x3 : Int32) (x4 : Int32) : Option (Int32 × HW) :=
  lT (gR w 0 10) fun j_1 =>
  if isC j_1 = true then
    bI (fX3_billsByWorth w j_1) fun w_3 =>
    lT (gR w_3 0 10) fun j_4 =>
    if isC j_4 = true then
      bW (fX3_solve w_3 j_4 x1 x2 x3 x4) fun r_5 w_6 =>
      some (r_5, w_6)
    else none
  else none
/-! SacredHens.worthOfPlan -/
def fX9_worthOfPlan (w : HW) (x1 : Int32) : Option (Int32 × HW) :=
  lT (gR w 0 10) fun j_1 =>
  if isC j_1 = true then
    bI (fX0_billsOf w j_1 x1) fun r_2 =>
    lT (gR w 0 10) fun j_4 =>
    if isC j_4 = true then
      bW (fX9_worthOfPlans w r_2 (gI w j_4 5) 255 0) fun r_5 w_6 =>
      some (r_5, w_6)
    else none
  else none
/-! SacredHens.plan -/
def fX9_plan (w : HW) (x1 : Int32) : Option (Int32 × HW) :=
  lT (gR w 0 10) fun j_1 =>
  if isC j_1 = true then
    bI (fX0_hasSide w j_1 x1) fun r_2 =>
    if ¬ r_2 = 0 then
      bW (fX9_worthOfPlan w x1) fun r_5 w_6 =>
      some (r_5, w_6)
    else
    some ((-2), w)
  else none
/-! SacredHens$Planner.firstBill -/
def fX3_firstBill_113 (w : HW) (K48 : Int32 → Option Int32) (x2 : Int32) (x3 : Int32) (x4 : Int32) (x5 : Int32) (x6 : Int32) (s0 : Int32) : Option Int32 :=
  if ¬ s0 = 0 then
    if inB x6 8 = true then
      if inB (x4 + (x2 ||| (iSl 1 x6))) 3840 = true then
        if inB x3 3840 = true then
          if (gI w 14 (ix x6)) + (gI w 12 (ix (x4 + (x2 ||| (iSl 1 x6))))) = gI w 12 (ix x3) then
            some x6
          else
          K48 (x6 + 1)
        else none
      else none
    else none
  else
  K48 (x6 + 1)
def fX3_firstBill_77 (w : HW) (x2 : Int32) (x3 : Int32) (x4 : Int32) (x5 : Int32) : Nat → Int32 → Option Int32
  | 0, _ => none
  | n + 1, x6 =>
    if x6 < 8 then
      bI (fX9_holds w x5 x6) fun r_11 =>
      if ¬ r_11 = 0 then
        if inB x6 8 = true then
          if (gI w 15 (ix x6)) &&& (x2 ^^^ (-1)) = 0 then
            fX3_firstBill_113 w (fun x6 => fX3_firstBill_77 w x2 x3 x4 x5 n x6) x2 x3 x4 x5 x6 1
          else
          fX3_firstBill_113 w (fun x6 => fX3_firstBill_77 w x2 x3 x4 x5 n x6) x2 x3 x4 x5 x6 0
        else none
      else
      fX3_firstBill_113 w (fun x6 => fX3_firstBill_77 w x2 x3 x4 x5 n x6) x2 x3 x4 x5 x6 0
    else
    some (-1)
def fX3_firstBill (w : HW) (x1 : Int32) (x2 : Int32) : Option Int32 :=
  if ¬ x1 < 0 then
    if ¬ x1 < gI w 11 6 then
      some (-1)
    else
    lT ((x1 * 256) + x2) fun x3_3 =>
    if inB (x3_3 + 256) 3840 = true then
      if inB x3_3 3840 = true then
        if gI w 12 (ix (x3_3 + 256)) = gI w 12 (ix x3_3) then
          some (-1)
        else
        lT ((iMn (gI w 11 6) (x1 + (gI w 11 7))) * 256) fun x4_7 =>
        if inB x1 14 = true then
          lT ((gI w 16 (ix x1)) &&& (x2 ^^^ (-1))) fun x5_9 =>
          fX3_firstBill_77 w x2 x3_3 x4_7 x5_9 FU 0
        else none
      else none
    else none
  else
  some (-1)
/-! SacredHens$Planner.billInFirstPlan -/
def fX3_billInFirstPlan_62 (w : HW) (x1 : Int32) (x2 : Int32) (x3 : Int32) : Option Int32 :=
  if x3 = x1 then
    bI (fX3_firstBill w x3 x2) fun r_10 =>
    some r_10
  else
  some (-1)
def fX3_billInFirstPlan_10 (w : HW) (x1 : Int32) : Nat → Int32 → Int32 → Int32 → Option Int32
  | 0, _, _, _ => none
  | n + 1, x2, x3, x4 =>
    if x4 < 14 then
      if x3 < x1 then
        bI (fX3_firstBill w x3 x2) fun r_4 =>
        if r_4 = (-1) then
          fX3_billInFirstPlan_10 w x1 n x2 (x3 + 1) (x4 + 1)
        else
        lT (x2 ||| (iSl 1 r_4)) fun x2_7 =>
        lT (x3 + (gI w 11 7)) fun x3_8 =>
        fX3_billInFirstPlan_10 w x1 n x2_7 x3_8 (x4 + 1)
      else
      fX3_billInFirstPlan_62 w x1 x2 x3
    else
    fX3_billInFirstPlan_62 w x1 x2 x3
def fX3_billInFirstPlan (w : HW) (x1 : Int32) : Option Int32 :=
  lT (gI w 11 5) fun x3_1 =>
  fX3_billInFirstPlan_10 w x1 FU 0 x3_1 0
/-! SacredHens.planned -/
def fX9_planned (w : HW) (x1 : Int32) (x2 : Int32) : Option (Int32 × HW) :=
  lT (gR w 0 10) fun j_1 =>
  if isC j_1 = true then
    bI (fX0_hasSide w j_1 x1) fun r_2 =>
    if ¬ r_2 = 0 then
      lT (gR w 0 10) fun j_5 =>
      if isC j_5 = true then
        bI (fX0_hasDay w j_5 x2) fun r_6 =>
        if r_6 = 0 then
          some ((-2), w)
        else
        bW (fX9_worthOfPlan w x1) fun r_9 w_10 =>
        bI (fX3_billInFirstPlan w_10 x2) fun r_11 =>
        some (r_11, w_10)
      else none
    else
    some ((-2), w)
  else none
/-! SacredHens$Planner.howManyPlans -/
def fX3_howManyPlans (w : HW) : Option Int32 :=
  if inB ((gI w 11 5) * 256) 3840 = true then
    some (gI w 13 (ix ((gI w 11 5) * 256)))
  else none
/-! SacredHens.ways -/
def fX9_ways (w : HW) (x1 : Int32) : Option (Int32 × HW) :=
  lT (gR w 0 10) fun j_1 =>
  if isC j_1 = true then
    bI (fX0_hasSide w j_1 x1) fun r_2 =>
    if r_2 = 0 then
      some ((-2), w)
    else
    bW (fX9_worthOfPlan w x1) fun r_5 w_6 =>
    bI (fX3_howManyPlans w_6) fun r_7 =>
    some (r_7, w_6)
  else none
/-! SacredHens$Planner.billsAlike -/
def fX3_billsAlike_2 (k1 : Nat) : Nat → HW → Int32 → Option HW
  | 0, _, _ => none
  | n + 1, w, x2 =>
    if x2 < gI w k1 10 then
      if inB x2 8 = true then
        lT (uI w 14 (ix x2) 1) fun w_3 =>
        fX3_billsAlike_2 k1 n w_3 (x2 + 1)
      else none
    else
    some w
def fX3_billsAlike (w : HW) (k1 : Nat) : Option HW :=
  fX3_billsAlike_2 k1 FU w 0
/-! SacredHens.many -/
def fX9_many (w : HW) (x1 : Int32) : Option (Int32 × HW) :=
  lT (gR w 0 10) fun j_1 =>
  if isC j_1 = true then
    bI (fX0_hasSide w j_1 x1) fun r_2 =>
    if r_2 = 0 then
      some ((-2), w)
    else
    lT (gR w 0 10) fun j_5 =>
    if isC j_5 = true then
      bI (fX3_billsAlike w j_5) fun w_7 =>
      lT (gR w_7 0 10) fun j_8 =>
      if isC j_8 = true then
        lT (gR w_7 0 10) fun j_9 =>
        if isC j_9 = true then
          bI (fX0_billsOf w_7 j_9 x1) fun r_10 =>
          lT (gR w_7 0 10) fun j_12 =>
          if isC j_12 = true then
            bW (fX3_solve w_7 j_8 r_10 (gI w_7 j_12 5) 255 0) fun r_13 w_14 =>
            some (r_13, w_14)
          else none
        else none
      else none
    else none
  else none
/-! SacredHens$Camp.needsOf -/
def fX0_needsOf_14 (w : HW) (k0 : Nat) : Nat → Int32 → Int32 → Int32 → Option Int32
  | 0, _, _, _ => none
  | n + 1, x2, x3, x4 =>
    if ¬ x4 < 0 then
      if x4 = x3 then
        lT (x2 ||| (iSl 1 x4)) fun x2_6 =>
        if inB x4 8 = true then
          lT (gI w (k0 + 6) (ix x4)) fun x3_8 =>
          fX0_needsOf_14 w k0 n x2_6 x3_8 (x4 + (-1))
        else none
      else
      fX0_needsOf_14 w k0 n x2 x3 (x4 + (-1))
    else
    some x2
def fX0_needsOf (w : HW) (k0 : Nat) (x1 : Int32) : Option Int32 :=
  if inB x1 8 = true then
    lT (gI w (k0 + 6) (ix x1)) fun x3_2 =>
    lT (x1 - 1) fun x4_3 =>
    fX0_needsOf_14 w k0 FU 0 x3_2 x4_3
  else none
/-! SacredHens$Chain.lengthOf -/
def fX1_lengthOf (w : HW) (k1 : Nat) (x2 : Int32) : Option Int32 :=
  bI (fX0_needsOf w k1 x2) fun r_1 =>
  if inB x2 8 = true then
    bI (fX0_billsOf w k1 (gI w (k1 + 4) (ix x2))) fun r_4 =>
    if r_1 &&& r_4 = r_1 then
      bI (fJ6_bitCount_0f7a4 w r_1) fun r_7 =>
      some (r_7 + 1)
    else
    some 0
  else none
/-! SacredHens$Chain.dayOfPass -/
def fX1_dayOfPass_12 (w : HW) (k1 : Nat) (x2 : Int32) (x3 : Int32) : Nat → Int32 → Int32 → Int32 → Option Int32
  | 0, _, _, _ => none
  | n + 1, x4, x5, x6 =>
    if x6 < gI w k1 1 then
      if ¬ x6 < x4 then
        bI (fX9_holds w x2 x6) fun r_5 =>
        if ¬ r_5 = 0 then
          lT (x6 + (gI w k1 3)) fun x4_8 =>
          if x5 + 1 = x3 then
            some x6
          else
          fX1_dayOfPass_12 w k1 x2 x3 n x4_8 (x5 + 1) (x6 + 1)
        else
        fX1_dayOfPass_12 w k1 x2 x3 n x4 x5 (x6 + 1)
      else
      fX1_dayOfPass_12 w k1 x2 x3 n x4 x5 (x6 + 1)
    else
    some (-1)
def fX1_dayOfPass (w : HW) (k1 : Nat) (x2 : Int32) (x3 : Int32) : Option Int32 :=
  bI (fX0_firstHungryDay w k1) fun r_1 =>
  fX1_dayOfPass_12 w k1 x2 x3 FU r_1 0 0
/-! SacredHens$Chain.soonestDay -/
def fX1_soonestDay (w : HW) (k1 : Nat) (x2 : Int32) : Option Int32 :=
  bI (fX1_lengthOf w k1 x2) fun r_1 =>
  if r_1 = 0 then
    some (-1)
  else
  if inB x2 8 = true then
    bI (fX0_clearDays w k1 (gI w (k1 + 4) (ix x2))) fun r_5 =>
    bI (fX1_dayOfPass w k1 r_5 r_1) fun r_7 =>
    some r_7
  else none
/-! SacredHens.soonest -/
def fX9_soonest (w : HW) (x1 : Int32) : Option Int32 :=
  lT (gR w 0 10) fun j_1 =>
  if isC j_1 = true then
    bI (fX0_hasBill w j_1 x1) fun r_2 =>
    if r_2 = 0 then
      some (-2)
    else
    lT (gR w 0 10) fun j_5 =>
    if isC j_5 = true then
      bI (fX1_soonestDay w j_5 x1) fun r_6 =>
      some r_6
    else none
  else none
/-! SacredHens$Chain.latestDay -/
def fX1_latestDay_32 (w : HW) (k1 : Nat) (x4 : Int32) : Nat → Int32 → Int32 → Option Int32
  | 0, _, _ => none
  | n + 1, x5, x6 =>
    if x6 < gI w k1 1 then
      bI (fX9_holds w x4 x6) fun r_8 =>
      if ¬ r_8 = 0 then
        fX1_latestDay_32 w k1 x4 n x6 (x6 + 1)
      else
      fX1_latestDay_32 w k1 x4 n x5 (x6 + 1)
    else
    some x5
def fX1_latestDay (w : HW) (k1 : Nat) (x2 : Int32) : Option Int32 :=
  bI (fX1_soonestDay w k1 x2) fun r_1 =>
  if r_1 = (-1) then
    some (-1)
  else
  if inB x2 8 = true then
    bI (fX0_clearDays w k1 (gI w (k1 + 4) (ix x2))) fun r_5 =>
    fX1_latestDay_32 w k1 r_5 FU r_1 r_1
  else none
/-! SacredHens.latest -/
def fX9_latest (w : HW) (x1 : Int32) : Option Int32 :=
  lT (gR w 0 10) fun j_1 =>
  if isC j_1 = true then
    bI (fX0_hasBill w j_1 x1) fun r_2 =>
    if r_2 = 0 then
      some (-2)
    else
    lT (gR w 0 10) fun j_5 =>
    if isC j_5 = true then
      bI (fX1_latestDay w j_5 x1) fun r_6 =>
      some r_6
    else none
  else none
/-! SacredHens.deepest -/
def fX9_deepest_19 (w : HW) : Nat → Int32 → Int32 → Int32 → Option Int32
  | 0, _, _, _ => none
  | n + 1, x1, x2, x3 =>
    lT (gR w 0 10) fun j_5 =>
    if isC j_5 = true then
      if x3 < gI w j_5 10 then
        lT (gR w 0 10) fun j_7 =>
        if isC j_7 = true then
          bI (fX0_needsOf w j_7 x3) fun r_8 =>
          bI (fJ6_bitCount_0f7a4 w r_8) fun r_10 =>
          if x2 < r_10 then
            fX9_deepest_19 w n x3 r_10 (x3 + 1)
          else
          fX9_deepest_19 w n x1 x2 (x3 + 1)
        else none
      else
      some x1
    else none
def fX9_deepest (w : HW) : Option Int32 :=
  lT (gR w 0 10) fun j_1 =>
  if isC j_1 = true then
    bI (fX0_isTold w j_1) fun r_2 =>
    if r_2 = 0 then
      some (-2)
    else
    fX9_deepest_19 w FU (-1) 0 0
  else none
/-! SacredHens.worthWithout -/
def fX9_worthWithout (w : HW) (x1 : Int32) : Option (Int32 × HW) :=
  lT (gR w 0 10) fun j_1 =>
  if isC j_1 = true then
    lT (gR w 0 10) fun j_2 =>
    if isC j_2 = true then
      if inB x1 8 = true then
        bI (fX0_billsOf w j_1 (gI w (j_2 + 4) (ix x1))) fun r_4 =>
        lT (r_4 &&& ((iSl 1 x1) ^^^ (-1))) fun x2_6 =>
        lT (gR w 0 10) fun j_7 =>
        if isC j_7 = true then
          bW (fX9_worthOfPlans w x2_6 (gI w j_7 5) 255 0) fun r_8 w_9 =>
          some (r_8, w_9)
        else none
      else none
    else none
  else none
/-! SacredHens.without -/
def fX9_without (w : HW) (x1 : Int32) : Option (Int32 × HW) :=
  lT (gR w 0 10) fun j_1 =>
  if isC j_1 = true then
    bI (fX0_hasBill w j_1 x1) fun r_2 =>
    if ¬ r_2 = 0 then
      bW (fX9_worthWithout w x1) fun r_5 w_6 =>
      some (r_5, w_6)
    else
    some ((-2), w)
  else none
/-! SacredHens.value -/
def fX9_value (w : HW) (x1 : Int32) : Option (Int32 × HW) :=
  lT (gR w 0 10) fun j_1 =>
  if isC j_1 = true then
    bI (fX0_hasBill w j_1 x1) fun r_2 =>
    if r_2 = 0 then
      some ((-2), w)
    else
    lT (gR w 0 10) fun j_5 =>
    if isC j_5 = true then
      if inB x1 8 = true then
        bW (fX9_worthOfPlan w (gI w (j_5 + 4) (ix x1))) fun r_7 w_8 =>
        bW (fX9_worthWithout w_8 x1) fun r_9 w_10 =>
        some (r_7 - r_9, w_10)
      else none
    else none
  else none
/-! SacredHens$Camp.allBills -/
def fX0_allBills (w : HW) (k0 : Nat) : Option Int32 :=
  some ((iSl 1 (gI w k0 10)) - 1)
/-! SacredHens.together -/
def fX9_together (w : HW) : Option (Int32 × HW) :=
  lT (gR w 0 10) fun j_1 =>
  if isC j_1 = true then
    bI (fX0_isTold w j_1) fun r_2 =>
    if ¬ r_2 = 0 then
      lT (gR w 0 10) fun j_5 =>
      if isC j_5 = true then
        bI (fX0_allBills w j_5) fun r_6 =>
        lT (gR w 0 10) fun j_8 =>
        if isC j_8 = true then
          bW (fX9_worthOfPlans w r_6 (gI w j_8 5) 255 0) fun r_9 w_10 =>
          some (r_9, w_10)
        else none
      else none
    else
    some ((-2), w)
  else none
/-! SacredHens$Chain.leastCost -/
def fX1_leastCost_185 (w : HW) (k1 : Nat) (x3 : Int32) : Option (Int32 × HW) :=
  bI (fX0_firstHungryDay w k1) fun r_24 =>
  if inB ((x3 * 15) + r_24) 135 = true then
    some (gI w 18 (ix ((x3 * 15) + r_24)), w)
  else none
def fX1_leastCost_161 (w : HW) (K30 : HW → Int32 → Option (Int32 × HW)) (K50 : HW → Int32 → Option (Int32 × HW)) (k1 : Nat) (x3 : Int32) (x4 : Int32) (x5 : Int32) (x6 : Int32) (x7 : Int32) (x8 : Int32) : Option (Int32 × HW) :=
  if inB (x6 + x7) 135 = true then
    lT (uI w 18 (ix (x6 + x7)) x8) fun w_28 =>
    K50 w_28 (x7 + (-1))
  else none
def fX1_leastCost_87 (K30 : HW → Int32 → Option (Int32 × HW)) (k1 : Nat) (x3 : Int32) (x4 : Int32) (x5 : Int32) (x6 : Int32) : Nat → HW → Int32 → Option (Int32 × HW)
  | 0, _, _ => none
  | n + 1, w, x7 =>
    if ¬ x7 < 0 then
      if inB ((x6 + x7) + 1) 135 = true then
        lT (gI w 18 (ix ((x6 + x7) + 1))) fun x8_17 =>
        bI (fX9_holds w x4 x7) fun r_18 =>
        if ¬ r_18 = 0 then
          if inB ((x6 - 15) + (iMn (gI w k1 1) (x7 + (gI w k1 3)))) 135 = true then
            lT (gI w 18 (ix ((x6 - 15) + (iMn (gI w k1 1) (x7 + (gI w k1 3)))))) fun x9_22 =>
            lT (iMn x9_22 (x8_17 + (16384 ||| (iSl 1 x7)))) fun x8_23 =>
            fX1_leastCost_161 w K30 (fun w x7 => fX1_leastCost_87 K30 k1 x3 x4 x5 x6 n w x7) k1 x3 x4 x5 x6 x7 x8_23
          else none
        else
        fX1_leastCost_161 w K30 (fun w x7 => fX1_leastCost_87 K30 k1 x3 x4 x5 x6 n w x7) k1 x3 x4 x5 x6 x7 x8_17
      else none
    else
    K30 w (x5 + 1)
def fX1_leastCost_53 (k1 : Nat) (x3 : Int32) (x4 : Int32) : Nat → HW → Int32 → Option (Int32 × HW)
  | 0, _, _ => none
  | n + 1, w, x5 =>
    if ¬ x3 < x5 then
      lT (x5 * 15) fun x6_11 =>
      if inB (x6_11 + (gI w k1 1)) 135 = true then
        lT (uI w 18 (ix (x6_11 + (gI w k1 1))) 0) fun w_13 =>
        lT ((gI w_13 k1 1) - 1) fun x7_14 =>
        fX1_leastCost_87 (fun w x5 => fX1_leastCost_53 k1 x3 x4 n w x5) k1 x3 x4 x5 x6_11 FU w_13 x7_14
      else none
    else
    fX1_leastCost_185 w k1 x3
def fX1_leastCost_28 (k1 : Nat) (x3 : Int32) (x4 : Int32) : Nat → HW → Int32 → Option (Int32 × HW)
  | 0, _, _ => none
  | n + 1, w, x5 =>
    if x5 < 15 then
      if inB x5 135 = true then
        lT (uI w 18 (ix x5) 16777216) fun w_9 =>
        fX1_leastCost_28 k1 x3 x4 n w_9 (x5 + 1)
      else none
    else
    fX1_leastCost_53 k1 x3 x4 FU w 1
def fX1_leastCost (w : HW) (k1 : Nat) (x2 : Int32) : Option (Int32 × HW) :=
  bI (fX1_lengthOf w k1 x2) fun r_1 =>
  if r_1 = 0 then
    some (0, w)
  else
  if inB x2 8 = true then
    bI (fX0_clearDays w k1 (gI w (k1 + 4) (ix x2))) fun r_5 =>
    fX1_leastCost_28 k1 r_1 r_5 FU w 0
  else none
/-! SacredHens$Chain.fewestToStop -/
def fX1_fewestToStop (w : HW) (k1 : Nat) (x2 : Int32) : Option (Int32 × HW) :=
  bW (fX1_leastCost w k1 x2) fun r_1 w_2 =>
  some (iSr r_1 14, w_2)
/-! SacredHens.stop -/
def fX9_stop (w : HW) (x1 : Int32) : Option (Int32 × HW) :=
  lT (gR w 0 10) fun j_1 =>
  if isC j_1 = true then
    bI (fX0_hasBill w j_1 x1) fun r_2 =>
    if ¬ r_2 = 0 then
      lT (gR w 0 10) fun j_5 =>
      if isC j_5 = true then
        bW (fX1_fewestToStop w j_5 x1) fun r_6 w_7 =>
        some (r_6, w_7)
      else none
    else
    some ((-2), w)
  else none
/-! SacredHens$Chain.daysToStop -/
def fX1_daysToStop (w : HW) (k1 : Nat) (x2 : Int32) : Option (Int32 × HW) :=
  bW (fX1_leastCost w k1 x2) fun r_1 w_2 =>
  some (r_1 &&& 16383, w_2)
/-! SacredHens.stops -/
def fX9_stops (w : HW) (x1 : Int32) : Option (Int32 × HW) :=
  lT (gR w 0 10) fun j_1 =>
  if isC j_1 = true then
    bI (fX0_hasBill w j_1 x1) fun r_2 =>
    if ¬ r_2 = 0 then
      lT (gR w 0 10) fun j_5 =>
      if isC j_5 = true then
        bW (fX1_daysToStop w j_5 x1) fun r_6 w_7 =>
        some (r_6, w_7)
      else none
    else
    some ((-2), w)
  else none
/-! SacredHens$Planner.daysOfFirstPlan -/
def fX3_daysOfFirstPlan_4 (w : HW) : Nat → Int32 → Int32 → Option Int32
  | 0, _, _ => none
  | n + 1, x1, x2 =>
    if x2 < gI w 11 6 then
      bI (fX3_billInFirstPlan w x2) fun r_2 =>
      if ¬ r_2 = (-1) then
        lT (x1 ||| (iSl 1 x2)) fun x1_5 =>
        fX3_daysOfFirstPlan_4 w n x1_5 (x2 + 1)
      else
      fX3_daysOfFirstPlan_4 w n x1 (x2 + 1)
    else
    some x1
def fX3_daysOfFirstPlan (w : HW) : Option Int32 :=
  fX3_daysOfFirstPlan_4 w FU 0 0
/-! SacredHens.spoilingDay -/
def fX9_spoilingDay_20 (x1 : Int32) (x4 : Int32) : Nat → HW → Int32 → Int32 → Int32 → Option (Int32 × HW)
  | 0, _, _, _, _ => none
  | n + 1, w, x2, x3, x5 =>
    lT (gR w 0 10) fun j_5 =>
    if isC j_5 = true then
      if x5 < gI w j_5 1 then
        bI (fX9_holds w x4 x5) fun r_7 =>
        if r_7 = 0 then
          fX9_spoilingDay_20 x1 x4 n w x2 x3 (x5 + 1)
        else
        lT (gR w 0 10) fun j_10 =>
        if isC j_10 = true then
          bI (fX0_billsOf w j_10 x1) fun r_11 =>
          lT (gR w 0 10) fun j_13 =>
          if isC j_13 = true then
            bW (fX9_worthOfPlans w r_11 (gI w j_13 5) 255 (iSl 1 x5)) fun r_14 w_15 =>
            if r_14 < x3 then
              fX9_spoilingDay_20 x1 x4 n w_15 x5 r_14 (x5 + 1)
            else
            fX9_spoilingDay_20 x1 x4 n w_15 x2 x3 (x5 + 1)
          else none
        else none
      else
      some (x2, w)
    else none
def fX9_spoilingDay (w : HW) (x1 : Int32) : Option (Int32 × HW) :=
  bW (fX9_worthOfPlan w x1) fun r_1 w_2 =>
  bI (fX3_daysOfFirstPlan w_2) fun r_3 =>
  fX9_spoilingDay_20 x1 r_3 FU w_2 (-1) r_1 0
/-! SacredHens.spoil -/
def fX9_spoil (w : HW) (x1 : Int32) : Option (Int32 × HW) :=
  lT (gR w 0 10) fun j_1 =>
  if isC j_1 = true then
    bI (fX0_hasSide w j_1 x1) fun r_2 =>
    if ¬ r_2 = 0 then
      bW (fX9_spoilingDay w x1) fun r_5 w_6 =>
      some (r_5, w_6)
    else
    some ((-2), w)
  else none
/-! SacredHens.spoilt -/
def fX9_spoilt (w : HW) (x1 : Int32) : Option (Int32 × HW) :=
  lT (gR w 0 10) fun j_1 =>
  if isC j_1 = true then
    bI (fX0_hasSide w j_1 x1) fun r_2 =>
    if r_2 = 0 then
      some ((-2), w)
    else
    bW (fX9_spoilingDay w x1) fun r_5 w_6 =>
    lT (gR w_6 0 10) fun j_7 =>
    if isC j_7 = true then
      bI (fX0_billsOf w_6 j_7 x1) fun r_8 =>
      lT (gR w_6 0 10) fun j_10 =>
      if isC j_10 = true then
        if r_5 = (-1) then
          bW (fX9_worthOfPlans w_6 r_8 (gI w_6 j_10 5) 255 0) fun r_12 w_13 =>
          some (r_12, w_13)
        else
        bW (fX9_worthOfPlans w_6 r_8 (gI w_6 j_10 5) 255 (iSl 1 r_5)) fun r_14 w_15 =>
        some (r_14, w_15)
      else none
    else none
  else none
/-! SacredHens.bribe -/
def fX9_bribe_25 (x1 : Int32) : Nat → HW → Int32 → Int32 → Int32 → Option (Int32 × HW)
  | 0, _, _, _, _ => none
  | n + 1, w, x2, x3, x4 =>
    lT (gR w 0 10) fun j_7 =>
    if isC j_7 = true then
      if x4 < gI w j_7 6 then
        lT (gR w 0 10) fun j_9 =>
        if isC j_9 = true then
          if inB x4 8 = true then
            if gI w (j_9 + 1) (ix x4) = x1 then
              fX9_bribe_25 x1 n w x2 x3 (x4 + 1)
            else
            lT (gR w 0 10) fun j_12 =>
            if isC j_12 = true then
              bI (fX0_billsOf w j_12 x1) fun r_13 =>
              lT (gR w 0 10) fun j_15 =>
              if isC j_15 = true then
                bW (fX9_worthOfPlans w r_13 (gI w j_15 5) (255 &&& ((iSl 1 x4) ^^^ (-1))) 0) fun r_16 w_17 =>
                if x3 < r_16 then
                  fX9_bribe_25 x1 n w_17 x4 r_16 (x4 + 1)
                else
                fX9_bribe_25 x1 n w_17 x2 x3 (x4 + 1)
              else none
            else none
          else none
        else none
      else
      some (x2, w)
    else none
def fX9_bribe (w : HW) (x1 : Int32) : Option (Int32 × HW) :=
  lT (gR w 0 10) fun j_1 =>
  if isC j_1 = true then
    bI (fX0_hasSide w j_1 x1) fun r_2 =>
    if r_2 = 0 then
      some ((-2), w)
    else
    bW (fX9_worthOfPlan w x1) fun r_5 w_6 =>
    fX9_bribe_25 x1 FU w_6 (-1) r_5 0
  else none
/-! SacredHens.unmark -/
def fX9_unmark_25 (x1 : Int32) : Nat → HW → Int32 → Int32 → Int32 → Option (Int32 × HW)
  | 0, _, _, _, _ => none
  | n + 1, w, x2, x3, x4 =>
    lT (gR w 0 10) fun j_7 =>
    if isC j_7 = true then
      if x4 < gI w j_7 1 then
        lT (gR w 0 10) fun j_9 =>
        if isC j_9 = true then
          bI (fX9_holds w (gI w j_9 5) x4) fun r_10 =>
          if r_10 = 0 then
            fX9_unmark_25 x1 n w x2 x3 (x4 + 1)
          else
          lT (gR w 0 10) fun j_13 =>
          if isC j_13 = true then
            bI (fX0_billsOf w j_13 x1) fun r_14 =>
            lT (gR w 0 10) fun j_16 =>
            if isC j_16 = true then
              bW (fX9_worthOfPlans w r_14 ((gI w j_16 5) &&& ((iSl 1 x4) ^^^ (-1))) 255 0) fun r_17 w_18 =>
              if x3 < r_17 then
                fX9_unmark_25 x1 n w_18 x4 r_17 (x4 + 1)
              else
              fX9_unmark_25 x1 n w_18 x2 x3 (x4 + 1)
            else none
          else none
        else none
      else
      some (x2, w)
    else none
def fX9_unmark (w : HW) (x1 : Int32) : Option (Int32 × HW) :=
  lT (gR w 0 10) fun j_1 =>
  if isC j_1 = true then
    bI (fX0_hasSide w j_1 x1) fun r_2 =>
    if r_2 = 0 then
      some ((-2), w)
    else
    bW (fX9_worthOfPlan w x1) fun r_5 w_6 =>
    fX9_unmark_25 x1 FU w_6 (-1) r_5 0
  else none
/-! SacredHens.fewestAugurs -/
def fX9_fewestAugurs_24 (w : HW) (x2 : Int32) (x3 : Int32) : Nat → Int32 → Int32 → Option Int32
  | 0, _, _ => none
  | n + 1, x4, x5 =>
    if x5 < x2 then
      if x5 &&& x2 = x5 then
        bI (fJ6_bitCount_0f7a4 w x5) fun r_9 =>
        bI (fJ6_bitCount_0f7a4 w x4) fun r_11 =>
        if r_9 < r_11 then
          lT (gR w 0 10) fun j_14 =>
          if isC j_14 = true then
            bI (fX0_skyOf w j_14 x5) fun r_15 =>
            if r_15 = x3 then
              fX9_fewestAugurs_24 w x2 x3 n x5 (x5 + 1)
            else
            fX9_fewestAugurs_24 w x2 x3 n x4 (x5 + 1)
          else none
        else
        fX9_fewestAugurs_24 w x2 x3 n x4 (x5 + 1)
      else
      fX9_fewestAugurs_24 w x2 x3 n x4 (x5 + 1)
    else
    some x4
def fX9_fewestAugurs (w : HW) (x1 : Int32) : Option Int32 :=
  lT (gR w 0 10) fun j_1 =>
  if isC j_1 = true then
    bI (fX0_augursOf w j_1 x1) fun r_2 =>
    lT (gR w 0 10) fun j_4 =>
    if isC j_4 = true then
      bI (fX0_skyOf w j_4 r_2) fun r_5 =>
      fX9_fewestAugurs_24 w r_2 r_5 FU r_2 0
    else none
  else none
/-! SacredHens.college -/
def fX9_college (w : HW) (x1 : Int32) : Option Int32 :=
  lT (gR w 0 10) fun j_1 =>
  if isC j_1 = true then
    bI (fX0_hasSide w j_1 x1) fun r_2 =>
    if ¬ r_2 = 0 then
      bI (fX9_fewestAugurs w x1) fun r_5 =>
      bI (fJ6_bitCount_0f7a4 w r_5) fun r_7 =>
      some r_7
    else
    some (-2)
  else none
/-! SacredHens.chosen -/
def fX9_chosen (w : HW) (x1 : Int32) : Option Int32 :=
  lT (gR w 0 10) fun j_1 =>
  if isC j_1 = true then
    bI (fX0_hasSide w j_1 x1) fun r_2 =>
    if ¬ r_2 = 0 then
      bI (fX9_fewestAugurs w x1) fun r_5 =>
      some r_5
    else
    some (-2)
  else none
/-! SacredHens.hold -/
def fX9_hold_39 (w : HW) (x2 : Int32) (x3 : Int32) : Nat → Int32 → Int32 → Option Int32
  | 0, _, _ => none
  | n + 1, x4, x5 =>
    if x5 < 256 then
      if x5 &&& x3 = x5 then
        bI (fJ6_bitCount_0f7a4 w x5) fun r_12 =>
        if ¬ x2 < r_12 then
          lT (gR w 0 10) fun j_15 =>
          if isC j_15 = true then
            bI (fX0_skyOf w j_15 x5) fun r_16 =>
            bI (fJ6_bitCount_0f7a4 w r_16) fun r_18 =>
            lT (iMx x4 r_18) fun x4_20 =>
            fX9_hold_39 w x2 x3 n x4_20 (x5 + 1)
          else none
        else
        fX9_hold_39 w x2 x3 n x4 (x5 + 1)
      else
      fX9_hold_39 w x2 x3 n x4 (x5 + 1)
    else
    some x4
def fX9_hold (w : HW) (x1 : Int32) (x2 : Int32) : Option Int32 :=
  lT (gR w 0 10) fun j_1 =>
  if isC j_1 = true then
    bI (fX0_hasSide w j_1 x1) fun r_2 =>
    if ¬ r_2 = 0 then
      if ¬ x2 < 0 then
        if 8 < x2 then
          some (-2)
        else
        lT (gR w 0 10) fun j_7 =>
        if isC j_7 = true then
          bI (fX0_augursOf w j_7 x1) fun r_8 =>
          fX9_hold_39 w x2 r_8 FU 0 0
        else none
      else
      some (-2)
    else
    some (-2)
  else none
/-! SacredHens.loneAugurs -/
def fX9_loneAugurs_24 (w : HW) (x2 : Int32) (x3 : Int32) : Nat → Int32 → Int32 → Option Int32
  | 0, _, _ => none
  | n + 1, x4, x5 =>
    lT (gR w 0 10) fun j_7 =>
    if isC j_7 = true then
      if x5 < gI w j_7 6 then
        lT (iSl 1 x5) fun x6_9 =>
        if ¬ x2 &&& x6_9 = 0 then
          lT (gR w 0 10) fun j_11 =>
          if isC j_11 = true then
            bI (fX0_skyOf w j_11 (x2 &&& (x6_9 ^^^ (-1)))) fun r_12 =>
            if ¬ r_12 = x3 then
              lT (x4 ||| x6_9) fun x4_15 =>
              fX9_loneAugurs_24 w x2 x3 n x4_15 (x5 + 1)
            else
            fX9_loneAugurs_24 w x2 x3 n x4 (x5 + 1)
          else none
        else
        fX9_loneAugurs_24 w x2 x3 n x4 (x5 + 1)
      else
      some x4
    else none
def fX9_loneAugurs (w : HW) (x1 : Int32) : Option Int32 :=
  lT (gR w 0 10) fun j_1 =>
  if isC j_1 = true then
    bI (fX0_augursOf w j_1 x1) fun r_2 =>
    lT (gR w 0 10) fun j_4 =>
    if isC j_4 = true then
      bI (fX0_skyOf w j_4 r_2) fun r_5 =>
      fX9_loneAugurs_24 w r_2 r_5 FU 0 0
    else none
  else none
/-! SacredHens.idle -/
def fX9_idle (w : HW) (x1 : Int32) : Option Int32 :=
  lT (gR w 0 10) fun j_1 =>
  if isC j_1 = true then
    bI (fX0_hasSide w j_1 x1) fun r_2 =>
    if ¬ r_2 = 0 then
      lT (gR w 0 10) fun j_5 =>
      if isC j_5 = true then
        bI (fX0_augursOf w j_5 x1) fun r_6 =>
        bI (fX9_loneAugurs w x1) fun r_8 =>
        some (r_6 &&& (r_8 ^^^ (-1)))
      else none
    else
    some (-2)
  else none
/-! SacredHens.lone -/
def fX9_lone (w : HW) (x1 : Int32) : Option Int32 :=
  lT (gR w 0 10) fun j_1 =>
  if isC j_1 = true then
    bI (fX0_hasSide w j_1 x1) fun r_2 =>
    if ¬ r_2 = 0 then
      bI (fX9_loneAugurs w x1) fun r_5 =>
      some r_5
    else
    some (-2)
  else none
/-! SacredHens.tenure -/
def fX9_tenure_21 (w : HW) (x1 : Int32) : Nat → Int32 → Int32 → Int32 → Option Int32
  | 0, _, _, _ => none
  | n + 1, x2, x3, x4 =>
    lT (gR w 0 10) fun j_5 =>
    if isC j_5 = true then
      if x4 < gI w j_5 6 then
        lT (gR w 0 10) fun j_7 =>
        if isC j_7 = true then
          bI (fX0_daysOfAugur w j_7 x4) fun r_8 =>
          bI (fJ6_bitCount_0f7a4 w r_8) fun r_10 =>
          lT (gR w 0 10) fun j_12 =>
          if isC j_12 = true then
            if inB x4 8 = true then
              if gI w (j_12 + 1) (ix x4) = x1 then
                if x3 < r_10 then
                  fX9_tenure_21 w x1 n x4 r_10 (x4 + 1)
                else
                fX9_tenure_21 w x1 n x2 x3 (x4 + 1)
              else
              fX9_tenure_21 w x1 n x2 x3 (x4 + 1)
            else none
          else none
        else none
      else
      some x2
    else none
def fX9_tenure (w : HW) (x1 : Int32) : Option Int32 :=
  lT (gR w 0 10) fun j_1 =>
  if isC j_1 = true then
    bI (fX0_hasSide w j_1 x1) fun r_2 =>
    if r_2 = 0 then
      some (-2)
    else
    fX9_tenure_21 w x1 FU (-1) 0 0
  else none
/-! SacredHens.clear -/
def fX9_clear (w : HW) (x1 : Int32) : Option Int32 :=
  lT (gR w 0 10) fun j_1 =>
  if isC j_1 = true then
    bI (fX0_hasSide w j_1 x1) fun r_2 =>
    if ¬ r_2 = 0 then
      lT (gR w 0 10) fun j_5 =>
      if isC j_5 = true then
        bI (fX0_clearDays w j_5 x1) fun r_6 =>
        some r_6
      else none
    else
    some (-2)
  else none
/-! SacredHens.run -/
def fX9_run (w : HW) (x1 : Int32) : Option Int32 :=
  lT (gR w 0 10) fun j_1 =>
  if isC j_1 = true then
    bI (fX0_hasSide w j_1 x1) fun r_2 =>
    if ¬ r_2 = 0 then
      lT (gR w 0 10) fun j_5 =>
      if isC j_5 = true then
        bI (fX0_clearDays w j_5 x1) fun r_6 =>
        bI (fX9_longestRun w r_6) fun r_8 =>
        some r_8
      else none
    else
    some (-2)
  else none
/-! SacredHens.both -/
def fX9_both (w : HW) : Option Int32 :=
  lT (gR w 0 10) fun j_1 =>
  if isC j_1 = true then
    bI (fX0_isTold w j_1) fun r_2 =>
    if ¬ r_2 = 0 then
      lT (gR w 0 10) fun j_5 =>
      if isC j_5 = true then
        lT (gR w 0 10) fun j_6 =>
        if isC j_6 = true then
          bI (fX0_augursOf w j_6 0) fun r_7 =>
          bI (fX0_skyOf w j_5 r_7) fun r_9 =>
          lT (gR w 0 10) fun j_11 =>
          if isC j_11 = true then
            lT (gR w 0 10) fun j_12 =>
            if isC j_12 = true then
              bI (fX0_augursOf w j_12 1) fun r_13 =>
              bI (fX0_skyOf w j_11 r_13) fun r_15 =>
              some (r_9 &&& r_15)
            else none
          else none
        else none
      else none
    else
    some (-2)
  else none
/-! SacredHens$Camp.heirsOf -/
def fX0_heirsOf_6 (w : HW) (k0 : Nat) (x1 : Int32) : Nat → Int32 → Int32 → Option Int32
  | 0, _, _ => none
  | n + 1, x2, x3 =>
    if x3 < gI w k0 10 then
      bI (fX0_needsOf w k0 x3) fun r_3 =>
      bI (fX9_holds w r_3 x1) fun r_5 =>
      if ¬ r_5 = 0 then
        lT (x2 ||| (iSl 1 x3)) fun x2_8 =>
        fX0_heirsOf_6 w k0 x1 n x2_8 (x3 + 1)
      else
      fX0_heirsOf_6 w k0 x1 n x2 (x3 + 1)
    else
    some x2
def fX0_heirsOf (w : HW) (k0 : Nat) (x1 : Int32) : Option Int32 :=
  lT (x1 + 1) fun x3_1 =>
  fX0_heirsOf_6 w k0 x1 FU 0 x3_1
/-! SacredHens.fallingWith -/
def fX9_fallingWith (w : HW) (x1 : Int32) : Option Int32 :=
  lT (gR w 0 10) fun j_1 =>
  if isC j_1 = true then
    bI (fX6_passingOn w j_1 x1) fun r_2 =>
    if r_2 = (-1) then
      some 0
    else
    lT (gR w 0 10) fun j_5 =>
    if isC j_5 = true then
      bI (fX0_heirsOf w j_5 r_2) fun r_6 =>
      lT (gR w 0 10) fun j_8 =>
      if isC j_8 = true then
        bI (fX6_passing w j_8) fun r_9 =>
        some (((iSl 1 r_2) ||| r_6) &&& r_9)
      else none
    else none
  else none
/-! SacredHens.falls -/
def fX9_falls (w : HW) (x1 : Int32) : Option (Int32 × HW) :=
  lT (gR w 0 10) fun j_1 =>
  if isC j_1 = true then
    bI (fX0_hasDay w j_1 x1) fun r_2 =>
    if r_2 = 0 then
      some ((-2), w)
    else
    lT (gR w 0 10) fun j_5 =>
    if isC j_5 = true then
      bI (fX6_play w j_5) fun w_7 =>
      bI (fX9_fallingWith w_7 x1) fun r_8 =>
      some (r_8, w_7)
    else none
  else none
/-! SacredHens.worst -/
def fX9_worst_30 : Nat → HW → Int32 → Int32 → Int32 → Option (Int32 × HW)
  | 0, _, _, _, _ => none
  | n + 1, w, x1, x2, x3 =>
    lT (gR w 0 10) fun j_8 =>
    if isC j_8 = true then
      if x3 < gI w j_8 1 then
        lT (gR w 0 10) fun j_10 =>
        if isC j_10 = true then
          bI (fX9_fallingWith w x3) fun r_11 =>
          bI (fX0_worthOf w j_10 r_11) fun r_13 =>
          if x2 < r_13 then
            fX9_worst_30 n w x3 r_13 (x3 + 1)
          else
          fX9_worst_30 n w x1 x2 (x3 + 1)
        else none
      else
      some (x1, w)
    else none
def fX9_worst (w : HW) : Option (Int32 × HW) :=
  lT (gR w 0 10) fun j_1 =>
  if isC j_1 = true then
    bI (fX0_isTold w j_1) fun r_2 =>
    if r_2 = 0 then
      some ((-2), w)
    else
    lT (gR w 0 10) fun j_5 =>
    if isC j_5 = true then
      bI (fX6_play w j_5) fun w_7 =>
      fX9_worst_30 FU w_7 (-1) 0 0
    else none
  else none
/-! SacredHens.needs -/
def fX9_needs (w : HW) (x1 : Int32) : Option Int32 :=
  lT (gR w 0 10) fun j_1 =>
  if isC j_1 = true then
    bI (fX0_hasBill w j_1 x1) fun r_2 =>
    if ¬ r_2 = 0 then
      lT (gR w 0 10) fun j_5 =>
      if isC j_5 = true then
        bI (fX0_needsOf w j_5 x1) fun r_6 =>
        some r_6
      else none
    else
    some (-2)
  else none
/-! SacredHens.heirs -/
def fX9_heirs (w : HW) (x1 : Int32) : Option Int32 :=
  lT (gR w 0 10) fun j_1 =>
  if isC j_1 = true then
    bI (fX0_hasBill w j_1 x1) fun r_2 =>
    if ¬ r_2 = 0 then
      lT (gR w 0 10) fun j_5 =>
      if isC j_5 = true then
        bI (fX0_heirsOf w j_5 x1) fun r_6 =>
        some r_6
      else none
    else
    some (-2)
  else none
/-! SacredHens.hasSlot -/
def fX9_hasSlot (w : HW) (x0 : Int32) : Option Int32 :=
  if ¬ x0 < 0 then
    if x0 < 4 then
      some 1
    else
    some 0
  else
  some 0
/-! SacredHens$Row.isThere -/
def fX5_isThere (w : HW) (k0 : Nat) : Option Int32 :=
  if ¬ gI w k0 1 = (-1) then
    some 1
  else
  some 0
/-! SacredHens$Hens.readRow -/
def fX2_readRow_23 (k1 : Nat) (k2 : Nat) : Nat → HW → Int32 → Option (Int32 × HW)
  | 0, _, _ => none
  | n + 1, w, x3 =>
    if x3 + 1 < gI w k2 2 then
      if inB x3 60 = true then
        lT (gL w (k2 + 1) (ix x3)) fun x4_6 =>
        if inB (x3 + 1) 60 = true then
          lT (gL w (k2 + 1) (ix (x3 + 1))) fun x6_8 =>
          if ¬ lg_cmp x4_6 0 < 0 then
            if lg_cmp x4_6 ((gI w k1 1).toInt64) < 0 then
              if ¬ lg_cmp x6_8 0 < 0 then
                if 0 < lg_cmp x6_8 1 then
                  some (0, w)
                else
                if lg_cmp x6_8 1 = 0 then
                  lT (uI w 20 5 ((gI w 20 5) ||| (iSl 1 (x4_6.toInt32)))) fun w_14 =>
                  fX2_readRow_23 k1 k2 n w_14 (x3 + 2)
                else
                lT (uI w 20 6 ((gI w 20 6) ||| (iSl 1 (x4_6.toInt32)))) fun w_15 =>
                fX2_readRow_23 k1 k2 n w_15 (x3 + 2)
              else
              some (0, w)
            else
            some (0, w)
          else
          some (0, w)
        else none
      else none
    else
    some (1, w)
def fX2_readRow (w : HW) (k1 : Nat) (k2 : Nat) : Option (Int32 × HW) :=
  lT (uI w 20 5 0) fun w_1 =>
  lT (uI w_1 20 6 0) fun w_2 =>
  if ¬ iRm (gI w_2 k2 2) 2 = 0 then
    some (0, w_2)
  else
  fX2_readRow_23 k1 k2 FU w_2 0
/-! SacredHens$Hens.eatingDays -/
def fX2_eatingDays_36 (w : HW) (K4 : Int32 → Int32 → Option Int32) (k0 : Nat) (x1 : Int32) (x2 : Int32) (x3 : Int32) (x4 : Int32) (s0 : Int32) : Option Int32 :=
  if ¬ s0 < gI w k0 3 then
    lT (x3 ||| (iSl 1 x4)) fun x3_5 =>
    K4 x3_5 (x4 + 1)
  else
  K4 x3 (x4 + 1)
def fX2_eatingDays_5 (w : HW) (k0 : Nat) (x1 : Int32) (x2 : Int32) : Nat → Int32 → Int32 → Option Int32
  | 0, _, _ => none
  | n + 1, x3, x4 =>
    if x4 < gI w k0 1 then
      if ¬ x2 = (-1) then
        if ¬ x2 < x4 then
          fX2_eatingDays_36 w (fun x3 x4 => fX2_eatingDays_5 w k0 x1 x2 n x3 x4) k0 x1 x2 x3 x4 (x1 + x4)
        else
        fX2_eatingDays_36 w (fun x3 x4 => fX2_eatingDays_5 w k0 x1 x2 n x3 x4) k0 x1 x2 x3 x4 (x4 - x2)
      else
      fX2_eatingDays_36 w (fun x3 x4 => fX2_eatingDays_5 w k0 x1 x2 n x3 x4) k0 x1 x2 x3 x4 (x1 + x4)
    else
    some x3
def fX2_eatingDays (w : HW) (k0 : Nat) (x1 : Int32) (x2 : Int32) : Option Int32 :=
  fX2_eatingDays_5 w k0 x1 x2 FU 0 0
/-! SacredHens$Hens.weigh -/
def fX2_weigh_84 (k1 : Nat) (x4 : Int32) : Nat → HW → Int32 → Option HW
  | 0, _, _ => none
  | n + 1, w, x5 =>
    if x5 < gI w k1 1 then
      if inB x5 14 = true then
        if inB x5 14 = true then
          lT (uI w 21 (ix x5) ((gI w 21 (ix x5)) + ((iSr x4 x5) &&& 1))) fun w_14 =>
          fX2_weigh_84 k1 x4 n w_14 (x5 + 1)
        else none
      else none
    else
    some w
def fX2_weigh_68 (w : HW) (k1 : Nat) (x2 : Int32) (x4 : Int32) : Option HW :=
  if gI w 20 3 = (-1) then
    lT (uI w 20 3 x2) fun w_10 =>
    fX2_weigh_84 k1 x4 FU w_10 0
  else
  fX2_weigh_84 k1 x4 FU w 0
def fX2_weigh (w : HW) (k1 : Nat) (x2 : Int32) (x3 : Int32) : Option HW :=
  bI (fX2_eatingDays w k1 x2 x3) fun r_1 =>
  if r_1 &&& (gI w 20 5) = gI w 20 5 then
    if ¬ r_1 &&& (gI w 20 6) = 0 then
      some w
    else
    lT (uI w 20 0 ((gI w 20 0) + 1)) fun w_5 =>
    if x3 = (-1) then
      lT (uI w_5 20 2 1) fun w_7 =>
      fX2_weigh_68 w_7 k1 x2 r_1
    else
    lT (uI w_5 20 1 ((gI w_5 20 1) ||| (iSl 1 x3))) fun w_8 =>
    fX2_weigh_68 w_8 k1 x2 r_1
  else
  some w
/-! SacredHens$Hens.look -/
def fX2_look_63 (K33 : HW → Int32 → Option (Int32 × HW)) (k1 : Nat) (x3 : Int32) : Nat → HW → Int32 → Option (Int32 × HW)
  | 0, _, _ => none
  | n + 1, w, x4 =>
    if x4 < gI w k1 1 then
      bI (fX2_weigh w k1 x3 x4) fun w_14 =>
      fX2_look_63 K33 k1 x3 n w_14 (x4 + 1)
    else
    K33 w (x3 + 1)
def fX2_look_54 (k1 : Nat) : Nat → HW → Int32 → Option (Int32 × HW)
  | 0, _, _ => none
  | n + 1, w, x3 =>
    if ¬ 9 < x3 then
      fX2_look_63 (fun w x3 => fX2_look_54 k1 n w x3) k1 x3 FU w (-1)
    else
    some (1, w)
def fX2_look_33 (k1 : Nat) : Nat → HW → Int32 → Option (Int32 × HW)
  | 0, _, _ => none
  | n + 1, w, x3 =>
    if x3 < 14 then
      if inB x3 14 = true then
        lT (uI w 21 (ix x3) 0) fun w_10 =>
        fX2_look_33 k1 n w_10 (x3 + 1)
      else none
    else
    fX2_look_54 k1 FU w 0
def fX2_look (w : HW) (k1 : Nat) (k2 : Nat) : Option (Int32 × HW) :=
  bW (fX2_readRow w k1 k2) fun r_1 w_2 =>
  if r_1 = 0 then
    some (0, w_2)
  else
  lT (uI w_2 20 0 0) fun w_4 =>
  lT (uI w_4 20 1 0) fun w_5 =>
  lT (uI w_5 20 2 0) fun w_6 =>
  lT (uI w_6 20 3 (-1)) fun w_7 =>
  fX2_look_33 k1 FU w_7 0
/-! SacredHens.lookAtSeen -/
def fX9_lookAtSeen (w : HW) (x1 : Int32) : Option (Int32 × HW) :=
  bI (fX9_hasSlot w x1) fun r_1 =>
  if ¬ r_1 = 0 then
    lT (gR w 0 10) fun j_4 =>
    if isC j_4 = true then
      bI (fX0_isTold w j_4) fun r_5 =>
      if r_5 = 0 then
        some ((-2), w)
      else
      if inB x1 4 = true then
        bI (fX5_isThere w (44 + 2 * ix x1)) fun r_9 =>
        if r_9 = 0 then
          some ((-6), w)
        else
        lT (gR w 0 10) fun j_12 =>
        if isC j_12 = true then
          if inB x1 4 = true then
            bW (fX2_look w j_12 (44 + 2 * ix x1)) fun r_14 w_15 =>
            if ¬ r_14 = 0 then
              some (0, w_15)
            else
            some ((-2), w_15)
          else none
        else none
      else none
    else none
  else
  some ((-2), w)
/-! SacredHens.fits -/
def fX9_fits (w : HW) (x1 : Int32) : Option (Int32 × HW) :=
  bW (fX9_lookAtSeen w x1) fun r_1 w_2 =>
  if r_1 < 0 then
    some (r_1, w_2)
  else
  some (gI w_2 20 0, w_2)
/-! SacredHens.fed -/
def fX9_fed (w : HW) (x1 : Int32) : Option (Int32 × HW) :=
  bW (fX9_lookAtSeen w x1) fun r_1 w_2 =>
  if r_1 < 0 then
    some (r_1, w_2)
  else
  some (gI w_2 20 1, w_2)
/-! SacredHens.starved -/
def fX9_starved (w : HW) (x1 : Int32) : Option (Int32 × HW) :=
  bW (fX9_lookAtSeen w x1) fun r_1 w_2 =>
  if r_1 < 0 then
    some (r_1, w_2)
  else
  some (gI w_2 20 2, w_2)
/-! SacredHens.least -/
def fX9_least (w : HW) (x1 : Int32) : Option (Int32 × HW) :=
  bW (fX9_lookAtSeen w x1) fun r_1 w_2 =>
  if r_1 < 0 then
    some (r_1, w_2)
  else
  some (gI w_2 20 3, w_2)
/-! SacredHens$Hens.leftAtWorst -/
def fX2_leftAtWorst (w : HW) (x1 : Int32) : Option Int32 :=
  if ¬ x1 < 0 then
    if ¬ x1 < 14 then
      some (gI w 20 0)
    else
    if inB x1 14 = true then
      if inB x1 14 = true then
        some (iMx (gI w 21 (ix x1)) ((gI w 20 0) - (gI w 21 (ix x1))))
      else none
    else none
  else
  some (gI w 20 0)
/-! SacredHens$Hens.dayToKnow -/
def fX2_dayToKnow_10 (w : HW) (x1 : Int32) : Nat → Int32 → Int32 → Int32 → Option Int32
  | 0, _, _, _ => none
  | n + 1, x2, x3, x4 =>
    if x4 < x1 then
      bI (fX2_leftAtWorst w x4) fun r_3 =>
      if r_3 < x3 then
        bI (fX2_leftAtWorst w x4) fun r_6 =>
        fX2_dayToKnow_10 w x1 n x4 r_6 (x4 + 1)
      else
      fX2_dayToKnow_10 w x1 n x2 x3 (x4 + 1)
    else
    some x2
def fX2_dayToKnow (w : HW) (x1 : Int32) : Option Int32 :=
  lT (gI w 20 0) fun x3_1 =>
  fX2_dayToKnow_10 w x1 FU (-1) x3_1 0
/-! SacredHens.ask -/
def fX9_ask (w : HW) (x1 : Int32) : Option (Int32 × HW) :=
  bW (fX9_lookAtSeen w x1) fun r_1 w_2 =>
  if r_1 < 0 then
    some (r_1, w_2)
  else
  lT (gR w_2 0 10) fun j_4 =>
  if isC j_4 = true then
    bI (fX2_dayToKnow w_2 (gI w_2 j_4 1)) fun r_5 =>
    some (r_5, w_2)
  else none
/-! SacredHens.leaves -/
def fX9_leaves (w : HW) (x1 : Int32) : Option (Int32 × HW) :=
  bW (fX9_lookAtSeen w x1) fun r_1 w_2 =>
  if r_1 < 0 then
    some (r_1, w_2)
  else
  lT (gR w_2 0 10) fun j_4 =>
  if isC j_4 = true then
    bI (fX2_dayToKnow w_2 (gI w_2 j_4 1)) fun r_5 =>
    if r_5 = (-1) then
      some (gI w_2 20 0, w_2)
    else
    bI (fX2_leftAtWorst w_2 r_5) fun r_8 =>
    some (r_8, w_2)
  else none
/-! SacredHens$SignList.look -/
def fX7_look_33 (k1 : Nat) : Nat → HW → Int32 → Option (Int32 × HW)
  | 0, _, _ => none
  | n + 1, w, x2 =>
    if x2 + 1 < gI w k1 2 then
      if inB x2 60 = true then
        lT (gL w (k1 + 1) (ix x2)) fun x3_7 =>
        if inB (x2 + 1) 60 = true then
          lT (gL w (k1 + 1) (ix (x2 + 1))) fun x5_9 =>
          if ¬ lg_cmp x3_7 0 < 0 then
            if ¬ 0 < lg_cmp x3_7 1 then
              if ¬ lg_cmp x5_9 0 < 0 then
                if 0 < lg_cmp x5_9 1 then
                  some (0, w)
                else
                if inB (((x3_7.toInt32) * 2) + (x5_9.toInt32)) 4 = true then
                  if inB (((x3_7.toInt32) * 2) + (x5_9.toInt32)) 4 = true then
                    lT (uI w 23 (ix (((x3_7.toInt32) * 2) + (x5_9.toInt32))) ((gI w 23 (ix (((x3_7.toInt32) * 2) + (x5_9.toInt32)))) + 1)) fun w_16 =>
                    fX7_look_33 k1 n w_16 (x2 + 2)
                  else none
                else none
              else
              some (0, w)
            else
            some (0, w)
          else
          some (0, w)
        else none
      else none
    else
    some (1, w)
def fX7_look_20 (w : HW) (k1 : Nat) : Option (Int32 × HW) :=
  if ¬ iRm (gI w k1 2) 2 = 0 then
    some (0, w)
  else
  fX7_look_33 k1 FU w 0
def fX7_look_2 (k1 : Nat) : Nat → HW → Int32 → Option (Int32 × HW)
  | 0, _, _ => none
  | n + 1, w, x2 =>
    if x2 < 4 then
      if inB x2 4 = true then
        lT (uI w 23 (ix x2) 0) fun w_3 =>
        fX7_look_2 k1 n w_3 (x2 + 1)
      else none
    else
    fX7_look_20 w k1
def fX7_look (w : HW) (k1 : Nat) : Option (Int32 × HW) :=
  fX7_look_2 k1 FU w 0
/-! SacredHens.lookAtList -/
def fX9_lookAtList (w : HW) (x1 : Int32) : Option (Int32 × HW) :=
  bI (fX9_hasSlot w x1) fun r_1 =>
  if ¬ r_1 = 0 then
    lT (gR w 0 10) fun j_4 =>
    if isC j_4 = true then
      bI (fX0_isTold w j_4) fun r_5 =>
      if r_5 = 0 then
        some ((-2), w)
      else
      if inB x1 4 = true then
        bI (fX5_isThere w (44 + 2 * ix x1)) fun r_9 =>
        if r_9 = 0 then
          some ((-6), w)
        else
        if inB x1 4 = true then
          bW (fX7_look w (44 + 2 * ix x1)) fun r_13 w_14 =>
          if ¬ r_13 = 0 then
            some (0, w_14)
          else
          some ((-2), w_14)
        else none
      else none
    else none
  else
  some ((-2), w)
/-! SacredHens$SignList.howMany -/
def fX7_howMany (w : HW) (x1 : Int32) (x2 : Int32) : Option Int32 :=
  bI (fX9_isChoice w x1) fun r_1 =>
  if ¬ r_1 = 0 then
    bI (fX9_isChoice w x2) fun r_4 =>
    if ¬ r_4 = 0 then
      if inB ((x1 * 2) + x2) 4 = true then
        some (gI w 23 (ix ((x1 * 2) + x2)))
      else none
    else
    some 0
  else
  some 0
/-! SacredHens.tally -/
def fX9_tally (w : HW) (x1 : Int32) (x2 : Int32) (x3 : Int32) : Option (Int32 × HW) :=
  bI (fX9_isChoice w x2) fun r_1 =>
  if ¬ r_1 = 0 then
    bI (fX9_isChoice w x3) fun r_4 =>
    if r_4 = 0 then
      some ((-2), w)
    else
    bW (fX9_lookAtList w x1) fun r_7 w_8 =>
    if r_7 < 0 then
      some (r_7, w_8)
    else
    bI (fX7_howMany w_8 x2 x3) fun r_10 =>
    some (r_10, w_8)
  else
  some ((-2), w)
/-! SacredHens$SignList.withSign -/
def fX7_withSign (w : HW) (x1 : Int32) : Option Int32 :=
  bI (fX7_howMany w x1 0) fun r_1 =>
  bI (fX7_howMany w x1 1) fun r_3 =>
  some (r_1 + r_3)
/-! SacredHens$SignList.choose -/
def fX7_choose_16 (w : HW) (x0 : Int32) (x1 : Int32) : Nat → Int64 → Int32 → Option Int64
  | 0, _, _ => none
  | n + 1, x2, x4 =>
    if ¬ x1 < x4 then
      if x4.toInt64 = 0 then none else
      lT ((x2 * (((x0 - x1) + x4).toInt64)) / (x4.toInt64)) fun x2_5 =>
      fX7_choose_16 w x0 x1 n x2_5 (x4 + 1)
    else
    some x2
def fX7_choose (w : HW) (x0 : Int32) (x1 : Int32) : Option Int64 :=
  if ¬ x1 < 0 then
    if x0 < x1 then
      some 0
    else
    fX7_choose_16 w x0 x1 FU 1 1
  else
  some 0
/-! SacredHens$SignList.wins -/
def fX7_wins (w : HW) : Option Int32 :=
  bI (fX7_howMany w 0 1) fun r_1 =>
  bI (fX7_howMany w 1 1) fun r_3 =>
  some (r_1 + r_3)
/-! SacredHens$SignList.waysAsGood -/
def fX7_waysAsGood_9 (w : HW) : Nat → Int64 → Int32 → Option Int64
  | 0, _, _ => none
  | n + 1, x1, x3 =>
    bI (fX7_withSign w 1) fun r_3 =>
    if ¬ r_3 < x3 then
      bI (fX7_withSign w 1) fun r_6 =>
      bI (fX7_choose w r_6 x3) fun r_8 =>
      bI (fX7_withSign w 0) fun r_10 =>
      bI (fX7_wins w) fun r_12 =>
      bI (fX7_choose w r_10 (r_12 - x3)) fun r_14 =>
      lT (x1 + (r_8 * r_14)) fun x1_16 =>
      fX7_waysAsGood_9 w n x1_16 (x3 + 1)
    else
    some x1
def fX7_waysAsGood (w : HW) : Option Int64 :=
  bI (fX7_howMany w 1 1) fun r_1 =>
  fX7_waysAsGood_9 w FU 0 r_1
/-! SacredHens$SignList.allWays -/
def fX7_allWays (w : HW) : Option Int64 :=
  bI (fX7_withSign w 0) fun r_1 =>
  bI (fX7_withSign w 1) fun r_3 =>
  bI (fX7_wins w) fun r_5 =>
  bI (fX7_choose w (r_1 + r_3) r_5) fun r_7 =>
  some r_7
/-! SacredHens.greatestCommon -/
def fX9_greatestCommon_3 (w : HW) : Nat → Int64 → Int64 → Int32 → Option Int64
  | 0, _, _, _ => none
  | n + 1, x0, x2, x4 =>
    if x4 < 100 then
      if ¬ lg_cmp x2 0 = 0 then
        if x2 = 0 then none else
        lT (lRm x0 x2) fun x5_4 =>
        fX9_greatestCommon_3 w n x2 x5_4 (x4 + 1)
      else
      some x0
    else
    some x0
def fX9_greatestCommon (w : HW) (x0 : Int64) (x2 : Int64) : Option Int64 :=
  fX9_greatestCommon_3 w FU x0 x2 0
/-! SacredHens.partOfFraction -/
def fX9_partOfFraction (w : HW) (x0 : Int64) (x2 : Int64) (x4 : Int32) : Option Int64 :=
  bI (fX9_greatestCommon w x0 x2) fun r_1 =>
  if lg_cmp r_1 0 = 0 then
    some 0
  else
  if x4 = 0 then
    if r_1 = 0 then none else
    some (x0 / r_1)
  else
  if r_1 = 0 then none else
  some (x2 / r_1)
/-! SacredHens.doubt -/
def fX9_doubt (w : HW) (x1 : Int32) (x2 : Int32) : Option (Int64 × HW) :=
  bI (fX9_isChoice w x2) fun r_1 =>
  if r_1 = 0 then
    some ((-2), w)
  else
  bW (fX9_lookAtList w x1) fun r_4 w_5 =>
  if r_4 < 0 then
    some (r_4.toInt64, w_5)
  else
  bI (fX7_waysAsGood w_5) fun r_7 =>
  bI (fX7_allWays w_5) fun r_9 =>
  bI (fX9_partOfFraction w_5 r_7 r_9 x2) fun r_11 =>
  some (r_11, w_5)
/-! SacredHens.share -/
def fX9_share (w : HW) (x1 : Int32) (x2 : Int32) (x3 : Int32) : Option (Int32 × HW) :=
  bI (fX9_isChoice w x2) fun r_1 =>
  if ¬ r_1 = 0 then
    bI (fX9_isChoice w x3) fun r_4 =>
    if r_4 = 0 then
      some ((-2), w)
    else
    bW (fX9_lookAtList w x1) fun r_7 w_8 =>
    if r_7 < 0 then
      some (r_7, w_8)
    else
    bI (fX7_withSign w_8 x2) fun r_10 =>
    if r_10 = 0 then
      some ((-1), w_8)
    else
    bI (fX7_howMany w_8 x2 1) fun r_13 =>
    bI (fX9_partOfFraction w_8 (r_13.toInt64) (r_10.toInt64) x3) fun r_15 =>
    some (r_15.toInt32, w_8)
  else
  some ((-2), w)
/-! java/lang/Integer.compare -/
def fJ6_compare_7cf53 (w : HW) (x0 : Int32) (x1 : Int32) : Option Int32 :=
  if x0 < x1 then
    some (-1)
  else
  if x0 = x1 then
    some 0
  else
  some 1
/-! SacredHens.leans -/
def fX9_leans (w : HW) (x1 : Int32) : Option (Int32 × HW) :=
  bW (fX9_lookAtList w x1) fun r_1 w_2 =>
  if r_1 < 0 then
    some (r_1, w_2)
  else
  bI (fX7_howMany w_2 1 1) fun r_4 =>
  bI (fX7_withSign w_2 0) fun r_6 =>
  lT (r_4 * r_6) fun x3_8 =>
  bI (fX7_howMany w_2 0 1) fun r_9 =>
  bI (fX7_withSign w_2 1) fun r_11 =>
  lT (r_9 * r_11) fun x4_13 =>
  bI (fJ6_compare_7cf53 w_2 x3_8 x4_13) fun r_14 =>
  some (r_14, w_2)
/-! SacredHens.isWorth -/
def fX9_isWorth (w : HW) (x0 : Int32) : Option Int32 :=
  if ¬ x0 < 0 then
    if ¬ 99 < x0 then
      some 1
    else
    some 0
  else
  some 0
/-! SacredHens.generalHas -/
def fX9_generalHas (w : HW) (x0 : Int32) (x1 : Int32) (x2 : Int32) (x3 : Int32) : Option Int32 :=
  if x2 = 0 then
    some (x0 - x1)
  else
  if ¬ x3 = 0 then
    some 0
  else
  some x0
/-! SacredHens.augurHas -/
def fX9_augurHas_9 (w : HW) (x0 : Int32) (x1 : Int32) (x2 : Int32) (x3 : Int32) (s0 : Int32) : Option Int32 :=
  if x2 = 0 then
    some (x1 - s0)
  else
  if ¬ x3 = 0 then
    some (x0 - s0)
  else
  some 0
def fX9_augurHas (w : HW) (x0 : Int32) (x1 : Int32) (x2 : Int32) (x3 : Int32) : Option Int32 :=
  if ¬ x3 = 0 then
    fX9_augurHas_9 w x0 x1 x2 x3 1
  else
  fX9_augurHas_9 w x0 x1 x2 x3 0
/-! SacredHens.isAtRest -/
def fX9_isAtRest_18 (w : HW) (x0 : Int32) (x1 : Int32) (x2 : Int32) (x3 : Int32) (s0 : Int32) (s1 : Int32) (s2 : Int32) (s3 : Int32) : Option Int32 :=
  bI (fX9_generalHas w s2 s1 s0 x3) fun r_4 =>
  if ¬ s3 < r_4 then
    bI (fX9_augurHas w x0 x1 x2 x3) fun r_7 =>
    if x3 = 0 then
      bI (fX9_augurHas w x0 x1 x2 1) fun r_10 =>
      if ¬ r_7 < r_10 then
        some 1
      else
      some 0
    else
    bI (fX9_augurHas w x0 x1 x2 0) fun r_13 =>
    if ¬ r_7 < r_13 then
      some 1
    else
    some 0
  else
  some 0
def fX9_isAtRest (w : HW) (x0 : Int32) (x1 : Int32) (x2 : Int32) (x3 : Int32) : Option Int32 :=
  bI (fX9_generalHas w x0 x1 x2 x3) fun r_1 =>
  if x2 = 0 then
    fX9_isAtRest_18 w x0 x1 x2 x3 1 x1 x0 r_1
  else
  fX9_isAtRest_18 w x0 x1 x2 x3 0 x1 x0 r_1
/-! SacredHens.rests -/
def fX9_rests_53 (w : HW) (K12 : Int32 → Int32 → Option Int32) (x1 : Int32) (x2 : Int32) (x3 : Int32) (x4 : Int32) (s0 : Int32) (s1 : Int32) (s2 : Int32) (s3 : Int32) : Option Int32 :=
  bI (fX9_isAtRest w s3 s2 s1 s0) fun r_11 =>
  if ¬ r_11 = 0 then
    lT (x3 ||| (iSl 1 x4)) fun x3_14 =>
    K12 x3_14 (x4 + 1)
  else
  K12 x3 (x4 + 1)
def fX9_rests_22 (w : HW) (x1 : Int32) (x2 : Int32) : Nat → Int32 → Int32 → Option Int32
  | 0, _, _ => none
  | n + 1, x3, x4 =>
    if x4 < 4 then
      if x4 < 2 then
        if iRm x4 2 = 0 then
          fX9_rests_53 w (fun x3 x4 => fX9_rests_22 w x1 x2 n x3 x4) x1 x2 x3 x4 1 1 x2 x1
        else
        fX9_rests_53 w (fun x3 x4 => fX9_rests_22 w x1 x2 n x3 x4) x1 x2 x3 x4 0 1 x2 x1
      else
      if iRm x4 2 = 0 then
        fX9_rests_53 w (fun x3 x4 => fX9_rests_22 w x1 x2 n x3 x4) x1 x2 x3 x4 1 0 x2 x1
      else
      fX9_rests_53 w (fun x3 x4 => fX9_rests_22 w x1 x2 n x3 x4) x1 x2 x3 x4 0 0 x2 x1
    else
    some x3
def fX9_rests (w : HW) (x1 : Int32) (x2 : Int32) : Option Int32 :=
  bI (fX9_isWorth w x1) fun r_1 =>
  if ¬ r_1 = 0 then
    bI (fX9_isWorth w x2) fun r_4 =>
    if r_4 = 0 then
      some (-2)
    else
    fX9_rests_22 w x1 x2 FU 0 0
  else
  some (-2)
/-! SacredHens.believes -/
def fX9_believes_12 (w : HW) (x1 : Int32) : Nat → Int32 → Option Int32
  | 0, _ => none
  | n + 1, x2 =>
    if ¬ 99 < x2 then
      bI (fX9_isAtRest w x1 x2 1 1) fun r_5 =>
      if ¬ r_5 = 0 then
        some x2
      else
      fX9_believes_12 w x1 n (x2 + 1)
    else
    some (-1)
def fX9_believes (w : HW) (x1 : Int32) : Option Int32 :=
  bI (fX9_isWorth w x1) fun r_1 =>
  if r_1 = 0 then
    some (-2)
  else
  fX9_believes_12 w x1 FU 0
/-! SacredHens.chance -/
def fX9_chance_55 (x1 : Int32) (x2 : Int32) : Nat → HW → Int64 → Int64 → Int32 → Option (Int64 × HW)
  | 0, _, _, _, _ => none
  | n + 1, w, x3, x5, x7 =>
    if x7 < x2 then
      lT (gR w 0 10) fun j_17 =>
      if isC j_17 = true then
        lT (x3 * ((gI w j_17 4).toInt64)) fun x3_18 =>
        lT (x5 * 10) fun x5_19 =>
        fX9_chance_55 x1 x2 n w x3_18 x5_19 (x7 + 1)
      else none
    else
    bI (fX9_partOfFraction w x3 x5 x1) fun r_20 =>
    some (r_20, w)
def fX9_chance (w : HW) (x1 : Int32) : Option (Int64 × HW) :=
  bI (fX9_isChoice w x1) fun r_1 =>
  if ¬ r_1 = 0 then
    lT (gR w 0 10) fun j_4 =>
    if isC j_4 = true then
      bI (fX0_isTold w j_4) fun r_5 =>
      if r_5 = 0 then
        some ((-2), w)
      else
      lT (gR w 0 10) fun j_8 =>
      if isC j_8 = true then
        bI (fX6_play w j_8) fun w_10 =>
        lT (gR w_10 0 10) fun j_11 =>
        if isC j_11 = true then
          bI (fX6_passing w_10 j_11) fun r_12 =>
          bI (fJ6_bitCount_0f7a4 w_10 r_12) fun r_14 =>
          fX9_chance_55 x1 r_14 FU w_10 1 1 0
        else none
      else none
    else none
  else
  some ((-2), w)
/-! SacredHens$Camp.isFree -/
def fX0_isFree (w : HW) (k0 : Nat) (x1 : Int32) : Option Int32 :=
  bI (fX0_askedDays w k0) fun r_1 =>
  bI (fX0_fedDays w k0) fun r_3 =>
  bI (fX9_holds w (r_1 ||| r_3) x1) fun r_5 =>
  if r_5 = 0 then
    some 1
  else
  some 0
/-! SacredHens$Camp.isAskedFor -/
def fX0_isAskedFor_2 (w : HW) (k0 : Nat) (x1 : Int32) : Nat → Int32 → Option Int32
  | 0, _ => none
  | n + 1, x2 =>
    if x2 < gI w k0 14 then
      if inB x2 20 = true then
        if gI w (k0 + 8) (ix x2) = x1 then
          some 1
        else
        fX0_isAskedFor_2 w k0 x1 n (x2 + 1)
      else none
    else
    some 0
def fX0_isAskedFor (w : HW) (k0 : Nat) (x1 : Int32) : Option Int32 :=
  fX0_isAskedFor_2 w k0 x1 FU 0
/-! SacredHens$Camp.act -/
def fX0_act (w : HW) (k0 : Nat) (x1 : Int32) (x2 : Int32) : Option HW :=
  if gI w k0 14 < 20 then
    if inB (gI w k0 14) 20 = true then
      lT (uI w (k0 + 7) (ix (gI w k0 14)) x1) fun w_3 =>
      if inB (gI w_3 k0 14) 20 = true then
        lT (uI w_3 (k0 + 8) (ix (gI w_3 k0 14)) x2) fun w_5 =>
        lT (uI w_5 k0 14 ((gI w_5 k0 14) + 1)) fun w_6 =>
        some w_6
      else none
    else none
  else
  some w
/-! SacredHens.asks -/
def fX9_asks (w : HW) (x1 : Int32) (x2 : Int32) : Option (Int32 × HW) :=
  lT (gR w 0 10) fun j_1 =>
  if isC j_1 = true then
    bI (fX0_hasBill w j_1 x1) fun r_2 =>
    if ¬ r_2 = 0 then
      lT (gR w 0 10) fun j_5 =>
      if isC j_5 = true then
        bI (fX0_hasDay w j_5 x2) fun r_6 =>
        if r_6 = 0 then
          some ((-2), w)
        else
        lT (gR w 0 10) fun j_9 =>
        if isC j_9 = true then
          bI (fX0_isFree w j_9 x2) fun r_10 =>
          if ¬ r_10 = 0 then
            lT (gR w 0 10) fun j_13 =>
            if isC j_13 = true then
              bI (fX0_isAskedFor w j_13 x1) fun r_14 =>
              if r_14 = 0 then
                lT (gR w 0 10) fun j_17 =>
                if isC j_17 = true then
                  if ¬ gI w j_17 14 < 20 then
                    some ((-5), w)
                  else
                  lT (gR w 0 10) fun j_19 =>
                  if isC j_19 = true then
                    bI (fX0_act w j_19 x2 x1) fun w_21 =>
                    lT (gR w_21 0 10) fun j_22 =>
                    if isC j_22 = true then
                      bI (fX6_play w_21 j_22) fun w_24 =>
                      if inB x1 8 = true then
                        if gI w_24 7 (ix x1) = (-1) then
                          some (0, w_24)
                        else
                        some (1, w_24)
                      else none
                    else none
                  else none
                else none
              else
              some ((-5), w)
            else none
          else
          some ((-5), w)
        else none
      else none
    else
    some ((-2), w)
  else none
/-! SacredHens.feeds -/
def fX9_feeds (w : HW) (x1 : Int32) : Option (Int32 × HW) :=
  lT (gR w 0 10) fun j_1 =>
  if isC j_1 = true then
    bI (fX0_hasDay w j_1 x1) fun r_2 =>
    if r_2 = 0 then
      some ((-2), w)
    else
    lT (gR w 0 10) fun j_5 =>
    if isC j_5 = true then
      bI (fX0_isFree w j_5 x1) fun r_6 =>
      if ¬ r_6 = 0 then
        lT (gR w 0 10) fun j_9 =>
        if isC j_9 = true then
          if ¬ gI w j_9 14 < 20 then
            some ((-5), w)
          else
          lT (gR w 0 10) fun j_11 =>
          if isC j_11 = true then
            bI (fX0_act w j_11 x1 (-1)) fun w_13 =>
            lT (gR w_13 0 10) fun j_14 =>
            if isC j_14 = true then
              bI (fX6_play w_13 j_14) fun w_16 =>
              if inB x1 14 = true then
                some (gI w_16 5 (ix x1), w_16)
              else none
            else none
          else none
        else none
      else
      some ((-5), w)
    else none
  else none
/-! SacredHens.undo -/
def fX9_undo (w : HW) : Option (Int32 × HW) :=
  lT (gR w 0 10) fun j_1 =>
  if isC j_1 = true then
    bI (fX0_isTold w j_1) fun r_2 =>
    if r_2 = 0 then
      some ((-2), w)
    else
    lT (gR w 0 10) fun j_5 =>
    if isC j_5 = true then
      if ¬ 0 < gI w j_5 14 then
        some ((-5), w)
      else
      lT (gR w 0 10) fun j_7 =>
      if isC j_7 = true then
        lT (uI w j_7 14 ((gI w j_7 14) - 1)) fun w_8 =>
        lT (gR w_8 0 10) fun j_9 =>
        if isC j_9 = true then
          some (gI w_8 j_9 14, w_8)
        else none
      else none
    else none
  else none
/-! SacredHens.anew -/
def fX9_anew (w : HW) : Option (Int32 × HW) :=
  lT (gR w 0 10) fun j_1 =>
  if isC j_1 = true then
    bI (fX0_isTold w j_1) fun r_2 =>
    if r_2 = 0 then
      some ((-2), w)
    else
    lT (gR w 0 10) fun j_5 =>
    if isC j_5 = true then
      lT (gI w j_5 14) fun x1_6 =>
      lT (gR w 0 10) fun j_7 =>
      if isC j_7 = true then
        lT (uI w j_7 14 0) fun w_8 =>
        some (x1_6, w_8)
      else none
    else none
  else none
/-! SacredHens.isSeed -/
def fX9_isSeed (w : HW) (x0 : Int32) : Option Int32 :=
  if ¬ x0 < 0 then
    if ¬ 2000000000 < x0 then
      some 1
    else
    some 0
  else
  some 0
/-! SacredHens$Season.draw -/
def fX6_draw (w : HW) (k1 : Nat) (x2 : Int32) : Option HW :=
  lT (uL w 4 7 (x2.toInt64)) fun w_1 =>
  bI (fX6_live w_1 k1 1) fun w_3 =>
  some w_3
/-! SacredHens.drawn -/
def fX9_drawn (w : HW) (x1 : Int32) (x2 : Int32) : Option (Int32 × HW) :=
  bI (fX9_isSeed w x1) fun r_1 =>
  if ¬ r_1 = 0 then
    bI (fX9_isChoice w x2) fun r_4 =>
    if ¬ r_4 = 0 then
      lT (gR w 0 10) fun j_7 =>
      if isC j_7 = true then
        bI (fX0_isTold w j_7) fun r_8 =>
        if r_8 = 0 then
          some ((-2), w)
        else
        lT (gR w 0 10) fun j_11 =>
        if isC j_11 = true then
          bI (fX6_draw w j_11 x1) fun w_13 =>
          if x2 = 0 then
            lT (gR w_13 0 10) fun j_15 =>
            if isC j_15 = true then
              bI (fX6_passing w_13 j_15) fun r_16 =>
              some (r_16, w_13)
            else none
          else
          some (gI w_13 4 4, w_13)
        else none
      else none
    else
    some ((-2), w)
  else
  some ((-2), w)
/-! SacredHens.luck -/
def fX9_luck_38 (x1 : Int32) (x2 : Int32) (x3 : Int32) : Nat → HW → Int32 → Int32 → Option (Int32 × HW)
  | 0, _, _, _ => none
  | n + 1, w, x4, x5 =>
    if x5 < x2 then
      lT (gR w 0 10) fun j_11 =>
      if isC j_11 = true then
        bI (fX6_draw w j_11 (x1 + x5)) fun w_13 =>
        if inB x3 8 = true then
          if ¬ gI w_13 7 (ix x3) = (-1) then
            fX9_luck_38 x1 x2 x3 n w_13 (x4 + 1) (x5 + 1)
          else
          fX9_luck_38 x1 x2 x3 n w_13 x4 (x5 + 1)
        else none
      else none
    else
    some (x4, w)
def fX9_luck (w : HW) (x1 : Int32) (x2 : Int32) (x3 : Int32) : Option (Int32 × HW) :=
  bI (fX9_isSeed w x1) fun r_1 =>
  if ¬ r_1 = 0 then
    if ¬ x2 < 1 then
      if ¬ 20 < x2 then
        lT (gR w 0 10) fun j_6 =>
        if isC j_6 = true then
          bI (fX0_hasBill w j_6 x3) fun r_7 =>
          if r_7 = 0 then
            some ((-2), w)
          else
          fX9_luck_38 x1 x2 x3 FU w 0 0
        else none
      else
      some ((-2), w)
    else
    some ((-2), w)
  else
  some ((-2), w)
/-! SacredHens.rate -/
def fX9_rate (w : HW) (x1 : Int32) (x2 : Int32) : Option (Int32 × HW) :=
  lT (gR w 0 10) fun j_1 =>
  if isC j_1 = true then
    bI (fX0_hasBill w j_1 x1) fun r_2 =>
    if ¬ r_2 = 0 then
      bI (fX9_isWorth w x2) fun r_5 =>
      if r_5 = 0 then
        some ((-2), w)
      else
      lT (gR w 0 10) fun j_8 =>
      if isC j_8 = true then
        if 0 < gI w j_8 14 then
          some ((-5), w)
        else
        lT (gR w 0 10) fun j_10 =>
        if isC j_10 = true then
          if inB x1 8 = true then
            lT (gI w (j_10 + 5) (ix x1)) fun x3_12 =>
            lT (gR w 0 10) fun j_13 =>
            if isC j_13 = true then
              if inB x1 8 = true then
                lT (uI w (j_13 + 5) (ix x1) x2) fun w_15 =>
                some (x3_12, w_15)
              else none
            else none
          else none
        else none
      else none
    else
    some ((-2), w)
  else none
/-! SacredHens.slotsInUse -/
def fX9_slotsInUse_4 (w : HW) : Nat → Int32 → Int32 → Option Int32
  | 0, _, _ => none
  | n + 1, x1, x2 =>
    if x2 < 4 then
      if inB x2 4 = true then
        bI (fX5_isThere w (44 + 2 * ix x2)) fun r_3 =>
        if ¬ r_3 = 0 then
          fX9_slotsInUse_4 w n (x1 + 1) (x2 + 1)
        else
        fX9_slotsInUse_4 w n x1 (x2 + 1)
      else none
    else
    some x1
def fX9_slotsInUse (w : HW) : Option Int32 :=
  fX9_slotsInUse_4 w FU 0 0
/-! SacredHens.count -/
def fX9_count (w : HW) (x1 : Int32) : Option Int32 :=
  if x1 = 0 then
    lT (gR w 0 10) fun j_2 =>
    if isC j_2 = true then
      some (gI w j_2 1)
    else none
  else
  if x1 = 1 then
    lT (gR w 0 10) fun j_4 =>
    if isC j_4 = true then
      some (gI w j_4 2)
    else none
  else
  if x1 = 2 then
    lT (gR w 0 10) fun j_6 =>
    if isC j_6 = true then
      some (gI w j_6 3)
    else none
  else
  if x1 = 3 then
    lT (gR w 0 10) fun j_8 =>
    if isC j_8 = true then
      some (gI w j_8 4)
    else none
  else
  if x1 = 4 then
    lT (gR w 0 10) fun j_10 =>
    if isC j_10 = true then
      some (gI w j_10 6)
    else none
  else
  if x1 = 5 then
    lT (gR w 0 10) fun j_12 =>
    if isC j_12 = true then
      some (gI w j_12 10)
    else none
  else
  if x1 = 6 then
    lT (gR w 0 10) fun j_14 =>
    if isC j_14 = true then
      some (gI w j_14 14)
    else none
  else
  if x1 = 7 then
    lT (gR w 0 10) fun j_16 =>
    if isC j_16 = true then
      some (gI w j_16 0)
    else none
  else
  if x1 = 8 then
    some (gI w 1 1)
  else
  if x1 = 9 then
    bI (fX9_slotsInUse w) fun r_19 =>
    some r_19
  else
  some (-1)
/-! SacredHens.hasImage -/
def fX9_hasImage (w : HW) (x0 : Int32) : Option Int32 :=
  if ¬ x0 < 0 then
    if x0 < 3 then
      some 1
    else
    some 0
  else
  some 0
/-! SacredHens$Camp.becomeLike -/
def fX0_becomeLike (w : HW) (k0 : Nat) (k1 : Nat) : Option HW :=
  lT (uI w k0 0 (gI w k1 0)) fun w_1 =>
  lT (uI w_1 k0 1 (gI w_1 k1 1)) fun w_2 =>
  lT (uI w_2 k0 2 (gI w_2 k1 2)) fun w_3 =>
  lT (uI w_3 k0 3 (gI w_3 k1 3)) fun w_4 =>
  lT (uI w_4 k0 4 (gI w_4 k1 4)) fun w_5 =>
  lT (uI w_5 k0 5 (gI w_5 k1 5)) fun w_6 =>
  lT (uI w_6 k0 6 (gI w_6 k1 6)) fun w_7 =>
  lT (uI w_7 k0 10 (gI w_7 k1 10)) fun w_8 =>
  lT (uI w_8 k0 14 (gI w_8 k1 14)) fun w_9 =>
  if cpB 0 0 8 8 8 = true then
    lT (uC w_9 (k1 + 1) (k0 + 1) (ix 0) (ix 0) (ix 8)) fun w_10 =>
    if cpB 0 0 8 8 8 = true then
      lT (uC w_10 (k1 + 2) (k0 + 2) (ix 0) (ix 0) (ix 8)) fun w_11 =>
      if cpB 0 0 8 8 8 = true then
        lT (uC w_11 (k1 + 3) (k0 + 3) (ix 0) (ix 0) (ix 8)) fun w_12 =>
        if cpB 0 0 8 8 8 = true then
          lT (uC w_12 (k1 + 4) (k0 + 4) (ix 0) (ix 0) (ix 8)) fun w_13 =>
          if cpB 0 0 8 8 8 = true then
            lT (uC w_13 (k1 + 5) (k0 + 5) (ix 0) (ix 0) (ix 8)) fun w_14 =>
            if cpB 0 0 8 8 8 = true then
              lT (uC w_14 (k1 + 6) (k0 + 6) (ix 0) (ix 0) (ix 8)) fun w_15 =>
              if cpB 0 0 20 20 20 = true then
                lT (uC w_15 (k1 + 7) (k0 + 7) (ix 0) (ix 0) (ix 20)) fun w_16 =>
                if cpB 0 0 20 20 20 = true then
                  lT (uC w_16 (k1 + 8) (k0 + 8) (ix 0) (ix 0) (ix 20)) fun w_17 =>
                  some w_17
                else none
              else none
            else none
          else none
        else none
      else none
    else none
  else none
/-! SacredHens.image -/
def fX9_image (w : HW) (x1 : Int32) : Option (Int32 × HW) :=
  bI (fX9_hasImage w x1) fun r_1 =>
  if r_1 = 0 then
    some ((-2), w)
  else
  if inB x1 3 = true then
    lT (gR w 0 10) fun j_5 =>
    if isC j_5 = true then
      bI (fX0_becomeLike w (52 + 9 * ix x1) j_5) fun w_7 =>
      if inB x1 3 = true then
        lT (uI w_7 25 (ix x1) (vp_nar .boolean 1)) fun w_9 =>
        some (0, w_9)
      else none
    else none
  else none
/-! SacredHens.back -/
def fX9_back (w : HW) (x1 : Int32) : Option (Int32 × HW) :=
  bI (fX9_hasImage w x1) fun r_1 =>
  if r_1 = 0 then
    some ((-2), w)
  else
  if inB x1 3 = true then
    if gI w 25 (ix x1) = 0 then
      some ((-6), w)
    else
    lT (gR w 0 10) fun j_6 =>
    if isC j_6 = true then
      if inB x1 3 = true then
        bI (fX0_becomeLike w j_6 (52 + 9 * ix x1)) fun w_9 =>
        some (0, w_9)
      else none
    else none
  else none
/-! SacredHens$Row.begin -/
def fX5_begin_12 (k0 : Nat) : Nat → HW → Int32 → Option HW
  | 0, _, _ => none
  | n + 1, w, x3 =>
    if x3 < 60 then
      if inB x3 60 = true then
        lT (uL w (k0 + 1) (ix x3) 0) fun w_5 =>
        fX5_begin_12 k0 n w_5 (x3 + 1)
      else none
    else
    some w
def fX5_begin (w : HW) (k0 : Nat) (x1 : Int32) (x2 : Int32) : Option HW :=
  lT (uI w k0 1 x1) fun w_1 =>
  lT (uI w_1 k0 2 x2) fun w_2 =>
  fX5_begin_12 k0 FU w_2 0
/-! SacredHens.row -/
def fX9_row (w : HW) (x1 : Int32) (x2 : Int32) (x3 : Int32) : Option (Int32 × HW) :=
  bI (fX9_hasSlot w x1) fun r_1 =>
  if ¬ r_1 = 0 then
    if ¬ x2 < 0 then
      if ¬ 3 < x2 then
        if 60 < x3 then
          some ((-2), w)
        else
        if x3 < 0 then
          some ((-3), w)
        else
        if inB x1 4 = true then
          bI (fX5_begin w (44 + 2 * ix x1) x2 x3) fun w_10 =>
          some (0, w_10)
        else none
      else
      some ((-2), w)
    else
    some ((-2), w)
  else
  some ((-2), w)
/-! SacredHens$Row.cut -/
def fX5_cut (w : HW) (k0 : Nat) (x1 : Int64) : Option Int64 :=
  if gI w k0 1 = 0 then
    some ((iB (x1.toInt32)).toInt64)
  else
  if gI w k0 1 = 1 then
    some ((iS (x1.toInt32)).toInt64)
  else
  if gI w k0 1 = 2 then
    some ((x1.toInt32).toInt64)
  else
  some x1
/-! SacredHens.write -/
def fX9_write (w : HW) (x1 : Int32) (x2 : Int32) (x3 : Int64) : Option (Int32 × HW) :=
  bI (fX9_hasSlot w x1) fun r_1 =>
  if r_1 = 0 then
    some ((-2), w)
  else
  if inB x1 4 = true then
    bI (fX5_isThere w (44 + 2 * ix x1)) fun r_5 =>
    if r_5 = 0 then
      some ((-6), w)
    else
    if ¬ x2 < 0 then
      if ¬ x2 < gI w (44 + 2 * ix x1) 2 then
        some ((-7), w)
      else
      bI (fX5_cut w (44 + 2 * ix x1) x3) fun r_10 =>
      if inB x2 60 = true then
        lT (uL w ((44 + 2 * ix x1) + 1) (ix x2) r_10) fun w_13 =>
        some (0, w_13)
      else none
    else
    some ((-7), w)
  else none
/-! SacredHens$Row.reaches -/
def fX5_reaches (w : HW) (k0 : Nat) (x1 : Int32) (x2 : Int32) : Option Int32 :=
  if ¬ x1 < 0 then
    if ¬ x2 < 0 then
      if ¬ gI w k0 2 < x1 then
        if ¬ (gI w k0 2) - x1 < x2 then
          some 1
        else
        some 0
      else
      some 0
    else
    some 0
  else
  some 0
/-! SacredHens.paste -/
def fX9_paste (w : HW) (x1 : Int32) (x2 : Int32) (x3 : Int32) (x4 : Int32) (x5 : Int32) : Option (Int32 × HW) :=
  bI (fX9_hasSlot w x1) fun r_1 =>
  if ¬ r_1 = 0 then
    bI (fX9_hasSlot w x3) fun r_4 =>
    if r_4 = 0 then
      some ((-2), w)
    else
    if inB x1 4 = true then
      if inB x3 4 = true then
        bI (fX5_isThere w (44 + 2 * ix x1)) fun r_9 =>
        if ¬ r_9 = 0 then
          bI (fX5_isThere w (44 + 2 * ix x3)) fun r_12 =>
          if r_12 = 0 then
            some ((-6), w)
          else
          if ¬ gI w (44 + 2 * ix x1) 1 = gI w (44 + 2 * ix x3) 1 then
            some ((-8), w)
          else
          bI (fX5_reaches w (44 + 2 * ix x1) x2 x5) fun r_16 =>
          if ¬ r_16 = 0 then
            bI (fX5_reaches w (44 + 2 * ix x3) x4 x5) fun r_19 =>
            if r_19 = 0 then
              some ((-7), w)
            else
            if cpB x2 x4 x5 60 60 = true then
              lT (uCL w ((44 + 2 * ix x1) + 1) ((44 + 2 * ix x3) + 1) (ix x2) (ix x4) (ix x5)) fun w_22 =>
              some (0, w_22)
            else none
          else
          some ((-7), w)
        else
        some ((-6), w)
      else none
    else none
  else
  some ((-2), w)
/-! SacredHensModel.in -/
def fX10_in (w : HW) (x0 : Int64) (x2 : Int64) (x4 : Int64) : Option Int32 :=
  if ¬ lg_cmp x0 x2 < 0 then
    if ¬ 0 < lg_cmp x0 x4 then
      some 1
    else
    some 0
  else
  some 0
/-! SacredHensModel.bits -/
def fX10_bits_4 (w : HW) (x0 : Int32) : Nat → Int32 → Int32 → Option Int32
  | 0, _, _ => none
  | n + 1, x1, x2 =>
    if x2 < 14 then
      lT (x1 + ((iSr x0 x2) &&& 1)) fun x1_2 =>
      fX10_bits_4 w x0 n x1_2 (x2 + 1)
    else
    some x1
def fX10_bits (w : HW) (x0 : Int32) : Option Int32 :=
  fX10_bits_4 w x0 FU 0 0
/-! SacredHensModel.bit -/
def fX10_bit (w : HW) (x0 : Int32) (x1 : Int32) : Option Int32 :=
  some ((iSr x0 x1) &&& 1)
/-! SacredHensModel.image -/
def fX10_image_17 (x1 : Int32) : Nat → HW → Int32 → Option (Int32 × HW)
  | 0, _, _ => none
  | n + 1, w, x2 =>
    if x2 < 77 then
      if inB x2 77 = true then
        if inB ((77 * x1) + x2) 231 = true then
          lT (uI w 81 (ix ((77 * x1) + x2)) (gI w 80 (ix x2))) fun w_7 =>
          fX10_image_17 x1 n w_7 (x2 + 1)
        else none
      else none
    else
    if inB x1 3 = true then
      lT (uI w 82 (ix x1) (vp_nar .boolean 1)) fun w_9 =>
      some (0, w_9)
    else none
def fX10_image (w : HW) (x1 : Int32) : Option (Int32 × HW) :=
  bI (fX10_in w (x1.toInt64) 0 2) fun r_1 =>
  if r_1 = 0 then
    some ((-2), w)
  else
  fX10_image_17 x1 FU w 0
/-! SacredHensModel.back -/
def fX10_back_29 (x1 : Int32) : Nat → HW → Int32 → Option (Int32 × HW)
  | 0, _, _ => none
  | n + 1, w, x2 =>
    if x2 < 77 then
      if inB ((77 * x1) + x2) 231 = true then
        if inB x2 77 = true then
          lT (uI w 80 (ix x2) (gI w 81 (ix ((77 * x1) + x2)))) fun w_9 =>
          fX10_back_29 x1 n w_9 (x2 + 1)
        else none
      else none
    else
    some (0, w)
def fX10_back (w : HW) (x1 : Int32) : Option (Int32 × HW) :=
  bI (fX10_in w (x1.toInt64) 0 2) fun r_1 =>
  if r_1 = 0 then
    some ((-2), w)
  else
  if inB x1 3 = true then
    if gI w 82 (ix x1) = 0 then
      some ((-6), w)
    else
    fX10_back_29 x1 FU w 0
  else none
/-! SacredHensModel.isCamp -/
def fX10_isCamp (w : HW) : Option Int32 :=
  if inB 7 77 = true then
    if 0 < gI w 80 (ix 7) then
      some 1
    else
    some 0
  else none
/-! SacredHensModel.isDay -/
def fX10_isDay (w : HW) (x1 : Int64) : Option Int32 :=
  if inB 0 77 = true then
    bI (fX10_in w x1 0 (((gI w 80 (ix 0)) - 1).toInt64)) fun r_2 =>
    if zB r_2 = true then some r_2 else none
  else none
/-! SacredHensModel.isAugur -/
def fX10_isAugur (w : HW) (x1 : Int32) : Option Int32 :=
  if inB 4 77 = true then
    bI (fX10_in w (x1.toInt64) 0 (((gI w 80 (ix 4)) - 1).toInt64)) fun r_2 =>
    if zB r_2 = true then some r_2 else none
  else none
/-! SacredHensModel.isBill -/
def fX10_isBill (w : HW) (x1 : Int32) : Option Int32 :=
  if inB 5 77 = true then
    bI (fX10_in w (x1.toInt64) 0 (((gI w 80 (ix 5)) - 1).toInt64)) fun r_2 =>
    if zB r_2 = true then some r_2 else none
  else none
/-! SacredHensModel.isSide -/
def fX10_isSide (w : HW) (x1 : Int32) : Option Int32 :=
  bI (fX10_isCamp w) fun r_1 =>
  if ¬ r_1 = 0 then
    bI (fX10_in w (x1.toInt64) 0 1) fun r_4 =>
    if ¬ r_4 = 0 then
      some 1
    else
    some 0
  else
  some 0
/-! SacredHensModel.ofAugur -/
def fX10_ofAugur (w : HW) (x1 : Int32) (x2 : Int32) : Option Int32 :=
  if inB ((9 + (3 * x1)) + x2) 77 = true then
    some (gI w 80 (ix ((9 + (3 * x1)) + x2)))
  else none
/-! SacredHensModel.of -/
def fX10_of (w : HW) (x1 : Int32) (x2 : Int32) : Option Int32 :=
  if inB ((33 + (3 * x1)) + x2) 77 = true then
    some (gI w 80 (ix ((33 + (3 * x1)) + x2)))
  else none
/-! SacredHensModel.feed -/
def fX10_feed_101 (w : HW) : Option (Int32 × HW) :=
  lT (uI w 79 5 ((gI w 79 5) + 20)) fun w_16 =>
  some (gI w_16 79 5, w_16)
def fX10_feed_55 : Nat → HW → Int32 → Option (Int32 × HW)
  | 0, _, _ => none
  | n + 1, w, x6 =>
    if x6 < 20 then
      if inB (x6 / 4) 5 = true then
        if inB ((gI w 79 5) + x6) 800 = true then
          lT (uI w 83 (ix ((gI w 79 5) + x6)) (vp_nar .byte (iB (iSr (gI w 84 (ix (x6 / 4))) (24 - (8 * (iRm x6 4))))))) fun w_15 =>
          fX10_feed_55 n w_15 (x6 + 1)
        else none
      else none
    else
    fX10_feed_101 w
def fX10_feed (w : HW) (x1 : Int32) (x2 : Int32) (x3 : Int32) (x4 : Int32) (x5 : Int32) : Option (Int32 × HW) :=
  if 800 < (gI w 79 5) + 20 then
    some ((-1), w)
  else
  if inB 0 5 = true then
    lT (uI w 84 (ix 0) x1) fun w_3 =>
    if inB 1 5 = true then
      lT (uI w_3 84 (ix 1) x2) fun w_5 =>
      if inB 2 5 = true then
        lT (uI w_5 84 (ix 2) x3) fun w_7 =>
        if inB 3 5 = true then
          lT (uI w_7 84 (ix 3) x4) fun w_9 =>
          if inB 4 5 = true then
            lT (uI w_9 84 (ix 4) x5) fun w_11 =>
            fX10_feed_55 FU w_11 0
          else none
        else none
      else none
    else none
  else none
/-! SacredHensModel.end -/
def fX10_end (w : HW) (x1 : Int32) : Option (Int32 × HW) :=
  bI (fX10_in w (x1.toInt64) 0 ((gI w 79 5).toInt64)) fun r_1 =>
  if r_1 = 0 then
    some ((-1), w)
  else
  lT (uI w 79 5 x1) fun w_4 =>
  some (x1, w_4)
/-! SacredHensModel.see -/
def fX10_see (w : HW) (x1 : Int32) : Option Int32 :=
  if x1 < gI w 79 7 then
    if inB x1 800 = true then
      some ((gI w 83 (ix x1)) &&& 255)
    else none
  else
  some (-1)
/-! SacredHensModel.advance -/
def fX10_advance_144 : Nat → HW → Option HW
  | 0, _ => none
  | n + 1, w =>
    bI (fX10_see w (gI w 79 8)) fun r_33 =>
    bI (fX10_in w (r_33.toInt64) 48 57) fun r_35 =>
    if ¬ r_35 = 0 then
      bI (fX10_see w (gI w 79 8)) fun r_38 =>
      lT (uI w 79 11 (iMn 99999 (((10 * (gI w 79 11)) + r_38) - 48))) fun w_40 =>
      lT (uI w_40 79 8 ((gI w_40 79 8) + 1)) fun w_41 =>
      fX10_advance_144 n w_41
    else
    lT (uI w 79 10 2) fun w_42 =>
    some w_42
def fX10_advance_83 : Nat → HW → Option HW
  | 0, _ => none
  | n + 1, w =>
    bI (fX10_see w (gI w 79 8)) fun r_26 =>
    bI (fX10_in w (r_26.toInt64) 97 122) fun r_28 =>
    if ¬ r_28 = 0 then
      lT (uI w 79 8 ((gI w 79 8) + 1)) fun w_31 =>
      fX10_advance_83 n w_31
    else
    lT (uI w 79 10 1) fun w_32 =>
    some w_32
def fX10_advance_39 (w : HW) : Option HW :=
  lT (uI w 79 9 (gI w 79 8)) fun w_9 =>
  bI (fX10_see w_9 (gI w_9 79 8)) fun r_10 =>
  if r_10 = (-1) then
    lT (uI w_9 79 10 0) fun w_13 =>
    some w_13
  else
  bI (fX10_in w_9 (r_10.toInt64) 97 122) fun r_14 =>
  if ¬ r_14 = 0 then
    fX10_advance_83 FU w_9
  else
  bI (fX10_in w_9 (r_10.toInt64) 48 57) fun r_17 =>
  if ¬ r_17 = 0 then
    lT (uI w_9 79 11 0) fun w_20 =>
    fX10_advance_144 FU w_20
  else
  if r_10 = 59 then
    lT (uI w_9 79 10 3) fun w_22 =>
    lT (uI w_22 79 8 ((gI w_22 79 8) + 1)) fun w_23 =>
    some w_23
  else
  lT (uI w_9 79 10 4) fun w_24 =>
  lT (uI w_24 79 8 ((gI w_24 79 8) + 1)) fun w_25 =>
  some w_25
def fX10_advance_0 : Nat → HW → Option HW
  | 0, _ => none
  | n + 1, w =>
    bI (fX10_see w (gI w 79 8)) fun r_1 =>
    if ¬ r_1 = 32 then
      bI (fX10_see w (gI w 79 8)) fun r_4 =>
      if r_4 = 10 then
        lT (uI w 79 8 ((gI w 79 8) + 1)) fun w_7 =>
        fX10_advance_0 n w_7
      else
      fX10_advance_39 w
    else
    lT (uI w 79 8 ((gI w 79 8) + 1)) fun w_8 =>
    fX10_advance_0 n w_8
def fX10_advance (w : HW) : Option HW :=
  fX10_advance_0 FU w
/-! SacredHensModel.good -/
def fX10_good (w : HW) : Option Int32 :=
  if gI w 79 12 = 0 then
    some 1
  else
  some 0
/-! SacredHensModel.errs -/
def fX10_errs (w : HW) (x1 : Int32) : Option HW :=
  bI (fX10_good w) fun r_1 =>
  if r_1 = 0 then
    some w
  else
  lT (uI w 79 12 x1) fun w_4 =>
  lT (uI w_4 79 13 (gI w_4 79 9)) fun w_5 =>
  some w_5
/-! SacredHensModel.is -/
def fX10_is_39 (w : HW) (q1 : Nat) : Nat → Int32 → Int32 → Option Int32
  | 0, _, _ => none
  | n + 1, x2, x3 =>
    if decide (q1 < 13) = true then
      if x3 < sLn q1 then
        if ¬ x2 = 0 then
          if inB ((gI w 79 9) + x3) 800 = true then
            if (decide (q1 < 13) && inB x3 (hlen.getD q1 0)) = true then
              if gI w 83 (ix ((gI w 79 9) + x3)) = sCh q1 x3 then
                fX10_is_39 w q1 n 1 (x3 + 1)
              else
              fX10_is_39 w q1 n 0 (x3 + 1)
            else none
          else none
        else
        if zB x2 = true then some x2 else none
      else
      if zB x2 = true then some x2 else none
    else none
def fX10_is (w : HW) (q1 : Nat) : Option Int32 :=
  bI (fX10_good w) fun r_1 =>
  if ¬ r_1 = 0 then
    if gI w 79 10 = 1 then
      if decide (q1 < 13) = true then
        if (gI w 79 8) - (gI w 79 9) = sLn q1 then
          fX10_is_39 w q1 FU 1 0
        else
        fX10_is_39 w q1 FU 0 0
      else none
    else
    fX10_is_39 w q1 FU 0 0
  else
  fX10_is_39 w q1 FU 0 0
/-! SacredHensModel.takes -/
def fX10_takes (w : HW) (q1 : Nat) : Option (Int32 × HW) :=
  bI (fX10_is w q1) fun r_1 =>
  if ¬ r_1 = 0 then
    bI (fX10_advance w) fun w_5 =>
    if zB r_1 = true then some (r_1, w_5) else none
  else
  if zB r_1 = true then some (r_1, w) else none
/-! SacredHensModel.needs -/
def fX10_needs (w : HW) (q1 : Nat) : Option HW :=
  bW (fX10_takes w q1) fun r_1 w_2 =>
  if r_1 = 0 then
    bI (fX10_errs w_2 1) fun w_5 =>
    some w_5
  else
  some w_2
/-! SacredHensModel.number -/
def fX10_number_47 (w : HW) : Option (Int32 × HW) :=
  bI (fX10_good w) fun r_15 =>
  if r_15 = 0 then
    some (0, w)
  else
  lT (gI w 79 11) fun x3_18 =>
  bI (fX10_advance w) fun w_20 =>
  some (x3_18, w_20)
def fX10_number_20 (w : HW) (x1 : Int32) (x2 : Int32) : Option (Int32 × HW) :=
  bI (fX10_good w) fun r_7 =>
  if ¬ r_7 = 0 then
    bI (fX10_in w ((gI w 79 11).toInt64) (x1.toInt64) (x2.toInt64)) fun r_10 =>
    if r_10 = 0 then
      bI (fX10_errs w 2) fun w_14 =>
      fX10_number_47 w_14
    else
    fX10_number_47 w
  else
  fX10_number_47 w
def fX10_number (w : HW) (x1 : Int32) (x2 : Int32) : Option (Int32 × HW) :=
  bI (fX10_good w) fun r_1 =>
  if ¬ r_1 = 0 then
    if ¬ gI w 79 10 = 2 then
      bI (fX10_errs w 1) fun w_6 =>
      fX10_number_20 w_6 x1 x2
    else
    fX10_number_20 w x1 x2
  else
  fX10_number_20 w x1 x2
/-! SacredHensModel.told -/
def fX10_told (w : HW) (q1 : Nat) (x2 : Int32) (x3 : Int32) : Option (Int32 × HW) :=
  bI (fX10_needs w q1) fun w_2 =>
  bW (fX10_number w_2 x2 x3) fun r_3 w_4 =>
  some (r_3, w_4)
/-! SacredHensModel.fault -/
def fX10_fault (w : HW) (x1 : Int32) : Option Int32 :=
  if x1 = 0 then
    some (gI w 79 12)
  else
  if x1 = 1 then
    some (gI w 79 13)
  else
  some (-1)
/-! SacredHensModel.readFirst -/
def fX10_readFirst (w : HW) : Option HW :=
  bI (fX10_needs w 0) fun w_2 =>
  bW (fX10_told w_2 1 1 14) fun r_3 w_4 =>
  if inB 0 77 = true then
    lT (uI w_4 85 (ix 0) r_3) fun w_6 =>
    bW (fX10_told w_6 2 0 9) fun r_7 w_8 =>
    if inB 1 77 = true then
      lT (uI w_8 85 (ix 1) r_7) fun w_10 =>
      bW (fX10_told w_10 3 1 9) fun r_11 w_12 =>
      if inB 2 77 = true then
        lT (uI w_12 85 (ix 2) r_11) fun w_14 =>
        bW (fX10_told w_14 4 0 10) fun r_15 w_16 =>
        if inB 3 77 = true then
          lT (uI w_16 85 (ix 3) r_15) fun w_18 =>
          some w_18
        else none
      else none
    else none
  else none
/-! SacredHensModel.readAugur -/
def fX10_readAugur (w : HW) : Option HW :=
  if inB 4 77 = true then
    lT (9 + (3 * (gI w 85 (ix 4)))) fun x1_2 =>
    bW (fX10_told w 7 0 1) fun r_3 w_4 =>
    if inB (x1_2 + 0) 77 = true then
      lT (uI w_4 85 (ix (x1_2 + 0)) r_3) fun w_6 =>
      if inB 0 77 = true then
        bW (fX10_told w_6 8 0 ((gI w_6 85 (ix 0)) - 1)) fun r_8 w_9 =>
        if inB (x1_2 + 1) 77 = true then
          lT (uI w_9 85 (ix (x1_2 + 1)) r_8) fun w_11 =>
          if inB (x1_2 + 1) 77 = true then
            if inB 0 77 = true then
              bW (fX10_told w_11 9 (gI w_11 85 (ix (x1_2 + 1))) ((gI w_11 85 (ix 0)) - 1)) fun r_14 w_15 =>
              if inB (x1_2 + 2) 77 = true then
                lT (uI w_15 85 (ix (x1_2 + 2)) r_14) fun w_17 =>
                if inB 4 77 = true then
                  if inB 4 77 = true then
                    lT (uI w_17 85 (ix 4) ((gI w_17 85 (ix 4)) + 1)) fun w_20 =>
                    some w_20
                  else none
                else none
              else none
            else none
          else none
        else none
      else none
    else none
  else none
/-! SacredHensModel.readBill -/
def fX10_readBill_78 (w : HW) (s0 : Int32) (s1 : Int32) : Option HW :=
  if inB s1 77 = true then
    lT (uI w 85 (ix s1) s0) fun w_18 =>
    if inB 5 77 = true then
      if inB 5 77 = true then
        lT (uI w_18 85 (ix 5) ((gI w_18 85 (ix 5)) + 1)) fun w_21 =>
        some w_21
      else none
    else none
  else none
def fX10_readBill (w : HW) : Option HW :=
  if inB 5 77 = true then
    lT (33 + (3 * (gI w 85 (ix 5)))) fun x1_2 =>
    bW (fX10_told w 7 0 1) fun r_3 w_4 =>
    if inB (x1_2 + 0) 77 = true then
      lT (uI w_4 85 (ix (x1_2 + 0)) r_3) fun w_6 =>
      bW (fX10_told w_6 11 0 99) fun r_7 w_8 =>
      if inB (x1_2 + 1) 77 = true then
        lT (uI w_8 85 (ix (x1_2 + 1)) r_7) fun w_10 =>
        bW (fX10_takes w_10 12) fun r_11 w_12 =>
        if ¬ r_11 = 0 then
          if inB 5 77 = true then
            bW (fX10_number w_12 0 ((gI w_12 85 (ix 5)) - 1)) fun r_15 w_16 =>
            fX10_readBill_78 w_16 r_15 (x1_2 + 2)
          else none
        else
        fX10_readBill_78 w_12 (-1) (x1_2 + 2)
      else none
    else none
  else none
/-! SacredHensModel.readNext -/
def fX10_readNext_77 (w : HW) : Option HW :=
  bI (fX10_good w) fun r_26 =>
  if r_26 = 0 then
    some w
  else
  bW (fX10_takes w 5) fun r_29 w_30 =>
  if ¬ r_29 = 0 then
    if inB 0 77 = true then
      bW (fX10_number w_30 0 ((gI w_30 85 (ix 0)) - 1)) fun r_33 w_34 =>
      if inB 8 77 = true then
        if inB 8 77 = true then
          lT (uI w_34 85 (ix 8) ((gI w_34 85 (ix 8)) ||| (iSl 1 r_33))) fun w_37 =>
          some w_37
        else none
      else none
    else none
  else
  bW (fX10_takes w_30 6) fun r_38 w_39 =>
  if ¬ r_38 = 0 then
    bI (fX10_readAugur w_39) fun w_42 =>
    some w_42
  else
  bI (fX10_advance w_39) fun w_44 =>
  bI (fX10_readBill w_44) fun w_46 =>
  some w_46
def fX10_readNext_52 (w : HW) : Option HW :=
  bI (fX10_is w 10) fun r_19 =>
  if ¬ r_19 = 0 then
    if inB 5 77 = true then
      if gI w 85 (ix 5) = 8 then
        bI (fX10_errs w 3) fun w_25 =>
        fX10_readNext_77 w_25
      else
      fX10_readNext_77 w
    else none
  else
  fX10_readNext_77 w
def fX10_readNext_32 (w : HW) : Option HW :=
  bI (fX10_is w 6) fun r_12 =>
  if ¬ r_12 = 0 then
    if inB 4 77 = true then
      if ¬ gI w 85 (ix 4) = 8 then
        fX10_readNext_52 w
      else
      bI (fX10_errs w 3) fun w_18 =>
      fX10_readNext_77 w_18
    else none
  else
  fX10_readNext_52 w
def fX10_readNext (w : HW) : Option HW :=
  bI (fX10_is w 5) fun r_1 =>
  if r_1 = 0 then
    bI (fX10_is w 6) fun r_4 =>
    if r_4 = 0 then
      bI (fX10_is w 10) fun r_7 =>
      if r_7 = 0 then
        bI (fX10_errs w 1) fun w_11 =>
        fX10_readNext_32 w_11
      else
      fX10_readNext_32 w
    else
    fX10_readNext_32 w
  else
  fX10_readNext_32 w
/-! SacredHensModel.readLine -/
def fX10_readLine_52 (w : HW) : Option HW :=
  if inB 7 77 = true then
    if inB 7 77 = true then
      lT (uI w 85 (ix 7) ((gI w 85 (ix 7)) + 1)) fun w_30 =>
      some w_30
    else none
  else none
def fX10_readLine_21 (w : HW) : Option HW :=
  bI (fX10_good w) fun r_7 =>
  if ¬ r_7 = 0 then
    if ¬ gI w 79 10 = 3 then
      bI (fX10_errs w 1) fun w_12 =>
      bI (fX10_good w_12) fun r_13 =>
      if ¬ r_13 = 0 then
        bI (fX10_advance w_12) fun w_17 =>
        fX10_readLine_52 w_17
      else
      fX10_readLine_52 w_12
    else
    bI (fX10_good w) fun r_18 =>
    if ¬ r_18 = 0 then
      bI (fX10_advance w) fun w_22 =>
      fX10_readLine_52 w_22
    else
    fX10_readLine_52 w
  else
  bI (fX10_good w) fun r_23 =>
  if ¬ r_23 = 0 then
    bI (fX10_advance w) fun w_27 =>
    fX10_readLine_52 w_27
  else
  fX10_readLine_52 w
def fX10_readLine (w : HW) : Option HW :=
  if inB 7 77 = true then
    if gI w 85 (ix 7) = 0 then
      bI (fX10_readFirst w) fun w_4 =>
      fX10_readLine_21 w_4
    else
    bI (fX10_readNext w) fun w_6 =>
    fX10_readLine_21 w_6
  else none
/-! SacredHensModel.camp -/
def fX10_camp_86 : Nat → HW → Int32 → Option (Int32 × HW)
  | 0, _, _ => none
  | n + 1, w, x1 =>
    if x1 < 77 then
      if inB x1 77 = true then
        if inB x1 77 = true then
          lT (uI w 80 (ix x1) (gI w 85 (ix x1))) fun w_26 =>
          fX10_camp_86 n w_26 (x1 + 1)
        else none
      else none
    else
    if inB 7 77 = true then
      some (gI w 80 (ix 7), w)
    else none
def fX10_camp_53 : Nat → HW → Option (Int32 × HW)
  | 0, _ => none
  | n + 1, w =>
    bI (fX10_good w) fun r_11 =>
    if ¬ r_11 = 0 then
      if ¬ gI w 79 10 = 0 then
        bI (fX10_readLine w) fun w_16 =>
        fX10_camp_53 n w_16
      else
      bI (fX10_good w) fun r_17 =>
      if r_17 = 0 then
        some ((-4), w)
      else
      fX10_camp_86 FU w 0
    else
    bI (fX10_good w) fun r_20 =>
    if r_20 = 0 then
      some ((-4), w)
    else
    fX10_camp_86 FU w 0
def fX10_camp_30 : Nat → HW → Int32 → Option (Int32 × HW)
  | 0, _, _ => none
  | n + 1, w, x1 =>
    if x1 < 77 then
      if inB x1 77 = true then
        lT (uI w 85 (ix x1) 0) fun w_8 =>
        fX10_camp_30 n w_8 (x1 + 1)
      else none
    else
    bI (fX10_advance w) fun w_10 =>
    fX10_camp_53 FU w_10
def fX10_camp (w : HW) : Option (Int32 × HW) :=
  lT (uI w 79 7 (gI w 79 5)) fun w_1 =>
  lT (uI w_1 79 5 0) fun w_2 =>
  lT (uI w_2 79 8 0) fun w_3 =>
  lT (uI w_3 79 12 0) fun w_4 =>
  lT (uI w_4 79 13 (-1)) fun w_5 =>
  fX10_camp_30 FU w_5 0
/-! SacredHensModel.augur -/
def fX10_augur (w : HW) (x1 : Int32) (x2 : Int32) : Option Int32 :=
  bI (fX10_isAugur w x1) fun r_1 =>
  if ¬ r_1 = 0 then
    bI (fX10_in w (x2.toInt64) 0 2) fun r_4 =>
    if ¬ r_4 = 0 then
      bI (fX10_ofAugur w x1 x2) fun r_7 =>
      some r_7
    else
    some (-2)
  else
  some (-2)
/-! SacredHensModel.bill -/
def fX10_bill (w : HW) (x1 : Int32) (x2 : Int32) : Option Int32 :=
  bI (fX10_isBill w x1) fun r_1 =>
  if ¬ r_1 = 0 then
    bI (fX10_in w (x2.toInt64) 0 2) fun r_4 =>
    if ¬ r_4 = 0 then
      bI (fX10_of w x1 x2) fun r_7 =>
      some r_7
    else
    some (-2)
  else
  some (-2)
/-! SacredHensModel.marks -/
def fX10_marks (w : HW) : Option Int32 :=
  bI (fX10_isCamp w) fun r_1 =>
  if ¬ r_1 = 0 then
    if inB 8 77 = true then
      some (gI w 80 (ix 8))
    else none
  else
  some (-2)
/-! SacredHensModel.daysOf -/
def fX10_daysOf_9 (w : HW) (x1 : Int32) : Nat → Int32 → Int32 → Option Int32
  | 0, _, _ => none
  | n + 1, x2, x3 =>
    bI (fX10_ofAugur w x1 2) fun r_3 =>
    if ¬ r_3 < x3 then
      lT (x2 ||| (iSl 1 x3)) fun x2_6 =>
      fX10_daysOf_9 w x1 n x2_6 (x3 + 1)
    else
    some x2
def fX10_daysOf (w : HW) (x1 : Int32) : Option Int32 :=
  bI (fX10_ofAugur w x1 1) fun r_1 =>
  fX10_daysOf_9 w x1 FU 0 r_1
/-! SacredHensModel.skyBy -/
def fX10_skyBy_5 (w : HW) (x1 : Int32) (x2 : Int32) : Nat → Int32 → Int32 → Option Int32
  | 0, _, _ => none
  | n + 1, x3, x4 =>
    if inB 4 77 = true then
      if x4 < gI w 80 (ix 4) then
        bI (fX10_ofAugur w x4 0) fun r_3 =>
        if r_3 = x1 then
          bI (fX10_bit w x2 x4) fun r_6 =>
          if r_6 = 1 then
            bI (fX10_daysOf w x4) fun r_9 =>
            lT (x3 ||| r_9) fun x3_11 =>
            fX10_skyBy_5 w x1 x2 n x3_11 (x4 + 1)
          else
          fX10_skyBy_5 w x1 x2 n x3 (x4 + 1)
        else
        fX10_skyBy_5 w x1 x2 n x3 (x4 + 1)
      else
      some x3
    else none
def fX10_skyBy (w : HW) (x1 : Int32) (x2 : Int32) : Option Int32 :=
  fX10_skyBy_5 w x1 x2 FU 0 0
/-! SacredHensModel.allAugurs -/
def fX10_allAugurs (w : HW) : Option Int32 :=
  if inB 4 77 = true then
    some ((iSl 1 (gI w 80 (ix 4))) - 1)
  else none
/-! SacredHensModel.skyOf -/
def fX10_skyOf (w : HW) (x1 : Int32) : Option Int32 :=
  bI (fX10_allAugurs w) fun r_1 =>
  bI (fX10_skyBy w x1 r_1) fun r_3 =>
  some r_3
/-! SacredHensModel.sky -/
def fX10_sky (w : HW) (x1 : Int32) : Option Int32 :=
  bI (fX10_isSide w x1) fun r_1 =>
  if ¬ r_1 = 0 then
    bI (fX10_skyOf w x1) fun r_4 =>
    some r_4
  else
  some (-2)
/-! SacredHensModel.watch -/
def fX10_watch_16 (w : HW) (x1 : Int32) : Nat → Int32 → Int32 → Option Int32
  | 0, _, _ => none
  | n + 1, x2, x3 =>
    if inB 4 77 = true then
      if x3 < gI w 80 (ix 4) then
        bI (fX10_daysOf w x3) fun r_6 =>
        bI (fX10_bit w r_6 x1) fun r_8 =>
        lT (x2 ||| (iSl r_8 x3)) fun x2_10 =>
        fX10_watch_16 w x1 n x2_10 (x3 + 1)
      else
      some x2
    else none
def fX10_watch (w : HW) (x1 : Int32) : Option Int32 :=
  bI (fX10_isDay w (x1.toInt64)) fun r_1 =>
  if r_1 = 0 then
    some (-2)
  else
  fX10_watch_16 w x1 FU 0 0
/-! SacredHensModel.layAsked -/
def fX10_layAsked_44 : Nat → HW → Int32 → Option HW
  | 0, _, _ => none
  | n + 1, w, x1 =>
    if inB 6 77 = true then
      if x1 < gI w 80 (ix 6) then
        if inB (57 + x1) 77 = true then
          lT (gI w 80 (ix (57 + x1))) fun x2_10 =>
          if ¬ x2_10 < 1000 then
            if inB (x2_10 - 1000) 14 = true then
              lT (uI w 86 (ix (x2_10 - 1000)) (-2)) fun w_13 =>
              fX10_layAsked_44 n w_13 (x1 + 1)
            else none
          else
          if inB (iRm x2_10 100) 14 = true then
            lT (uI w 86 (ix (iRm x2_10 100)) (x2_10 / 100)) fun w_15 =>
            if inB (x2_10 / 100) 8 = true then
              lT (uI w_15 90 (ix (x2_10 / 100)) (iRm x2_10 100)) fun w_17 =>
              fX10_layAsked_44 n w_17 (x1 + 1)
            else none
          else none
        else none
      else
      some w
    else none
def fX10_layAsked_23 : Nat → HW → Int32 → Option HW
  | 0, _, _ => none
  | n + 1, w, x1 =>
    if x1 < 8 then
      if inB x1 8 = true then
        lT (uI w 90 (ix x1) (-1)) fun w_6 =>
        fX10_layAsked_23 n w_6 (x1 + 1)
      else none
    else
    fX10_layAsked_44 FU w 0
def fX10_layAsked_2 : Nat → HW → Int32 → Option HW
  | 0, _, _ => none
  | n + 1, w, x1 =>
    if x1 < 14 then
      if inB x1 14 = true then
        lT (uI w 86 (ix x1) (-1)) fun w_3 =>
        fX10_layAsked_2 n w_3 (x1 + 1)
      else none
    else
    fX10_layAsked_23 FU w 0
def fX10_layAsked (w : HW) : Option HW :=
  fX10_layAsked_2 FU w 0
/-! SacredHensModel.doEat -/
def fX10_doEat (w : HW) (x1 : Int32) : Option Int32 :=
  if inB x1 14 = true then
    if inB 2 77 = true then
      if ¬ gI w 87 (ix x1) < gI w 80 (ix 2) then
        some 1
      else
      some 0
    else none
  else none
/-! SacredHensModel.whyOn -/
def fX10_whyOn (w : HW) (x1 : Int32) (x2 : Int32) (x3 : Int32) : Option Int32 :=
  if x3 = 0 then
    some 1
  else
  if inB 8 77 = true then
    bI (fX10_bit w (gI w 80 (ix 8)) x2) fun r_3 =>
    if r_3 = 1 then
      some 2
    else
    bI (fX10_of w x1 0) fun r_6 =>
    bI (fX10_skyOf w (1 - r_6)) fun r_8 =>
    bI (fX10_bit w r_8 x2) fun r_10 =>
    if r_10 = 1 then
      some 3
    else
    bI (fX10_of w x1 2) fun r_13 =>
    if ¬ r_13 = (-1) then
      if inB r_13 8 = true then
        if ¬ gI w 89 (ix r_13) = (-1) then
          if inB r_13 8 = true then
            if ¬ gI w 89 (ix r_13) < x2 then
              some 4
            else
            some 0
          else none
        else
        some 4
      else none
    else
    some 0
  else none
/-! SacredHensModel.drawsWell -/
def fX10_drawsWell (w : HW) : Option (Int32 × HW) :=
  if gI w 79 21 = 0 then
    some (1, w)
  else
  lT (uL w 79 20 (lRm ((1103515245 * (gL w 79 20)) + 12345) 2147483648)) fun w_2 =>
  lT (uI w_2 79 22 ((gI w_2 79 22) + 1)) fun w_3 =>
  if inB 3 77 = true then
    if lg_cmp (lRm ((gL w_3 79 20) / 65536) 10) ((gI w_3 80 (ix 3)).toInt64) < 0 then
      some (1, w_3)
    else
    some (0, w_3)
  else none
/-! SacredHensModel.goDays -/
def fX10_goDays_119 (w : HW) (K14 : HW → Int32 → Option HW) (x1 : Int32) (x2 : Int32) (s0 : Int32) : Option HW :=
  bI (fX10_whyOn w x2 x1 s0) fun r_24 =>
  if ¬ r_24 = 0 then
    K14 w (x1 + 1)
  else
  if inB x1 14 = true then
    lT (uI w 88 (ix x1) x2) fun w_28 =>
    if inB x2 8 = true then
      lT (uI w_28 89 (ix x2) x1) fun w_30 =>
      K14 w_30 (x1 + 1)
    else none
  else none
def fX10_goDays_77 (w : HW) (K14 : HW → Int32 → Option HW) (x1 : Int32) (s0 : Int32) (s1 : Int32) : Option HW :=
  if inB s1 14 = true then
    lT (uI w 87 (ix s1) s0) fun w_12 =>
    if inB x1 14 = true then
      lT (uI w_12 88 (ix x1) (-1)) fun w_14 =>
      if inB x1 14 = true then
        lT (gI w_14 86 (ix x1)) fun x2_16 =>
        if x2_16 < 0 then
          K14 w_14 (x1 + 1)
        else
        bI (fX10_doEat w_14 x1) fun r_18 =>
        if ¬ r_18 = 0 then
          bW (fX10_drawsWell w_14) fun r_21 w_22 =>
          if ¬ r_21 = 0 then
            fX10_goDays_119 w_22 K14 x1 x2_16 1
          else
          fX10_goDays_119 w_22 K14 x1 x2_16 0
        else
        fX10_goDays_119 w_14 K14 x1 x2_16 0
      else none
    else none
  else none
def fX10_goDays_23 : Nat → HW → Int32 → Option HW
  | 0, _, _ => none
  | n + 1, w, x1 =>
    if inB 0 77 = true then
      if x1 < gI w 80 (ix 0) then
        if x1 = 0 then
          if inB 1 77 = true then
            fX10_goDays_77 w (fun w x1 => fX10_goDays_23 n w x1) x1 (gI w 80 (ix 1)) x1
          else none
        else
        if inB (x1 - 1) 14 = true then
          if ¬ gI w 86 (ix (x1 - 1)) = (-1) then
            fX10_goDays_77 w (fun w x1 => fX10_goDays_23 n w x1) x1 1 x1
          else
          if inB (x1 - 1) 14 = true then
            fX10_goDays_77 w (fun w x1 => fX10_goDays_23 n w x1) x1 ((gI w 87 (ix (x1 - 1))) + 1) x1
          else none
        else none
      else
      some w
    else none
def fX10_goDays_2 : Nat → HW → Int32 → Option HW
  | 0, _, _ => none
  | n + 1, w, x1 =>
    if x1 < 8 then
      if inB x1 8 = true then
        lT (uI w 89 (ix x1) (-1)) fun w_3 =>
        fX10_goDays_2 n w_3 (x1 + 1)
      else none
    else
    fX10_goDays_23 FU w 0
def fX10_goDays (w : HW) : Option HW :=
  fX10_goDays_2 FU w 0
/-! SacredHensModel.asksCamp -/
def fX10_asksCamp (w : HW) : Option (Int32 × HW) :=
  bI (fX10_layAsked w) fun w_2 =>
  bI (fX10_goDays w_2) fun w_4 =>
  bI (fX10_isCamp w_4) fun r_5 =>
  if zB r_5 = true then some (r_5, w_4) else none
/-! SacredHensModel.asksDay -/
def fX10_asksDay (w : HW) (x1 : Int32) : Option (Int32 × HW) :=
  bW (fX10_asksCamp w) fun r_1 w_2 =>
  bI (fX10_isDay w_2 (x1.toInt64)) fun r_3 =>
  if zB r_3 = true then some (r_3, w_2) else none
/-! SacredHensModel.asksBill -/
def fX10_asksBill (w : HW) (x1 : Int32) : Option (Int32 × HW) :=
  bW (fX10_asksCamp w) fun r_1 w_2 =>
  bI (fX10_isBill w_2 x1) fun r_3 =>
  if zB r_3 = true then some (r_3, w_2) else none
/-! SacredHensModel.hunger -/
def fX10_hunger (w : HW) (x1 : Int32) : Option (Int32 × HW) :=
  bW (fX10_asksDay w x1) fun r_1 w_2 =>
  if ¬ r_1 = 0 then
    if inB x1 14 = true then
      some (gI w_2 87 (ix x1), w_2)
    else none
  else
  some ((-2), w_2)
/-! SacredHensModel.eat -/
def fX10_eat_14 : Nat → HW → Int32 → Int32 → Option (Int32 × HW)
  | 0, _, _, _ => none
  | n + 1, w, x1, x2 =>
    if inB 0 77 = true then
      if x2 < gI w 80 (ix 0) then
        bI (fX10_doEat w x2) fun r_6 =>
        if ¬ r_6 = 0 then
          lT (x1 ||| (iSl 1 x2)) fun x1_9 =>
          fX10_eat_14 n w x1_9 (x2 + 1)
        else
        lT (x1 ||| 0) fun x1_10 =>
        fX10_eat_14 n w x1_10 (x2 + 1)
      else
      some (x1, w)
    else none
def fX10_eat (w : HW) : Option (Int32 × HW) :=
  bW (fX10_asksCamp w) fun r_1 w_2 =>
  if r_1 = 0 then
    some ((-2), w_2)
  else
  fX10_eat_14 FU w_2 0 0
/-! SacredHensModel.open -/
def fX10_open_84 (w : HW) (K13 : HW → Int32 → Int32 → Option (Int32 × HW)) (K21 : HW → Int32 → Int32 → Option (Int32 × HW)) (x1 : Int32) (x2 : Int32) (x3 : Int32) (x4 : Int32) (s0 : Int32) : Option (Int32 × HW) :=
  if ¬ s0 = 0 then
    bI (fX10_doEat w x3) fun r_19 =>
    bI (fX10_whyOn w x4 x3 r_19) fun r_21 =>
    if r_21 = 0 then
      lT (x2 ||| (iSl 1 x3)) fun x2_24 =>
      K21 w x2_24 (x4 + 1)
    else
    lT (x2 ||| 0) fun x2_25 =>
    K21 w x2_25 (x4 + 1)
  else
  lT (x2 ||| 0) fun x2_26 =>
  K21 w x2_26 (x4 + 1)
def fX10_open_35 (K13 : HW → Int32 → Int32 → Option (Int32 × HW)) (x1 : Int32) (x3 : Int32) : Nat → HW → Int32 → Int32 → Option (Int32 × HW)
  | 0, _, _, _ => none
  | n + 1, w, x2, x4 =>
    if inB 5 77 = true then
      if x4 < gI w 80 (ix 5) then
        bI (fX10_of w x4 0) fun r_11 =>
        if r_11 = x1 then
          if inB x4 8 = true then
            if ¬ gI w 90 (ix x4) = (-1) then
              if inB x4 8 = true then
                if gI w 90 (ix x4) = x3 then
                  fX10_open_84 w K13 (fun w x2 x4 => fX10_open_35 K13 x1 x3 n w x2 x4) x1 x2 x3 x4 1
                else
                fX10_open_84 w K13 (fun w x2 x4 => fX10_open_35 K13 x1 x3 n w x2 x4) x1 x2 x3 x4 0
              else none
            else
            fX10_open_84 w K13 (fun w x2 x4 => fX10_open_35 K13 x1 x3 n w x2 x4) x1 x2 x3 x4 1
          else none
        else
        fX10_open_84 w K13 (fun w x2 x4 => fX10_open_35 K13 x1 x3 n w x2 x4) x1 x2 x3 x4 0
      else
      K13 w x2 (x3 + 1)
    else none
def fX10_open_22 (x1 : Int32) : Nat → HW → Int32 → Int32 → Option (Int32 × HW)
  | 0, _, _, _ => none
  | n + 1, w, x2, x3 =>
    if inB 0 77 = true then
      if x3 < gI w 80 (ix 0) then
        fX10_open_35 (fun w x2 x3 => fX10_open_22 x1 n w x2 x3) x1 x3 FU w x2 0
      else
      some (x2, w)
    else none
def fX10_open (w : HW) (x1 : Int32) : Option (Int32 × HW) :=
  bW (fX10_asksCamp w) fun r_1 w_2 =>
  if ¬ r_1 = 0 then
    bI (fX10_isSide w_2 x1) fun r_4 =>
    if r_4 = 0 then
      some ((-2), w_2)
    else
    fX10_open_22 x1 FU w_2 0 0
  else
  some ((-2), w_2)
/-! SacredHensModel.best -/
def fX10_best_64 (w : HW) (K10 : HW → Int32 → Int32 → Option (Int32 × HW)) (x1 : Int32) (x2 : Int32) (x3 : Int32) (s0 : Int32) : Option (Int32 × HW) :=
  if ¬ s0 = 0 then
    if ¬ x2 = (-1) then
      bI (fX10_of w x3 1) fun r_17 =>
      bI (fX10_of w x2 1) fun r_19 =>
      if r_19 < r_17 then
        K10 w x3 (x3 + 1)
      else
      K10 w x2 (x3 + 1)
    else
    K10 w x3 (x3 + 1)
  else
  K10 w x2 (x3 + 1)
def fX10_best_45 (w : HW) (K10 : HW → Int32 → Int32 → Option (Int32 × HW)) (x1 : Int32) (x2 : Int32) (x3 : Int32) : Option (Int32 × HW) :=
  bI (fX10_doEat w x1) fun r_10 =>
  bI (fX10_whyOn w x3 x1 r_10) fun r_12 =>
  if r_12 = 0 then
    fX10_best_64 w K10 x1 x2 x3 1
  else
  fX10_best_64 w K10 x1 x2 x3 0
def fX10_best_15 (x1 : Int32) : Nat → HW → Int32 → Int32 → Option (Int32 × HW)
  | 0, _, _, _ => none
  | n + 1, w, x2, x3 =>
    if inB 5 77 = true then
      if x3 < gI w 80 (ix 5) then
        if inB x3 8 = true then
          if ¬ gI w 90 (ix x3) = (-1) then
            if inB x3 8 = true then
              if gI w 90 (ix x3) = x1 then
                fX10_best_45 w (fun w x2 x3 => fX10_best_15 x1 n w x2 x3) x1 x2 x3
              else
              fX10_best_64 w (fun w x2 x3 => fX10_best_15 x1 n w x2 x3) x1 x2 x3 0
            else none
          else
          fX10_best_45 w (fun w x2 x3 => fX10_best_15 x1 n w x2 x3) x1 x2 x3
        else none
      else
      some (x2, w)
    else none
def fX10_best (w : HW) (x1 : Int32) : Option (Int32 × HW) :=
  bW (fX10_asksDay w x1) fun r_1 w_2 =>
  if r_1 = 0 then
    some ((-2), w_2)
  else
  fX10_best_15 x1 FU w_2 (-1) 0
/-! SacredHensModel.actsOf -/
def fX10_actsOf_50 (w : HW) (K4 : Int32 → Int32 → Option Int32) (x1 : Int32) (x3 : Int32) (s0 : Int32) (s1 : Int32) (s2 : Int32) : Option Int32 :=
  if s1 = s0 then
    lT (s2 ||| (iSl 1 x3)) fun x2_11 =>
    K4 x2_11 (x3 + 1)
  else
  lT (s2 ||| 0) fun x2_12 =>
  K4 x2_12 (x3 + 1)
def fX10_actsOf_4 (w : HW) (x1 : Int32) : Nat → Int32 → Int32 → Option Int32
  | 0, _, _ => none
  | n + 1, x2, x3 =>
    if inB 0 77 = true then
      if x3 < gI w 80 (ix 0) then
        if inB x3 14 = true then
          if ¬ gI w 86 (ix x3) = (-1) then
            if inB x3 14 = true then
              if gI w 86 (ix x3) = (-2) then
                if x1 = 0 then
                  fX10_actsOf_50 w (fun x2 x3 => fX10_actsOf_4 w x1 n x2 x3) x1 x3 1 1 x2
                else
                fX10_actsOf_50 w (fun x2 x3 => fX10_actsOf_4 w x1 n x2 x3) x1 x3 0 1 x2
              else
              if x1 = 0 then
                fX10_actsOf_50 w (fun x2 x3 => fX10_actsOf_4 w x1 n x2 x3) x1 x3 1 0 x2
              else
              fX10_actsOf_50 w (fun x2 x3 => fX10_actsOf_4 w x1 n x2 x3) x1 x3 0 0 x2
            else none
          else
          lT (x2 ||| 0) fun x2_9 =>
          fX10_actsOf_4 w x1 n x2_9 (x3 + 1)
        else none
      else
      some x2
    else none
def fX10_actsOf (w : HW) (x1 : Int32) : Option Int32 :=
  fX10_actsOf_4 w x1 FU 0 0
/-! SacredHensModel.asked -/
def fX10_asked (w : HW) : Option (Int32 × HW) :=
  bW (fX10_asksCamp w) fun r_1 w_2 =>
  if ¬ r_1 = 0 then
    bI (fX10_actsOf w_2 1) fun r_4 =>
    some (r_4, w_2)
  else
  some ((-2), w_2)
/-! SacredHensModel.fattened -/
def fX10_fattened (w : HW) : Option (Int32 × HW) :=
  bW (fX10_asksCamp w) fun r_1 w_2 =>
  if ¬ r_1 = 0 then
    bI (fX10_actsOf w_2 0) fun r_4 =>
    some (r_4, w_2)
  else
  some ((-2), w_2)
/-! SacredHensModel.runOf -/
def fX10_runOf_7 (w : HW) (x1 : Int32) : Nat → Int32 → Int32 → Int32 → Option Int32
  | 0, _, _, _ => none
  | n + 1, x2, x3, x4 =>
    if inB 0 77 = true then
      if x4 < gI w 80 (ix 0) then
        bI (fX10_bit w x1 x4) fun r_3 =>
        if r_3 = 1 then
          lT (x3 + 1) fun x3_6 =>
          lT (iMx x2 x3_6) fun x2_7 =>
          fX10_runOf_7 w x1 n x2_7 x3_6 (x4 + 1)
        else
        lT (iMx x2 0) fun x2_8 =>
        fX10_runOf_7 w x1 n x2_8 0 (x4 + 1)
      else
      some x2
    else none
def fX10_runOf (w : HW) (x1 : Int32) : Option Int32 :=
  fX10_runOf_7 w x1 FU 0 0 0
/-! SacredHensModel.allDays -/
def fX10_allDays (w : HW) : Option Int32 :=
  if inB 0 77 = true then
    some ((iSl 1 (gI w 80 (ix 0))) - 1)
  else none
/-! SacredHensModel.fast -/
def fX10_fast (w : HW) : Option (Int32 × HW) :=
  bW (fX10_asksCamp w) fun r_1 w_2 =>
  if ¬ r_1 = 0 then
    bI (fX10_allDays w_2) fun r_4 =>
    bI (fX10_actsOf w_2 0) fun r_6 =>
    bI (fX10_actsOf w_2 1) fun r_8 =>
    bI (fX10_runOf w_2 (r_4 &&& ((r_6 ||| r_8) ^^^ (-1)))) fun r_10 =>
    some (r_10, w_2)
  else
  some ((-2), w_2)
/-! SacredHensModel.first -/
def fX10_first_36 (w : HW) (x1 : Int32) (s0 : Int32) : Option (Int32 × HW) :=
  if ¬ s0 = 0 then
    if inB 2 77 = true then
      some (iMx 0 ((gI w 80 (ix 2)) - x1), w)
    else none
  else
  bI (fX10_doEat w x1) fun r_11 =>
  if ¬ r_11 = 0 then
    some (0, w)
  else
  some ((-1), w)
def fX10_first (w : HW) (x1 : Int32) : Option (Int32 × HW) :=
  bW (fX10_asksDay w x1) fun r_1 w_2 =>
  if r_1 = 0 then
    some ((-2), w_2)
  else
  bI (fX10_actsOf w_2 0) fun r_4 =>
  bI (fX10_actsOf w_2 1) fun r_6 =>
  if (r_4 ||| r_6) &&& ((iSl 1 x1) - 1) = 0 then
    fX10_first_36 w_2 x1 1
  else
  fX10_first_36 w_2 x1 0
/-! SacredHensModel.passed -/
def fX10_passed (w : HW) (x1 : Int32) : Option (Int32 × HW) :=
  bW (fX10_asksDay w x1) fun r_1 w_2 =>
  if ¬ r_1 = 0 then
    if inB x1 14 = true then
      some (gI w_2 88 (ix x1), w_2)
    else none
  else
  some ((-2), w_2)
/-! SacredHensModel.when -/
def fX10_when (w : HW) (x1 : Int32) : Option (Int32 × HW) :=
  bW (fX10_asksBill w x1) fun r_1 w_2 =>
  if ¬ r_1 = 0 then
    if inB x1 8 = true then
      some (gI w_2 89 (ix x1), w_2)
    else none
  else
  some ((-2), w_2)
/-! SacredHensModel.why -/
def fX10_why (w : HW) (x1 : Int32) : Option (Int32 × HW) :=
  bW (fX10_asksBill w x1) fun r_1 w_2 =>
  if r_1 = 0 then
    some ((-2), w_2)
  else
  if inB x1 8 = true then
    if gI w_2 90 (ix x1) = (-1) then
      some ((-1), w_2)
    else
    if inB x1 8 = true then
      if inB x1 8 = true then
        bI (fX10_doEat w_2 (gI w_2 90 (ix x1))) fun r_8 =>
        bI (fX10_whyOn w_2 x1 (gI w_2 90 (ix x1)) r_8) fun r_10 =>
        some (r_10, w_2)
      else none
    else none
  else none
/-! SacredHensModel.worth -/
def fX10_worth_22 (x1 : Int32) : Nat → HW → Int32 → Int32 → Option (Int32 × HW)
  | 0, _, _, _ => none
  | n + 1, w, x2, x3 =>
    if inB 5 77 = true then
      if x3 < gI w 80 (ix 5) then
        bI (fX10_of w x3 0) fun r_9 =>
        if r_9 = x1 then
          if inB x3 8 = true then
            if ¬ gI w 89 (ix x3) = (-1) then
              bI (fX10_of w x3 1) fun r_14 =>
              lT (x2 + r_14) fun x2_16 =>
              fX10_worth_22 x1 n w x2_16 (x3 + 1)
            else
            lT (x2 + 0) fun x2_17 =>
            fX10_worth_22 x1 n w x2_17 (x3 + 1)
          else none
        else
        lT (x2 + 0) fun x2_18 =>
        fX10_worth_22 x1 n w x2_18 (x3 + 1)
      else
      some (x2, w)
    else none
def fX10_worth (w : HW) (x1 : Int32) : Option (Int32 × HW) :=
  bW (fX10_asksCamp w) fun r_1 w_2 =>
  if ¬ r_1 = 0 then
    bI (fX10_isSide w_2 x1) fun r_4 =>
    if r_4 = 0 then
      some ((-2), w_2)
    else
    fX10_worth_22 x1 FU w_2 0 0
  else
  some ((-2), w_2)
/-! SacredHensModel.state -/
def fX10_state (w : HW) (x0 : Int32) (x1 : Int32) (x2 : Int32) : Option Int32 :=
  some ((((x0 * 10) + x1) * 256) + x2)
/-! SacredHensModel.then -/
def fX10_then (w : HW) (x1 : Int32) : Option Int32 :=
  if inB 2 77 = true then
    some (iMn (gI w 80 (ix 2)) (x1 + 1))
  else none
/-! SacredHensModel.freeDays -/
def fX10_freeDays (w : HW) (x1 : Int32) : Option Int32 :=
  bI (fX10_allAugurs w) fun r_1 =>
  bI (fX10_skyBy w (1 - x1) (r_1 &&& ((gI w 79 29) ^^^ (-1)))) fun r_3 =>
  lT (r_3 ||| (gI w 79 28)) fun x2_5 =>
  if inB 0 77 = true then
    if inB 8 77 = true then
      some ((((iSl 1 (gI w 80 (ix 0))) - 1) &&& (x2_5 ^^^ (-1))) &&& (((gI w 80 (ix 8)) &&& ((gI w 79 30) ^^^ (-1))) ^^^ (-1)))
    else none
  else none
/-! SacredHensModel.layOwn -/
def fX10_layOwn_32 (w : HW) (K5 : HW → Int32 → Option HW) (x1 : Int32) (x2 : Int32) : Option HW :=
  if x2 = gI w 79 32 then
    K5 w (x2 + 1)
  else
  bI (fX10_of w x2 0) fun r_9 =>
  bI (fX10_freeDays w r_9) fun r_11 =>
  if inB (gI w 79 27) 8 = true then
    lT (uI w 95 (ix (gI w 79 27)) r_11) fun w_14 =>
    if inB (gI w_14 79 27) 8 = true then
      lT (uI w_14 94 (ix (gI w_14 79 27)) x2) fun w_16 =>
      lT (uI w_16 79 27 ((gI w_16 79 27) + 1)) fun w_17 =>
      K5 w_17 (x2 + 1)
    else none
  else none
def fX10_layOwn_7 (x1 : Int32) : Nat → HW → Int32 → Option HW
  | 0, _, _ => none
  | n + 1, w, x2 =>
    if inB 5 77 = true then
      if x2 < gI w 80 (ix 5) then
        if ¬ x1 = 2 then
          bI (fX10_of w x2 0) fun r_5 =>
          if r_5 = x1 then
            fX10_layOwn_32 w (fun w x2 => fX10_layOwn_7 x1 n w x2) x1 x2
          else
          fX10_layOwn_7 x1 n w (x2 + 1)
        else
        fX10_layOwn_32 w (fun w x2 => fX10_layOwn_7 x1 n w x2) x1 x2
      else
      some w
    else none
def fX10_layOwn (w : HW) (x1 : Int32) : Option HW :=
  lT (uI w 79 27 0) fun w_1 =>
  fX10_layOwn_7 x1 FU w_1 0
/-! SacredHensModel.mayPass -/
def fX10_mayPass_53 (w : HW) (x2 : Int32) (x4 : Int32) : Option Int32 :=
  bI (fX10_bit w x2 x4) fun r_11 =>
  if r_11 = 1 then
    some 1
  else
  some 0
def fX10_mayPass_33 (w : HW) (x2 : Int32) (x3 : Int32) : Nat → Int32 → Option Int32
  | 0, _ => none
  | n + 1, x4 =>
    if x4 < gI w 79 27 then
      if inB x4 8 = true then
        if gI w 94 (ix x4) = x3 then
          fX10_mayPass_53 w x2 x4
        else
        fX10_mayPass_33 w x2 x3 n (x4 + 1)
      else none
    else
    some 0
def fX10_mayPass (w : HW) (x1 : Int32) (x2 : Int32) : Option Int32 :=
  bI (fX10_bit w x2 x1) fun r_1 =>
  if r_1 = 1 then
    some 0
  else
  if inB x1 8 = true then
    bI (fX10_of w (gI w 94 (ix x1)) 2) fun r_5 =>
    if r_5 = (-1) then
      some 1
    else
    fX10_mayPass_33 w x2 r_5 FU 0
  else none
/-! SacredHensModel.layState -/
def fX10_layState_221 (w : HW) (K47 : HW → Int32 → Option HW) (x1 : Int32) (x3 : Int32) (x4 : Int32) (x6 : Int32) (x7 : Int32) (s0 : Int32) (s1 : Int32) (s2 : Int32) : Option HW :=
  if inB s2 38400 = true then
    lT (uI w 92 (ix s2) (s1 + s0)) fun w_45 =>
    if inB x4 38400 = true then
      if inB x7 38400 = true then
        if inB x4 38400 = true then
          lT (uI w_45 93 (ix x4) (iMx (gI w_45 93 (ix x4)) (1 + (gI w_45 93 (ix x7))))) fun w_49 =>
          K47 w_49 (x6 + 1)
        else none
      else none
    else none
  else none
def fX10_layState_171 (w : HW) (K47 : HW → Int32 → Option HW) (x1 : Int32) (x3 : Int32) (x4 : Int32) (x6 : Int32) (x7 : Int32) (x8 : Int32) : Option HW :=
  if inB x4 38400 = true then
    if inB x4 38400 = true then
      lT (uI w 91 (ix x4) (iMx (gI w 91 (ix x4)) x8)) fun w_39 =>
      if inB x4 38400 = true then
        if inB x4 38400 = true then
          if x8 = gI w_39 91 (ix x4) then
            if inB x7 38400 = true then
              fX10_layState_221 w_39 K47 x1 x3 x4 x6 x7 (gI w_39 92 (ix x7)) (gI w_39 92 (ix x4)) x4
            else none
          else
          fX10_layState_221 w_39 K47 x1 x3 x4 x6 x7 0 (gI w_39 92 (ix x4)) x4
        else none
      else none
    else none
  else none
def fX10_layState_78 (x1 : Int32) (x3 : Int32) (x4 : Int32) : Nat → HW → Int32 → Option HW
  | 0, _, _ => none
  | n + 1, w, x6 =>
    if x6 < gI w 79 27 then
      if inB x6 8 = true then
        bI (fX10_bit w (gI w 95 (ix x6)) x1) fun r_20 =>
        if ¬ r_20 = 0 then
          bI (fX10_mayPass w x6 x3) fun r_23 =>
          if r_23 = 0 then
            fX10_layState_78 x1 x3 x4 n w (x6 + 1)
          else
          bI (fX10_state w (x1 + 1) 1 (x3 ||| (iSl 1 x6))) fun r_26 =>
          if inB x6 8 = true then
            bI (fX10_of w (gI w 94 (ix x6)) 1) fun r_29 =>
            if inB r_26 38400 = true then
              lT (r_29 + (gI w 91 (ix r_26))) fun x8_32 =>
              if inB x4 38400 = true then
                if gI w 91 (ix x4) < x8_32 then
                  if inB x4 38400 = true then
                    lT (uI w 92 (ix x4) 0) fun w_36 =>
                    fX10_layState_171 w_36 (fun w x6 => fX10_layState_78 x1 x3 x4 n w x6) x1 x3 x4 x6 r_26 x8_32
                  else none
                else
                fX10_layState_171 w (fun w x6 => fX10_layState_78 x1 x3 x4 n w x6) x1 x3 x4 x6 r_26 x8_32
              else none
            else none
          else none
        else
        fX10_layState_78 x1 x3 x4 n w (x6 + 1)
      else none
    else
    some w
def fX10_layState (w : HW) (x1 : Int32) (x2 : Int32) (x3 : Int32) : Option HW :=
  bI (fX10_state w x1 x2 x3) fun r_1 =>
  bI (fX10_then w x2) fun r_3 =>
  bI (fX10_state w (x1 + 1) r_3 x3) fun r_5 =>
  if inB r_5 38400 = true then
    if inB r_1 38400 = true then
      lT (uI w 91 (ix r_1) (gI w 91 (ix r_5))) fun w_9 =>
      if inB r_5 38400 = true then
        if inB r_1 38400 = true then
          lT (uI w_9 92 (ix r_1) (gI w_9 92 (ix r_5))) fun w_12 =>
          if inB r_5 38400 = true then
            if inB r_1 38400 = true then
              lT (uI w_12 93 (ix r_1) (gI w_12 93 (ix r_5))) fun w_15 =>
              if inB 2 77 = true then
                if x2 < gI w_15 80 (ix 2) then
                  some w_15
                else
                fX10_layState_78 x1 x3 r_1 FU w_15 0
              else none
            else none
          else none
        else none
      else none
    else none
  else none
/-! SacredHensModel.startState -/
def fX10_startState (w : HW) : Option Int32 :=
  if inB 2 77 = true then
    if inB 1 77 = true then
      bI (fX10_state w 0 (iMn (gI w 80 (ix 2)) (gI w 80 (ix 1))) 0) fun r_3 =>
      some r_3
    else none
  else none
/-! SacredHensModel.layPlans -/
def fX10_layPlans_31 (K8 : HW → Int32 → Option (Int32 × HW)) (K12 : HW → Int32 → Option (Int32 × HW)) (x2 : Int32) (x3 : Int32) : Nat → HW → Int32 → Option (Int32 × HW)
  | 0, _, _ => none
  | n + 1, w, x4 =>
    if x4 < iSl 1 (gI w 79 27) then
      if inB 0 77 = true then
        if x2 < gI w 80 (ix 0) then
          bI (fX10_layState w x2 x3 x4) fun w_15 =>
          fX10_layPlans_31 K8 K12 x2 x3 n w_15 (x4 + 1)
        else
        bI (fX10_state w x2 x3 x4) fun r_16 =>
        if inB r_16 38400 = true then
          lT (uI w 91 (ix r_16) 0) fun w_19 =>
          bI (fX10_state w_19 x2 x3 x4) fun r_20 =>
          if inB r_20 38400 = true then
            lT (uI w_19 92 (ix r_20) 1) fun w_23 =>
            bI (fX10_state w_23 x2 x3 x4) fun r_24 =>
            if inB r_24 38400 = true then
              lT (uI w_23 93 (ix r_24) 0) fun w_27 =>
              fX10_layPlans_31 K8 K12 x2 x3 n w_27 (x4 + 1)
            else none
          else none
        else none
      else none
    else
    K12 w (x3 + 1)
def fX10_layPlans_18 (K8 : HW → Int32 → Option (Int32 × HW)) (x2 : Int32) : Nat → HW → Int32 → Option (Int32 × HW)
  | 0, _, _ => none
  | n + 1, w, x3 =>
    if inB 2 77 = true then
      if ¬ gI w 80 (ix 2) < x3 then
        fX10_layPlans_31 K8 (fun w x3 => fX10_layPlans_18 K8 x2 n w x3) x2 x3 FU w 0
      else
      K8 w (x2 + (-1))
    else none
def fX10_layPlans_12 : Nat → HW → Int32 → Option (Int32 × HW)
  | 0, _, _ => none
  | n + 1, w, x2 =>
    if ¬ x2 < 0 then
      fX10_layPlans_18 (fun w x2 => fX10_layPlans_12 n w x2) x2 FU w 0
    else
    bI (fX10_startState w) fun r_6 =>
    if inB r_6 38400 = true then
      some (gI w 91 (ix r_6), w)
    else none
def fX10_layPlans (w : HW) (x1 : Int32) : Option (Int32 × HW) :=
  bI (fX10_layOwn w x1) fun w_2 =>
  if inB 0 77 = true then
    lT (gI w_2 80 (ix 0)) fun x2_4 =>
    fX10_layPlans_12 FU w_2 x2_4
  else none
/-! SacredHensModel.plan -/
def fX10_plan (w : HW) (x1 : Int32) : Option (Int32 × HW) :=
  bI (fX10_isSide w x1) fun r_1 =>
  if ¬ r_1 = 0 then
    bW (fX10_layPlans w x1) fun r_4 w_5 =>
    some (r_4, w_5)
  else
  some ((-2), w)
/-! SacredHensModel.ways -/
def fX10_ways (w : HW) (x1 : Int32) : Option (Int32 × HW) :=
  bI (fX10_isSide w x1) fun r_1 =>
  if r_1 = 0 then
    some ((-2), w)
  else
  bW (fX10_layPlans w x1) fun r_4 w_5 =>
  bI (fX10_startState w_5) fun r_6 =>
  if inB r_6 38400 = true then
    some (gI w_5 92 (ix r_6), w_5)
  else none
/-! SacredHensModel.many -/
def fX10_many (w : HW) (x1 : Int32) : Option (Int32 × HW) :=
  bI (fX10_isSide w x1) fun r_1 =>
  if r_1 = 0 then
    some ((-2), w)
  else
  bW (fX10_layPlans w x1) fun r_4 w_5 =>
  bI (fX10_startState w_5) fun r_6 =>
  if inB r_6 38400 = true then
    some (gI w_5 93 (ix r_6), w_5)
  else none
/-! SacredHensModel.planned -/
def fX10_planned_218 (w : HW) (x5 : Int32) : Option (Int32 × HW) :=
  if x5 = (-1) then
    some ((-1), w)
  else
  if inB x5 8 = true then
    some (gI w 94 (ix x5), w)
  else none
def fX10_planned_192 (w : HW) (K31 : HW → Int32 → Int32 → Int32 → Int32 → Option (Int32 × HW)) (x2 : Int32) (x4 : Int32) (x5 : Int32) (x6 : Int32) (s0 : Int32) : Option (Int32 × HW) :=
  if x5 = (-1) then
    lT (x4 ||| 0) fun x4_44 =>
    K31 w s0 x4_44 x5 (x6 + 1)
  else
  lT (x4 ||| (iSl 1 x5)) fun x4_45 =>
  K31 w s0 x4_45 x5 (x6 + 1)
def fX10_planned_102 (K31 : HW → Int32 → Int32 → Int32 → Int32 → Option (Int32 × HW)) (x2 : Int32) (x3 : Int32) (x4 : Int32) (x6 : Int32) (x7 : Int32) : Nat → HW → Int32 → Option (Int32 × HW)
  | 0, _, _ => none
  | n + 1, w, x5 =>
    if inB x5 8 = true then
      bI (fX10_bit w (gI w 95 (ix x5)) x6) fun r_26 =>
      if ¬ r_26 = 0 then
        bI (fX10_mayPass w x5 x4) fun r_29 =>
        if ¬ r_29 = 0 then
          if inB x5 8 = true then
            bI (fX10_of w (gI w 94 (ix x5)) 1) fun r_33 =>
            bI (fX10_state w (x6 + 1) 1 (x4 ||| (iSl 1 x5))) fun r_35 =>
            if inB r_35 38400 = true then
              if inB x7 38400 = true then
                if ¬ r_33 + (gI w 91 (ix r_35)) = gI w 91 (ix x7) then
                  fX10_planned_102 K31 x2 x3 x4 x6 x7 n w (x5 + 1)
                else
                if x5 = (-1) then
                  bI (fX10_then w x3) fun r_41 =>
                  fX10_planned_192 w K31 x2 x4 x5 x6 r_41
                else
                fX10_planned_192 w K31 x2 x4 x5 x6 1
              else none
            else none
          else none
        else
        fX10_planned_102 K31 x2 x3 x4 x6 x7 n w (x5 + 1)
      else
      fX10_planned_102 K31 x2 x3 x4 x6 x7 n w (x5 + 1)
    else none
def fX10_planned_51 (x2 : Int32) : Nat → HW → Int32 → Int32 → Int32 → Int32 → Option (Int32 × HW)
  | 0, _, _, _, _, _ => none
  | n + 1, w, x3, x4, x5, x6 =>
    if ¬ x2 < x6 then
      bI (fX10_state w x6 x3 x4) fun r_13 =>
      bI (fX10_then w x3) fun r_15 =>
      bI (fX10_state w (x6 + 1) r_15 x4) fun r_17 =>
      if inB r_17 38400 = true then
        if inB r_13 38400 = true then
          if ¬ gI w 91 (ix r_17) = gI w 91 (ix r_13) then
            fX10_planned_102 (fun w x3 x4 x5 x6 => fX10_planned_51 x2 n w x3 x4 x5 x6) x2 x3 x4 x6 r_13 FU w 0
          else
          if ((-1) : Int32) = (-1) then
            bI (fX10_then w x3) fun r_23 =>
            fX10_planned_192 w (fun w x3 x4 x5 x6 => fX10_planned_51 x2 n w x3 x4 x5 x6) x2 x4 (-1) x6 r_23
          else
          fX10_planned_192 w (fun w x3 x4 x5 x6 => fX10_planned_51 x2 n w x3 x4 x5 x6) x2 x4 (-1) x6 1
        else none
      else none
    else
    fX10_planned_218 w x5
def fX10_planned (w : HW) (x1 : Int32) (x2 : Int32) : Option (Int32 × HW) :=
  bI (fX10_isSide w x1) fun r_1 =>
  if ¬ r_1 = 0 then
    bI (fX10_isDay w (x2.toInt64)) fun r_4 =>
    if r_4 = 0 then
      some ((-2), w)
    else
    bW (fX10_layPlans w x1) fun r_7 w_8 =>
    if inB 2 77 = true then
      if inB 1 77 = true then
        lT (iMn (gI w_8 80 (ix 2)) (gI w_8 80 (ix 1))) fun x3_11 =>
        fX10_planned_51 x2 FU w_8 x3_11 0 (-1) 0
      else none
    else none
  else
  some ((-2), w)
/-! SacredHensModel.together -/
def fX10_together (w : HW) : Option (Int32 × HW) :=
  bI (fX10_isCamp w) fun r_1 =>
  if ¬ r_1 = 0 then
    bW (fX10_layPlans w 2) fun r_4 w_5 =>
    some (r_4, w_5)
  else
  some ((-2), w)
/-! SacredHensModel.withoutOf -/
def fX10_withoutOf (w : HW) (x1 : Int32) : Option (Int32 × HW) :=
  lT (uI w 79 32 x1) fun w_1 =>
  bI (fX10_of w_1 x1 0) fun r_2 =>
  bW (fX10_layPlans w_1 r_2) fun r_4 w_5 =>
  lT (uI w_5 79 32 (-1)) fun w_6 =>
  some (r_4, w_6)
/-! SacredHensModel.without -/
def fX10_without (w : HW) (x1 : Int32) : Option (Int32 × HW) :=
  bI (fX10_isBill w x1) fun r_1 =>
  if ¬ r_1 = 0 then
    bW (fX10_withoutOf w x1) fun r_4 w_5 =>
    some (r_4, w_5)
  else
  some ((-2), w)
/-! SacredHensModel.value -/
def fX10_value (w : HW) (x1 : Int32) : Option (Int32 × HW) :=
  bI (fX10_isBill w x1) fun r_1 =>
  if ¬ r_1 = 0 then
    bI (fX10_of w x1 0) fun r_4 =>
    bW (fX10_layPlans w r_4) fun r_6 w_7 =>
    bW (fX10_withoutOf w_7 x1) fun r_8 w_9 =>
    some (r_6 - r_8, w_9)
  else
  some ((-2), w)
/-! SacredHensModel.needsOf -/
def fX10_needsOf_9 (w : HW) : Nat → Int32 → Int32 → Option Int32
  | 0, _, _ => none
  | n + 1, x2, x3 =>
    if ¬ x3 = (-1) then
      lT (x2 ||| (iSl 1 x3)) fun x2_4 =>
      bI (fX10_of w x3 2) fun r_5 =>
      fX10_needsOf_9 w n x2_4 r_5
    else
    some x2
def fX10_needsOf (w : HW) (x1 : Int32) : Option Int32 :=
  bI (fX10_of w x1 2) fun r_1 =>
  fX10_needsOf_9 w FU 0 r_1
/-! SacredHensModel.needs -/
def fX10_needs_ (w : HW) (x1 : Int32) : Option Int32 :=
  bI (fX10_isBill w x1) fun r_1 =>
  if ¬ r_1 = 0 then
    bI (fX10_needsOf w x1) fun r_4 =>
    some r_4
  else
  some (-2)
/-! SacredHensModel.heirs -/
def fX10_heirs_15 (w : HW) (x1 : Int32) : Nat → Int32 → Int32 → Option Int32
  | 0, _, _ => none
  | n + 1, x2, x3 =>
    if inB 5 77 = true then
      if x3 < gI w 80 (ix 5) then
        bI (fX10_needsOf w x3) fun r_6 =>
        bI (fX10_bit w r_6 x1) fun r_8 =>
        lT (x2 ||| (iSl r_8 x3)) fun x2_10 =>
        fX10_heirs_15 w x1 n x2_10 (x3 + 1)
      else
      some x2
    else none
def fX10_heirs (w : HW) (x1 : Int32) : Option Int32 :=
  bI (fX10_isBill w x1) fun r_1 =>
  if r_1 = 0 then
    some (-2)
  else
  fX10_heirs_15 w x1 FU 0 0
/-! SacredHensModel.deepest -/
def fX10_deepest_16 (w : HW) : Nat → Int32 → Int32 → Int32 → Option Int32
  | 0, _, _, _ => none
  | n + 1, x1, x2, x3 =>
    if inB 5 77 = true then
      if x3 < gI w 80 (ix 5) then
        bI (fX10_needsOf w x3) fun r_6 =>
        bI (fX10_bits w r_6) fun r_8 =>
        if ¬ x2 < r_8 then
          fX10_deepest_16 w n x1 x2 (x3 + 1)
        else
        fX10_deepest_16 w n x3 r_8 (x3 + 1)
      else
      some x1
    else none
def fX10_deepest (w : HW) : Option Int32 :=
  bI (fX10_isCamp w) fun r_1 =>
  if r_1 = 0 then
    some (-2)
  else
  fX10_deepest_16 w FU (-1) 0 0
/-! SacredHensModel.soonestBy -/
def fX10_soonestBy_68 (w : HW) (x2 : Int32) : Nat → Int32 → Int32 → Option Int32
  | 0, _, _ => none
  | n + 1, x3, x4 =>
    if inB 0 77 = true then
      if x4 < gI w 80 (ix 0) then
        bI (fX10_bit w x2 x4) fun r_16 =>
        if r_16 = 0 then
          fX10_soonestBy_68 w x2 n x3 (x4 + 1)
        else
        if x3 + (-1) = 0 then
          some x4
        else
        if inB 2 77 = true then
          lT (x4 + (gI w 80 (ix 2))) fun x4_21 =>
          fX10_soonestBy_68 w x2 n (x3 + (-1)) x4_21
        else none
      else
      some (-1)
    else none
def fX10_soonestBy_49 (w : HW) (x2 : Int32) (x3 : Int32) : Option Int32 :=
  if inB 2 77 = true then
    if inB 1 77 = true then
      lT (iMx 0 ((gI w 80 (ix 2)) - (gI w 80 (ix 1)))) fun x4_13 =>
      fX10_soonestBy_68 w x2 FU x3 x4_13
    else none
  else none
def fX10_soonestBy_10 (w : HW) (x1 : Int32) (x2 : Int32) : Nat → Int32 → Int32 → Option Int32
  | 0, _, _ => none
  | n + 1, x3, x4 =>
    if ¬ x4 = (-1) then
      bI (fX10_of w x4 0) fun r_4 =>
      bI (fX10_of w x1 0) fun r_6 =>
      if ¬ r_4 = r_6 then
        some (-1)
      else
      bI (fX10_of w x4 2) fun r_9 =>
      fX10_soonestBy_10 w x1 x2 n (x3 + 1) r_9
    else
    fX10_soonestBy_49 w x2 x3
def fX10_soonestBy (w : HW) (x1 : Int32) (x2 : Int32) : Option Int32 :=
  bI (fX10_of w x1 2) fun r_1 =>
  fX10_soonestBy_10 w x1 x2 FU 1 r_1
/-! SacredHensModel.latest -/
def fX10_latest_35 (w : HW) (x2 : Int32) (x3 : Int32) : Nat → Int32 → Int32 → Option Int32
  | 0, _, _ => none
  | n + 1, x4, x5 =>
    if inB 0 77 = true then
      if x5 < gI w 80 (ix 0) then
        if ¬ x3 = (-1) then
          if ¬ x5 < x3 then
            bI (fX10_bit w x2 x5) fun r_14 =>
            if r_14 = 1 then
              fX10_latest_35 w x2 x3 n x5 (x5 + 1)
            else
            fX10_latest_35 w x2 x3 n x4 (x5 + 1)
          else
          fX10_latest_35 w x2 x3 n x4 (x5 + 1)
        else
        some x4
      else
      some x4
    else none
def fX10_latest (w : HW) (x1 : Int32) : Option Int32 :=
  bI (fX10_isBill w x1) fun r_1 =>
  if r_1 = 0 then
    some (-2)
  else
  bI (fX10_of w x1 0) fun r_4 =>
  bI (fX10_freeDays w r_4) fun r_6 =>
  bI (fX10_soonestBy w x1 r_6) fun r_8 =>
  fX10_latest_35 w r_6 r_8 FU (-1) 0
/-! SacredHensModel.soonest -/
def fX10_soonest (w : HW) (x1 : Int32) : Option Int32 :=
  bI (fX10_isBill w x1) fun r_1 =>
  if ¬ r_1 = 0 then
    bI (fX10_of w x1 0) fun r_4 =>
    bI (fX10_freeDays w r_4) fun r_6 =>
    bI (fX10_soonestBy w x1 r_6) fun r_8 =>
    some r_8
  else
  some (-2)
/-! SacredHensModel.stopOf -/
def fX10_stopOf_49 (w : HW) (K11 : Int32 → Int32 → Option Int32) (x1 : Int32) (x2 : Int32) (x3 : Int32) (x4 : Int32) : Option Int32 :=
  bI (fX10_soonestBy w x1 (x2 &&& (x4 ^^^ (-1)))) fun r_13 =>
  if r_13 = (-1) then
    K11 x4 (x4 + 1)
  else
  K11 x3 (x4 + 1)
def fX10_stopOf_16 (w : HW) (x1 : Int32) (x2 : Int32) : Nat → Int32 → Int32 → Option Int32
  | 0, _, _ => none
  | n + 1, x3, x4 =>
    if inB 0 77 = true then
      if x4 < iSl 1 (gI w 80 (ix 0)) then
        if ¬ x3 = (-1) then
          bI (fX10_bits w x4) fun r_8 =>
          bI (fX10_bits w x3) fun r_10 =>
          if ¬ r_8 < r_10 then
            fX10_stopOf_16 w x1 x2 n x3 (x4 + 1)
          else
          fX10_stopOf_49 w (fun x3 x4 => fX10_stopOf_16 w x1 x2 n x3 x4) x1 x2 x3 x4
        else
        fX10_stopOf_49 w (fun x3 x4 => fX10_stopOf_16 w x1 x2 n x3 x4) x1 x2 x3 x4
      else
      some x3
    else none
def fX10_stopOf (w : HW) (x1 : Int32) : Option Int32 :=
  bI (fX10_of w x1 0) fun r_1 =>
  bI (fX10_freeDays w r_1) fun r_3 =>
  fX10_stopOf_16 w x1 r_3 FU (-1) 0
/-! SacredHensModel.stop -/
def fX10_stop (w : HW) (x1 : Int32) : Option Int32 :=
  bI (fX10_isBill w x1) fun r_1 =>
  if ¬ r_1 = 0 then
    bI (fX10_stopOf w x1) fun r_4 =>
    bI (fX10_bits w r_4) fun r_6 =>
    some r_6
  else
  some (-2)
/-! SacredHensModel.stops -/
def fX10_stops (w : HW) (x1 : Int32) : Option Int32 :=
  bI (fX10_isBill w x1) fun r_1 =>
  if ¬ r_1 = 0 then
    bI (fX10_stopOf w x1) fun r_4 =>
    some r_4
  else
  some (-2)
/-! SacredHensModel.spoilOf -/
def fX10_spoilOf_13 (x1 : Int32) : Nat → HW → Int32 → Int32 → Option (Int32 × HW)
  | 0, _, _, _ => none
  | n + 1, w, x2, x3 =>
    if inB 0 77 = true then
      if x3 < gI w 80 (ix 0) then
        lT (uI w 79 28 (iSl 1 x3)) fun w_6 =>
        bW (fX10_layPlans w_6 x1) fun r_7 w_8 =>
        if ¬ r_7 < gI w_8 79 33 then
          fX10_spoilOf_13 x1 n w_8 x2 (x3 + 1)
        else
        lT (uI w_8 79 33 r_7) fun w_10 =>
        fX10_spoilOf_13 x1 n w_10 x3 (x3 + 1)
      else
      lT (uI w 79 28 0) fun w_11 =>
      some (x2, w_11)
    else none
def fX10_spoilOf (w : HW) (x1 : Int32) : Option (Int32 × HW) :=
  bW (fX10_layPlans w x1) fun r_1 w_2 =>
  lT (uI w_2 79 33 r_1) fun w_3 =>
  fX10_spoilOf_13 x1 FU w_3 (-1) 0
/-! SacredHensModel.spoil -/
def fX10_spoil (w : HW) (x1 : Int32) : Option (Int32 × HW) :=
  bI (fX10_isSide w x1) fun r_1 =>
  if ¬ r_1 = 0 then
    bW (fX10_spoilOf w x1) fun r_4 w_5 =>
    some (r_4, w_5)
  else
  some ((-2), w)
/-! SacredHensModel.spoilt -/
def fX10_spoilt (w : HW) (x1 : Int32) : Option (Int32 × HW) :=
  bI (fX10_isSide w x1) fun r_1 =>
  if r_1 = 0 then
    some ((-2), w)
  else
  bW (fX10_spoilOf w x1) fun r_4 w_5 =>
  some (gI w_5 79 33, w_5)
/-! SacredHensModel.bribe -/
def fX10_bribe_22 (x1 : Int32) : Nat → HW → Int32 → Int32 → Int32 → Option (Int32 × HW)
  | 0, _, _, _, _ => none
  | n + 1, w, x2, x3, x4 =>
    if inB 4 77 = true then
      if x4 < gI w 80 (ix 4) then
        bI (fX10_ofAugur w x4 0) fun r_8 =>
        if r_8 = x1 then
          fX10_bribe_22 x1 n w x2 x3 (x4 + 1)
        else
        lT (uI w 79 29 (iSl 1 x4)) fun w_11 =>
        bW (fX10_layPlans w_11 x1) fun r_12 w_13 =>
        if ¬ x2 < r_12 then
          fX10_bribe_22 x1 n w_13 x2 x3 (x4 + 1)
        else
        fX10_bribe_22 x1 n w_13 r_12 x4 (x4 + 1)
      else
      lT (uI w 79 29 0) fun w_15 =>
      some (x3, w_15)
    else none
def fX10_bribe (w : HW) (x1 : Int32) : Option (Int32 × HW) :=
  bI (fX10_isSide w x1) fun r_1 =>
  if r_1 = 0 then
    some ((-2), w)
  else
  bW (fX10_layPlans w x1) fun r_4 w_5 =>
  fX10_bribe_22 x1 FU w_5 r_4 (-1) 0
/-! SacredHensModel.unmark -/
def fX10_unmark_22 (x1 : Int32) : Nat → HW → Int32 → Int32 → Int32 → Option (Int32 × HW)
  | 0, _, _, _, _ => none
  | n + 1, w, x2, x3, x4 =>
    if inB 0 77 = true then
      if x4 < gI w 80 (ix 0) then
        if inB 8 77 = true then
          bI (fX10_bit w (gI w 80 (ix 8)) x4) fun r_9 =>
          if r_9 = 0 then
            fX10_unmark_22 x1 n w x2 x3 (x4 + 1)
          else
          lT (uI w 79 30 (iSl 1 x4)) fun w_12 =>
          bW (fX10_layPlans w_12 x1) fun r_13 w_14 =>
          if ¬ x2 < r_13 then
            fX10_unmark_22 x1 n w_14 x2 x3 (x4 + 1)
          else
          fX10_unmark_22 x1 n w_14 r_13 x4 (x4 + 1)
        else none
      else
      lT (uI w 79 30 0) fun w_16 =>
      some (x3, w_16)
    else none
def fX10_unmark (w : HW) (x1 : Int32) : Option (Int32 × HW) :=
  bI (fX10_isSide w x1) fun r_1 =>
  if r_1 = 0 then
    some ((-2), w)
  else
  bW (fX10_layPlans w x1) fun r_4 w_5 =>
  fX10_unmark_22 x1 FU w_5 r_4 (-1) 0
/-! SacredHensModel.sideAugurs -/
def fX10_sideAugurs_4 (w : HW) (x1 : Int32) : Nat → Int32 → Int32 → Option Int32
  | 0, _, _ => none
  | n + 1, x2, x3 =>
    if inB 4 77 = true then
      if x3 < gI w 80 (ix 4) then
        bI (fX10_ofAugur w x3 0) fun r_3 =>
        if r_3 = x1 then
          lT (x2 ||| (iSl 1 x3)) fun x2_6 =>
          fX10_sideAugurs_4 w x1 n x2_6 (x3 + 1)
        else
        lT (x2 ||| 0) fun x2_7 =>
        fX10_sideAugurs_4 w x1 n x2_7 (x3 + 1)
      else
      some x2
    else none
def fX10_sideAugurs (w : HW) (x1 : Int32) : Option Int32 :=
  fX10_sideAugurs_4 w x1 FU 0 0
/-! SacredHensModel.chosenOf -/
def fX10_chosenOf_11 (w : HW) (x1 : Int32) (x2 : Int32) : Nat → Int32 → Int32 → Option Int32
  | 0, _, _ => none
  | n + 1, x3, x4 =>
    if ¬ x4 < 0 then
      if x4 &&& (x2 ^^^ (-1)) = 0 then
        bI (fX10_bits w x4) fun r_5 =>
        bI (fX10_bits w x3) fun r_7 =>
        if ¬ r_7 < r_5 then
          bI (fX10_skyBy w x1 x4) fun r_10 =>
          bI (fX10_skyOf w x1) fun r_12 =>
          if r_10 = r_12 then
            fX10_chosenOf_11 w x1 x2 n x4 (x4 + (-1))
          else
          fX10_chosenOf_11 w x1 x2 n x3 (x4 + (-1))
        else
        fX10_chosenOf_11 w x1 x2 n x3 (x4 + (-1))
      else
      fX10_chosenOf_11 w x1 x2 n x3 (x4 + (-1))
    else
    some x3
def fX10_chosenOf (w : HW) (x1 : Int32) : Option Int32 :=
  bI (fX10_sideAugurs w x1) fun r_1 =>
  fX10_chosenOf_11 w x1 r_1 FU r_1 r_1
/-! SacredHensModel.college -/
def fX10_college (w : HW) (x1 : Int32) : Option Int32 :=
  bI (fX10_isSide w x1) fun r_1 =>
  if ¬ r_1 = 0 then
    bI (fX10_chosenOf w x1) fun r_4 =>
    bI (fX10_bits w r_4) fun r_6 =>
    some r_6
  else
  some (-2)
/-! SacredHensModel.chosen -/
def fX10_chosen (w : HW) (x1 : Int32) : Option Int32 :=
  bI (fX10_isSide w x1) fun r_1 =>
  if ¬ r_1 = 0 then
    bI (fX10_chosenOf w x1) fun r_4 =>
    some r_4
  else
  some (-2)
/-! SacredHensModel.hold -/
def fX10_hold_35 (w : HW) (x1 : Int32) (x2 : Int32) (x3 : Int32) : Nat → Int32 → Int32 → Option Int32
  | 0, _, _ => none
  | n + 1, x4, x5 =>
    if ¬ x3 < x5 then
      if x5 &&& (x3 ^^^ (-1)) = 0 then
        bI (fX10_bits w x5) fun r_11 =>
        if ¬ x2 < r_11 then
          bI (fX10_skyBy w x1 x5) fun r_14 =>
          bI (fX10_bits w r_14) fun r_16 =>
          lT (iMx x4 r_16) fun x4_18 =>
          fX10_hold_35 w x1 x2 x3 n x4_18 (x5 + 1)
        else
        fX10_hold_35 w x1 x2 x3 n x4 (x5 + 1)
      else
      fX10_hold_35 w x1 x2 x3 n x4 (x5 + 1)
    else
    some x4
def fX10_hold (w : HW) (x1 : Int32) (x2 : Int32) : Option Int32 :=
  bI (fX10_isSide w x1) fun r_1 =>
  if ¬ r_1 = 0 then
    bI (fX10_in w (x2.toInt64) 0 8) fun r_4 =>
    if r_4 = 0 then
      some (-2)
    else
    bI (fX10_sideAugurs w x1) fun r_7 =>
    fX10_hold_35 w x1 x2 r_7 FU 0 0
  else
  some (-2)
/-! SacredHensModel.idle -/
def fX10_idle_15 (w : HW) (x1 : Int32) : Nat → Int32 → Int32 → Option Int32
  | 0, _, _ => none
  | n + 1, x2, x3 =>
    if inB 4 77 = true then
      if x3 < gI w 80 (ix 4) then
        bI (fX10_ofAugur w x3 0) fun r_6 =>
        if r_6 = x1 then
          bI (fX10_allAugurs w) fun r_9 =>
          bI (fX10_skyBy w x1 (r_9 &&& ((iSl 1 x3) ^^^ (-1)))) fun r_11 =>
          bI (fX10_skyOf w x1) fun r_13 =>
          if r_11 = r_13 then
            lT (x2 ||| (iSl 1 x3)) fun x2_16 =>
            fX10_idle_15 w x1 n x2_16 (x3 + 1)
          else
          lT (x2 ||| 0) fun x2_17 =>
          fX10_idle_15 w x1 n x2_17 (x3 + 1)
        else
        lT (x2 ||| 0) fun x2_18 =>
        fX10_idle_15 w x1 n x2_18 (x3 + 1)
      else
      some x2
    else none
def fX10_idle (w : HW) (x1 : Int32) : Option Int32 :=
  bI (fX10_isSide w x1) fun r_1 =>
  if r_1 = 0 then
    some (-2)
  else
  fX10_idle_15 w x1 FU 0 0
/-! SacredHensModel.lone -/
def fX10_lone_15 (w : HW) (x1 : Int32) : Nat → Int32 → Int32 → Option Int32
  | 0, _, _ => none
  | n + 1, x2, x3 =>
    if inB 4 77 = true then
      if x3 < gI w 80 (ix 4) then
        bI (fX10_ofAugur w x3 0) fun r_6 =>
        if r_6 = x1 then
          bI (fX10_allAugurs w) fun r_9 =>
          bI (fX10_skyBy w x1 (r_9 &&& ((iSl 1 x3) ^^^ (-1)))) fun r_11 =>
          bI (fX10_skyOf w x1) fun r_13 =>
          if ¬ r_11 = r_13 then
            lT (x2 ||| (iSl 1 x3)) fun x2_16 =>
            fX10_lone_15 w x1 n x2_16 (x3 + 1)
          else
          lT (x2 ||| 0) fun x2_17 =>
          fX10_lone_15 w x1 n x2_17 (x3 + 1)
        else
        lT (x2 ||| 0) fun x2_18 =>
        fX10_lone_15 w x1 n x2_18 (x3 + 1)
      else
      some x2
    else none
def fX10_lone (w : HW) (x1 : Int32) : Option Int32 :=
  bI (fX10_isSide w x1) fun r_1 =>
  if r_1 = 0 then
    some (-2)
  else
  fX10_lone_15 w x1 FU 0 0
/-! SacredHensModel.tenure -/
def fX10_tenure_15 (w : HW) (x1 : Int32) : Nat → Int32 → Int32 → Option Int32
  | 0, _, _ => none
  | n + 1, x2, x3 =>
    if inB 4 77 = true then
      if x3 < gI w 80 (ix 4) then
        bI (fX10_ofAugur w x3 0) fun r_6 =>
        if r_6 = x1 then
          if ¬ x2 = (-1) then
            bI (fX10_daysOf w x3) fun r_10 =>
            bI (fX10_bits w r_10) fun r_12 =>
            bI (fX10_daysOf w x2) fun r_14 =>
            bI (fX10_bits w r_14) fun r_16 =>
            if r_16 < r_12 then
              fX10_tenure_15 w x1 n x3 (x3 + 1)
            else
            fX10_tenure_15 w x1 n x2 (x3 + 1)
          else
          fX10_tenure_15 w x1 n x3 (x3 + 1)
        else
        fX10_tenure_15 w x1 n x2 (x3 + 1)
      else
      some x2
    else none
def fX10_tenure (w : HW) (x1 : Int32) : Option Int32 :=
  bI (fX10_isSide w x1) fun r_1 =>
  if r_1 = 0 then
    some (-2)
  else
  fX10_tenure_15 w x1 FU (-1) 0
/-! SacredHensModel.clear -/
def fX10_clear (w : HW) (x1 : Int32) : Option Int32 :=
  bI (fX10_isSide w x1) fun r_1 =>
  if ¬ r_1 = 0 then
    bI (fX10_freeDays w x1) fun r_4 =>
    some r_4
  else
  some (-2)
/-! SacredHensModel.run -/
def fX10_run (w : HW) (x1 : Int32) : Option Int32 :=
  bI (fX10_isSide w x1) fun r_1 =>
  if ¬ r_1 = 0 then
    bI (fX10_freeDays w x1) fun r_4 =>
    bI (fX10_runOf w r_4) fun r_6 =>
    some r_6
  else
  some (-2)
/-! SacredHensModel.both -/
def fX10_both (w : HW) : Option Int32 :=
  bI (fX10_isCamp w) fun r_1 =>
  if ¬ r_1 = 0 then
    bI (fX10_skyOf w 0) fun r_4 =>
    bI (fX10_skyOf w 1) fun r_6 =>
    some (r_4 &&& r_6)
  else
  some (-2)
/-! SacredHensModel.fallsBy -/
def fX10_fallsBy_25 (w : HW) : Nat → Int32 → Int32 → Option Int32
  | 0, _, _ => none
  | n + 1, x2, x3 =>
    if inB 5 77 = true then
      if x3 < gI w 80 (ix 5) then
        if inB x3 8 = true then
          if ¬ gI w 89 (ix x3) = (-1) then
            bI (fX10_needsOf w x3) fun r_9 =>
            if ¬ r_9 &&& x2 = 0 then
              lT (x2 ||| (iSl 1 x3)) fun x2_12 =>
              fX10_fallsBy_25 w n x2_12 (x3 + 1)
            else
            fX10_fallsBy_25 w n x2 (x3 + 1)
          else
          fX10_fallsBy_25 w n x2 (x3 + 1)
        else none
      else
      some x2
    else none
def fX10_fallsBy (w : HW) (x1 : Int32) : Option Int32 :=
  if inB x1 14 = true then
    if gI w 88 (ix x1) = (-1) then
      fX10_fallsBy_25 w FU 0 0
    else
    if inB x1 14 = true then
      lT (iSl 1 (gI w 88 (ix x1))) fun x2_4 =>
      fX10_fallsBy_25 w FU x2_4 0
    else none
  else none
/-! SacredHensModel.falls -/
def fX10_falls (w : HW) (x1 : Int32) : Option (Int32 × HW) :=
  bW (fX10_asksDay w x1) fun r_1 w_2 =>
  if ¬ r_1 = 0 then
    bI (fX10_fallsBy w_2 x1) fun r_4 =>
    some (r_4, w_2)
  else
  some ((-2), w_2)
/-! SacredHensModel.worthBy -/
def fX10_worthBy_4 (w : HW) (x1 : Int32) : Nat → Int32 → Int32 → Option Int32
  | 0, _, _ => none
  | n + 1, x2, x3 =>
    if inB 5 77 = true then
      if x3 < gI w 80 (ix 5) then
        bI (fX10_bit w x1 x3) fun r_3 =>
        bI (fX10_of w x3 1) fun r_5 =>
        lT (x2 + (r_3 * r_5)) fun x2_7 =>
        fX10_worthBy_4 w x1 n x2_7 (x3 + 1)
      else
      some x2
    else none
def fX10_worthBy (w : HW) (x1 : Int32) : Option Int32 :=
  fX10_worthBy_4 w x1 FU 0 0
/-! SacredHensModel.worst -/
def fX10_worst_16 : Nat → HW → Int32 → Int32 → Int32 → Option (Int32 × HW)
  | 0, _, _, _, _ => none
  | n + 1, w, x1, x2, x3 =>
    if inB 0 77 = true then
      if x3 < gI w 80 (ix 0) then
        bI (fX10_fallsBy w x3) fun r_6 =>
        bI (fX10_worthBy w r_6) fun r_8 =>
        if ¬ x2 < r_8 then
          fX10_worst_16 n w x1 x2 (x3 + 1)
        else
        fX10_worst_16 n w x3 r_8 (x3 + 1)
      else
      some (x1, w)
    else none
def fX10_worst (w : HW) : Option (Int32 × HW) :=
  bW (fX10_asksCamp w) fun r_1 w_2 =>
  if r_1 = 0 then
    some ((-2), w_2)
  else
  fX10_worst_16 FU w_2 (-1) 0 0
/-! SacredHensModel.numberAt -/
def fX10_numberAt (w : HW) (x1 : Int32) (x2 : Int32) : Option Int64 :=
  if inB ((60 * x1) + x2) 240 = true then
    some (gL w 100 (ix ((60 * x1) + x2)))
  else none
/-! SacredHensModel.eatsBy -/
def fX10_eatsBy_22 (w : HW) (s0 : Int32) : Option Int32 :=
  if inB 2 77 = true then
    if ¬ s0 < gI w 80 (ix 2) then
      some 1
    else
    some 0
  else none
def fX10_eatsBy (w : HW) (x1 : Int32) (x2 : Int32) : Option Int32 :=
  lT (iRm x1 100) fun x3_1 =>
  if ¬ x3_1 < x2 then
    fX10_eatsBy_22 w ((x1 / 100) + x2)
  else
  fX10_eatsBy_22 w (x2 - x3_1)
/-! SacredHensModel.isSlot -/
def fX10_isSlot (w : HW) (x0 : Int32) : Option Int32 :=
  bI (fX10_in w (x0.toInt64) 0 3) fun r_1 =>
  if zB r_1 = true then some r_1 else none
/-! SacredHensModel.layPairs -/
def fX10_layPairs_198 (w : HW) (K59 : HW → Int32 → Option (Int32 × HW)) (K64 : HW → Int32 → Option (Int32 × HW)) (x1 : Int32) (x2 : Int32) (x3 : Int32) (x4 : Int32) (x5 : Int32) : Option (Int32 × HW) :=
  if x5 = 0 then
    K64 w (x3 + 1)
  else
  if inB (gI w 79 35) 150 = true then
    lT (uI w 96 (ix (gI w 79 35)) x4) fun w_41 =>
    lT (uI w_41 79 35 ((gI w_41 79 35) + 1)) fun w_42 =>
    K64 w_42 (x3 + 1)
  else none
def fX10_layPairs_182 (w : HW) (K59 : HW → Int32 → Option (Int32 × HW)) (K64 : HW → Int32 → Option (Int32 × HW)) (K80 : HW → Int32 → Int32 → Option (Int32 × HW)) (x1 : Int32) (x2 : Int32) (x3 : Int32) (x4 : Int32) (x6 : Int32) (s0 : Int32) (s1 : Int32) : Option (Int32 × HW) :=
  if s1 = s0 then
    K80 w 1 (x6 + 2)
  else
  K80 w 0 (x6 + 2)
def fX10_layPairs_133 (K59 : HW → Int32 → Option (Int32 × HW)) (K64 : HW → Int32 → Option (Int32 × HW)) (x1 : Int32) (x2 : Int32) (x3 : Int32) (x4 : Int32) : Nat → HW → Int32 → Int32 → Option (Int32 × HW)
  | 0, _, _, _ => none
  | n + 1, w, x5, x6 =>
    if inB x1 4 = true then
      if x6 < gI w 98 (ix x1) then
        if ¬ x5 = 0 then
          bI (fX10_numberAt w x1 x6) fun r_31 =>
          bI (fX10_eatsBy w x4 (r_31.toInt32)) fun r_33 =>
          bI (fX10_numberAt w x1 (x6 + 1)) fun r_35 =>
          if lg_cmp r_35 1 = 0 then
            fX10_layPairs_182 w K59 K64 (fun w x5 x6 => fX10_layPairs_133 K59 K64 x1 x2 x3 x4 n w x5 x6) x1 x2 x3 x4 x6 1 r_33
          else
          fX10_layPairs_182 w K59 K64 (fun w x5 x6 => fX10_layPairs_133 K59 K64 x1 x2 x3 x4 n w x5 x6) x1 x2 x3 x4 x6 0 r_33
        else
        fX10_layPairs_133 K59 K64 x1 x2 x3 x4 n w 0 (x6 + 2)
      else
      fX10_layPairs_198 w K59 K64 x1 x2 x3 x4 x5
    else none
def fX10_layPairs_109 (K59 : HW → Int32 → Option (Int32 × HW)) (x1 : Int32) (x2 : Int32) : Nat → HW → Int32 → Option (Int32 × HW)
  | 0, _, _ => none
  | n + 1, w, x3 =>
    if inB 0 77 = true then
      if ¬ gI w 80 (ix 0) < x3 then
        lT ((100 * x2) + x3) fun x4_27 =>
        fX10_layPairs_133 K59 (fun w x3 => fX10_layPairs_109 K59 x1 x2 n w x3) x1 x2 x3 x4_27 FU w 1 0
      else
      K59 w (x2 + 1)
    else none
def fX10_layPairs_101 (x1 : Int32) : Nat → HW → Int32 → Option (Int32 × HW)
  | 0, _, _ => none
  | n + 1, w, x2 =>
    if x2 < 10 then
      fX10_layPairs_109 (fun w x2 => fX10_layPairs_101 x1 n w x2) x1 x2 FU w 0
    else
    some (0, w)
def fX10_layPairs_46 (x1 : Int32) : Nat → HW → Int32 → Option (Int32 × HW)
  | 0, _, _ => none
  | n + 1, w, x2 =>
    if inB x1 4 = true then
      if x2 < gI w 98 (ix x1) then
        bI (fX10_numberAt w x1 x2) fun r_13 =>
        bI (fX10_isDay w r_13) fun r_15 =>
        if ¬ r_15 = 0 then
          bI (fX10_numberAt w x1 (x2 + 1)) fun r_18 =>
          bI (fX10_in w r_18 0 1) fun r_20 =>
          if r_20 = 0 then
            some ((-2), w)
          else
          fX10_layPairs_46 x1 n w (x2 + 2)
        else
        some ((-2), w)
      else
      lT (uI w 79 35 0) fun w_23 =>
      fX10_layPairs_101 x1 FU w_23 0
    else none
def fX10_layPairs (w : HW) (x1 : Int32) : Option (Int32 × HW) :=
  bI (fX10_isSlot w x1) fun r_1 =>
  if ¬ r_1 = 0 then
    bI (fX10_isCamp w) fun r_4 =>
    if r_4 = 0 then
      some ((-2), w)
    else
    if inB x1 4 = true then
      if gI w 98 (ix x1) = (-1) then
        some ((-6), w)
      else
      if inB x1 4 = true then
        if ¬ iRm (gI w 98 (ix x1)) 2 = 0 then
          some ((-2), w)
        else
        fX10_layPairs_46 x1 FU w 0
      else none
    else none
  else
  some ((-2), w)
/-! SacredHensModel.fits -/
def fX10_fits (w : HW) (x1 : Int32) : Option (Int32 × HW) :=
  bW (fX10_layPairs w x1) fun r_1 w_2 =>
  if r_1 < 0 then
    some (r_1, w_2)
  else
  some (gI w_2 79 35, w_2)
/-! SacredHensModel.fedSet -/
def fX10_fedSet_4 (w : HW) : Nat → Int32 → Int32 → Option Int32
  | 0, _, _ => none
  | n + 1, x1, x2 =>
    if x2 < gI w 79 35 then
      if inB x2 150 = true then
        lT (x1 ||| (iSl 1 (iRm (gI w 96 (ix x2)) 100))) fun x1_3 =>
        fX10_fedSet_4 w n x1_3 (x2 + 1)
      else none
    else
    some x1
def fX10_fedSet (w : HW) : Option Int32 :=
  fX10_fedSet_4 w FU 0 0
/-! SacredHensModel.fed -/
def fX10_fed (w : HW) (x1 : Int32) : Option (Int32 × HW) :=
  bW (fX10_layPairs w x1) fun r_1 w_2 =>
  if r_1 < 0 then
    some (r_1, w_2)
  else
  bI (fX10_fedSet w_2) fun r_4 =>
  if inB 0 77 = true then
    some (r_4 &&& ((iSl 1 (gI w_2 80 (ix 0))) - 1), w_2)
  else none
/-! SacredHensModel.starved -/
def fX10_starved (w : HW) (x1 : Int32) : Option (Int32 × HW) :=
  bW (fX10_layPairs w x1) fun r_1 w_2 =>
  if r_1 < 0 then
    some (r_1, w_2)
  else
  bI (fX10_fedSet w_2) fun r_4 =>
  if inB 0 77 = true then
    bI (fX10_bit w_2 r_4 (gI w_2 80 (ix 0))) fun r_7 =>
    some (r_7, w_2)
  else none
/-! SacredHensModel.least -/
def fX10_least (w : HW) (x1 : Int32) : Option (Int32 × HW) :=
  bW (fX10_layPairs w x1) fun r_1 w_2 =>
  if r_1 < 0 then
    some (r_1, w_2)
  else
  if gI w_2 79 35 = 0 then
    some ((-1), w_2)
  else
  if inB 0 150 = true then
    some ((gI w_2 96 (ix 0)) / 100, w_2)
  else none
/-! SacredHensModel.askOf -/
def fX10_askOf_65 (w : HW) (K8 : HW → Int32 → Int32 → Option (Int32 × HW)) (x1 : Int32) (x2 : Int32) (x3 : Int32) : Option (Int32 × HW) :=
  lT (iMx x3 ((gI w 79 35) - x3)) fun x4_11 =>
  if ¬ x4_11 < gI w 79 36 then
    K8 w x1 (x2 + 1)
  else
  lT (uI w 79 36 x4_11) fun w_13 =>
  K8 w_13 x2 (x2 + 1)
def fX10_askOf_27 (K8 : HW → Int32 → Int32 → Option (Int32 × HW)) (x1 : Int32) (x2 : Int32) : Nat → HW → Int32 → Int32 → Option (Int32 × HW)
  | 0, _, _, _ => none
  | n + 1, w, x3, x4 =>
    if x4 < gI w 79 35 then
      if inB x4 150 = true then
        bI (fX10_eatsBy w (gI w 96 (ix x4)) x2) fun r_6 =>
        if ¬ r_6 = 0 then
          lT (x3 + 1) fun x3_9 =>
          fX10_askOf_27 K8 x1 x2 n w x3_9 (x4 + 1)
        else
        lT (x3 + 0) fun x3_10 =>
        fX10_askOf_27 K8 x1 x2 n w x3_10 (x4 + 1)
      else none
    else
    fX10_askOf_65 w K8 x1 x2 x3
def fX10_askOf_12 : Nat → HW → Int32 → Int32 → Option (Int32 × HW)
  | 0, _, _, _ => none
  | n + 1, w, x1, x2 =>
    if inB 0 77 = true then
      if x2 < gI w 80 (ix 0) then
        fX10_askOf_27 (fun w x1 x2 => fX10_askOf_12 n w x1 x2) x1 x2 FU w 0 0
      else
      some (x1, w)
    else none
def fX10_askOf (w : HW) : Option (Int32 × HW) :=
  lT (uI w 79 36 (gI w 79 35)) fun w_1 =>
  fX10_askOf_12 FU w_1 (-1) 0
/-! SacredHensModel.ask -/
def fX10_ask (w : HW) (x1 : Int32) : Option (Int32 × HW) :=
  bW (fX10_layPairs w x1) fun r_1 w_2 =>
  if r_1 < 0 then
    some (r_1, w_2)
  else
  bW (fX10_askOf w_2) fun r_4 w_5 =>
  some (r_4, w_5)
/-! SacredHensModel.leaves -/
def fX10_leaves (w : HW) (x1 : Int32) : Option (Int32 × HW) :=
  bW (fX10_layPairs w x1) fun r_1 w_2 =>
  if r_1 < 0 then
    some (r_1, w_2)
  else
  bW (fX10_askOf w_2) fun r_4 w_5 =>
  some (gI w_5 79 36, w_5)
/-! SacredHensModel.layList -/
def fX10_layList_70 (x1 : Int32) : Nat → HW → Int32 → Option (Int32 × HW)
  | 0, _, _ => none
  | n + 1, w, x3 =>
    if inB x1 4 = true then
      if x3 < gI w 98 (ix x1) then
        bI (fX10_numberAt w x1 x3) fun r_17 =>
        bI (fX10_in w r_17 0 1) fun r_19 =>
        if ¬ r_19 = 0 then
          bI (fX10_numberAt w x1 (x3 + 1)) fun r_22 =>
          bI (fX10_in w r_22 0 1) fun r_24 =>
          if r_24 = 0 then
            some ((-2), w)
          else
          bI (fX10_numberAt w x1 x3) fun r_27 =>
          bI (fX10_numberAt w x1 (x3 + 1)) fun r_29 =>
          if inB ((2 * (r_27.toInt32)) + (r_29.toInt32)) 4 = true then
            if inB ((2 * (r_27.toInt32)) + (r_29.toInt32)) 4 = true then
              lT (uI w 97 (ix ((2 * (r_27.toInt32)) + (r_29.toInt32))) ((gI w 97 (ix ((2 * (r_27.toInt32)) + (r_29.toInt32)))) + 1)) fun w_33 =>
              fX10_layList_70 x1 n w_33 (x3 + 2)
            else none
          else none
        else
        some ((-2), w)
      else
      some (0, w)
    else none
def fX10_layList_50 (x1 : Int32) : Nat → HW → Int32 → Option (Int32 × HW)
  | 0, _, _ => none
  | n + 1, w, x3 =>
    if x3 < 4 then
      if inB x3 4 = true then
        lT (uI w 97 (ix x3) 0) fun w_14 =>
        fX10_layList_50 x1 n w_14 (x3 + 1)
      else none
    else
    fX10_layList_70 x1 FU w 0
def fX10_layList (w : HW) (x1 : Int32) (x2 : Int32) : Option (Int32 × HW) :=
  bI (fX10_isSlot w x1) fun r_1 =>
  if ¬ r_1 = 0 then
    bI (fX10_isCamp w) fun r_4 =>
    if ¬ r_4 = 0 then
      if x2 = 0 then
        some ((-2), w)
      else
      if inB x1 4 = true then
        if gI w 98 (ix x1) = (-1) then
          some ((-6), w)
        else
        if inB x1 4 = true then
          if ¬ iRm (gI w 98 (ix x1)) 2 = 0 then
            some ((-2), w)
          else
          fX10_layList_50 x1 FU w 0
        else none
      else none
    else
    some ((-2), w)
  else
  some ((-2), w)
/-! SacredHensModel.tally -/
def fX10_tally_27 (w : HW) (x2 : Int32) (x3 : Int32) (s0 : Int32) (s1 : Int32) : Option (Int32 × HW) :=
  bW (fX10_layList w s1 s0) fun r_7 w_8 =>
  if r_7 < 0 then
    some (r_7, w_8)
  else
  if inB ((2 * x2) + x3) 4 = true then
    some (gI w_8 97 (ix ((2 * x2) + x3)), w_8)
  else none
def fX10_tally (w : HW) (x1 : Int32) (x2 : Int32) (x3 : Int32) : Option (Int32 × HW) :=
  bI (fX10_in w (x2.toInt64) 0 1) fun r_1 =>
  if ¬ r_1 = 0 then
    bI (fX10_in w (x3.toInt64) 0 1) fun r_4 =>
    if ¬ r_4 = 0 then
      fX10_tally_27 w x2 x3 1 x1
    else
    fX10_tally_27 w x2 x3 0 x1
  else
  fX10_tally_27 w x2 x3 0 x1
/-! SacredHensModel.choose -/
def fX10_choose_18 (w : HW) (x0 : Int32) (x1 : Int32) : Nat → Int64 → Int32 → Option Int64
  | 0, _, _ => none
  | n + 1, x2, x4 =>
    if ¬ x1 < x4 then
      if x4.toInt64 = 0 then none else
      lT ((x2 * (((x0 - x1) + x4).toInt64)) / (x4.toInt64)) fun x2_6 =>
      fX10_choose_18 w x0 x1 n x2_6 (x4 + 1)
    else
    some x2
def fX10_choose (w : HW) (x0 : Int32) (x1 : Int32) : Option Int64 :=
  bI (fX10_in w (x1.toInt64) 0 (x0.toInt64)) fun r_1 =>
  if r_1 = 0 then
    some 0
  else
  fX10_choose_18 w x0 x1 FU 1 1
/-! SacredHensModel.divisor -/
def fX10_divisor_6 (w : HW) : Nat → Int64 → Int64 → Option Int64
  | 0, _, _ => none
  | n + 1, x4, x6 =>
    if ¬ lg_cmp x6 0 = 0 then
      if x6 = 0 then none else
      lT (lRm x4 x6) fun x8_3 =>
      fX10_divisor_6 w n x6 x8_3
    else
    some x4
def fX10_divisor (w : HW) (x0 : Int64) (x2 : Int64) : Option Int64 :=
  fX10_divisor_6 w FU x0 x2
/-! SacredHensModel.part -/
def fX10_part (w : HW) (x0 : Int64) (x2 : Int64) (x4 : Int32) : Option Int64 :=
  if x4 = 0 then
    bI (fX10_divisor w x0 x2) fun r_2 =>
    if r_2 = 0 then none else
    some (x0 / r_2)
  else
  bI (fX10_divisor w x0 x2) fun r_5 =>
  if r_5 = 0 then none else
  some (x2 / r_5)
/-! SacredHensModel.doubt -/
def fX10_doubt_112 (w : HW) (x2 : Int32) (x4 : Int32) (x5 : Int32) (x6 : Int32) (x7 : Int64) : Option (Int64 × HW) :=
  bI (fX10_choose w (x4 + x5) x6) fun r_23 =>
  bI (fX10_part w x7 r_23 x2) fun r_25 =>
  some (r_25, w)
def fX10_doubt_76 (x2 : Int32) (x4 : Int32) (x5 : Int32) (x6 : Int32) : Nat → HW → Int64 → Int32 → Option (Int64 × HW)
  | 0, _, _, _ => none
  | n + 1, w, x7, x9 =>
    if ¬ x4 < x9 then
      bI (fX10_choose w x4 x9) fun r_18 =>
      bI (fX10_choose w x5 (x6 - x9)) fun r_20 =>
      lT (x7 + (r_18 * r_20)) fun x7_22 =>
      fX10_doubt_76 x2 x4 x5 x6 n w x7_22 (x9 + 1)
    else
    fX10_doubt_112 w x2 x4 x5 x6 x7
def fX10_doubt (w : HW) (x1 : Int32) (x2 : Int32) : Option (Int64 × HW) :=
  bI (fX10_in w (x2.toInt64) 0 1) fun r_1 =>
  bW (fX10_layList w x1 r_1) fun r_3 w_4 =>
  if r_3 < 0 then
    some (r_3.toInt64, w_4)
  else
  if inB 2 4 = true then
    if inB 3 4 = true then
      lT ((gI w_4 97 (ix 2)) + (gI w_4 97 (ix 3))) fun x4_8 =>
      if inB 0 4 = true then
        if inB 1 4 = true then
          lT ((gI w_4 97 (ix 0)) + (gI w_4 97 (ix 1))) fun x5_11 =>
          if inB 1 4 = true then
            if inB 3 4 = true then
              lT ((gI w_4 97 (ix 1)) + (gI w_4 97 (ix 3))) fun x6_14 =>
              if inB 3 4 = true then
                lT (gI w_4 97 (ix 3)) fun x9_16 =>
                fX10_doubt_76 x2 x4_8 x5_11 x6_14 FU w_4 0 x9_16
              else none
            else none
          else none
        else none
      else none
    else none
  else none
/-! SacredHensModel.share -/
def fX10_share_27 (w : HW) (x2 : Int32) (x3 : Int32) (s0 : Int32) (s1 : Int32) : Option (Int32 × HW) :=
  bW (fX10_layList w s1 s0) fun r_7 w_8 =>
  if r_7 < 0 then
    some (r_7, w_8)
  else
  if inB (2 * x2) 4 = true then
    if inB ((2 * x2) + 1) 4 = true then
      lT ((gI w_8 97 (ix (2 * x2))) + (gI w_8 97 (ix ((2 * x2) + 1)))) fun x5_12 =>
      if x5_12 = 0 then
        some ((-1), w_8)
      else
      if inB ((2 * x2) + 1) 4 = true then
        bI (fX10_part w_8 ((gI w_8 97 (ix ((2 * x2) + 1))).toInt64) (x5_12.toInt64) x3) fun r_15 =>
        some (r_15.toInt32, w_8)
      else none
    else none
  else none
def fX10_share (w : HW) (x1 : Int32) (x2 : Int32) (x3 : Int32) : Option (Int32 × HW) :=
  bI (fX10_in w (x2.toInt64) 0 1) fun r_1 =>
  if ¬ r_1 = 0 then
    bI (fX10_in w (x3.toInt64) 0 1) fun r_4 =>
    if ¬ r_4 = 0 then
      fX10_share_27 w x2 x3 1 x1
    else
    fX10_share_27 w x2 x3 0 x1
  else
  fX10_share_27 w x2 x3 0 x1
/-! SacredHensModel.leans -/
def fX10_leans (w : HW) (x1 : Int32) : Option (Int32 × HW) :=
  bW (fX10_layList w x1 1) fun r_1 w_2 =>
  if r_1 < 0 then
    some (r_1, w_2)
  else
  if inB 2 4 = true then
    if inB 3 4 = true then
      lT ((gI w_2 97 (ix 2)) + (gI w_2 97 (ix 3))) fun x3_6 =>
      if inB 0 4 = true then
        if inB 1 4 = true then
          lT ((gI w_2 97 (ix 0)) + (gI w_2 97 (ix 1))) fun x4_9 =>
          if ¬ x3_6 = 0 then
            if x4_9 = 0 then
              some (0, w_2)
            else
            if inB 3 4 = true then
              if inB 1 4 = true then
                bI (fJ6_compare_7cf53 w_2 ((gI w_2 97 (ix 3)) * x4_9) ((gI w_2 97 (ix 1)) * x3_6)) fun r_14 =>
                some (r_14, w_2)
              else none
            else none
          else
          some (0, w_2)
        else none
      else none
    else none
  else none
/-! SacredHensModel.general -/
def fX10_general (w : HW) (x0 : Int32) (x1 : Int32) (x2 : Int32) (x3 : Int32) : Option Int32 :=
  if x0 = 0 then
    some (x2 - x3)
  else
  if ¬ x1 = 0 then
    some 0
  else
  some x2
/-! SacredHensModel.augur -/
def fX10_augur__17 (w : HW) (x1 : Int32) (s0 : Int32) : Option Int32 :=
  if ¬ x1 = 0 then
    some (s0 - 1)
  else
  some s0
def fX10_augur_ (w : HW) (x0 : Int32) (x1 : Int32) (x2 : Int32) (x3 : Int32) : Option Int32 :=
  if ¬ x0 = 0 then
    if ¬ x1 = 0 then
      fX10_augur__17 w x1 x2
    else
    fX10_augur__17 w x1 0
  else
  fX10_augur__17 w x1 x3
/-! SacredHensModel.isRest -/
def fX10_isRest_42 (w : HW) (x2 : Int32) (x3 : Int32) (s0 : Int32) (s1 : Int32) (s2 : Int32) : Option Int32 :=
  bI (fX10_augur_ w s1 s0 x2 x3) fun r_10 =>
  if ¬ s2 < r_10 then
    some 1
  else
  some 0
def fX10_isRest_16 (w : HW) (x0 : Int32) (x1 : Int32) (x2 : Int32) (x3 : Int32) (s0 : Int32) (s1 : Int32) : Option Int32 :=
  bI (fX10_general w s0 x1 x2 x3) fun r_4 =>
  if ¬ s1 < r_4 then
    bI (fX10_augur_ w x0 x1 x2 x3) fun r_7 =>
    if x1 = 0 then
      fX10_isRest_42 w x2 x3 1 x0 r_7
    else
    fX10_isRest_42 w x2 x3 0 x0 r_7
  else
  some 0
def fX10_isRest (w : HW) (x0 : Int32) (x1 : Int32) (x2 : Int32) (x3 : Int32) : Option Int32 :=
  bI (fX10_general w x0 x1 x2 x3) fun r_1 =>
  if x0 = 0 then
    fX10_isRest_16 w x0 x1 x2 x3 1 r_1
  else
  fX10_isRest_16 w x0 x1 x2 x3 0 r_1
/-! SacredHensModel.rests -/
def fX10_rests_62 (w : HW) (K18 : Int32 → Int32 → Option Int32) (x1 : Int32) (x2 : Int32) (x4 : Int32) (s0 : Int32) (s1 : Int32) (s2 : Int32) : Option Int32 :=
  bI (fX10_isRest w s1 s0 x1 x2) fun r_11 =>
  if ¬ r_11 = 0 then
    lT (s2 ||| (iSl 1 x4)) fun x3_14 =>
    K18 x3_14 (x4 + 1)
  else
  lT (s2 ||| 0) fun x3_15 =>
  K18 x3_15 (x4 + 1)
def fX10_rests_32 (w : HW) (x1 : Int32) (x2 : Int32) : Nat → Int32 → Int32 → Option Int32
  | 0, _, _ => none
  | n + 1, x3, x4 =>
    if x4 < 4 then
      if x4 < 2 then
        if iRm x4 2 = 0 then
          fX10_rests_62 w (fun x3 x4 => fX10_rests_32 w x1 x2 n x3 x4) x1 x2 x4 1 1 x3
        else
        fX10_rests_62 w (fun x3 x4 => fX10_rests_32 w x1 x2 n x3 x4) x1 x2 x4 0 1 x3
      else
      if iRm x4 2 = 0 then
        fX10_rests_62 w (fun x3 x4 => fX10_rests_32 w x1 x2 n x3 x4) x1 x2 x4 1 0 x3
      else
      fX10_rests_62 w (fun x3 x4 => fX10_rests_32 w x1 x2 n x3 x4) x1 x2 x4 0 0 x3
    else
    some x3
def fX10_rests (w : HW) (x1 : Int32) (x2 : Int32) : Option Int32 :=
  bI (fX10_in w (x1.toInt64) 0 99) fun r_1 =>
  if ¬ r_1 = 0 then
    bI (fX10_in w (x2.toInt64) 0 99) fun r_4 =>
    if r_4 = 0 then
      some (-2)
    else
    fX10_rests_32 w x1 x2 FU 0 0
  else
  some (-2)
/-! SacredHensModel.believes -/
def fX10_believes_17 (w : HW) (x1 : Int32) : Nat → Int32 → Option Int32
  | 0, _ => none
  | n + 1, x2 =>
    if ¬ 99 < x2 then
      bI (fX10_isRest w 1 1 x1 x2) fun r_5 =>
      if ¬ r_5 = 0 then
        some x2
      else
      fX10_believes_17 w x1 n (x2 + 1)
    else
    some (-1)
def fX10_believes (w : HW) (x1 : Int32) : Option Int32 :=
  bI (fX10_in w (x1.toInt64) 0 99) fun r_1 =>
  if r_1 = 0 then
    some (-2)
  else
  fX10_believes_17 w x1 FU 0
/-! SacredHensModel.chance -/
def fX10_chance_29 (x1 : Int32) : Nat → HW → Int64 → Int64 → Int32 → Option (Int64 × HW)
  | 0, _, _, _, _ => none
  | n + 1, w, x2, x4, x6 =>
    if inB 5 77 = true then
      if x6 < gI w 80 (ix 5) then
        if inB x6 8 = true then
          if gI w 89 (ix x6) = (-1) then
            fX10_chance_29 x1 n w x2 x4 (x6 + 1)
          else
          if inB 3 77 = true then
            lT (x2 * ((gI w 80 (ix 3)).toInt64)) fun x2_12 =>
            lT (x4 * 10) fun x4_13 =>
            fX10_chance_29 x1 n w x2_12 x4_13 (x6 + 1)
          else none
        else none
      else
      bI (fX10_part w x2 x4 x1) fun r_14 =>
      some (r_14, w)
    else none
def fX10_chance (w : HW) (x1 : Int32) : Option (Int64 × HW) :=
  bW (fX10_asksCamp w) fun r_1 w_2 =>
  if ¬ r_1 = 0 then
    bI (fX10_in w_2 (x1.toInt64) 0 1) fun r_4 =>
    if r_4 = 0 then
      some ((-2), w_2)
    else
    fX10_chance_29 x1 FU w_2 1 1 0
  else
  some ((-2), w_2)
/-! SacredHensModel.keepAct -/
def fX10_keepAct (w : HW) (x1 : Int32) : Option (Int32 × HW) :=
  if inB 6 77 = true then
    if gI w 80 (ix 6) = 20 then
      some (0, w)
    else
    if inB 6 77 = true then
      if inB (57 + (gI w 80 (ix 6))) 77 = true then
        lT (uI w 80 (ix (57 + (gI w 80 (ix 6)))) x1) fun w_5 =>
        if inB 6 77 = true then
          if inB 6 77 = true then
            lT (uI w_5 80 (ix 6) ((gI w_5 80 (ix 6)) + 1)) fun w_8 =>
            bI (fX10_layAsked w_8) fun w_10 =>
            bI (fX10_goDays w_10) fun w_12 =>
            some (1, w_12)
          else none
        else none
      else none
    else none
  else none
/-! SacredHensModel.asks -/
def fX10_asks (w : HW) (x1 : Int32) (x2 : Int32) : Option (Int32 × HW) :=
  bW (fX10_asksBill w x1) fun r_1 w_2 =>
  if ¬ r_1 = 0 then
    bI (fX10_isDay w_2 (x2.toInt64)) fun r_4 =>
    if r_4 = 0 then
      some ((-2), w_2)
    else
    if inB x2 14 = true then
      if gI w_2 86 (ix x2) = (-1) then
        if inB x1 8 = true then
          if gI w_2 90 (ix x1) = (-1) then
            bW (fX10_keepAct w_2 ((100 * x1) + x2)) fun r_11 w_12 =>
            if r_11 = 0 then
              some ((-5), w_12)
            else
            if inB x1 8 = true then
              if gI w_12 89 (ix x1) = (-1) then
                some (0, w_12)
              else
              some (1, w_12)
            else none
          else
          some ((-5), w_2)
        else none
      else
      some ((-5), w_2)
    else none
  else
  some ((-2), w_2)
/-! SacredHensModel.feeds -/
def fX10_feeds (w : HW) (x1 : Int32) : Option (Int32 × HW) :=
  bW (fX10_asksDay w x1) fun r_1 w_2 =>
  if r_1 = 0 then
    some ((-2), w_2)
  else
  if inB x1 14 = true then
    if gI w_2 86 (ix x1) = (-1) then
      bW (fX10_keepAct w_2 (1000 + x1)) fun r_6 w_7 =>
      if ¬ r_6 = 0 then
        if inB x1 14 = true then
          some (gI w_7 87 (ix x1), w_7)
        else none
      else
      some ((-5), w_7)
    else
    some ((-5), w_2)
  else none
/-! SacredHensModel.undo -/
def fX10_undo (w : HW) : Option (Int32 × HW) :=
  bI (fX10_isCamp w) fun r_1 =>
  if r_1 = 0 then
    some ((-2), w)
  else
  if inB 6 77 = true then
    if gI w 80 (ix 6) = 0 then
      some ((-5), w)
    else
    if inB 6 77 = true then
      if inB 6 77 = true then
        lT (uI w 80 (ix 6) ((gI w 80 (ix 6)) - 1)) fun w_8 =>
        if inB 6 77 = true then
          some (gI w_8 80 (ix 6), w_8)
        else none
      else none
    else none
  else none
/-! SacredHensModel.anew -/
def fX10_anew (w : HW) : Option (Int32 × HW) :=
  bI (fX10_isCamp w) fun r_1 =>
  if r_1 = 0 then
    some ((-2), w)
  else
  if inB 6 77 = true then
    lT (gI w 80 (ix 6)) fun x1_5 =>
    if inB 6 77 = true then
      lT (uI w 80 (ix 6) 0) fun w_7 =>
      some (x1_5, w_7)
    else none
  else none
/-! SacredHensModel.goDrawn -/
def fX10_goDrawn_33 : Nat → HW → Int32 → Int32 → Option (Int32 × HW)
  | 0, _, _, _ => none
  | n + 1, w, x3, x4 =>
    if inB 5 77 = true then
      if x4 < gI w 80 (ix 5) then
        if inB x4 8 = true then
          if gI w 89 (ix x4) = (-1) then
            lT (x3 ||| 0) fun x3_13 =>
            fX10_goDrawn_33 n w x3_13 (x4 + 1)
          else
          lT (x3 ||| (iSl 1 x4)) fun x3_14 =>
          fX10_goDrawn_33 n w x3_14 (x4 + 1)
        else none
      else
      some (x3, w)
    else none
def fX10_goDrawn (w : HW) (x1 : Int64) : Option (Int32 × HW) :=
  bI (fX10_layAsked w) fun w_2 =>
  lT (uL w_2 79 20 x1) fun w_3 =>
  lT (uI w_3 79 22 0) fun w_4 =>
  lT (uI w_4 79 21 1) fun w_5 =>
  bI (fX10_goDays w_5) fun w_7 =>
  lT (uI w_7 79 21 0) fun w_8 =>
  fX10_goDrawn_33 FU w_8 0 0
/-! SacredHensModel.isSeed -/
def fX10_isSeed (w : HW) (x0 : Int32) : Option Int32 :=
  bI (fX10_in w (x0.toInt64) 0 2000000000) fun r_1 =>
  if zB r_1 = true then some r_1 else none
/-! SacredHensModel.drawn -/
def fX10_drawn (w : HW) (x1 : Int32) (x2 : Int32) : Option (Int32 × HW) :=
  bI (fX10_isCamp w) fun r_1 =>
  if ¬ r_1 = 0 then
    bI (fX10_isSeed w x1) fun r_4 =>
    if ¬ r_4 = 0 then
      bI (fX10_in w (x2.toInt64) 0 1) fun r_7 =>
      if r_7 = 0 then
        some ((-2), w)
      else
      bW (fX10_goDrawn w (x1.toInt64)) fun r_10 w_11 =>
      if x2 = 0 then
        some (r_10, w_11)
      else
      some (gI w_11 79 22, w_11)
    else
    some ((-2), w)
  else
  some ((-2), w)
/-! SacredHensModel.luck -/
def fX10_luck_36 (x1 : Int32) (x2 : Int32) (x3 : Int32) : Nat → HW → Int32 → Int32 → Option (Int32 × HW)
  | 0, _, _, _ => none
  | n + 1, w, x4, x5 =>
    if x5 < x2 then
      bW (fX10_goDrawn w ((x1.toInt64) + (x5.toInt64))) fun r_11 w_12 =>
      bI (fX10_bit w_12 r_11 x3) fun r_13 =>
      lT (x4 + r_13) fun x4_15 =>
      fX10_luck_36 x1 x2 x3 n w_12 x4_15 (x5 + 1)
    else
    some (x4, w)
def fX10_luck (w : HW) (x1 : Int32) (x2 : Int32) (x3 : Int32) : Option (Int32 × HW) :=
  bI (fX10_isSeed w x1) fun r_1 =>
  if ¬ r_1 = 0 then
    bI (fX10_in w (x2.toInt64) 1 20) fun r_4 =>
    if ¬ r_4 = 0 then
      bI (fX10_isBill w x3) fun r_7 =>
      if r_7 = 0 then
        some ((-2), w)
      else
      fX10_luck_36 x1 x2 x3 FU w 0 0
    else
    some ((-2), w)
  else
  some ((-2), w)
/-! SacredHensModel.rate -/
def fX10_rate (w : HW) (x1 : Int32) (x2 : Int32) : Option (Int32 × HW) :=
  bI (fX10_isBill w x1) fun r_1 =>
  if ¬ r_1 = 0 then
    bI (fX10_in w (x2.toInt64) 0 99) fun r_4 =>
    if r_4 = 0 then
      some ((-2), w)
    else
    if inB 6 77 = true then
      if 0 < gI w 80 (ix 6) then
        some ((-5), w)
      else
      bI (fX10_of w x1 1) fun r_9 =>
      if inB ((33 + (3 * x1)) + 1) 77 = true then
        lT (uI w 80 (ix ((33 + (3 * x1)) + 1)) x2) fun w_12 =>
        some (r_9, w_12)
      else none
    else none
  else
  some ((-2), w)
/-! SacredHensModel.count -/
def fX10_count_42 (w : HW) : Nat → Int32 → Int32 → Option Int32
  | 0, _, _ => none
  | n + 1, x2, x3 =>
    if x3 < 4 then
      if inB x3 4 = true then
        if gI w 98 (ix x3) = (-1) then
          lT (x2 + 0) fun x2_10 =>
          fX10_count_42 w n x2_10 (x3 + 1)
        else
        lT (x2 + 1) fun x2_11 =>
        fX10_count_42 w n x2_11 (x3 + 1)
      else none
    else
    some x2
def fX10_count (w : HW) (x1 : Int32) : Option Int32 :=
  bI (fX10_in w (x1.toInt64) 0 7) fun r_1 =>
  if ¬ r_1 = 0 then
    if inB x1 77 = true then
      some (gI w 80 (ix x1))
    else none
  else
  if x1 = 8 then
    some (gI w 79 5)
  else
  if ¬ x1 = 9 then
    some (-1)
  else
  fX10_count_42 w FU 0 0
/-! SacredHensModel.cut -/
def fX10_cut (w : HW) (x0 : Int64) (x2 : Int32) : Option Int64 :=
  lT (64 - (iSl 8 x2)) fun x3_1 =>
  some (lSr (lSl x0 x3_1) x3_1)
/-! SacredHensModel.row -/
def fX10_row_52 (x1 : Int32) : Nat → HW → Int32 → Option (Int32 × HW)
  | 0, _, _ => none
  | n + 1, w, x4 =>
    if x4 < 60 then
      if inB ((60 * x1) + x4) 240 = true then
        lT (uL w 100 (ix ((60 * x1) + x4)) 0) fun w_15 =>
        fX10_row_52 x1 n w_15 (x4 + 1)
      else none
    else
    some (0, w)
def fX10_row (w : HW) (x1 : Int32) (x2 : Int32) (x3 : Int32) : Option (Int32 × HW) :=
  bI (fX10_isSlot w x1) fun r_1 =>
  if ¬ r_1 = 0 then
    bI (fX10_in w (x2.toInt64) 0 3) fun r_4 =>
    if ¬ r_4 = 0 then
      if 60 < x3 then
        some ((-2), w)
      else
      if x3 < 0 then
        some ((-3), w)
      else
      if inB x1 4 = true then
        lT (uI w 98 (ix x1) x3) fun w_10 =>
        if inB x1 4 = true then
          lT (uI w_10 99 (ix x1) x2) fun w_12 =>
          fX10_row_52 x1 FU w_12 0
        else none
      else none
    else
    some ((-2), w)
  else
  some ((-2), w)
/-! SacredHensModel.write -/
def fX10_write (w : HW) (x1 : Int32) (x2 : Int32) (x3 : Int64) : Option (Int32 × HW) :=
  bI (fX10_isSlot w x1) fun r_1 =>
  if r_1 = 0 then
    some ((-2), w)
  else
  if inB x1 4 = true then
    if gI w 98 (ix x1) = (-1) then
      some ((-6), w)
    else
    if inB x1 4 = true then
      bI (fX10_in w (x2.toInt64) 0 (((gI w 98 (ix x1)) - 1).toInt64)) fun r_7 =>
      if r_7 = 0 then
        some ((-7), w)
      else
      if inB x1 4 = true then
        bI (fX10_cut w x3 (gI w 99 (ix x1))) fun r_11 =>
        if inB ((60 * x1) + x2) 240 = true then
          lT (uL w 100 (ix ((60 * x1) + x2)) r_11) fun w_14 =>
          some (0, w_14)
        else none
      else none
    else none
  else none
/-! SacredHensModel.paste -/
def fX10_paste_150 (x3 : Int32) (x4 : Int32) (x5 : Int32) : Nat → HW → Int32 → Option (Int32 × HW)
  | 0, _, _ => none
  | n + 1, w, x6 =>
    if x6 < x5 then
      if inB x6 60 = true then
        if inB (((60 * x3) + x4) + x6) 240 = true then
          lT (uL w 100 (ix (((60 * x3) + x4) + x6)) (gL w 101 (ix x6))) fun w_28 =>
          fX10_paste_150 x3 x4 x5 n w_28 (x6 + 1)
        else none
      else none
    else
    some (0, w)
def fX10_paste_113 (x1 : Int32) (x2 : Int32) (x3 : Int32) (x4 : Int32) (x5 : Int32) : Nat → HW → Int32 → Option (Int32 × HW)
  | 0, _, _ => none
  | n + 1, w, x6 =>
    if x6 < x5 then
      if inB (((60 * x1) + x2) + x6) 240 = true then
        if inB x6 60 = true then
          lT (uL w 101 (ix x6) (gL w 100 (ix (((60 * x1) + x2) + x6)))) fun w_24 =>
          fX10_paste_113 x1 x2 x3 x4 x5 n w_24 (x6 + 1)
        else none
      else none
    else
    fX10_paste_150 x3 x4 x5 FU w 0
def fX10_paste (w : HW) (x1 : Int32) (x2 : Int32) (x3 : Int32) (x4 : Int32) (x5 : Int32) : Option (Int32 × HW) :=
  bI (fX10_isSlot w x1) fun r_1 =>
  if ¬ r_1 = 0 then
    bI (fX10_isSlot w x3) fun r_4 =>
    if r_4 = 0 then
      some ((-2), w)
    else
    if inB x1 4 = true then
      if ¬ gI w 98 (ix x1) = (-1) then
        if inB x3 4 = true then
          if gI w 98 (ix x3) = (-1) then
            some ((-6), w)
          else
          if inB x1 4 = true then
            if inB x3 4 = true then
              if ¬ gI w 99 (ix x1) = gI w 99 (ix x3) then
                some ((-8), w)
              else
              if ¬ x2 < 0 then
                if ¬ x4 < 0 then
                  if ¬ x5 < 0 then
                    if inB x1 4 = true then
                      if ¬ 0 < lg_cmp ((x2.toInt64) + (x5.toInt64)) ((gI w 98 (ix x1)).toInt64) then
                        if inB x3 4 = true then
                          if 0 < lg_cmp ((x4.toInt64) + (x5.toInt64)) ((gI w 98 (ix x3)).toInt64) then
                            some ((-7), w)
                          else
                          fX10_paste_113 x1 x2 x3 x4 x5 FU w 0
                        else none
                      else
                      some ((-7), w)
                    else none
                  else
                  some ((-7), w)
                else
                some ((-7), w)
              else
              some ((-7), w)
            else none
          else none
        else none
      else
      some ((-6), w)
    else none
  else
  some ((-2), w)
