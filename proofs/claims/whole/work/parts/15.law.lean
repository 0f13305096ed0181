def F_L_law_b18 (N : Nat)   : Nat → Int32 → Mem → Option (Int32 × Mem)
  | 0, _, _ => none
  | n + 1, x3, σ =>
    if ((nI σ.2.2.2.2.1) - (6 : Int32)) < x3 then
      some ((1 : Int32), σ)
    else
      if hwOut x3 σ.2.2.2.2.1 then none else
      if ((σ.2.2.2.2.2 (x3).toNatClampNeg) &&& (63 : Int32)) = 0 then
        if hwOut (x3 + (1 : Int32)) σ.2.2.2.2.1 then none else
        if hwOut (x3 + (2 : Int32)) σ.2.2.2.2.1 then none else
        if hwOut (x3 + (3 : Int32)) σ.2.2.2.2.1 then none else
        (F_X11_layer N (σ.2.2.2.2.2 ((x3 + (1 : Int32))).toNatClampNeg) (σ.2.2.2.2.2 ((x3 + (2 : Int32))).toNatClampNeg) (σ.2.2.2.2.2 ((x3 + (3 : Int32))).toNatClampNeg) σ).bind (fun q1 =>
        if hwOut (x3 + (1 : Int32)) q1.2.2.2.2.2.1 then none else
        if hwOut (x3 + (2 : Int32)) q1.2.2.2.2.2.1 then none else
        if hwOut (x3 + (3 : Int32)) q1.2.2.2.2.2.1 then none else
        (F_X12_layer N (q1.2.2.2.2.2.2 ((x3 + (1 : Int32))).toNatClampNeg) (q1.2.2.2.2.2.2 ((x3 + (2 : Int32))).toNatClampNeg) (q1.2.2.2.2.2.2 ((x3 + (3 : Int32))).toNatClampNeg) q1.2).bind (fun q2 =>
        if q1.1 = q2.1 then
          (F_L_law_b18 N n) (x3 + (6 : Int32)) q2.2
        else
          some ((0 : Int32), q2.2)))
      else
      if ((σ.2.2.2.2.2 (x3).toNatClampNeg) &&& (63 : Int32)) = 1 then
        if hwOut (x3 + (1 : Int32)) σ.2.2.2.2.1 then none else
        if hwOut (x3 + (2 : Int32)) σ.2.2.2.2.1 then none else
        if hwOut (x3 + (3 : Int32)) σ.2.2.2.2.1 then none else
        (F_X11_follow N (σ.2.2.2.2.2 ((x3 + (1 : Int32))).toNatClampNeg) (σ.2.2.2.2.2 ((x3 + (2 : Int32))).toNatClampNeg) (σ.2.2.2.2.2 ((x3 + (3 : Int32))).toNatClampNeg) σ).bind (fun q3 =>
        if hwOut (x3 + (1 : Int32)) q3.2.2.2.2.2.1 then none else
        if hwOut (x3 + (2 : Int32)) q3.2.2.2.2.2.1 then none else
        if hwOut (x3 + (3 : Int32)) q3.2.2.2.2.2.1 then none else
        (F_X12_follow N (q3.2.2.2.2.2.2 ((x3 + (1 : Int32))).toNatClampNeg) (q3.2.2.2.2.2.2 ((x3 + (2 : Int32))).toNatClampNeg) (q3.2.2.2.2.2.2 ((x3 + (3 : Int32))).toNatClampNeg) q3.2).bind (fun q4 =>
        if q3.1 = q4.1 then
          (F_L_law_b18 N n) (x3 + (6 : Int32)) q4.2
        else
          some ((0 : Int32), q4.2)))
      else
      if ((σ.2.2.2.2.2 (x3).toNatClampNeg) &&& (63 : Int32)) = 2 then
        if hwOut (x3 + (1 : Int32)) σ.2.2.2.2.1 then none else
        if hwOut (x3 + (2 : Int32)) σ.2.2.2.2.1 then none else
        (F_X11_set N (σ.2.2.2.2.2 ((x3 + (1 : Int32))).toNatClampNeg) (σ.2.2.2.2.2 ((x3 + (2 : Int32))).toNatClampNeg) σ).bind (fun q5 =>
        if hwOut (x3 + (1 : Int32)) q5.2.2.2.2.2.1 then none else
        if hwOut (x3 + (2 : Int32)) q5.2.2.2.2.2.1 then none else
        (F_X12_set N (q5.2.2.2.2.2.2 ((x3 + (1 : Int32))).toNatClampNeg) (q5.2.2.2.2.2.2 ((x3 + (2 : Int32))).toNatClampNeg) q5.2).bind (fun q6 =>
        if q5.1 = q6.1 then
          (F_L_law_b18 N n) (x3 + (6 : Int32)) q6.2
        else
          some ((0 : Int32), q6.2)))
      else
      if ((σ.2.2.2.2.2 (x3).toNatClampNeg) &&& (63 : Int32)) = 3 then
        if hwOut (x3 + (1 : Int32)) σ.2.2.2.2.1 then none else
        (F_X11_count N (σ.2.2.2.2.2 ((x3 + (1 : Int32))).toNatClampNeg) σ).bind (fun q7 =>
        if hwOut (x3 + (1 : Int32)) q7.2.2.2.2.2.1 then none else
        (F_X12_count N (q7.2.2.2.2.2.2 ((x3 + (1 : Int32))).toNatClampNeg) q7.2).bind (fun q8 =>
        if q7.1 = q8.1 then
          (F_L_law_b18 N n) (x3 + (6 : Int32)) q8.2
        else
          some ((0 : Int32), q8.2)))
      else
      if ((σ.2.2.2.2.2 (x3).toNatClampNeg) &&& (63 : Int32)) = 4 then
        if hwOut (x3 + (1 : Int32)) σ.2.2.2.2.1 then none else
        if hwOut (x3 + (2 : Int32)) σ.2.2.2.2.1 then none else
        if hwOut (x3 + (3 : Int32)) σ.2.2.2.2.1 then none else
        (F_X11_feed N (((σ.2.2.2.2.2 ((x3 + (1 : Int32))).toNatClampNeg).toInt64 <<< (((32 : Int32)).toInt64 &&& 63)) ||| ((σ.2.2.2.2.2 ((x3 + (2 : Int32))).toNatClampNeg).toInt64 &&& (4294967295 : Int64))) (σ.2.2.2.2.2 ((x3 + (3 : Int32))).toNatClampNeg) σ).bind (fun q9 =>
        if hwOut (x3 + (1 : Int32)) q9.2.2.2.2.2.1 then none else
        if hwOut (x3 + (2 : Int32)) q9.2.2.2.2.2.1 then none else
        if hwOut (x3 + (3 : Int32)) q9.2.2.2.2.2.1 then none else
        (F_X12_feed N (((q9.2.2.2.2.2.2 ((x3 + (1 : Int32))).toNatClampNeg).toInt64 <<< (((32 : Int32)).toInt64 &&& 63)) ||| ((q9.2.2.2.2.2.2 ((x3 + (2 : Int32))).toNatClampNeg).toInt64 &&& (4294967295 : Int64))) (q9.2.2.2.2.2.2 ((x3 + (3 : Int32))).toNatClampNeg) q9.2).bind (fun q10 =>
        if q9.1 = q10.1 then
          (F_L_law_b18 N n) (x3 + (6 : Int32)) q10.2
        else
          some ((0 : Int32), q10.2)))
      else
      if ((σ.2.2.2.2.2 (x3).toNatClampNeg) &&& (63 : Int32)) = 5 then
        (F_X11_text N σ).bind (fun q11 =>
        (F_X12_text N q11.2).bind (fun q12 =>
        if q11.1 = q12.1 then
          (F_L_law_b18 N n) (x3 + (6 : Int32)) q12.2
        else
          some ((0 : Int32), q12.2)))
      else
      if ((σ.2.2.2.2.2 (x3).toNatClampNeg) &&& (63 : Int32)) = 6 then
        if hwOut (x3 + (1 : Int32)) σ.2.2.2.2.1 then none else
        (F_X11_force N (σ.2.2.2.2.2 ((x3 + (1 : Int32))).toNatClampNeg) σ).bind (fun q13 =>
        if hwOut (x3 + (1 : Int32)) q13.2.2.2.2.2.1 then none else
        (F_X12_force N (q13.2.2.2.2.2.2 ((x3 + (1 : Int32))).toNatClampNeg) q13.2).bind (fun q14 =>
        if q13.1 = q14.1 then
          (F_L_law_b18 N n) (x3 + (6 : Int32)) q14.2
        else
          some ((0 : Int32), q14.2)))
      else
      if ((σ.2.2.2.2.2 (x3).toNatClampNeg) &&& (63 : Int32)) = 7 then
        if hwOut (x3 + (1 : Int32)) σ.2.2.2.2.1 then none else
        if hwOut (x3 + (2 : Int32)) σ.2.2.2.2.1 then none else
        if hwOut (x3 + (3 : Int32)) σ.2.2.2.2.1 then none else
        if hwOut (x3 + (4 : Int32)) σ.2.2.2.2.1 then none else
        (F_X11_asks N (σ.2.2.2.2.2 ((x3 + (1 : Int32))).toNatClampNeg) (σ.2.2.2.2.2 ((x3 + (2 : Int32))).toNatClampNeg) (σ.2.2.2.2.2 ((x3 + (3 : Int32))).toNatClampNeg) (σ.2.2.2.2.2 ((x3 + (4 : Int32))).toNatClampNeg) σ).bind (fun q15 =>
        if hwOut (x3 + (1 : Int32)) q15.2.2.2.2.2.1 then none else
        if hwOut (x3 + (2 : Int32)) q15.2.2.2.2.2.1 then none else
        if hwOut (x3 + (3 : Int32)) q15.2.2.2.2.2.1 then none else
        if hwOut (x3 + (4 : Int32)) q15.2.2.2.2.2.1 then none else
        (F_X12_asks N (q15.2.2.2.2.2.2 ((x3 + (1 : Int32))).toNatClampNeg) (q15.2.2.2.2.2.2 ((x3 + (2 : Int32))).toNatClampNeg) (q15.2.2.2.2.2.2 ((x3 + (3 : Int32))).toNatClampNeg) (q15.2.2.2.2.2.2 ((x3 + (4 : Int32))).toNatClampNeg) q15.2).bind (fun q16 =>
        if q15.1 = q16.1 then
          (F_L_law_b18 N n) (x3 + (6 : Int32)) q16.2
        else
          some ((0 : Int32), q16.2)))
      else
      if ((σ.2.2.2.2.2 (x3).toNatClampNeg) &&& (63 : Int32)) = 8 then
        if hwOut (x3 + (1 : Int32)) σ.2.2.2.2.1 then none else
        (F_X11_place N (σ.2.2.2.2.2 ((x3 + (1 : Int32))).toNatClampNeg) σ).bind (fun q17 =>
        if hwOut (x3 + (1 : Int32)) q17.2.2.2.2.2.1 then none else
        (F_X12_place N (q17.2.2.2.2.2.2 ((x3 + (1 : Int32))).toNatClampNeg) q17.2).bind (fun q18 =>
        if q17.1 = q18.1 then
          (F_L_law_b18 N n) (x3 + (6 : Int32)) q18.2
        else
          some ((0 : Int32), q18.2)))
      else
      if ((σ.2.2.2.2.2 (x3).toNatClampNeg) &&& (63 : Int32)) = 9 then
        if hwOut (x3 + (1 : Int32)) σ.2.2.2.2.1 then none else
        if hwOut (x3 + (2 : Int32)) σ.2.2.2.2.1 then none else
        if hwOut (x3 + (3 : Int32)) σ.2.2.2.2.1 then none else
        (F_X11_ties N (σ.2.2.2.2.2 ((x3 + (1 : Int32))).toNatClampNeg) (σ.2.2.2.2.2 ((x3 + (2 : Int32))).toNatClampNeg) (σ.2.2.2.2.2 ((x3 + (3 : Int32))).toNatClampNeg) σ).bind (fun q19 =>
        if hwOut (x3 + (1 : Int32)) q19.2.2.2.2.2.1 then none else
        if hwOut (x3 + (2 : Int32)) q19.2.2.2.2.2.1 then none else
        if hwOut (x3 + (3 : Int32)) q19.2.2.2.2.2.1 then none else
        (F_X12_ties N (q19.2.2.2.2.2.2 ((x3 + (1 : Int32))).toNatClampNeg) (q19.2.2.2.2.2.2 ((x3 + (2 : Int32))).toNatClampNeg) (q19.2.2.2.2.2.2 ((x3 + (3 : Int32))).toNatClampNeg) q19.2).bind (fun q20 =>
        if q19.1 = q20.1 then
          (F_L_law_b18 N n) (x3 + (6 : Int32)) q20.2
        else
          some ((0 : Int32), q20.2)))
      else
      if ((σ.2.2.2.2.2 (x3).toNatClampNeg) &&& (63 : Int32)) = 10 then
        if hwOut (x3 + (1 : Int32)) σ.2.2.2.2.1 then none else
        if hwOut (x3 + (2 : Int32)) σ.2.2.2.2.1 then none else
        (F_X11_dig N (σ.2.2.2.2.2 ((x3 + (1 : Int32))).toNatClampNeg) (σ.2.2.2.2.2 ((x3 + (2 : Int32))).toNatClampNeg) σ).bind (fun q21 =>
        if hwOut (x3 + (1 : Int32)) q21.2.2.2.2.2.1 then none else
        if hwOut (x3 + (2 : Int32)) q21.2.2.2.2.2.1 then none else
        (F_X12_dig N (q21.2.2.2.2.2.2 ((x3 + (1 : Int32))).toNatClampNeg) (q21.2.2.2.2.2.2 ((x3 + (2 : Int32))).toNatClampNeg) q21.2).bind (fun q22 =>
        if q21.1 = q22.1 then
          (F_L_law_b18 N n) (x3 + (6 : Int32)) q22.2
        else
          some ((0 : Int32), q22.2)))
      else
      if ((σ.2.2.2.2.2 (x3).toNatClampNeg) &&& (63 : Int32)) = 11 then
        if hwOut (x3 + (1 : Int32)) σ.2.2.2.2.1 then none else
        (F_X11_fill N (σ.2.2.2.2.2 ((x3 + (1 : Int32))).toNatClampNeg) σ).bind (fun q23 =>
        if hwOut (x3 + (1 : Int32)) q23.2.2.2.2.2.1 then none else
        (F_X12_fill N (q23.2.2.2.2.2.2 ((x3 + (1 : Int32))).toNatClampNeg) q23.2).bind (fun q24 =>
        if q23.1 = q24.1 then
          (F_L_law_b18 N n) (x3 + (6 : Int32)) q24.2
        else
          some ((0 : Int32), q24.2)))
      else
      if ((σ.2.2.2.2.2 (x3).toNatClampNeg) &&& (63 : Int32)) = 12 then
        if hwOut (x3 + (1 : Int32)) σ.2.2.2.2.1 then none else
        if hwOut (x3 + (2 : Int32)) σ.2.2.2.2.1 then none else
        (F_X11_told N (σ.2.2.2.2.2 ((x3 + (1 : Int32))).toNatClampNeg) (σ.2.2.2.2.2 ((x3 + (2 : Int32))).toNatClampNeg) σ).bind (fun q25 =>
        if hwOut (x3 + (1 : Int32)) q25.2.2.2.2.2.1 then none else
        if hwOut (x3 + (2 : Int32)) q25.2.2.2.2.2.1 then none else
        (F_X12_told N (q25.2.2.2.2.2.2 ((x3 + (1 : Int32))).toNatClampNeg) (q25.2.2.2.2.2.2 ((x3 + (2 : Int32))).toNatClampNeg) q25.2).bind (fun q26 =>
        if q25.1 = q26.1 then
          (F_L_law_b18 N n) (x3 + (6 : Int32)) q26.2
        else
          some ((0 : Int32), q26.2)))
      else
      if ((σ.2.2.2.2.2 (x3).toNatClampNeg) &&& (63 : Int32)) = 13 then
        if hwOut (x3 + (1 : Int32)) σ.2.2.2.2.1 then none else
        if hwOut (x3 + (2 : Int32)) σ.2.2.2.2.1 then none else
        (F_X11_think N (σ.2.2.2.2.2 ((x3 + (1 : Int32))).toNatClampNeg) (σ.2.2.2.2.2 ((x3 + (2 : Int32))).toNatClampNeg) σ).bind (fun q27 =>
        if hwOut (x3 + (1 : Int32)) q27.2.2.2.2.2.1 then none else
        if hwOut (x3 + (2 : Int32)) q27.2.2.2.2.2.1 then none else
        (F_X12_think N (q27.2.2.2.2.2.2 ((x3 + (1 : Int32))).toNatClampNeg) (q27.2.2.2.2.2.2 ((x3 + (2 : Int32))).toNatClampNeg) q27.2).bind (fun q28 =>
        if (lg_cmp q27.1 q28.1) = 0 then
          (F_L_law_b18 N n) (x3 + (6 : Int32)) q28.2
        else
          some ((0 : Int32), q28.2)))
      else
      if ((σ.2.2.2.2.2 (x3).toNatClampNeg) &&& (63 : Int32)) = 14 then
        if hwOut (x3 + (1 : Int32)) σ.2.2.2.2.1 then none else
        (F_X11_likely N (σ.2.2.2.2.2 ((x3 + (1 : Int32))).toNatClampNeg) σ).bind (fun q29 =>
        if hwOut (x3 + (1 : Int32)) q29.2.2.2.2.2.1 then none else
        (F_X12_likely N (q29.2.2.2.2.2.2 ((x3 + (1 : Int32))).toNatClampNeg) q29.2).bind (fun q30 =>
        if (lg_cmp q29.1 q30.1) = 0 then
          (F_L_law_b18 N n) (x3 + (6 : Int32)) q30.2
        else
          some ((0 : Int32), q30.2)))
      else
      if ((σ.2.2.2.2.2 (x3).toNatClampNeg) &&& (63 : Int32)) = 15 then
        if hwOut (x3 + (1 : Int32)) σ.2.2.2.2.1 then none else
        if hwOut (x3 + (2 : Int32)) σ.2.2.2.2.1 then none else
        (F_X11_judge N (σ.2.2.2.2.2 ((x3 + (1 : Int32))).toNatClampNeg) (σ.2.2.2.2.2 ((x3 + (2 : Int32))).toNatClampNeg) σ).bind (fun q31 =>
        if hwOut (x3 + (1 : Int32)) q31.2.2.2.2.2.1 then none else
        if hwOut (x3 + (2 : Int32)) q31.2.2.2.2.2.1 then none else
        (F_X12_judge N (q31.2.2.2.2.2.2 ((x3 + (1 : Int32))).toNatClampNeg) (q31.2.2.2.2.2.2 ((x3 + (2 : Int32))).toNatClampNeg) q31.2).bind (fun q32 =>
        if q31.1 = q32.1 then
          (F_L_law_b18 N n) (x3 + (6 : Int32)) q32.2
        else
          some ((0 : Int32), q32.2)))
      else
      if ((σ.2.2.2.2.2 (x3).toNatClampNeg) &&& (63 : Int32)) = 16 then
        if hwOut (x3 + (1 : Int32)) σ.2.2.2.2.1 then none else
        if hwOut (x3 + (2 : Int32)) σ.2.2.2.2.1 then none else
        (F_X11_row N (σ.2.2.2.2.2 ((x3 + (1 : Int32))).toNatClampNeg) (σ.2.2.2.2.2 ((x3 + (2 : Int32))).toNatClampNeg) σ).bind (fun q33 =>
        if hwOut (x3 + (1 : Int32)) q33.2.2.2.2.2.1 then none else
        if hwOut (x3 + (2 : Int32)) q33.2.2.2.2.2.1 then none else
        (F_X12_row N (q33.2.2.2.2.2.2 ((x3 + (1 : Int32))).toNatClampNeg) (q33.2.2.2.2.2.2 ((x3 + (2 : Int32))).toNatClampNeg) q33.2).bind (fun q34 =>
        if (lg_cmp q33.1 q34.1) = 0 then
          (F_L_law_b18 N n) (x3 + (6 : Int32)) q34.2
        else
          some ((0 : Int32), q34.2)))
      else
      if ((σ.2.2.2.2.2 (x3).toNatClampNeg) &&& (63 : Int32)) = 17 then
        if hwOut (x3 + (1 : Int32)) σ.2.2.2.2.1 then none else
        (F_X11_best N (σ.2.2.2.2.2 ((x3 + (1 : Int32))).toNatClampNeg) σ).bind (fun q35 =>
        if hwOut (x3 + (1 : Int32)) q35.2.2.2.2.2.1 then none else
        (F_X12_best N (q35.2.2.2.2.2.2 ((x3 + (1 : Int32))).toNatClampNeg) q35.2).bind (fun q36 =>
        if (lg_cmp q35.1 q36.1) = 0 then
          (F_L_law_b18 N n) (x3 + (6 : Int32)) q36.2
        else
          some ((0 : Int32), q36.2)))
      else
      if ((σ.2.2.2.2.2 (x3).toNatClampNeg) &&& (63 : Int32)) = 18 then
        if hwOut (x3 + (1 : Int32)) σ.2.2.2.2.1 then none else
        (F_X11_back N (σ.2.2.2.2.2 ((x3 + (1 : Int32))).toNatClampNeg) σ).bind (fun q37 =>
        if hwOut (x3 + (1 : Int32)) q37.2.2.2.2.2.1 then none else
        (F_X12_back N (q37.2.2.2.2.2.2 ((x3 + (1 : Int32))).toNatClampNeg) q37.2).bind (fun q38 =>
        if q37.1 = q38.1 then
          (F_L_law_b18 N n) (x3 + (6 : Int32)) q38.2
        else
          some ((0 : Int32), q38.2)))
      else
      if ((σ.2.2.2.2.2 (x3).toNatClampNeg) &&& (63 : Int32)) = 19 then
        if hwOut (x3 + (1 : Int32)) σ.2.2.2.2.1 then none else
        (F_X11_index N (σ.2.2.2.2.2 ((x3 + (1 : Int32))).toNatClampNeg) σ).bind (fun q39 =>
        if hwOut (x3 + (1 : Int32)) q39.2.2.2.2.2.1 then none else
        (F_X12_index N (q39.2.2.2.2.2.2 ((x3 + (1 : Int32))).toNatClampNeg) q39.2).bind (fun q40 =>
        if q39.1 = q40.1 then
          (F_L_law_b18 N n) (x3 + (6 : Int32)) q40.2
        else
          some ((0 : Int32), q40.2)))
      else
      if ((σ.2.2.2.2.2 (x3).toNatClampNeg) &&& (63 : Int32)) = 20 then
        (F_X11_next N σ).bind (fun q41 =>
        (F_X12_next N q41.2).bind (fun q42 =>
        if q41.1 = q42.1 then
          (F_L_law_b18 N n) (x3 + (6 : Int32)) q42.2
        else
          some ((0 : Int32), q42.2)))
      else
      if ((σ.2.2.2.2.2 (x3).toNatClampNeg) &&& (63 : Int32)) = 21 then
        if hwOut (x3 + (1 : Int32)) σ.2.2.2.2.1 then none else
        if hwOut (x3 + (2 : Int32)) σ.2.2.2.2.1 then none else
        if hwOut (x3 + (3 : Int32)) σ.2.2.2.2.1 then none else
        (F_X11_rule N (σ.2.2.2.2.2 ((x3 + (1 : Int32))).toNatClampNeg) (σ.2.2.2.2.2 ((x3 + (2 : Int32))).toNatClampNeg) (σ.2.2.2.2.2 ((x3 + (3 : Int32))).toNatClampNeg) σ).bind (fun q43 =>
        if hwOut (x3 + (1 : Int32)) q43.2.2.2.2.2.1 then none else
        if hwOut (x3 + (2 : Int32)) q43.2.2.2.2.2.1 then none else
        if hwOut (x3 + (3 : Int32)) q43.2.2.2.2.2.1 then none else
        (F_X12_rule N (q43.2.2.2.2.2.2 ((x3 + (1 : Int32))).toNatClampNeg) (q43.2.2.2.2.2.2 ((x3 + (2 : Int32))).toNatClampNeg) (q43.2.2.2.2.2.2 ((x3 + (3 : Int32))).toNatClampNeg) q43.2).bind (fun q44 =>
        if q43.1 = q44.1 then
          (F_L_law_b18 N n) (x3 + (6 : Int32)) q44.2
        else
          some ((0 : Int32), q44.2)))
      else
      if ((σ.2.2.2.2.2 (x3).toNatClampNeg) &&& (63 : Int32)) = 22 then
        if hwOut (x3 + (1 : Int32)) σ.2.2.2.2.1 then none else
        if hwOut (x3 + (2 : Int32)) σ.2.2.2.2.1 then none else
        (F_X11_ruleTold N (σ.2.2.2.2.2 ((x3 + (1 : Int32))).toNatClampNeg) (σ.2.2.2.2.2 ((x3 + (2 : Int32))).toNatClampNeg) σ).bind (fun q45 =>
        if hwOut (x3 + (1 : Int32)) q45.2.2.2.2.2.1 then none else
        if hwOut (x3 + (2 : Int32)) q45.2.2.2.2.2.1 then none else
        (F_X12_ruleTold N (q45.2.2.2.2.2.2 ((x3 + (1 : Int32))).toNatClampNeg) (q45.2.2.2.2.2.2 ((x3 + (2 : Int32))).toNatClampNeg) q45.2).bind (fun q46 =>
        if q45.1 = q46.1 then
          (F_L_law_b18 N n) (x3 + (6 : Int32)) q46.2
        else
          some ((0 : Int32), q46.2)))
      else
      if ((σ.2.2.2.2.2 (x3).toNatClampNeg) &&& (63 : Int32)) = 23 then
        if hwOut (x3 + (1 : Int32)) σ.2.2.2.2.1 then none else
        if hwOut (x3 + (2 : Int32)) σ.2.2.2.2.1 then none else
        if hwOut (x3 + (3 : Int32)) σ.2.2.2.2.1 then none else
        (F_X11_mean N (σ.2.2.2.2.2 ((x3 + (1 : Int32))).toNatClampNeg) (σ.2.2.2.2.2 ((x3 + (2 : Int32))).toNatClampNeg) (σ.2.2.2.2.2 ((x3 + (3 : Int32))).toNatClampNeg) σ).bind (fun q47 =>
        if hwOut (x3 + (1 : Int32)) q47.2.2.2.2.2.1 then none else
        if hwOut (x3 + (2 : Int32)) q47.2.2.2.2.2.1 then none else
        if hwOut (x3 + (3 : Int32)) q47.2.2.2.2.2.1 then none else
        (F_X12_mean N (q47.2.2.2.2.2.2 ((x3 + (1 : Int32))).toNatClampNeg) (q47.2.2.2.2.2.2 ((x3 + (2 : Int32))).toNatClampNeg) (q47.2.2.2.2.2.2 ((x3 + (3 : Int32))).toNatClampNeg) q47.2).bind (fun q48 =>
        if (lg_cmp q47.1 q48.1) = 0 then
          (F_L_law_b18 N n) (x3 + (6 : Int32)) q48.2
        else
          some ((0 : Int32), q48.2)))
      else
      if ((σ.2.2.2.2.2 (x3).toNatClampNeg) &&& (63 : Int32)) = 24 then
        if hwOut (x3 + (1 : Int32)) σ.2.2.2.2.1 then none else
        (F_X11_right N (σ.2.2.2.2.2 ((x3 + (1 : Int32))).toNatClampNeg) σ).bind (fun q49 =>
        if hwOut (x3 + (1 : Int32)) q49.2.2.2.2.2.1 then none else
        (F_X12_right N (q49.2.2.2.2.2.2 ((x3 + (1 : Int32))).toNatClampNeg) q49.2).bind (fun q50 =>
        if q49.1 = q50.1 then
          (F_L_law_b18 N n) (x3 + (6 : Int32)) q50.2
        else
          some ((0 : Int32), q50.2)))
      else
      if ((σ.2.2.2.2.2 (x3).toNatClampNeg) &&& (63 : Int32)) = 25 then
        if hwOut (x3 + (1 : Int32)) σ.2.2.2.2.1 then none else
        if hwOut (x3 + (2 : Int32)) σ.2.2.2.2.1 then none else
        (F_X11_goesBy N (σ.2.2.2.2.2 ((x3 + (1 : Int32))).toNatClampNeg) (σ.2.2.2.2.2 ((x3 + (2 : Int32))).toNatClampNeg) σ).bind (fun q51 =>
        if hwOut (x3 + (1 : Int32)) q51.2.2.2.2.2.1 then none else
        if hwOut (x3 + (2 : Int32)) q51.2.2.2.2.2.1 then none else
        (F_X12_goesBy N (q51.2.2.2.2.2.2 ((x3 + (1 : Int32))).toNatClampNeg) (q51.2.2.2.2.2.2 ((x3 + (2 : Int32))).toNatClampNeg) q51.2).bind (fun q52 =>
        if q51.1 = q52.1 then
          (F_L_law_b18 N n) (x3 + (6 : Int32)) q52.2
        else
          some ((0 : Int32), q52.2)))
      else
      if ((σ.2.2.2.2.2 (x3).toNatClampNeg) &&& (63 : Int32)) = 26 then
        if hwOut (x3 + (1 : Int32)) σ.2.2.2.2.1 then none else
        if hwOut (x3 + (2 : Int32)) σ.2.2.2.2.1 then none else
        (F_X11_bore N (σ.2.2.2.2.2 ((x3 + (1 : Int32))).toNatClampNeg) (σ.2.2.2.2.2 ((x3 + (2 : Int32))).toNatClampNeg) σ).bind (fun q53 =>
        if hwOut (x3 + (1 : Int32)) q53.2.2.2.2.2.1 then none else
        if hwOut (x3 + (2 : Int32)) q53.2.2.2.2.2.1 then none else
        (F_X12_bore N (q53.2.2.2.2.2.2 ((x3 + (1 : Int32))).toNatClampNeg) (q53.2.2.2.2.2.2 ((x3 + (2 : Int32))).toNatClampNeg) q53.2).bind (fun q54 =>
        if (lg_cmp q53.1 q54.1) = 0 then
          (F_L_law_b18 N n) (x3 + (6 : Int32)) q54.2
        else
          some ((0 : Int32), q54.2)))
      else
      if ((σ.2.2.2.2.2 (x3).toNatClampNeg) &&& (63 : Int32)) = 27 then
        if hwOut (x3 + (1 : Int32)) σ.2.2.2.2.1 then none else
        if hwOut (x3 + (2 : Int32)) σ.2.2.2.2.1 then none else
        (F_X11_far N (σ.2.2.2.2.2 ((x3 + (1 : Int32))).toNatClampNeg) (σ.2.2.2.2.2 ((x3 + (2 : Int32))).toNatClampNeg) σ).bind (fun q55 =>
        if hwOut (x3 + (1 : Int32)) q55.2.2.2.2.2.1 then none else
        if hwOut (x3 + (2 : Int32)) q55.2.2.2.2.2.1 then none else
        (F_X12_far N (q55.2.2.2.2.2.2 ((x3 + (1 : Int32))).toNatClampNeg) (q55.2.2.2.2.2.2 ((x3 + (2 : Int32))).toNatClampNeg) q55.2).bind (fun q56 =>
        if q55.1 = q56.1 then
          (F_L_law_b18 N n) (x3 + (6 : Int32)) q56.2
        else
          some ((0 : Int32), q56.2)))
      else
      if ((σ.2.2.2.2.2 (x3).toNatClampNeg) &&& (63 : Int32)) = 28 then
        if hwOut (x3 + (1 : Int32)) σ.2.2.2.2.1 then none else
        if hwOut (x3 + (2 : Int32)) σ.2.2.2.2.1 then none else
        (F_X11_diviner N (σ.2.2.2.2.2 ((x3 + (1 : Int32))).toNatClampNeg) (σ.2.2.2.2.2 ((x3 + (2 : Int32))).toNatClampNeg) σ).bind (fun q57 =>
        if hwOut (x3 + (1 : Int32)) q57.2.2.2.2.2.1 then none else
        if hwOut (x3 + (2 : Int32)) q57.2.2.2.2.2.1 then none else
        (F_X12_diviner N (q57.2.2.2.2.2.2 ((x3 + (1 : Int32))).toNatClampNeg) (q57.2.2.2.2.2.2 ((x3 + (2 : Int32))).toNatClampNeg) q57.2).bind (fun q58 =>
        if (lg_cmp q57.1 q58.1) = 0 then
          (F_L_law_b18 N n) (x3 + (6 : Int32)) q58.2
        else
          some ((0 : Int32), q58.2)))
      else
      if ((σ.2.2.2.2.2 (x3).toNatClampNeg) &&& (63 : Int32)) = 29 then
        if hwOut (x3 + (1 : Int32)) σ.2.2.2.2.1 then none else
        (F_X11_believe N (σ.2.2.2.2.2 ((x3 + (1 : Int32))).toNatClampNeg) σ).bind (fun q59 =>
        if hwOut (x3 + (1 : Int32)) q59.2.2.2.2.2.1 then none else
        (F_X12_believe N (q59.2.2.2.2.2.2 ((x3 + (1 : Int32))).toNatClampNeg) q59.2).bind (fun q60 =>
        if q59.1 = q60.1 then
          (F_L_law_b18 N n) (x3 + (6 : Int32)) q60.2
        else
          some ((0 : Int32), q60.2)))
      else
      if ((σ.2.2.2.2.2 (x3).toNatClampNeg) &&& (63 : Int32)) = 30 then
        if hwOut (x3 + (1 : Int32)) σ.2.2.2.2.1 then none else
        if hwOut (x3 + (2 : Int32)) σ.2.2.2.2.1 then none else
        (F_X11_fall N (σ.2.2.2.2.2 ((x3 + (1 : Int32))).toNatClampNeg) (σ.2.2.2.2.2 ((x3 + (2 : Int32))).toNatClampNeg) σ).bind (fun q61 =>
        if hwOut (x3 + (1 : Int32)) q61.2.2.2.2.2.1 then none else
        if hwOut (x3 + (2 : Int32)) q61.2.2.2.2.2.1 then none else
        (F_X12_fall N (q61.2.2.2.2.2.2 ((x3 + (1 : Int32))).toNatClampNeg) (q61.2.2.2.2.2.2 ((x3 + (2 : Int32))).toNatClampNeg) q61.2).bind (fun q62 =>
        if (lg_cmp q61.1 q62.1) = 0 then
          (F_L_law_b18 N n) (x3 + (6 : Int32)) q62.2
        else
          some ((0 : Int32), q62.2)))
      else
      if ((σ.2.2.2.2.2 (x3).toNatClampNeg) &&& (63 : Int32)) = 31 then
        if hwOut (x3 + (1 : Int32)) σ.2.2.2.2.1 then none else
        (F_X11_line N (σ.2.2.2.2.2 ((x3 + (1 : Int32))).toNatClampNeg) σ).bind (fun q63 =>
        if hwOut (x3 + (1 : Int32)) q63.2.2.2.2.2.1 then none else
        (F_X12_line N (q63.2.2.2.2.2.2 ((x3 + (1 : Int32))).toNatClampNeg) q63.2).bind (fun q64 =>
        if q63.1 = q64.1 then
          (F_L_law_b18 N n) (x3 + (6 : Int32)) q64.2
        else
          some ((0 : Int32), q64.2)))
      else
      if ((σ.2.2.2.2.2 (x3).toNatClampNeg) &&& (63 : Int32)) = 32 then
        if hwOut (x3 + (1 : Int32)) σ.2.2.2.2.1 then none else
        if hwOut (x3 + (2 : Int32)) σ.2.2.2.2.1 then none else
        (F_X11_farm N (σ.2.2.2.2.2 ((x3 + (1 : Int32))).toNatClampNeg) (σ.2.2.2.2.2 ((x3 + (2 : Int32))).toNatClampNeg) σ).bind (fun q65 =>
        if hwOut (x3 + (1 : Int32)) q65.2.2.2.2.2.1 then none else
        if hwOut (x3 + (2 : Int32)) q65.2.2.2.2.2.1 then none else
        (F_X12_farm N (q65.2.2.2.2.2.2 ((x3 + (1 : Int32))).toNatClampNeg) (q65.2.2.2.2.2.2 ((x3 + (2 : Int32))).toNatClampNeg) q65.2).bind (fun q66 =>
        if q65.1 = q66.1 then
          (F_L_law_b18 N n) (x3 + (6 : Int32)) q66.2
        else
          some ((0 : Int32), q66.2)))
      else
      if ((σ.2.2.2.2.2 (x3).toNatClampNeg) &&& (63 : Int32)) = 33 then
        if hwOut (x3 + (1 : Int32)) σ.2.2.2.2.1 then none else
        if hwOut (x3 + (2 : Int32)) σ.2.2.2.2.1 then none else
        (F_X11_share N (σ.2.2.2.2.2 ((x3 + (1 : Int32))).toNatClampNeg) (σ.2.2.2.2.2 ((x3 + (2 : Int32))).toNatClampNeg) σ).bind (fun q67 =>
        if hwOut (x3 + (1 : Int32)) q67.2.2.2.2.2.1 then none else
        if hwOut (x3 + (2 : Int32)) q67.2.2.2.2.2.1 then none else
        (F_X12_share N (q67.2.2.2.2.2.2 ((x3 + (1 : Int32))).toNatClampNeg) (q67.2.2.2.2.2.2 ((x3 + (2 : Int32))).toNatClampNeg) q67.2).bind (fun q68 =>
        if q67.1 = q68.1 then
          (F_L_law_b18 N n) (x3 + (6 : Int32)) q68.2
        else
          some ((0 : Int32), q68.2)))
      else
      if ((σ.2.2.2.2.2 (x3).toNatClampNeg) &&& (63 : Int32)) = 34 then
        if hwOut (x3 + (1 : Int32)) σ.2.2.2.2.1 then none else
        if hwOut (x3 + (2 : Int32)) σ.2.2.2.2.1 then none else
        (F_X11_join N (σ.2.2.2.2.2 ((x3 + (1 : Int32))).toNatClampNeg) (σ.2.2.2.2.2 ((x3 + (2 : Int32))).toNatClampNeg) σ).bind (fun q69 =>
        if hwOut (x3 + (1 : Int32)) q69.2.2.2.2.2.1 then none else
        if hwOut (x3 + (2 : Int32)) q69.2.2.2.2.2.1 then none else
        (F_X12_join N (q69.2.2.2.2.2.2 ((x3 + (1 : Int32))).toNatClampNeg) (q69.2.2.2.2.2.2 ((x3 + (2 : Int32))).toNatClampNeg) q69.2).bind (fun q70 =>
        if q69.1 = q70.1 then
          (F_L_law_b18 N n) (x3 + (6 : Int32)) q70.2
        else
          some ((0 : Int32), q70.2)))
      else
      if ((σ.2.2.2.2.2 (x3).toNatClampNeg) &&& (63 : Int32)) = 35 then
        if hwOut (x3 + (1 : Int32)) σ.2.2.2.2.1 then none else
        (F_X11_learn N (σ.2.2.2.2.2 ((x3 + (1 : Int32))).toNatClampNeg) σ).bind (fun q71 =>
        if hwOut (x3 + (1 : Int32)) q71.2.2.2.2.2.1 then none else
        (F_X12_learn N (q71.2.2.2.2.2.2 ((x3 + (1 : Int32))).toNatClampNeg) q71.2).bind (fun q72 =>
        if (lg_cmp q71.1 q72.1) = 0 then
          (F_L_law_b18 N n) (x3 + (6 : Int32)) q72.2
        else
          some ((0 : Int32), q72.2)))
      else
      if ((σ.2.2.2.2.2 (x3).toNatClampNeg) &&& (63 : Int32)) = 36 then
        (F_X11_first N σ).bind (fun q73 =>
        (F_X12_first_ N q73.2).bind (fun q74 =>
        if q73.1 = q74.1 then
          (F_L_law_b18 N n) (x3 + (6 : Int32)) q74.2
        else
          some ((0 : Int32), q74.2)))
      else
      if ((σ.2.2.2.2.2 (x3).toNatClampNeg) &&& (63 : Int32)) = 37 then
        if hwOut (x3 + (1 : Int32)) σ.2.2.2.2.1 then none else
        if hwOut (x3 + (2 : Int32)) σ.2.2.2.2.1 then none else
        if hwOut (x3 + (3 : Int32)) σ.2.2.2.2.1 then none else
        if hwOut (x3 + (4 : Int32)) σ.2.2.2.2.1 then none else
        (F_X11_drawn N (σ.2.2.2.2.2 ((x3 + (1 : Int32))).toNatClampNeg) (σ.2.2.2.2.2 ((x3 + (2 : Int32))).toNatClampNeg) (σ.2.2.2.2.2 ((x3 + (3 : Int32))).toNatClampNeg) (σ.2.2.2.2.2 ((x3 + (4 : Int32))).toNatClampNeg) σ).bind (fun q75 =>
        if hwOut (x3 + (1 : Int32)) q75.2.2.2.2.2.1 then none else
        if hwOut (x3 + (2 : Int32)) q75.2.2.2.2.2.1 then none else
        if hwOut (x3 + (3 : Int32)) q75.2.2.2.2.2.1 then none else
        if hwOut (x3 + (4 : Int32)) q75.2.2.2.2.2.1 then none else
        (F_X12_drawn N (q75.2.2.2.2.2.2 ((x3 + (1 : Int32))).toNatClampNeg) (q75.2.2.2.2.2.2 ((x3 + (2 : Int32))).toNatClampNeg) (q75.2.2.2.2.2.2 ((x3 + (3 : Int32))).toNatClampNeg) (q75.2.2.2.2.2.2 ((x3 + (4 : Int32))).toNatClampNeg) q75.2).bind (fun q76 =>
        if q75.1 = q76.1 then
          (F_L_law_b18 N n) (x3 + (6 : Int32)) q76.2
        else
          some ((0 : Int32), q76.2)))
      else
      if ((σ.2.2.2.2.2 (x3).toNatClampNeg) &&& (63 : Int32)) = 38 then
        (F_X11_image N σ).bind (fun q77 =>
        (F_X12_image N q77.2).bind (fun q78 =>
        if q77.1 = q78.1 then
          (F_L_law_b18 N n) (x3 + (6 : Int32)) q78.2
        else
          some ((0 : Int32), q78.2)))
      else
      if ((σ.2.2.2.2.2 (x3).toNatClampNeg) &&& (63 : Int32)) = 39 then
        (F_X11_undo N σ).bind (fun q79 =>
        (F_X12_undo N q79.2).bind (fun q80 =>
        if q79.1 = q80.1 then
          (F_L_law_b18 N n) (x3 + (6 : Int32)) q80.2
        else
          some ((0 : Int32), q80.2)))
      else
      if ((σ.2.2.2.2.2 (x3).toNatClampNeg) &&& (63 : Int32)) = 40 then
        if hwOut (x3 + (1 : Int32)) σ.2.2.2.2.1 then none else
        if hwOut (x3 + (2 : Int32)) σ.2.2.2.2.1 then none else
        if hwOut (x3 + (3 : Int32)) σ.2.2.2.2.1 then none else
        (F_X11_sheet N (σ.2.2.2.2.2 ((x3 + (1 : Int32))).toNatClampNeg) (σ.2.2.2.2.2 ((x3 + (2 : Int32))).toNatClampNeg) (σ.2.2.2.2.2 ((x3 + (3 : Int32))).toNatClampNeg) σ).bind (fun q81 =>
        if hwOut (x3 + (1 : Int32)) q81.2.2.2.2.2.1 then none else
        if hwOut (x3 + (2 : Int32)) q81.2.2.2.2.2.1 then none else
        if hwOut (x3 + (3 : Int32)) q81.2.2.2.2.2.1 then none else
        (F_X12_sheet N (q81.2.2.2.2.2.2 ((x3 + (1 : Int32))).toNatClampNeg) (q81.2.2.2.2.2.2 ((x3 + (2 : Int32))).toNatClampNeg) (q81.2.2.2.2.2.2 ((x3 + (3 : Int32))).toNatClampNeg) q81.2).bind (fun q82 =>
        if q81.1 = q82.1 then
          (F_L_law_b18 N n) (x3 + (6 : Int32)) q82.2
        else
          some ((0 : Int32), q82.2)))
      else
      if ((σ.2.2.2.2.2 (x3).toNatClampNeg) &&& (63 : Int32)) = 41 then
        if hwOut (x3 + (1 : Int32)) σ.2.2.2.2.1 then none else
        if hwOut (x3 + (2 : Int32)) σ.2.2.2.2.1 then none else
        if hwOut (x3 + (3 : Int32)) σ.2.2.2.2.1 then none else
        (F_X11_cell N (σ.2.2.2.2.2 ((x3 + (1 : Int32))).toNatClampNeg) (σ.2.2.2.2.2 ((x3 + (2 : Int32))).toNatClampNeg) (σ.2.2.2.2.2 ((x3 + (3 : Int32))).toNatClampNeg) σ).bind (fun q83 =>
        if hwOut (x3 + (1 : Int32)) q83.2.2.2.2.2.1 then none else
        if hwOut (x3 + (2 : Int32)) q83.2.2.2.2.2.1 then none else
        if hwOut (x3 + (3 : Int32)) q83.2.2.2.2.2.1 then none else
        (F_X12_cell N (q83.2.2.2.2.2.2 ((x3 + (1 : Int32))).toNatClampNeg) (q83.2.2.2.2.2.2 ((x3 + (2 : Int32))).toNatClampNeg) (q83.2.2.2.2.2.2 ((x3 + (3 : Int32))).toNatClampNeg) q83.2).bind (fun q84 =>
        if q83.1 = q84.1 then
          (F_L_law_b18 N n) (x3 + (6 : Int32)) q84.2
        else
          some ((0 : Int32), q84.2)))
      else
      if ((σ.2.2.2.2.2 (x3).toNatClampNeg) &&& (63 : Int32)) = 42 then
        if hwOut (x3 + (1 : Int32)) σ.2.2.2.2.1 then none else
        if hwOut (x3 + (2 : Int32)) σ.2.2.2.2.1 then none else
        if hwOut (x3 + (3 : Int32)) σ.2.2.2.2.1 then none else
        if hwOut (x3 + (4 : Int32)) σ.2.2.2.2.1 then none else
        if hwOut (x3 + (5 : Int32)) σ.2.2.2.2.1 then none else
        (F_X11_copy N (σ.2.2.2.2.2 ((x3 + (1 : Int32))).toNatClampNeg) (σ.2.2.2.2.2 ((x3 + (2 : Int32))).toNatClampNeg) (σ.2.2.2.2.2 ((x3 + (3 : Int32))).toNatClampNeg) (σ.2.2.2.2.2 ((x3 + (4 : Int32))).toNatClampNeg) (σ.2.2.2.2.2 ((x3 + (5 : Int32))).toNatClampNeg) σ).bind (fun q85 =>
        if hwOut (x3 + (1 : Int32)) q85.2.2.2.2.2.1 then none else
        if hwOut (x3 + (2 : Int32)) q85.2.2.2.2.2.1 then none else
        if hwOut (x3 + (3 : Int32)) q85.2.2.2.2.2.1 then none else
        if hwOut (x3 + (4 : Int32)) q85.2.2.2.2.2.1 then none else
        if hwOut (x3 + (5 : Int32)) q85.2.2.2.2.2.1 then none else
        (F_X12_copy N (q85.2.2.2.2.2.2 ((x3 + (1 : Int32))).toNatClampNeg) (q85.2.2.2.2.2.2 ((x3 + (2 : Int32))).toNatClampNeg) (q85.2.2.2.2.2.2 ((x3 + (3 : Int32))).toNatClampNeg) (q85.2.2.2.2.2.2 ((x3 + (4 : Int32))).toNatClampNeg) (q85.2.2.2.2.2.2 ((x3 + (5 : Int32))).toNatClampNeg) q85.2).bind (fun q86 =>
        if q85.1 = q86.1 then
          (F_L_law_b18 N n) (x3 + (6 : Int32)) q86.2
        else
          some ((0 : Int32), q86.2)))
      else
      if ((σ.2.2.2.2.2 (x3).toNatClampNeg) &&& (63 : Int32)) = 43 then
        if hwOut (x3 + (1 : Int32)) σ.2.2.2.2.1 then none else
        if hwOut (x3 + (2 : Int32)) σ.2.2.2.2.1 then none else
        if hwOut (x3 + (3 : Int32)) σ.2.2.2.2.1 then none else
        if hwOut (x3 + (4 : Int32)) σ.2.2.2.2.1 then none else
        (F_X11_layersBy N (σ.2.2.2.2.2 ((x3 + (1 : Int32))).toNatClampNeg) (σ.2.2.2.2.2 ((x3 + (2 : Int32))).toNatClampNeg) (σ.2.2.2.2.2 ((x3 + (3 : Int32))).toNatClampNeg) (σ.2.2.2.2.2 ((x3 + (4 : Int32))).toNatClampNeg) σ).bind (fun q87 =>
        if hwOut (x3 + (1 : Int32)) q87.2.2.2.2.2.1 then none else
        if hwOut (x3 + (2 : Int32)) q87.2.2.2.2.2.1 then none else
        if hwOut (x3 + (3 : Int32)) q87.2.2.2.2.2.1 then none else
        if hwOut (x3 + (4 : Int32)) q87.2.2.2.2.2.1 then none else
        (F_X12_layersBy N (q87.2.2.2.2.2.2 ((x3 + (1 : Int32))).toNatClampNeg) (q87.2.2.2.2.2.2 ((x3 + (2 : Int32))).toNatClampNeg) (q87.2.2.2.2.2.2 ((x3 + (3 : Int32))).toNatClampNeg) (q87.2.2.2.2.2.2 ((x3 + (4 : Int32))).toNatClampNeg) q87.2).bind (fun q88 =>
        if q87.1 = q88.1 then
          (F_L_law_b18 N n) (x3 + (6 : Int32)) q88.2
        else
          some ((0 : Int32), q88.2)))
      else
      if ((σ.2.2.2.2.2 (x3).toNatClampNeg) &&& (63 : Int32)) = 44 then
        if hwOut (x3 + (1 : Int32)) σ.2.2.2.2.1 then none else
        if hwOut (x3 + (2 : Int32)) σ.2.2.2.2.1 then none else
        (F_X11_taken N (σ.2.2.2.2.2 ((x3 + (1 : Int32))).toNatClampNeg) (σ.2.2.2.2.2 ((x3 + (2 : Int32))).toNatClampNeg) σ).bind (fun q89 =>
        if hwOut (x3 + (1 : Int32)) q89.2.2.2.2.2.1 then none else
        if hwOut (x3 + (2 : Int32)) q89.2.2.2.2.2.1 then none else
        (F_X12_taken N (q89.2.2.2.2.2.2 ((x3 + (1 : Int32))).toNatClampNeg) (q89.2.2.2.2.2.2 ((x3 + (2 : Int32))).toNatClampNeg) q89.2).bind (fun q90 =>
        if q89.1 = q90.1 then
          (F_L_law_b18 N n) (x3 + (6 : Int32)) q90.2
        else
          some ((0 : Int32), q90.2)))
      else
      (F_L_law_b18 N n) (x3 + (6 : Int32)) σ
def F_L_law (N : Nat)   (σ : Mem) : Option (Int32 × Mem) :=
  (F_L_law_b18 N N) (0 : Int32) σ
set_option maxRecDepth 100000 in
set_option maxHeartbeats 4000000 in
theorem T_L_law_b18 (e N : Nat)   (r : Int32) (τ : Mem) (Q : Pst) (hQ : Q (some (.inl r)) τ) : ∀ n, ∀ (x3 : Int32) (σ : Mem), F_L_law_b18 N n x3 σ = some (r, τ) → Wp (WpD (e + 96)) hcL_law Q (18, [some (.inr (.inr (200, 0))), some (.inr (.inr (0, 0))), some (.inr (.inr (12, 0))), some (.inl x3)], []) σ := by
  intro n
  induction n with
  | zero => intro x3 σ h; cases h
  | succ n ih =>
    intro x3 σ h
    unfold F_L_law_b18 at h
    refine Wp.run (WpD.mono _) 4 (q := ((24, [some (.inr (.inr (200, 0))), some (.inr (.inr (0, 0))), some (.inr (.inr (12, 0))), some (.inl x3)], [.inl ((nI σ.2.2.2.2.1) - (6 : Int32)), .inl x3]), σ)) rfl ?_
    refine Wp.if2_gt (WpD.mono _) rfl rfl (fun hc => ?_) (fun hc => ?_)
    · have h := (if_pos hc).symm.trans h
      show Wp (WpD (e + 96)) hcL_law Q (1698, [some (.inr (.inr (200, 0))), some (.inr (.inr (0, 0))), some (.inr (.inr (12, 0))), some (.inl x3)], []) σ
      refine Wp.run (WpD.mono _) 0 (q := ((1699, [some (.inr (.inr (200, 0))), some (.inr (.inr (0, 0))), some (.inr (.inr (12, 0))), some (.inl x3)], [.inl (1 : Int32)]), σ)) rfl ?_
      obtain ⟨rfl, rfl⟩ := ret_inj h
      exact Wp.ret (WpD.mono _) rfl hQ
    · have h := (if_neg hc).symm.trans h
      show Wp (WpD (e + 96)) hcL_law Q (27, [some (.inr (.inr (200, 0))), some (.inr (.inr (0, 0))), some (.inr (.inr (12, 0))), some (.inl x3)], []) σ
      refine Wp.run (WpD.mono _) 1 (q := ((29, [some (.inr (.inr (200, 0))), some (.inr (.inr (0, 0))), some (.inr (.inr (12, 0))), some (.inl x3)], [.inl x3, .inr (.inr (200, 0))]), σ)) rfl ?_
      obtain ⟨hc, h⟩ := ite_nn h
      refine Wp.X_ild6 (WpD.mono _) rfl rfl hc ?_
      show Wp (WpD (e + 96)) hcL_law Q (30, [some (.inr (.inr (200, 0))), some (.inr (.inr (0, 0))), some (.inr (.inr (12, 0))), some (.inl x3)], [.inl (σ.2.2.2.2.2 (x3).toNatClampNeg)]) σ
      refine Wp.run (WpD.mono _) 1 (q := ((33, [some (.inr (.inr (200, 0))), some (.inr (.inr (0, 0))), some (.inr (.inr (12, 0))), some (.inl x3)], [.inl ((σ.2.2.2.2.2 (x3).toNatClampNeg) &&& (63 : Int32))]), σ)) rfl ?_
      by_cases hs0 : ((σ.2.2.2.2.2 (x3).toNatClampNeg) &&& (63 : Int32)) = 0
      · have h := (if_pos hs0).symm.trans h
        refine Wp.swIn (WpD.mono _) (q := ((228, [some (.inr (.inr (200, 0))), some (.inr (.inr (0, 0))), some (.inr (.inr (12, 0))), some (.inl x3)], []), σ)) hs0 rfl ?_
        refine Wp.run (WpD.mono _) 4 (q := ((233, [some (.inr (.inr (200, 0))), some (.inr (.inr (0, 0))), some (.inr (.inr (12, 0))), some (.inl x3)], [.inl (x3 + (1 : Int32)), .inr (.inr (200, 0)), .inr (.inr (0, 0))]), σ)) rfl ?_
        obtain ⟨hc, h⟩ := ite_nn h
        refine Wp.X_ild6 (WpD.mono _) rfl rfl hc ?_
        show Wp (WpD (e + 96)) hcL_law Q (234, [some (.inr (.inr (200, 0))), some (.inr (.inr (0, 0))), some (.inr (.inr (12, 0))), some (.inl x3)], [.inl (σ.2.2.2.2.2 ((x3 + (1 : Int32))).toNatClampNeg), .inr (.inr (0, 0))]) σ
        refine Wp.run (WpD.mono _) 3 (q := ((238, [some (.inr (.inr (200, 0))), some (.inr (.inr (0, 0))), some (.inr (.inr (12, 0))), some (.inl x3)], [.inl (x3 + (2 : Int32)), .inr (.inr (200, 0)), .inl (σ.2.2.2.2.2 ((x3 + (1 : Int32))).toNatClampNeg), .inr (.inr (0, 0))]), σ)) rfl ?_
        obtain ⟨hc, h⟩ := ite_nn h
        refine Wp.X_ild6 (WpD.mono _) rfl rfl hc ?_
        show Wp (WpD (e + 96)) hcL_law Q (239, [some (.inr (.inr (200, 0))), some (.inr (.inr (0, 0))), some (.inr (.inr (12, 0))), some (.inl x3)], [.inl (σ.2.2.2.2.2 ((x3 + (2 : Int32))).toNatClampNeg), .inl (σ.2.2.2.2.2 ((x3 + (1 : Int32))).toNatClampNeg), .inr (.inr (0, 0))]) σ
        refine Wp.run (WpD.mono _) 3 (q := ((243, [some (.inr (.inr (200, 0))), some (.inr (.inr (0, 0))), some (.inr (.inr (12, 0))), some (.inl x3)], [.inl (x3 + (3 : Int32)), .inr (.inr (200, 0)), .inl (σ.2.2.2.2.2 ((x3 + (2 : Int32))).toNatClampNeg), .inl (σ.2.2.2.2.2 ((x3 + (1 : Int32))).toNatClampNeg), .inr (.inr (0, 0))]), σ)) rfl ?_
        obtain ⟨hc, h⟩ := ite_nn h
        refine Wp.X_ild6 (WpD.mono _) rfl rfl hc ?_
        show Wp (WpD (e + 96)) hcL_law Q (244, [some (.inr (.inr (200, 0))), some (.inr (.inr (0, 0))), some (.inr (.inr (12, 0))), some (.inl x3)], [.inl (σ.2.2.2.2.2 ((x3 + (3 : Int32))).toNatClampNeg), .inl (σ.2.2.2.2.2 ((x3 + (2 : Int32))).toNatClampNeg), .inl (σ.2.2.2.2.2 ((x3 + (1 : Int32))).toNatClampNeg), .inr (.inr (0, 0))]) σ
        obtain ⟨q1, hb, h⟩ := bind_some h
        refine Wp.call (WpD.mono _) rfl (T_X11_layer (e + 89) N (σ.2.2.2.2.2 ((x3 + (1 : Int32))).toNatClampNeg) (σ.2.2.2.2.2 ((x3 + (2 : Int32))).toNatClampNeg) (σ.2.2.2.2.2 ((x3 + (3 : Int32))).toNatClampNeg) σ _ _ _ hb ?_)
        show Wp (WpD (e + 96)) hcL_law Q (247, [some (.inr (.inr (200, 0))), some (.inr (.inr (0, 0))), some (.inr (.inr (12, 0))), some (.inl x3)], [.inl q1.1]) q1.2
        refine Wp.run (WpD.mono _) 4 (q := ((252, [some (.inr (.inr (200, 0))), some (.inr (.inr (0, 0))), some (.inr (.inr (12, 0))), some (.inl x3)], [.inl (x3 + (1 : Int32)), .inr (.inr (200, 0)), .inr (.inr (12, 0)), .inl q1.1]), q1.2)) rfl ?_
        obtain ⟨hc, h⟩ := ite_nn h
        refine Wp.X_ild6 (WpD.mono _) rfl rfl hc ?_
        show Wp (WpD (e + 96)) hcL_law Q (253, [some (.inr (.inr (200, 0))), some (.inr (.inr (0, 0))), some (.inr (.inr (12, 0))), some (.inl x3)], [.inl (q1.2.2.2.2.2.2 ((x3 + (1 : Int32))).toNatClampNeg), .inr (.inr (12, 0)), .inl q1.1]) q1.2
        refine Wp.run (WpD.mono _) 3 (q := ((257, [some (.inr (.inr (200, 0))), some (.inr (.inr (0, 0))), some (.inr (.inr (12, 0))), some (.inl x3)], [.inl (x3 + (2 : Int32)), .inr (.inr (200, 0)), .inl (q1.2.2.2.2.2.2 ((x3 + (1 : Int32))).toNatClampNeg), .inr (.inr (12, 0)), .inl q1.1]), q1.2)) rfl ?_
        obtain ⟨hc, h⟩ := ite_nn h
        refine Wp.X_ild6 (WpD.mono _) rfl rfl hc ?_
        show Wp (WpD (e + 96)) hcL_law Q (258, [some (.inr (.inr (200, 0))), some (.inr (.inr (0, 0))), some (.inr (.inr (12, 0))), some (.inl x3)], [.inl (q1.2.2.2.2.2.2 ((x3 + (2 : Int32))).toNatClampNeg), .inl (q1.2.2.2.2.2.2 ((x3 + (1 : Int32))).toNatClampNeg), .inr (.inr (12, 0)), .inl q1.1]) q1.2
        refine Wp.run (WpD.mono _) 3 (q := ((262, [some (.inr (.inr (200, 0))), some (.inr (.inr (0, 0))), some (.inr (.inr (12, 0))), some (.inl x3)], [.inl (x3 + (3 : Int32)), .inr (.inr (200, 0)), .inl (q1.2.2.2.2.2.2 ((x3 + (2 : Int32))).toNatClampNeg), .inl (q1.2.2.2.2.2.2 ((x3 + (1 : Int32))).toNatClampNeg), .inr (.inr (12, 0)), .inl q1.1]), q1.2)) rfl ?_
        obtain ⟨hc, h⟩ := ite_nn h
        refine Wp.X_ild6 (WpD.mono _) rfl rfl hc ?_
        show Wp (WpD (e + 96)) hcL_law Q (263, [some (.inr (.inr (200, 0))), some (.inr (.inr (0, 0))), some (.inr (.inr (12, 0))), some (.inl x3)], [.inl (q1.2.2.2.2.2.2 ((x3 + (3 : Int32))).toNatClampNeg), .inl (q1.2.2.2.2.2.2 ((x3 + (2 : Int32))).toNatClampNeg), .inl (q1.2.2.2.2.2.2 ((x3 + (1 : Int32))).toNatClampNeg), .inr (.inr (12, 0)), .inl q1.1]) q1.2
        obtain ⟨q2, hb, h⟩ := bind_some h
        refine Wp.call (WpD.mono _) rfl (T_X12_layer (e + 94) N (q1.2.2.2.2.2.2 ((x3 + (1 : Int32))).toNatClampNeg) (q1.2.2.2.2.2.2 ((x3 + (2 : Int32))).toNatClampNeg) (q1.2.2.2.2.2.2 ((x3 + (3 : Int32))).toNatClampNeg) q1.2 _ _ _ hb ?_)
        show Wp (WpD (e + 96)) hcL_law Q (266, [some (.inr (.inr (200, 0))), some (.inr (.inr (0, 0))), some (.inr (.inr (12, 0))), some (.inl x3)], [.inl q2.1, .inl q1.1]) q2.2
        refine Wp.if2_eq (WpD.mono _) rfl rfl (fun hc => ?_) (fun hc => ?_)
        · have h := (if_pos hc).symm.trans h
          show Wp (WpD (e + 96)) hcL_law Q (1692, [some (.inr (.inr (200, 0))), some (.inr (.inr (0, 0))), some (.inr (.inr (12, 0))), some (.inl x3)], []) q2.2
          refine Wp.run (WpD.mono _) 1 (q := ((18, [some (.inr (.inr (200, 0))), some (.inr (.inr (0, 0))), some (.inr (.inr (12, 0))), some (.inl (x3 + (6 : Int32)))], []), q2.2)) rfl ?_
          exact Wp.jump (WpD.mono _) rfl (ih (x3 + (6 : Int32)) q2.2 h)
        · have h := (if_neg hc).symm.trans h
          show Wp (WpD (e + 96)) hcL_law Q (269, [some (.inr (.inr (200, 0))), some (.inr (.inr (0, 0))), some (.inr (.inr (12, 0))), some (.inl x3)], []) q2.2
          refine Wp.run (WpD.mono _) 0 (q := ((270, [some (.inr (.inr (200, 0))), some (.inr (.inr (0, 0))), some (.inr (.inr (12, 0))), some (.inl x3)], [.inl (0 : Int32)]), q2.2)) rfl ?_
          obtain ⟨rfl, rfl⟩ := ret_inj h
          exact Wp.ret (WpD.mono _) rfl hQ
      have h := (if_neg hs0).symm.trans h
      by_cases hs1 : ((σ.2.2.2.2.2 (x3).toNatClampNeg) &&& (63 : Int32)) = 1
      · have h := (if_pos hs1).symm.trans h
        refine Wp.swIn (WpD.mono _) (q := ((271, [some (.inr (.inr (200, 0))), some (.inr (.inr (0, 0))), some (.inr (.inr (12, 0))), some (.inl x3)], []), σ)) hs1 rfl ?_
        refine Wp.run (WpD.mono _) 4 (q := ((276, [some (.inr (.inr (200, 0))), some (.inr (.inr (0, 0))), some (.inr (.inr (12, 0))), some (.inl x3)], [.inl (x3 + (1 : Int32)), .inr (.inr (200, 0)), .inr (.inr (0, 0))]), σ)) rfl ?_
        obtain ⟨hc, h⟩ := ite_nn h
        refine Wp.X_ild6 (WpD.mono _) rfl rfl hc ?_
        show Wp (WpD (e + 96)) hcL_law Q (277, [some (.inr (.inr (200, 0))), some (.inr (.inr (0, 0))), some (.inr (.inr (12, 0))), some (.inl x3)], [.inl (σ.2.2.2.2.2 ((x3 + (1 : Int32))).toNatClampNeg), .inr (.inr (0, 0))]) σ
        refine Wp.run (WpD.mono _) 3 (q := ((281, [some (.inr (.inr (200, 0))), some (.inr (.inr (0, 0))), some (.inr (.inr (12, 0))), some (.inl x3)], [.inl (x3 + (2 : Int32)), .inr (.inr (200, 0)), .inl (σ.2.2.2.2.2 ((x3 + (1 : Int32))).toNatClampNeg), .inr (.inr (0, 0))]), σ)) rfl ?_
        obtain ⟨hc, h⟩ := ite_nn h
        refine Wp.X_ild6 (WpD.mono _) rfl rfl hc ?_
        show Wp (WpD (e + 96)) hcL_law Q (282, [some (.inr (.inr (200, 0))), some (.inr (.inr (0, 0))), some (.inr (.inr (12, 0))), some (.inl x3)], [.inl (σ.2.2.2.2.2 ((x3 + (2 : Int32))).toNatClampNeg), .inl (σ.2.2.2.2.2 ((x3 + (1 : Int32))).toNatClampNeg), .inr (.inr (0, 0))]) σ
        refine Wp.run (WpD.mono _) 3 (q := ((286, [some (.inr (.inr (200, 0))), some (.inr (.inr (0, 0))), some (.inr (.inr (12, 0))), some (.inl x3)], [.inl (x3 + (3 : Int32)), .inr (.inr (200, 0)), .inl (σ.2.2.2.2.2 ((x3 + (2 : Int32))).toNatClampNeg), .inl (σ.2.2.2.2.2 ((x3 + (1 : Int32))).toNatClampNeg), .inr (.inr (0, 0))]), σ)) rfl ?_
        obtain ⟨hc, h⟩ := ite_nn h
        refine Wp.X_ild6 (WpD.mono _) rfl rfl hc ?_
        show Wp (WpD (e + 96)) hcL_law Q (287, [some (.inr (.inr (200, 0))), some (.inr (.inr (0, 0))), some (.inr (.inr (12, 0))), some (.inl x3)], [.inl (σ.2.2.2.2.2 ((x3 + (3 : Int32))).toNatClampNeg), .inl (σ.2.2.2.2.2 ((x3 + (2 : Int32))).toNatClampNeg), .inl (σ.2.2.2.2.2 ((x3 + (1 : Int32))).toNatClampNeg), .inr (.inr (0, 0))]) σ
        obtain ⟨q3, hb, h⟩ := bind_some h
        refine Wp.call (WpD.mono _) rfl (T_X11_follow (e + 93) N (σ.2.2.2.2.2 ((x3 + (1 : Int32))).toNatClampNeg) (σ.2.2.2.2.2 ((x3 + (2 : Int32))).toNatClampNeg) (σ.2.2.2.2.2 ((x3 + (3 : Int32))).toNatClampNeg) σ _ _ _ hb ?_)
        show Wp (WpD (e + 96)) hcL_law Q (290, [some (.inr (.inr (200, 0))), some (.inr (.inr (0, 0))), some (.inr (.inr (12, 0))), some (.inl x3)], [.inl q3.1]) q3.2
        refine Wp.run (WpD.mono _) 4 (q := ((295, [some (.inr (.inr (200, 0))), some (.inr (.inr (0, 0))), some (.inr (.inr (12, 0))), some (.inl x3)], [.inl (x3 + (1 : Int32)), .inr (.inr (200, 0)), .inr (.inr (12, 0)), .inl q3.1]), q3.2)) rfl ?_
        obtain ⟨hc, h⟩ := ite_nn h
        refine Wp.X_ild6 (WpD.mono _) rfl rfl hc ?_
        show Wp (WpD (e + 96)) hcL_law Q (296, [some (.inr (.inr (200, 0))), some (.inr (.inr (0, 0))), some (.inr (.inr (12, 0))), some (.inl x3)], [.inl (q3.2.2.2.2.2.2 ((x3 + (1 : Int32))).toNatClampNeg), .inr (.inr (12, 0)), .inl q3.1]) q3.2
        refine Wp.run (WpD.mono _) 3 (q := ((300, [some (.inr (.inr (200, 0))), some (.inr (.inr (0, 0))), some (.inr (.inr (12, 0))), some (.inl x3)], [.inl (x3 + (2 : Int32)), .inr (.inr (200, 0)), .inl (q3.2.2.2.2.2.2 ((x3 + (1 : Int32))).toNatClampNeg), .inr (.inr (12, 0)), .inl q3.1]), q3.2)) rfl ?_
        obtain ⟨hc, h⟩ := ite_nn h
        refine Wp.X_ild6 (WpD.mono _) rfl rfl hc ?_
        show Wp (WpD (e + 96)) hcL_law Q (301, [some (.inr (.inr (200, 0))), some (.inr (.inr (0, 0))), some (.inr (.inr (12, 0))), some (.inl x3)], [.inl (q3.2.2.2.2.2.2 ((x3 + (2 : Int32))).toNatClampNeg), .inl (q3.2.2.2.2.2.2 ((x3 + (1 : Int32))).toNatClampNeg), .inr (.inr (12, 0)), .inl q3.1]) q3.2
        refine Wp.run (WpD.mono _) 3 (q := ((305, [some (.inr (.inr (200, 0))), some (.inr (.inr (0, 0))), some (.inr (.inr (12, 0))), some (.inl x3)], [.inl (x3 + (3 : Int32)), .inr (.inr (200, 0)), .inl (q3.2.2.2.2.2.2 ((x3 + (2 : Int32))).toNatClampNeg), .inl (q3.2.2.2.2.2.2 ((x3 + (1 : Int32))).toNatClampNeg), .inr (.inr (12, 0)), .inl q3.1]), q3.2)) rfl ?_
        obtain ⟨hc, h⟩ := ite_nn h
        refine Wp.X_ild6 (WpD.mono _) rfl rfl hc ?_
        show Wp (WpD (e + 96)) hcL_law Q (306, [some (.inr (.inr (200, 0))), some (.inr (.inr (0, 0))), some (.inr (.inr (12, 0))), some (.inl x3)], [.inl (q3.2.2.2.2.2.2 ((x3 + (3 : Int32))).toNatClampNeg), .inl (q3.2.2.2.2.2.2 ((x3 + (2 : Int32))).toNatClampNeg), .inl (q3.2.2.2.2.2.2 ((x3 + (1 : Int32))).toNatClampNeg), .inr (.inr (12, 0)), .inl q3.1]) q3.2
        obtain ⟨q4, hb, h⟩ := bind_some h
        refine Wp.call (WpD.mono _) rfl (T_X12_follow (e + 93) N (q3.2.2.2.2.2.2 ((x3 + (1 : Int32))).toNatClampNeg) (q3.2.2.2.2.2.2 ((x3 + (2 : Int32))).toNatClampNeg) (q3.2.2.2.2.2.2 ((x3 + (3 : Int32))).toNatClampNeg) q3.2 _ _ _ hb ?_)
        show Wp (WpD (e + 96)) hcL_law Q (309, [some (.inr (.inr (200, 0))), some (.inr (.inr (0, 0))), some (.inr (.inr (12, 0))), some (.inl x3)], [.inl q4.1, .inl q3.1]) q4.2
        refine Wp.if2_eq (WpD.mono _) rfl rfl (fun hc => ?_) (fun hc => ?_)
        · have h := (if_pos hc).symm.trans h
          show Wp (WpD (e + 96)) hcL_law Q (1692, [some (.inr (.inr (200, 0))), some (.inr (.inr (0, 0))), some (.inr (.inr (12, 0))), some (.inl x3)], []) q4.2
          refine Wp.run (WpD.mono _) 1 (q := ((18, [some (.inr (.inr (200, 0))), some (.inr (.inr (0, 0))), some (.inr (.inr (12, 0))), some (.inl (x3 + (6 : Int32)))], []), q4.2)) rfl ?_
          exact Wp.jump (WpD.mono _) rfl (ih (x3 + (6 : Int32)) q4.2 h)
        · have h := (if_neg hc).symm.trans h
          show Wp (WpD (e + 96)) hcL_law Q (312, [some (.inr (.inr (200, 0))), some (.inr (.inr (0, 0))), some (.inr (.inr (12, 0))), some (.inl x3)], []) q4.2
          refine Wp.run (WpD.mono _) 0 (q := ((313, [some (.inr (.inr (200, 0))), some (.inr (.inr (0, 0))), some (.inr (.inr (12, 0))), some (.inl x3)], [.inl (0 : Int32)]), q4.2)) rfl ?_
          obtain ⟨rfl, rfl⟩ := ret_inj h
          exact Wp.ret (WpD.mono _) rfl hQ
      have h := (if_neg hs1).symm.trans h
      by_cases hs2 : ((σ.2.2.2.2.2 (x3).toNatClampNeg) &&& (63 : Int32)) = 2
      · have h := (if_pos hs2).symm.trans h
        refine Wp.swIn (WpD.mono _) (q := ((314, [some (.inr (.inr (200, 0))), some (.inr (.inr (0, 0))), some (.inr (.inr (12, 0))), some (.inl x3)], []), σ)) hs2 rfl ?_
        refine Wp.run (WpD.mono _) 4 (q := ((319, [some (.inr (.inr (200, 0))), some (.inr (.inr (0, 0))), some (.inr (.inr (12, 0))), some (.inl x3)], [.inl (x3 + (1 : Int32)), .inr (.inr (200, 0)), .inr (.inr (0, 0))]), σ)) rfl ?_
        obtain ⟨hc, h⟩ := ite_nn h
        refine Wp.X_ild6 (WpD.mono _) rfl rfl hc ?_
        show Wp (WpD (e + 96)) hcL_law Q (320, [some (.inr (.inr (200, 0))), some (.inr (.inr (0, 0))), some (.inr (.inr (12, 0))), some (.inl x3)], [.inl (σ.2.2.2.2.2 ((x3 + (1 : Int32))).toNatClampNeg), .inr (.inr (0, 0))]) σ
        refine Wp.run (WpD.mono _) 3 (q := ((324, [some (.inr (.inr (200, 0))), some (.inr (.inr (0, 0))), some (.inr (.inr (12, 0))), some (.inl x3)], [.inl (x3 + (2 : Int32)), .inr (.inr (200, 0)), .inl (σ.2.2.2.2.2 ((x3 + (1 : Int32))).toNatClampNeg), .inr (.inr (0, 0))]), σ)) rfl ?_
        obtain ⟨hc, h⟩ := ite_nn h
        refine Wp.X_ild6 (WpD.mono _) rfl rfl hc ?_
        show Wp (WpD (e + 96)) hcL_law Q (325, [some (.inr (.inr (200, 0))), some (.inr (.inr (0, 0))), some (.inr (.inr (12, 0))), some (.inl x3)], [.inl (σ.2.2.2.2.2 ((x3 + (2 : Int32))).toNatClampNeg), .inl (σ.2.2.2.2.2 ((x3 + (1 : Int32))).toNatClampNeg), .inr (.inr (0, 0))]) σ
        obtain ⟨q5, hb, h⟩ := bind_some h
        refine Wp.call (WpD.mono _) rfl (T_X11_set (e + 89) N (σ.2.2.2.2.2 ((x3 + (1 : Int32))).toNatClampNeg) (σ.2.2.2.2.2 ((x3 + (2 : Int32))).toNatClampNeg) σ _ _ _ hb ?_)
        show Wp (WpD (e + 96)) hcL_law Q (328, [some (.inr (.inr (200, 0))), some (.inr (.inr (0, 0))), some (.inr (.inr (12, 0))), some (.inl x3)], [.inl q5.1]) q5.2
        refine Wp.run (WpD.mono _) 4 (q := ((333, [some (.inr (.inr (200, 0))), some (.inr (.inr (0, 0))), some (.inr (.inr (12, 0))), some (.inl x3)], [.inl (x3 + (1 : Int32)), .inr (.inr (200, 0)), .inr (.inr (12, 0)), .inl q5.1]), q5.2)) rfl ?_
        obtain ⟨hc, h⟩ := ite_nn h
        refine Wp.X_ild6 (WpD.mono _) rfl rfl hc ?_
        show Wp (WpD (e + 96)) hcL_law Q (334, [some (.inr (.inr (200, 0))), some (.inr (.inr (0, 0))), some (.inr (.inr (12, 0))), some (.inl x3)], [.inl (q5.2.2.2.2.2.2 ((x3 + (1 : Int32))).toNatClampNeg), .inr (.inr (12, 0)), .inl q5.1]) q5.2
        refine Wp.run (WpD.mono _) 3 (q := ((338, [some (.inr (.inr (200, 0))), some (.inr (.inr (0, 0))), some (.inr (.inr (12, 0))), some (.inl x3)], [.inl (x3 + (2 : Int32)), .inr (.inr (200, 0)), .inl (q5.2.2.2.2.2.2 ((x3 + (1 : Int32))).toNatClampNeg), .inr (.inr (12, 0)), .inl q5.1]), q5.2)) rfl ?_
        obtain ⟨hc, h⟩ := ite_nn h
        refine Wp.X_ild6 (WpD.mono _) rfl rfl hc ?_
        show Wp (WpD (e + 96)) hcL_law Q (339, [some (.inr (.inr (200, 0))), some (.inr (.inr (0, 0))), some (.inr (.inr (12, 0))), some (.inl x3)], [.inl (q5.2.2.2.2.2.2 ((x3 + (2 : Int32))).toNatClampNeg), .inl (q5.2.2.2.2.2.2 ((x3 + (1 : Int32))).toNatClampNeg), .inr (.inr (12, 0)), .inl q5.1]) q5.2
        obtain ⟨q6, hb, h⟩ := bind_some h
        refine Wp.call (WpD.mono _) rfl (T_X12_set (e + 94) N (q5.2.2.2.2.2.2 ((x3 + (1 : Int32))).toNatClampNeg) (q5.2.2.2.2.2.2 ((x3 + (2 : Int32))).toNatClampNeg) q5.2 _ _ _ hb ?_)
        show Wp (WpD (e + 96)) hcL_law Q (342, [some (.inr (.inr (200, 0))), some (.inr (.inr (0, 0))), some (.inr (.inr (12, 0))), some (.inl x3)], [.inl q6.1, .inl q5.1]) q6.2
        refine Wp.if2_eq (WpD.mono _) rfl rfl (fun hc => ?_) (fun hc => ?_)
        · have h := (if_pos hc).symm.trans h
          show Wp (WpD (e + 96)) hcL_law Q (1692, [some (.inr (.inr (200, 0))), some (.inr (.inr (0, 0))), some (.inr (.inr (12, 0))), some (.inl x3)], []) q6.2
          refine Wp.run (WpD.mono _) 1 (q := ((18, [some (.inr (.inr (200, 0))), some (.inr (.inr (0, 0))), some (.inr (.inr (12, 0))), some (.inl (x3 + (6 : Int32)))], []), q6.2)) rfl ?_
          exact Wp.jump (WpD.mono _) rfl (ih (x3 + (6 : Int32)) q6.2 h)
        · have h := (if_neg hc).symm.trans h
          show Wp (WpD (e + 96)) hcL_law Q (345, [some (.inr (.inr (200, 0))), some (.inr (.inr (0, 0))), some (.inr (.inr (12, 0))), some (.inl x3)], []) q6.2
          refine Wp.run (WpD.mono _) 0 (q := ((346, [some (.inr (.inr (200, 0))), some (.inr (.inr (0, 0))), some (.inr (.inr (12, 0))), some (.inl x3)], [.inl (0 : Int32)]), q6.2)) rfl ?_
          obtain ⟨rfl, rfl⟩ := ret_inj h
          exact Wp.ret (WpD.mono _) rfl hQ
      have h := (if_neg hs2).symm.trans h
      by_cases hs3 : ((σ.2.2.2.2.2 (x3).toNatClampNeg) &&& (63 : Int32)) = 3
      · have h := (if_pos hs3).symm.trans h
        refine Wp.swIn (WpD.mono _) (q := ((347, [some (.inr (.inr (200, 0))), some (.inr (.inr (0, 0))), some (.inr (.inr (12, 0))), some (.inl x3)], []), σ)) hs3 rfl ?_
        refine Wp.run (WpD.mono _) 4 (q := ((352, [some (.inr (.inr (200, 0))), some (.inr (.inr (0, 0))), some (.inr (.inr (12, 0))), some (.inl x3)], [.inl (x3 + (1 : Int32)), .inr (.inr (200, 0)), .inr (.inr (0, 0))]), σ)) rfl ?_
        obtain ⟨hc, h⟩ := ite_nn h
        refine Wp.X_ild6 (WpD.mono _) rfl rfl hc ?_
        show Wp (WpD (e + 96)) hcL_law Q (353, [some (.inr (.inr (200, 0))), some (.inr (.inr (0, 0))), some (.inr (.inr (12, 0))), some (.inl x3)], [.inl (σ.2.2.2.2.2 ((x3 + (1 : Int32))).toNatClampNeg), .inr (.inr (0, 0))]) σ
        obtain ⟨q7, hb, h⟩ := bind_some h
        refine Wp.call (WpD.mono _) rfl (T_X11_count (e + 94) N (σ.2.2.2.2.2 ((x3 + (1 : Int32))).toNatClampNeg) σ _ _ _ hb ?_)
        show Wp (WpD (e + 96)) hcL_law Q (356, [some (.inr (.inr (200, 0))), some (.inr (.inr (0, 0))), some (.inr (.inr (12, 0))), some (.inl x3)], [.inl q7.1]) q7.2
        refine Wp.run (WpD.mono _) 4 (q := ((361, [some (.inr (.inr (200, 0))), some (.inr (.inr (0, 0))), some (.inr (.inr (12, 0))), some (.inl x3)], [.inl (x3 + (1 : Int32)), .inr (.inr (200, 0)), .inr (.inr (12, 0)), .inl q7.1]), q7.2)) rfl ?_
        obtain ⟨hc, h⟩ := ite_nn h
        refine Wp.X_ild6 (WpD.mono _) rfl rfl hc ?_
        show Wp (WpD (e + 96)) hcL_law Q (362, [some (.inr (.inr (200, 0))), some (.inr (.inr (0, 0))), some (.inr (.inr (12, 0))), some (.inl x3)], [.inl (q7.2.2.2.2.2.2 ((x3 + (1 : Int32))).toNatClampNeg), .inr (.inr (12, 0)), .inl q7.1]) q7.2
        obtain ⟨q8, hb, h⟩ := bind_some h
        refine Wp.call (WpD.mono _) rfl (T_X12_count (e + 95) N (q7.2.2.2.2.2.2 ((x3 + (1 : Int32))).toNatClampNeg) q7.2 _ _ _ hb ?_)
        show Wp (WpD (e + 96)) hcL_law Q (365, [some (.inr (.inr (200, 0))), some (.inr (.inr (0, 0))), some (.inr (.inr (12, 0))), some (.inl x3)], [.inl q8.1, .inl q7.1]) q8.2
        refine Wp.if2_eq (WpD.mono _) rfl rfl (fun hc => ?_) (fun hc => ?_)
        · have h := (if_pos hc).symm.trans h
          show Wp (WpD (e + 96)) hcL_law Q (1692, [some (.inr (.inr (200, 0))), some (.inr (.inr (0, 0))), some (.inr (.inr (12, 0))), some (.inl x3)], []) q8.2
          refine Wp.run (WpD.mono _) 1 (q := ((18, [some (.inr (.inr (200, 0))), some (.inr (.inr (0, 0))), some (.inr (.inr (12, 0))), some (.inl (x3 + (6 : Int32)))], []), q8.2)) rfl ?_
          exact Wp.jump (WpD.mono _) rfl (ih (x3 + (6 : Int32)) q8.2 h)
        · have h := (if_neg hc).symm.trans h
          show Wp (WpD (e + 96)) hcL_law Q (368, [some (.inr (.inr (200, 0))), some (.inr (.inr (0, 0))), some (.inr (.inr (12, 0))), some (.inl x3)], []) q8.2
          refine Wp.run (WpD.mono _) 0 (q := ((369, [some (.inr (.inr (200, 0))), some (.inr (.inr (0, 0))), some (.inr (.inr (12, 0))), some (.inl x3)], [.inl (0 : Int32)]), q8.2)) rfl ?_
          obtain ⟨rfl, rfl⟩ := ret_inj h
          exact Wp.ret (WpD.mono _) rfl hQ
      have h := (if_neg hs3).symm.trans h
      by_cases hs4 : ((σ.2.2.2.2.2 (x3).toNatClampNeg) &&& (63 : Int32)) = 4
      · have h := (if_pos hs4).symm.trans h
        refine Wp.swIn (WpD.mono _) (q := ((370, [some (.inr (.inr (200, 0))), some (.inr (.inr (0, 0))), some (.inr (.inr (12, 0))), some (.inl x3)], []), σ)) hs4 rfl ?_
        refine Wp.run (WpD.mono _) 4 (q := ((375, [some (.inr (.inr (200, 0))), some (.inr (.inr (0, 0))), some (.inr (.inr (12, 0))), some (.inl x3)], [.inl (x3 + (1 : Int32)), .inr (.inr (200, 0)), .inr (.inr (0, 0))]), σ)) rfl ?_
        obtain ⟨hc, h⟩ := ite_nn h
        refine Wp.X_ild6 (WpD.mono _) rfl rfl hc ?_
        show Wp (WpD (e + 96)) hcL_law Q (376, [some (.inr (.inr (200, 0))), some (.inr (.inr (0, 0))), some (.inr (.inr (12, 0))), some (.inl x3)], [.inl (σ.2.2.2.2.2 ((x3 + (1 : Int32))).toNatClampNeg), .inr (.inr (0, 0))]) σ
        refine Wp.run (WpD.mono _) 6 (q := ((384, [some (.inr (.inr (200, 0))), some (.inr (.inr (0, 0))), some (.inr (.inr (12, 0))), some (.inl x3)], [.inl (x3 + (2 : Int32)), .inr (.inr (200, 0)), .inr (.inl ((σ.2.2.2.2.2 ((x3 + (1 : Int32))).toNatClampNeg).toInt64 <<< (((32 : Int32)).toInt64 &&& 63))), .inr (.inr (0, 0))]), σ)) rfl ?_
        obtain ⟨hc, h⟩ := ite_nn h
        refine Wp.X_ild6 (WpD.mono _) rfl rfl hc ?_
        show Wp (WpD (e + 96)) hcL_law Q (385, [some (.inr (.inr (200, 0))), some (.inr (.inr (0, 0))), some (.inr (.inr (12, 0))), some (.inl x3)], [.inl (σ.2.2.2.2.2 ((x3 + (2 : Int32))).toNatClampNeg), .inr (.inl ((σ.2.2.2.2.2 ((x3 + (1 : Int32))).toNatClampNeg).toInt64 <<< (((32 : Int32)).toInt64 &&& 63))), .inr (.inr (0, 0))]) σ
        refine Wp.run (WpD.mono _) 7 (q := ((395, [some (.inr (.inr (200, 0))), some (.inr (.inr (0, 0))), some (.inr (.inr (12, 0))), some (.inl x3)], [.inl (x3 + (3 : Int32)), .inr (.inr (200, 0)), .inr (.inl (((σ.2.2.2.2.2 ((x3 + (1 : Int32))).toNatClampNeg).toInt64 <<< (((32 : Int32)).toInt64 &&& 63)) ||| ((σ.2.2.2.2.2 ((x3 + (2 : Int32))).toNatClampNeg).toInt64 &&& (4294967295 : Int64)))), .inr (.inr (0, 0))]), σ)) rfl ?_
        obtain ⟨hc, h⟩ := ite_nn h
        refine Wp.X_ild6 (WpD.mono _) rfl rfl hc ?_
        show Wp (WpD (e + 96)) hcL_law Q (396, [some (.inr (.inr (200, 0))), some (.inr (.inr (0, 0))), some (.inr (.inr (12, 0))), some (.inl x3)], [.inl (σ.2.2.2.2.2 ((x3 + (3 : Int32))).toNatClampNeg), .inr (.inl (((σ.2.2.2.2.2 ((x3 + (1 : Int32))).toNatClampNeg).toInt64 <<< (((32 : Int32)).toInt64 &&& 63)) ||| ((σ.2.2.2.2.2 ((x3 + (2 : Int32))).toNatClampNeg).toInt64 &&& (4294967295 : Int64)))), .inr (.inr (0, 0))]) σ
        obtain ⟨q9, hb, h⟩ := bind_some h
        refine Wp.call (WpD.mono _) rfl (T_X11_feed (e + 94) N (((σ.2.2.2.2.2 ((x3 + (1 : Int32))).toNatClampNeg).toInt64 <<< (((32 : Int32)).toInt64 &&& 63)) ||| ((σ.2.2.2.2.2 ((x3 + (2 : Int32))).toNatClampNeg).toInt64 &&& (4294967295 : Int64))) (σ.2.2.2.2.2 ((x3 + (3 : Int32))).toNatClampNeg) σ _ _ _ hb ?_)
        show Wp (WpD (e + 96)) hcL_law Q (399, [some (.inr (.inr (200, 0))), some (.inr (.inr (0, 0))), some (.inr (.inr (12, 0))), some (.inl x3)], [.inl q9.1]) q9.2
        refine Wp.run (WpD.mono _) 4 (q := ((404, [some (.inr (.inr (200, 0))), some (.inr (.inr (0, 0))), some (.inr (.inr (12, 0))), some (.inl x3)], [.inl (x3 + (1 : Int32)), .inr (.inr (200, 0)), .inr (.inr (12, 0)), .inl q9.1]), q9.2)) rfl ?_
        obtain ⟨hc, h⟩ := ite_nn h
        refine Wp.X_ild6 (WpD.mono _) rfl rfl hc ?_
        show Wp (WpD (e + 96)) hcL_law Q (405, [some (.inr (.inr (200, 0))), some (.inr (.inr (0, 0))), some (.inr (.inr (12, 0))), some (.inl x3)], [.inl (q9.2.2.2.2.2.2 ((x3 + (1 : Int32))).toNatClampNeg), .inr (.inr (12, 0)), .inl q9.1]) q9.2
        refine Wp.run (WpD.mono _) 6 (q := ((413, [some (.inr (.inr (200, 0))), some (.inr (.inr (0, 0))), some (.inr (.inr (12, 0))), some (.inl x3)], [.inl (x3 + (2 : Int32)), .inr (.inr (200, 0)), .inr (.inl ((q9.2.2.2.2.2.2 ((x3 + (1 : Int32))).toNatClampNeg).toInt64 <<< (((32 : Int32)).toInt64 &&& 63))), .inr (.inr (12, 0)), .inl q9.1]), q9.2)) rfl ?_
        obtain ⟨hc, h⟩ := ite_nn h
        refine Wp.X_ild6 (WpD.mono _) rfl rfl hc ?_
        show Wp (WpD (e + 96)) hcL_law Q (414, [some (.inr (.inr (200, 0))), some (.inr (.inr (0, 0))), some (.inr (.inr (12, 0))), some (.inl x3)], [.inl (q9.2.2.2.2.2.2 ((x3 + (2 : Int32))).toNatClampNeg), .inr (.inl ((q9.2.2.2.2.2.2 ((x3 + (1 : Int32))).toNatClampNeg).toInt64 <<< (((32 : Int32)).toInt64 &&& 63))), .inr (.inr (12, 0)), .inl q9.1]) q9.2
        refine Wp.run (WpD.mono _) 7 (q := ((424, [some (.inr (.inr (200, 0))), some (.inr (.inr (0, 0))), some (.inr (.inr (12, 0))), some (.inl x3)], [.inl (x3 + (3 : Int32)), .inr (.inr (200, 0)), .inr (.inl (((q9.2.2.2.2.2.2 ((x3 + (1 : Int32))).toNatClampNeg).toInt64 <<< (((32 : Int32)).toInt64 &&& 63)) ||| ((q9.2.2.2.2.2.2 ((x3 + (2 : Int32))).toNatClampNeg).toInt64 &&& (4294967295 : Int64)))), .inr (.inr (12, 0)), .inl q9.1]), q9.2)) rfl ?_
        obtain ⟨hc, h⟩ := ite_nn h
        refine Wp.X_ild6 (WpD.mono _) rfl rfl hc ?_
        show Wp (WpD (e + 96)) hcL_law Q (425, [some (.inr (.inr (200, 0))), some (.inr (.inr (0, 0))), some (.inr (.inr (12, 0))), some (.inl x3)], [.inl (q9.2.2.2.2.2.2 ((x3 + (3 : Int32))).toNatClampNeg), .inr (.inl (((q9.2.2.2.2.2.2 ((x3 + (1 : Int32))).toNatClampNeg).toInt64 <<< (((32 : Int32)).toInt64 &&& 63)) ||| ((q9.2.2.2.2.2.2 ((x3 + (2 : Int32))).toNatClampNeg).toInt64 &&& (4294967295 : Int64)))), .inr (.inr (12, 0)), .inl q9.1]) q9.2
        obtain ⟨q10, hb, h⟩ := bind_some h
        refine Wp.call (WpD.mono _) rfl (T_X12_feed (e + 94) N (((q9.2.2.2.2.2.2 ((x3 + (1 : Int32))).toNatClampNeg).toInt64 <<< (((32 : Int32)).toInt64 &&& 63)) ||| ((q9.2.2.2.2.2.2 ((x3 + (2 : Int32))).toNatClampNeg).toInt64 &&& (4294967295 : Int64))) (q9.2.2.2.2.2.2 ((x3 + (3 : Int32))).toNatClampNeg) q9.2 _ _ _ hb ?_)
        show Wp (WpD (e + 96)) hcL_law Q (428, [some (.inr (.inr (200, 0))), some (.inr (.inr (0, 0))), some (.inr (.inr (12, 0))), some (.inl x3)], [.inl q10.1, .inl q9.1]) q10.2
        refine Wp.if2_eq (WpD.mono _) rfl rfl (fun hc => ?_) (fun hc => ?_)
        · have h := (if_pos hc).symm.trans h
          show Wp (WpD (e + 96)) hcL_law Q (1692, [some (.inr (.inr (200, 0))), some (.inr (.inr (0, 0))), some (.inr (.inr (12, 0))), some (.inl x3)], []) q10.2
          refine Wp.run (WpD.mono _) 1 (q := ((18, [some (.inr (.inr (200, 0))), some (.inr (.inr (0, 0))), some (.inr (.inr (12, 0))), some (.inl (x3 + (6 : Int32)))], []), q10.2)) rfl ?_
          exact Wp.jump (WpD.mono _) rfl (ih (x3 + (6 : Int32)) q10.2 h)
        · have h := (if_neg hc).symm.trans h
          show Wp (WpD (e + 96)) hcL_law Q (431, [some (.inr (.inr (200, 0))), some (.inr (.inr (0, 0))), some (.inr (.inr (12, 0))), some (.inl x3)], []) q10.2
          refine Wp.run (WpD.mono _) 0 (q := ((432, [some (.inr (.inr (200, 0))), some (.inr (.inr (0, 0))), some (.inr (.inr (12, 0))), some (.inl x3)], [.inl (0 : Int32)]), q10.2)) rfl ?_
          obtain ⟨rfl, rfl⟩ := ret_inj h
          exact Wp.ret (WpD.mono _) rfl hQ
      have h := (if_neg hs4).symm.trans h
      by_cases hs5 : ((σ.2.2.2.2.2 (x3).toNatClampNeg) &&& (63 : Int32)) = 5
      · have h := (if_pos hs5).symm.trans h
        refine Wp.swIn (WpD.mono _) (q := ((433, [some (.inr (.inr (200, 0))), some (.inr (.inr (0, 0))), some (.inr (.inr (12, 0))), some (.inl x3)], []), σ)) hs5 rfl ?_
        refine Wp.run (WpD.mono _) 0 (q := ((434, [some (.inr (.inr (200, 0))), some (.inr (.inr (0, 0))), some (.inr (.inr (12, 0))), some (.inl x3)], [.inr (.inr (0, 0))]), σ)) rfl ?_
        obtain ⟨q11, hb, h⟩ := bind_some h
        refine Wp.call (WpD.mono _) rfl (T_X11_text (e + 0) N σ _ _ _ hb ?_)
        show Wp (WpD (e + 96)) hcL_law Q (437, [some (.inr (.inr (200, 0))), some (.inr (.inr (0, 0))), some (.inr (.inr (12, 0))), some (.inl x3)], [.inl q11.1]) q11.2
        refine Wp.run (WpD.mono _) 0 (q := ((438, [some (.inr (.inr (200, 0))), some (.inr (.inr (0, 0))), some (.inr (.inr (12, 0))), some (.inl x3)], [.inr (.inr (12, 0)), .inl q11.1]), q11.2)) rfl ?_
        obtain ⟨q12, hb, h⟩ := bind_some h
        refine Wp.call (WpD.mono _) rfl (T_X12_text (e + 91) N q11.2 _ _ _ hb ?_)
        show Wp (WpD (e + 96)) hcL_law Q (441, [some (.inr (.inr (200, 0))), some (.inr (.inr (0, 0))), some (.inr (.inr (12, 0))), some (.inl x3)], [.inl q12.1, .inl q11.1]) q12.2
        refine Wp.if2_eq (WpD.mono _) rfl rfl (fun hc => ?_) (fun hc => ?_)
        · have h := (if_pos hc).symm.trans h
          show Wp (WpD (e + 96)) hcL_law Q (1692, [some (.inr (.inr (200, 0))), some (.inr (.inr (0, 0))), some (.inr (.inr (12, 0))), some (.inl x3)], []) q12.2
          refine Wp.run (WpD.mono _) 1 (q := ((18, [some (.inr (.inr (200, 0))), some (.inr (.inr (0, 0))), some (.inr (.inr (12, 0))), some (.inl (x3 + (6 : Int32)))], []), q12.2)) rfl ?_
          exact Wp.jump (WpD.mono _) rfl (ih (x3 + (6 : Int32)) q12.2 h)
        · have h := (if_neg hc).symm.trans h
          show Wp (WpD (e + 96)) hcL_law Q (444, [some (.inr (.inr (200, 0))), some (.inr (.inr (0, 0))), some (.inr (.inr (12, 0))), some (.inl x3)], []) q12.2
          refine Wp.run (WpD.mono _) 0 (q := ((445, [some (.inr (.inr (200, 0))), some (.inr (.inr (0, 0))), some (.inr (.inr (12, 0))), some (.inl x3)], [.inl (0 : Int32)]), q12.2)) rfl ?_
          obtain ⟨rfl, rfl⟩ := ret_inj h
          exact Wp.ret (WpD.mono _) rfl hQ
      have h := (if_neg hs5).symm.trans h
      by_cases hs6 : ((σ.2.2.2.2.2 (x3).toNatClampNeg) &&& (63 : Int32)) = 6
      · have h := (if_pos hs6).symm.trans h
        refine Wp.swIn (WpD.mono _) (q := ((446, [some (.inr (.inr (200, 0))), some (.inr (.inr (0, 0))), some (.inr (.inr (12, 0))), some (.inl x3)], []), σ)) hs6 rfl ?_
        refine Wp.run (WpD.mono _) 4 (q := ((451, [some (.inr (.inr (200, 0))), some (.inr (.inr (0, 0))), some (.inr (.inr (12, 0))), some (.inl x3)], [.inl (x3 + (1 : Int32)), .inr (.inr (200, 0)), .inr (.inr (0, 0))]), σ)) rfl ?_
        obtain ⟨hc, h⟩ := ite_nn h
        refine Wp.X_ild6 (WpD.mono _) rfl rfl hc ?_
        show Wp (WpD (e + 96)) hcL_law Q (452, [some (.inr (.inr (200, 0))), some (.inr (.inr (0, 0))), some (.inr (.inr (12, 0))), some (.inl x3)], [.inl (σ.2.2.2.2.2 ((x3 + (1 : Int32))).toNatClampNeg), .inr (.inr (0, 0))]) σ
        obtain ⟨q13, hb, h⟩ := bind_some h
        refine Wp.call (WpD.mono _) rfl (T_X11_force (e + 89) N (σ.2.2.2.2.2 ((x3 + (1 : Int32))).toNatClampNeg) σ _ _ _ hb ?_)
        show Wp (WpD (e + 96)) hcL_law Q (455, [some (.inr (.inr (200, 0))), some (.inr (.inr (0, 0))), some (.inr (.inr (12, 0))), some (.inl x3)], [.inl q13.1]) q13.2
        refine Wp.run (WpD.mono _) 4 (q := ((460, [some (.inr (.inr (200, 0))), some (.inr (.inr (0, 0))), some (.inr (.inr (12, 0))), some (.inl x3)], [.inl (x3 + (1 : Int32)), .inr (.inr (200, 0)), .inr (.inr (12, 0)), .inl q13.1]), q13.2)) rfl ?_
        obtain ⟨hc, h⟩ := ite_nn h
        refine Wp.X_ild6 (WpD.mono _) rfl rfl hc ?_
        show Wp (WpD (e + 96)) hcL_law Q (461, [some (.inr (.inr (200, 0))), some (.inr (.inr (0, 0))), some (.inr (.inr (12, 0))), some (.inl x3)], [.inl (q13.2.2.2.2.2.2 ((x3 + (1 : Int32))).toNatClampNeg), .inr (.inr (12, 0)), .inl q13.1]) q13.2
        obtain ⟨q14, hb, h⟩ := bind_some h
        refine Wp.call (WpD.mono _) rfl (T_X12_force (e + 94) N (q13.2.2.2.2.2.2 ((x3 + (1 : Int32))).toNatClampNeg) q13.2 _ _ _ hb ?_)
        show Wp (WpD (e + 96)) hcL_law Q (464, [some (.inr (.inr (200, 0))), some (.inr (.inr (0, 0))), some (.inr (.inr (12, 0))), some (.inl x3)], [.inl q14.1, .inl q13.1]) q14.2
        refine Wp.if2_eq (WpD.mono _) rfl rfl (fun hc => ?_) (fun hc => ?_)
        · have h := (if_pos hc).symm.trans h
          show Wp (WpD (e + 96)) hcL_law Q (1692, [some (.inr (.inr (200, 0))), some (.inr (.inr (0, 0))), some (.inr (.inr (12, 0))), some (.inl x3)], []) q14.2
          refine Wp.run (WpD.mono _) 1 (q := ((18, [some (.inr (.inr (200, 0))), some (.inr (.inr (0, 0))), some (.inr (.inr (12, 0))), some (.inl (x3 + (6 : Int32)))], []), q14.2)) rfl ?_
          exact Wp.jump (WpD.mono _) rfl (ih (x3 + (6 : Int32)) q14.2 h)
        · have h := (if_neg hc).symm.trans h
          show Wp (WpD (e + 96)) hcL_law Q (467, [some (.inr (.inr (200, 0))), some (.inr (.inr (0, 0))), some (.inr (.inr (12, 0))), some (.inl x3)], []) q14.2
          refine Wp.run (WpD.mono _) 0 (q := ((468, [some (.inr (.inr (200, 0))), some (.inr (.inr (0, 0))), some (.inr (.inr (12, 0))), some (.inl x3)], [.inl (0 : Int32)]), q14.2)) rfl ?_
          obtain ⟨rfl, rfl⟩ := ret_inj h
          exact Wp.ret (WpD.mono _) rfl hQ
      have h := (if_neg hs6).symm.trans h
      by_cases hs7 : ((σ.2.2.2.2.2 (x3).toNatClampNeg) &&& (63 : Int32)) = 7
      · have h := (if_pos hs7).symm.trans h
        refine Wp.swIn (WpD.mono _) (q := ((469, [some (.inr (.inr (200, 0))), some (.inr (.inr (0, 0))), some (.inr (.inr (12, 0))), some (.inl x3)], []), σ)) hs7 rfl ?_
        refine Wp.run (WpD.mono _) 4 (q := ((474, [some (.inr (.inr (200, 0))), some (.inr (.inr (0, 0))), some (.inr (.inr (12, 0))), some (.inl x3)], [.inl (x3 + (1 : Int32)), .inr (.inr (200, 0)), .inr (.inr (0, 0))]), σ)) rfl ?_
        obtain ⟨hc, h⟩ := ite_nn h
        refine Wp.X_ild6 (WpD.mono _) rfl rfl hc ?_
        show Wp (WpD (e + 96)) hcL_law Q (475, [some (.inr (.inr (200, 0))), some (.inr (.inr (0, 0))), some (.inr (.inr (12, 0))), some (.inl x3)], [.inl (σ.2.2.2.2.2 ((x3 + (1 : Int32))).toNatClampNeg), .inr (.inr (0, 0))]) σ
        refine Wp.run (WpD.mono _) 3 (q := ((479, [some (.inr (.inr (200, 0))), some (.inr (.inr (0, 0))), some (.inr (.inr (12, 0))), some (.inl x3)], [.inl (x3 + (2 : Int32)), .inr (.inr (200, 0)), .inl (σ.2.2.2.2.2 ((x3 + (1 : Int32))).toNatClampNeg), .inr (.inr (0, 0))]), σ)) rfl ?_
        obtain ⟨hc, h⟩ := ite_nn h
        refine Wp.X_ild6 (WpD.mono _) rfl rfl hc ?_
        show Wp (WpD (e + 96)) hcL_law Q (480, [some (.inr (.inr (200, 0))), some (.inr (.inr (0, 0))), some (.inr (.inr (12, 0))), some (.inl x3)], [.inl (σ.2.2.2.2.2 ((x3 + (2 : Int32))).toNatClampNeg), .inl (σ.2.2.2.2.2 ((x3 + (1 : Int32))).toNatClampNeg), .inr (.inr (0, 0))]) σ
        refine Wp.run (WpD.mono _) 3 (q := ((484, [some (.inr (.inr (200, 0))), some (.inr (.inr (0, 0))), some (.inr (.inr (12, 0))), some (.inl x3)], [.inl (x3 + (3 : Int32)), .inr (.inr (200, 0)), .inl (σ.2.2.2.2.2 ((x3 + (2 : Int32))).toNatClampNeg), .inl (σ.2.2.2.2.2 ((x3 + (1 : Int32))).toNatClampNeg), .inr (.inr (0, 0))]), σ)) rfl ?_
        obtain ⟨hc, h⟩ := ite_nn h
        refine Wp.X_ild6 (WpD.mono _) rfl rfl hc ?_
        show Wp (WpD (e + 96)) hcL_law Q (485, [some (.inr (.inr (200, 0))), some (.inr (.inr (0, 0))), some (.inr (.inr (12, 0))), some (.inl x3)], [.inl (σ.2.2.2.2.2 ((x3 + (3 : Int32))).toNatClampNeg), .inl (σ.2.2.2.2.2 ((x3 + (2 : Int32))).toNatClampNeg), .inl (σ.2.2.2.2.2 ((x3 + (1 : Int32))).toNatClampNeg), .inr (.inr (0, 0))]) σ
        refine Wp.run (WpD.mono _) 3 (q := ((489, [some (.inr (.inr (200, 0))), some (.inr (.inr (0, 0))), some (.inr (.inr (12, 0))), some (.inl x3)], [.inl (x3 + (4 : Int32)), .inr (.inr (200, 0)), .inl (σ.2.2.2.2.2 ((x3 + (3 : Int32))).toNatClampNeg), .inl (σ.2.2.2.2.2 ((x3 + (2 : Int32))).toNatClampNeg), .inl (σ.2.2.2.2.2 ((x3 + (1 : Int32))).toNatClampNeg), .inr (.inr (0, 0))]), σ)) rfl ?_
        obtain ⟨hc, h⟩ := ite_nn h
        refine Wp.X_ild6 (WpD.mono _) rfl rfl hc ?_
        show Wp (WpD (e + 96)) hcL_law Q (490, [some (.inr (.inr (200, 0))), some (.inr (.inr (0, 0))), some (.inr (.inr (12, 0))), some (.inl x3)], [.inl (σ.2.2.2.2.2 ((x3 + (4 : Int32))).toNatClampNeg), .inl (σ.2.2.2.2.2 ((x3 + (3 : Int32))).toNatClampNeg), .inl (σ.2.2.2.2.2 ((x3 + (2 : Int32))).toNatClampNeg), .inl (σ.2.2.2.2.2 ((x3 + (1 : Int32))).toNatClampNeg), .inr (.inr (0, 0))]) σ
        obtain ⟨q15, hb, h⟩ := bind_some h
        refine Wp.call (WpD.mono _) rfl (T_X11_asks (e + 93) N (σ.2.2.2.2.2 ((x3 + (1 : Int32))).toNatClampNeg) (σ.2.2.2.2.2 ((x3 + (2 : Int32))).toNatClampNeg) (σ.2.2.2.2.2 ((x3 + (3 : Int32))).toNatClampNeg) (σ.2.2.2.2.2 ((x3 + (4 : Int32))).toNatClampNeg) σ _ _ _ hb ?_)
        show Wp (WpD (e + 96)) hcL_law Q (493, [some (.inr (.inr (200, 0))), some (.inr (.inr (0, 0))), some (.inr (.inr (12, 0))), some (.inl x3)], [.inl q15.1]) q15.2
        refine Wp.run (WpD.mono _) 4 (q := ((498, [some (.inr (.inr (200, 0))), some (.inr (.inr (0, 0))), some (.inr (.inr (12, 0))), some (.inl x3)], [.inl (x3 + (1 : Int32)), .inr (.inr (200, 0)), .inr (.inr (12, 0)), .inl q15.1]), q15.2)) rfl ?_
        obtain ⟨hc, h⟩ := ite_nn h
        refine Wp.X_ild6 (WpD.mono _) rfl rfl hc ?_
        show Wp (WpD (e + 96)) hcL_law Q (499, [some (.inr (.inr (200, 0))), some (.inr (.inr (0, 0))), some (.inr (.inr (12, 0))), some (.inl x3)], [.inl (q15.2.2.2.2.2.2 ((x3 + (1 : Int32))).toNatClampNeg), .inr (.inr (12, 0)), .inl q15.1]) q15.2
        refine Wp.run (WpD.mono _) 3 (q := ((503, [some (.inr (.inr (200, 0))), some (.inr (.inr (0, 0))), some (.inr (.inr (12, 0))), some (.inl x3)], [.inl (x3 + (2 : Int32)), .inr (.inr (200, 0)), .inl (q15.2.2.2.2.2.2 ((x3 + (1 : Int32))).toNatClampNeg), .inr (.inr (12, 0)), .inl q15.1]), q15.2)) rfl ?_
        obtain ⟨hc, h⟩ := ite_nn h
        refine Wp.X_ild6 (WpD.mono _) rfl rfl hc ?_
        show Wp (WpD (e + 96)) hcL_law Q (504, [some (.inr (.inr (200, 0))), some (.inr (.inr (0, 0))), some (.inr (.inr (12, 0))), some (.inl x3)], [.inl (q15.2.2.2.2.2.2 ((x3 + (2 : Int32))).toNatClampNeg), .inl (q15.2.2.2.2.2.2 ((x3 + (1 : Int32))).toNatClampNeg), .inr (.inr (12, 0)), .inl q15.1]) q15.2
        refine Wp.run (WpD.mono _) 3 (q := ((508, [some (.inr (.inr (200, 0))), some (.inr (.inr (0, 0))), some (.inr (.inr (12, 0))), some (.inl x3)], [.inl (x3 + (3 : Int32)), .inr (.inr (200, 0)), .inl (q15.2.2.2.2.2.2 ((x3 + (2 : Int32))).toNatClampNeg), .inl (q15.2.2.2.2.2.2 ((x3 + (1 : Int32))).toNatClampNeg), .inr (.inr (12, 0)), .inl q15.1]), q15.2)) rfl ?_
        obtain ⟨hc, h⟩ := ite_nn h
        refine Wp.X_ild6 (WpD.mono _) rfl rfl hc ?_
        show Wp (WpD (e + 96)) hcL_law Q (509, [some (.inr (.inr (200, 0))), some (.inr (.inr (0, 0))), some (.inr (.inr (12, 0))), some (.inl x3)], [.inl (q15.2.2.2.2.2.2 ((x3 + (3 : Int32))).toNatClampNeg), .inl (q15.2.2.2.2.2.2 ((x3 + (2 : Int32))).toNatClampNeg), .inl (q15.2.2.2.2.2.2 ((x3 + (1 : Int32))).toNatClampNeg), .inr (.inr (12, 0)), .inl q15.1]) q15.2
        refine Wp.run (WpD.mono _) 3 (q := ((513, [some (.inr (.inr (200, 0))), some (.inr (.inr (0, 0))), some (.inr (.inr (12, 0))), some (.inl x3)], [.inl (x3 + (4 : Int32)), .inr (.inr (200, 0)), .inl (q15.2.2.2.2.2.2 ((x3 + (3 : Int32))).toNatClampNeg), .inl (q15.2.2.2.2.2.2 ((x3 + (2 : Int32))).toNatClampNeg), .inl (q15.2.2.2.2.2.2 ((x3 + (1 : Int32))).toNatClampNeg), .inr (.inr (12, 0)), .inl q15.1]), q15.2)) rfl ?_
        obtain ⟨hc, h⟩ := ite_nn h
        refine Wp.X_ild6 (WpD.mono _) rfl rfl hc ?_
        show Wp (WpD (e + 96)) hcL_law Q (514, [some (.inr (.inr (200, 0))), some (.inr (.inr (0, 0))), some (.inr (.inr (12, 0))), some (.inl x3)], [.inl (q15.2.2.2.2.2.2 ((x3 + (4 : Int32))).toNatClampNeg), .inl (q15.2.2.2.2.2.2 ((x3 + (3 : Int32))).toNatClampNeg), .inl (q15.2.2.2.2.2.2 ((x3 + (2 : Int32))).toNatClampNeg), .inl (q15.2.2.2.2.2.2 ((x3 + (1 : Int32))).toNatClampNeg), .inr (.inr (12, 0)), .inl q15.1]) q15.2
        obtain ⟨q16, hb, h⟩ := bind_some h
        refine Wp.call (WpD.mono _) rfl (T_X12_asks (e + 92) N (q15.2.2.2.2.2.2 ((x3 + (1 : Int32))).toNatClampNeg) (q15.2.2.2.2.2.2 ((x3 + (2 : Int32))).toNatClampNeg) (q15.2.2.2.2.2.2 ((x3 + (3 : Int32))).toNatClampNeg) (q15.2.2.2.2.2.2 ((x3 + (4 : Int32))).toNatClampNeg) q15.2 _ _ _ hb ?_)
        show Wp (WpD (e + 96)) hcL_law Q (517, [some (.inr (.inr (200, 0))), some (.inr (.inr (0, 0))), some (.inr (.inr (12, 0))), some (.inl x3)], [.inl q16.1, .inl q15.1]) q16.2
        refine Wp.if2_eq (WpD.mono _) rfl rfl (fun hc => ?_) (fun hc => ?_)
        · have h := (if_pos hc).symm.trans h
          show Wp (WpD (e + 96)) hcL_law Q (1692, [some (.inr (.inr (200, 0))), some (.inr (.inr (0, 0))), some (.inr (.inr (12, 0))), some (.inl x3)], []) q16.2
          refine Wp.run (WpD.mono _) 1 (q := ((18, [some (.inr (.inr (200, 0))), some (.inr (.inr (0, 0))), some (.inr (.inr (12, 0))), some (.inl (x3 + (6 : Int32)))], []), q16.2)) rfl ?_
          exact Wp.jump (WpD.mono _) rfl (ih (x3 + (6 : Int32)) q16.2 h)
        · have h := (if_neg hc).symm.trans h
          show Wp (WpD (e + 96)) hcL_law Q (520, [some (.inr (.inr (200, 0))), some (.inr (.inr (0, 0))), some (.inr (.inr (12, 0))), some (.inl x3)], []) q16.2
          refine Wp.run (WpD.mono _) 0 (q := ((521, [some (.inr (.inr (200, 0))), some (.inr (.inr (0, 0))), some (.inr (.inr (12, 0))), some (.inl x3)], [.inl (0 : Int32)]), q16.2)) rfl ?_
          obtain ⟨rfl, rfl⟩ := ret_inj h
          exact Wp.ret (WpD.mono _) rfl hQ
      have h := (if_neg hs7).symm.trans h
      by_cases hs8 : ((σ.2.2.2.2.2 (x3).toNatClampNeg) &&& (63 : Int32)) = 8
      · have h := (if_pos hs8).symm.trans h
        refine Wp.swIn (WpD.mono _) (q := ((522, [some (.inr (.inr (200, 0))), some (.inr (.inr (0, 0))), some (.inr (.inr (12, 0))), some (.inl x3)], []), σ)) hs8 rfl ?_
        refine Wp.run (WpD.mono _) 4 (q := ((527, [some (.inr (.inr (200, 0))), some (.inr (.inr (0, 0))), some (.inr (.inr (12, 0))), some (.inl x3)], [.inl (x3 + (1 : Int32)), .inr (.inr (200, 0)), .inr (.inr (0, 0))]), σ)) rfl ?_
        obtain ⟨hc, h⟩ := ite_nn h
        refine Wp.X_ild6 (WpD.mono _) rfl rfl hc ?_
        show Wp (WpD (e + 96)) hcL_law Q (528, [some (.inr (.inr (200, 0))), some (.inr (.inr (0, 0))), some (.inr (.inr (12, 0))), some (.inl x3)], [.inl (σ.2.2.2.2.2 ((x3 + (1 : Int32))).toNatClampNeg), .inr (.inr (0, 0))]) σ
        obtain ⟨q17, hb, h⟩ := bind_some h
        refine Wp.call (WpD.mono _) rfl (T_X11_place (e + 93) N (σ.2.2.2.2.2 ((x3 + (1 : Int32))).toNatClampNeg) σ _ _ _ hb ?_)
        show Wp (WpD (e + 96)) hcL_law Q (531, [some (.inr (.inr (200, 0))), some (.inr (.inr (0, 0))), some (.inr (.inr (12, 0))), some (.inl x3)], [.inl q17.1]) q17.2
        refine Wp.run (WpD.mono _) 4 (q := ((536, [some (.inr (.inr (200, 0))), some (.inr (.inr (0, 0))), some (.inr (.inr (12, 0))), some (.inl x3)], [.inl (x3 + (1 : Int32)), .inr (.inr (200, 0)), .inr (.inr (12, 0)), .inl q17.1]), q17.2)) rfl ?_
        obtain ⟨hc, h⟩ := ite_nn h
        refine Wp.X_ild6 (WpD.mono _) rfl rfl hc ?_
        show Wp (WpD (e + 96)) hcL_law Q (537, [some (.inr (.inr (200, 0))), some (.inr (.inr (0, 0))), some (.inr (.inr (12, 0))), some (.inl x3)], [.inl (q17.2.2.2.2.2.2 ((x3 + (1 : Int32))).toNatClampNeg), .inr (.inr (12, 0)), .inl q17.1]) q17.2
        obtain ⟨q18, hb, h⟩ := bind_some h
        refine Wp.call (WpD.mono _) rfl (T_X12_place (e + 94) N (q17.2.2.2.2.2.2 ((x3 + (1 : Int32))).toNatClampNeg) q17.2 _ _ _ hb ?_)
        show Wp (WpD (e + 96)) hcL_law Q (540, [some (.inr (.inr (200, 0))), some (.inr (.inr (0, 0))), some (.inr (.inr (12, 0))), some (.inl x3)], [.inl q18.1, .inl q17.1]) q18.2
        refine Wp.if2_eq (WpD.mono _) rfl rfl (fun hc => ?_) (fun hc => ?_)
        · have h := (if_pos hc).symm.trans h
          show Wp (WpD (e + 96)) hcL_law Q (1692, [some (.inr (.inr (200, 0))), some (.inr (.inr (0, 0))), some (.inr (.inr (12, 0))), some (.inl x3)], []) q18.2
          refine Wp.run (WpD.mono _) 1 (q := ((18, [some (.inr (.inr (200, 0))), some (.inr (.inr (0, 0))), some (.inr (.inr (12, 0))), some (.inl (x3 + (6 : Int32)))], []), q18.2)) rfl ?_
          exact Wp.jump (WpD.mono _) rfl (ih (x3 + (6 : Int32)) q18.2 h)
        · have h := (if_neg hc).symm.trans h
          show Wp (WpD (e + 96)) hcL_law Q (543, [some (.inr (.inr (200, 0))), some (.inr (.inr (0, 0))), some (.inr (.inr (12, 0))), some (.inl x3)], []) q18.2
          refine Wp.run (WpD.mono _) 0 (q := ((544, [some (.inr (.inr (200, 0))), some (.inr (.inr (0, 0))), some (.inr (.inr (12, 0))), some (.inl x3)], [.inl (0 : Int32)]), q18.2)) rfl ?_
          obtain ⟨rfl, rfl⟩ := ret_inj h
          exact Wp.ret (WpD.mono _) rfl hQ
      have h := (if_neg hs8).symm.trans h
      by_cases hs9 : ((σ.2.2.2.2.2 (x3).toNatClampNeg) &&& (63 : Int32)) = 9
      · have h := (if_pos hs9).symm.trans h
        refine Wp.swIn (WpD.mono _) (q := ((545, [some (.inr (.inr (200, 0))), some (.inr (.inr (0, 0))), some (.inr (.inr (12, 0))), some (.inl x3)], []), σ)) hs9 rfl ?_
        refine Wp.run (WpD.mono _) 4 (q := ((550, [some (.inr (.inr (200, 0))), some (.inr (.inr (0, 0))), some (.inr (.inr (12, 0))), some (.inl x3)], [.inl (x3 + (1 : Int32)), .inr (.inr (200, 0)), .inr (.inr (0, 0))]), σ)) rfl ?_
        obtain ⟨hc, h⟩ := ite_nn h
        refine Wp.X_ild6 (WpD.mono _) rfl rfl hc ?_
        show Wp (WpD (e + 96)) hcL_law Q (551, [some (.inr (.inr (200, 0))), some (.inr (.inr (0, 0))), some (.inr (.inr (12, 0))), some (.inl x3)], [.inl (σ.2.2.2.2.2 ((x3 + (1 : Int32))).toNatClampNeg), .inr (.inr (0, 0))]) σ
        refine Wp.run (WpD.mono _) 3 (q := ((555, [some (.inr (.inr (200, 0))), some (.inr (.inr (0, 0))), some (.inr (.inr (12, 0))), some (.inl x3)], [.inl (x3 + (2 : Int32)), .inr (.inr (200, 0)), .inl (σ.2.2.2.2.2 ((x3 + (1 : Int32))).toNatClampNeg), .inr (.inr (0, 0))]), σ)) rfl ?_
        obtain ⟨hc, h⟩ := ite_nn h
        refine Wp.X_ild6 (WpD.mono _) rfl rfl hc ?_
        show Wp (WpD (e + 96)) hcL_law Q (556, [some (.inr (.inr (200, 0))), some (.inr (.inr (0, 0))), some (.inr (.inr (12, 0))), some (.inl x3)], [.inl (σ.2.2.2.2.2 ((x3 + (2 : Int32))).toNatClampNeg), .inl (σ.2.2.2.2.2 ((x3 + (1 : Int32))).toNatClampNeg), .inr (.inr (0, 0))]) σ
        refine Wp.run (WpD.mono _) 3 (q := ((560, [some (.inr (.inr (200, 0))), some (.inr (.inr (0, 0))), some (.inr (.inr (12, 0))), some (.inl x3)], [.inl (x3 + (3 : Int32)), .inr (.inr (200, 0)), .inl (σ.2.2.2.2.2 ((x3 + (2 : Int32))).toNatClampNeg), .inl (σ.2.2.2.2.2 ((x3 + (1 : Int32))).toNatClampNeg), .inr (.inr (0, 0))]), σ)) rfl ?_
        obtain ⟨hc, h⟩ := ite_nn h
        refine Wp.X_ild6 (WpD.mono _) rfl rfl hc ?_
        show Wp (WpD (e + 96)) hcL_law Q (561, [some (.inr (.inr (200, 0))), some (.inr (.inr (0, 0))), some (.inr (.inr (12, 0))), some (.inl x3)], [.inl (σ.2.2.2.2.2 ((x3 + (3 : Int32))).toNatClampNeg), .inl (σ.2.2.2.2.2 ((x3 + (2 : Int32))).toNatClampNeg), .inl (σ.2.2.2.2.2 ((x3 + (1 : Int32))).toNatClampNeg), .inr (.inr (0, 0))]) σ
        obtain ⟨q19, hb, h⟩ := bind_some h
        refine Wp.call (WpD.mono _) rfl (T_X11_ties (e + 93) N (σ.2.2.2.2.2 ((x3 + (1 : Int32))).toNatClampNeg) (σ.2.2.2.2.2 ((x3 + (2 : Int32))).toNatClampNeg) (σ.2.2.2.2.2 ((x3 + (3 : Int32))).toNatClampNeg) σ _ _ _ hb ?_)
        show Wp (WpD (e + 96)) hcL_law Q (564, [some (.inr (.inr (200, 0))), some (.inr (.inr (0, 0))), some (.inr (.inr (12, 0))), some (.inl x3)], [.inl q19.1]) q19.2
        refine Wp.run (WpD.mono _) 4 (q := ((569, [some (.inr (.inr (200, 0))), some (.inr (.inr (0, 0))), some (.inr (.inr (12, 0))), some (.inl x3)], [.inl (x3 + (1 : Int32)), .inr (.inr (200, 0)), .inr (.inr (12, 0)), .inl q19.1]), q19.2)) rfl ?_
        obtain ⟨hc, h⟩ := ite_nn h
        refine Wp.X_ild6 (WpD.mono _) rfl rfl hc ?_
        show Wp (WpD (e + 96)) hcL_law Q (570, [some (.inr (.inr (200, 0))), some (.inr (.inr (0, 0))), some (.inr (.inr (12, 0))), some (.inl x3)], [.inl (q19.2.2.2.2.2.2 ((x3 + (1 : Int32))).toNatClampNeg), .inr (.inr (12, 0)), .inl q19.1]) q19.2
        refine Wp.run (WpD.mono _) 3 (q := ((574, [some (.inr (.inr (200, 0))), some (.inr (.inr (0, 0))), some (.inr (.inr (12, 0))), some (.inl x3)], [.inl (x3 + (2 : Int32)), .inr (.inr (200, 0)), .inl (q19.2.2.2.2.2.2 ((x3 + (1 : Int32))).toNatClampNeg), .inr (.inr (12, 0)), .inl q19.1]), q19.2)) rfl ?_
        obtain ⟨hc, h⟩ := ite_nn h
        refine Wp.X_ild6 (WpD.mono _) rfl rfl hc ?_
        show Wp (WpD (e + 96)) hcL_law Q (575, [some (.inr (.inr (200, 0))), some (.inr (.inr (0, 0))), some (.inr (.inr (12, 0))), some (.inl x3)], [.inl (q19.2.2.2.2.2.2 ((x3 + (2 : Int32))).toNatClampNeg), .inl (q19.2.2.2.2.2.2 ((x3 + (1 : Int32))).toNatClampNeg), .inr (.inr (12, 0)), .inl q19.1]) q19.2
        refine Wp.run (WpD.mono _) 3 (q := ((579, [some (.inr (.inr (200, 0))), some (.inr (.inr (0, 0))), some (.inr (.inr (12, 0))), some (.inl x3)], [.inl (x3 + (3 : Int32)), .inr (.inr (200, 0)), .inl (q19.2.2.2.2.2.2 ((x3 + (2 : Int32))).toNatClampNeg), .inl (q19.2.2.2.2.2.2 ((x3 + (1 : Int32))).toNatClampNeg), .inr (.inr (12, 0)), .inl q19.1]), q19.2)) rfl ?_
        obtain ⟨hc, h⟩ := ite_nn h
        refine Wp.X_ild6 (WpD.mono _) rfl rfl hc ?_
        show Wp (WpD (e + 96)) hcL_law Q (580, [some (.inr (.inr (200, 0))), some (.inr (.inr (0, 0))), some (.inr (.inr (12, 0))), some (.inl x3)], [.inl (q19.2.2.2.2.2.2 ((x3 + (3 : Int32))).toNatClampNeg), .inl (q19.2.2.2.2.2.2 ((x3 + (2 : Int32))).toNatClampNeg), .inl (q19.2.2.2.2.2.2 ((x3 + (1 : Int32))).toNatClampNeg), .inr (.inr (12, 0)), .inl q19.1]) q19.2
        obtain ⟨q20, hb, h⟩ := bind_some h
        refine Wp.call (WpD.mono _) rfl (T_X12_ties (e + 93) N (q19.2.2.2.2.2.2 ((x3 + (1 : Int32))).toNatClampNeg) (q19.2.2.2.2.2.2 ((x3 + (2 : Int32))).toNatClampNeg) (q19.2.2.2.2.2.2 ((x3 + (3 : Int32))).toNatClampNeg) q19.2 _ _ _ hb ?_)
        show Wp (WpD (e + 96)) hcL_law Q (583, [some (.inr (.inr (200, 0))), some (.inr (.inr (0, 0))), some (.inr (.inr (12, 0))), some (.inl x3)], [.inl q20.1, .inl q19.1]) q20.2
        refine Wp.if2_eq (WpD.mono _) rfl rfl (fun hc => ?_) (fun hc => ?_)
        · have h := (if_pos hc).symm.trans h
          show Wp (WpD (e + 96)) hcL_law Q (1692, [some (.inr (.inr (200, 0))), some (.inr (.inr (0, 0))), some (.inr (.inr (12, 0))), some (.inl x3)], []) q20.2
          refine Wp.run (WpD.mono _) 1 (q := ((18, [some (.inr (.inr (200, 0))), some (.inr (.inr (0, 0))), some (.inr (.inr (12, 0))), some (.inl (x3 + (6 : Int32)))], []), q20.2)) rfl ?_
          exact Wp.jump (WpD.mono _) rfl (ih (x3 + (6 : Int32)) q20.2 h)
        · have h := (if_neg hc).symm.trans h
          show Wp (WpD (e + 96)) hcL_law Q (586, [some (.inr (.inr (200, 0))), some (.inr (.inr (0, 0))), some (.inr (.inr (12, 0))), some (.inl x3)], []) q20.2
          refine Wp.run (WpD.mono _) 0 (q := ((587, [some (.inr (.inr (200, 0))), some (.inr (.inr (0, 0))), some (.inr (.inr (12, 0))), some (.inl x3)], [.inl (0 : Int32)]), q20.2)) rfl ?_
          obtain ⟨rfl, rfl⟩ := ret_inj h
          exact Wp.ret (WpD.mono _) rfl hQ
      have h := (if_neg hs9).symm.trans h
      by_cases hs10 : ((σ.2.2.2.2.2 (x3).toNatClampNeg) &&& (63 : Int32)) = 10
      · have h := (if_pos hs10).symm.trans h
        refine Wp.swIn (WpD.mono _) (q := ((588, [some (.inr (.inr (200, 0))), some (.inr (.inr (0, 0))), some (.inr (.inr (12, 0))), some (.inl x3)], []), σ)) hs10 rfl ?_
        refine Wp.run (WpD.mono _) 4 (q := ((593, [some (.inr (.inr (200, 0))), some (.inr (.inr (0, 0))), some (.inr (.inr (12, 0))), some (.inl x3)], [.inl (x3 + (1 : Int32)), .inr (.inr (200, 0)), .inr (.inr (0, 0))]), σ)) rfl ?_
        obtain ⟨hc, h⟩ := ite_nn h
        refine Wp.X_ild6 (WpD.mono _) rfl rfl hc ?_
        show Wp (WpD (e + 96)) hcL_law Q (594, [some (.inr (.inr (200, 0))), some (.inr (.inr (0, 0))), some (.inr (.inr (12, 0))), some (.inl x3)], [.inl (σ.2.2.2.2.2 ((x3 + (1 : Int32))).toNatClampNeg), .inr (.inr (0, 0))]) σ
        refine Wp.run (WpD.mono _) 3 (q := ((598, [some (.inr (.inr (200, 0))), some (.inr (.inr (0, 0))), some (.inr (.inr (12, 0))), some (.inl x3)], [.inl (x3 + (2 : Int32)), .inr (.inr (200, 0)), .inl (σ.2.2.2.2.2 ((x3 + (1 : Int32))).toNatClampNeg), .inr (.inr (0, 0))]), σ)) rfl ?_
        obtain ⟨hc, h⟩ := ite_nn h
        refine Wp.X_ild6 (WpD.mono _) rfl rfl hc ?_
        show Wp (WpD (e + 96)) hcL_law Q (599, [some (.inr (.inr (200, 0))), some (.inr (.inr (0, 0))), some (.inr (.inr (12, 0))), some (.inl x3)], [.inl (σ.2.2.2.2.2 ((x3 + (2 : Int32))).toNatClampNeg), .inl (σ.2.2.2.2.2 ((x3 + (1 : Int32))).toNatClampNeg), .inr (.inr (0, 0))]) σ
        obtain ⟨q21, hb, h⟩ := bind_some h
        refine Wp.call (WpD.mono _) rfl (T_X11_dig (e + 93) N (σ.2.2.2.2.2 ((x3 + (1 : Int32))).toNatClampNeg) (σ.2.2.2.2.2 ((x3 + (2 : Int32))).toNatClampNeg) σ _ _ _ hb ?_)
        show Wp (WpD (e + 96)) hcL_law Q (602, [some (.inr (.inr (200, 0))), some (.inr (.inr (0, 0))), some (.inr (.inr (12, 0))), some (.inl x3)], [.inl q21.1]) q21.2
        refine Wp.run (WpD.mono _) 4 (q := ((607, [some (.inr (.inr (200, 0))), some (.inr (.inr (0, 0))), some (.inr (.inr (12, 0))), some (.inl x3)], [.inl (x3 + (1 : Int32)), .inr (.inr (200, 0)), .inr (.inr (12, 0)), .inl q21.1]), q21.2)) rfl ?_
        obtain ⟨hc, h⟩ := ite_nn h
        refine Wp.X_ild6 (WpD.mono _) rfl rfl hc ?_
        show Wp (WpD (e + 96)) hcL_law Q (608, [some (.inr (.inr (200, 0))), some (.inr (.inr (0, 0))), some (.inr (.inr (12, 0))), some (.inl x3)], [.inl (q21.2.2.2.2.2.2 ((x3 + (1 : Int32))).toNatClampNeg), .inr (.inr (12, 0)), .inl q21.1]) q21.2
        refine Wp.run (WpD.mono _) 3 (q := ((612, [some (.inr (.inr (200, 0))), some (.inr (.inr (0, 0))), some (.inr (.inr (12, 0))), some (.inl x3)], [.inl (x3 + (2 : Int32)), .inr (.inr (200, 0)), .inl (q21.2.2.2.2.2.2 ((x3 + (1 : Int32))).toNatClampNeg), .inr (.inr (12, 0)), .inl q21.1]), q21.2)) rfl ?_
        obtain ⟨hc, h⟩ := ite_nn h
        refine Wp.X_ild6 (WpD.mono _) rfl rfl hc ?_
        show Wp (WpD (e + 96)) hcL_law Q (613, [some (.inr (.inr (200, 0))), some (.inr (.inr (0, 0))), some (.inr (.inr (12, 0))), some (.inl x3)], [.inl (q21.2.2.2.2.2.2 ((x3 + (2 : Int32))).toNatClampNeg), .inl (q21.2.2.2.2.2.2 ((x3 + (1 : Int32))).toNatClampNeg), .inr (.inr (12, 0)), .inl q21.1]) q21.2
        obtain ⟨q22, hb, h⟩ := bind_some h
        refine Wp.call (WpD.mono _) rfl (T_X12_dig (e + 93) N (q21.2.2.2.2.2.2 ((x3 + (1 : Int32))).toNatClampNeg) (q21.2.2.2.2.2.2 ((x3 + (2 : Int32))).toNatClampNeg) q21.2 _ _ _ hb ?_)
        show Wp (WpD (e + 96)) hcL_law Q (616, [some (.inr (.inr (200, 0))), some (.inr (.inr (0, 0))), some (.inr (.inr (12, 0))), some (.inl x3)], [.inl q22.1, .inl q21.1]) q22.2
        refine Wp.if2_eq (WpD.mono _) rfl rfl (fun hc => ?_) (fun hc => ?_)
        · have h := (if_pos hc).symm.trans h
          show Wp (WpD (e + 96)) hcL_law Q (1692, [some (.inr (.inr (200, 0))), some (.inr (.inr (0, 0))), some (.inr (.inr (12, 0))), some (.inl x3)], []) q22.2
          refine Wp.run (WpD.mono _) 1 (q := ((18, [some (.inr (.inr (200, 0))), some (.inr (.inr (0, 0))), some (.inr (.inr (12, 0))), some (.inl (x3 + (6 : Int32)))], []), q22.2)) rfl ?_
          exact Wp.jump (WpD.mono _) rfl (ih (x3 + (6 : Int32)) q22.2 h)
        · have h := (if_neg hc).symm.trans h
          show Wp (WpD (e + 96)) hcL_law Q (619, [some (.inr (.inr (200, 0))), some (.inr (.inr (0, 0))), some (.inr (.inr (12, 0))), some (.inl x3)], []) q22.2
          refine Wp.run (WpD.mono _) 0 (q := ((620, [some (.inr (.inr (200, 0))), some (.inr (.inr (0, 0))), some (.inr (.inr (12, 0))), some (.inl x3)], [.inl (0 : Int32)]), q22.2)) rfl ?_
          obtain ⟨rfl, rfl⟩ := ret_inj h
          exact Wp.ret (WpD.mono _) rfl hQ
      have h := (if_neg hs10).symm.trans h
      by_cases hs11 : ((σ.2.2.2.2.2 (x3).toNatClampNeg) &&& (63 : Int32)) = 11
      · have h := (if_pos hs11).symm.trans h
        refine Wp.swIn (WpD.mono _) (q := ((621, [some (.inr (.inr (200, 0))), some (.inr (.inr (0, 0))), some (.inr (.inr (12, 0))), some (.inl x3)], []), σ)) hs11 rfl ?_
        refine Wp.run (WpD.mono _) 4 (q := ((626, [some (.inr (.inr (200, 0))), some (.inr (.inr (0, 0))), some (.inr (.inr (12, 0))), some (.inl x3)], [.inl (x3 + (1 : Int32)), .inr (.inr (200, 0)), .inr (.inr (0, 0))]), σ)) rfl ?_
        obtain ⟨hc, h⟩ := ite_nn h
        refine Wp.X_ild6 (WpD.mono _) rfl rfl hc ?_
        show Wp (WpD (e + 96)) hcL_law Q (627, [some (.inr (.inr (200, 0))), some (.inr (.inr (0, 0))), some (.inr (.inr (12, 0))), some (.inl x3)], [.inl (σ.2.2.2.2.2 ((x3 + (1 : Int32))).toNatClampNeg), .inr (.inr (0, 0))]) σ
        obtain ⟨q23, hb, h⟩ := bind_some h
        refine Wp.call (WpD.mono _) rfl (T_X11_fill (e + 93) N (σ.2.2.2.2.2 ((x3 + (1 : Int32))).toNatClampNeg) σ _ _ _ hb ?_)
        show Wp (WpD (e + 96)) hcL_law Q (630, [some (.inr (.inr (200, 0))), some (.inr (.inr (0, 0))), some (.inr (.inr (12, 0))), some (.inl x3)], [.inl q23.1]) q23.2
        refine Wp.run (WpD.mono _) 4 (q := ((635, [some (.inr (.inr (200, 0))), some (.inr (.inr (0, 0))), some (.inr (.inr (12, 0))), some (.inl x3)], [.inl (x3 + (1 : Int32)), .inr (.inr (200, 0)), .inr (.inr (12, 0)), .inl q23.1]), q23.2)) rfl ?_
        obtain ⟨hc, h⟩ := ite_nn h
        refine Wp.X_ild6 (WpD.mono _) rfl rfl hc ?_
        show Wp (WpD (e + 96)) hcL_law Q (636, [some (.inr (.inr (200, 0))), some (.inr (.inr (0, 0))), some (.inr (.inr (12, 0))), some (.inl x3)], [.inl (q23.2.2.2.2.2.2 ((x3 + (1 : Int32))).toNatClampNeg), .inr (.inr (12, 0)), .inl q23.1]) q23.2
        obtain ⟨q24, hb, h⟩ := bind_some h
        refine Wp.call (WpD.mono _) rfl (T_X12_fill (e + 93) N (q23.2.2.2.2.2.2 ((x3 + (1 : Int32))).toNatClampNeg) q23.2 _ _ _ hb ?_)
        show Wp (WpD (e + 96)) hcL_law Q (639, [some (.inr (.inr (200, 0))), some (.inr (.inr (0, 0))), some (.inr (.inr (12, 0))), some (.inl x3)], [.inl q24.1, .inl q23.1]) q24.2
        refine Wp.if2_eq (WpD.mono _) rfl rfl (fun hc => ?_) (fun hc => ?_)
        · have h := (if_pos hc).symm.trans h
          show Wp (WpD (e + 96)) hcL_law Q (1692, [some (.inr (.inr (200, 0))), some (.inr (.inr (0, 0))), some (.inr (.inr (12, 0))), some (.inl x3)], []) q24.2
          refine Wp.run (WpD.mono _) 1 (q := ((18, [some (.inr (.inr (200, 0))), some (.inr (.inr (0, 0))), some (.inr (.inr (12, 0))), some (.inl (x3 + (6 : Int32)))], []), q24.2)) rfl ?_
          exact Wp.jump (WpD.mono _) rfl (ih (x3 + (6 : Int32)) q24.2 h)
        · have h := (if_neg hc).symm.trans h
          show Wp (WpD (e + 96)) hcL_law Q (642, [some (.inr (.inr (200, 0))), some (.inr (.inr (0, 0))), some (.inr (.inr (12, 0))), some (.inl x3)], []) q24.2
          refine Wp.run (WpD.mono _) 0 (q := ((643, [some (.inr (.inr (200, 0))), some (.inr (.inr (0, 0))), some (.inr (.inr (12, 0))), some (.inl x3)], [.inl (0 : Int32)]), q24.2)) rfl ?_
          obtain ⟨rfl, rfl⟩ := ret_inj h
          exact Wp.ret (WpD.mono _) rfl hQ
      have h := (if_neg hs11).symm.trans h
      by_cases hs12 : ((σ.2.2.2.2.2 (x3).toNatClampNeg) &&& (63 : Int32)) = 12
      · have h := (if_pos hs12).symm.trans h
        refine Wp.swIn (WpD.mono _) (q := ((644, [some (.inr (.inr (200, 0))), some (.inr (.inr (0, 0))), some (.inr (.inr (12, 0))), some (.inl x3)], []), σ)) hs12 rfl ?_
        refine Wp.run (WpD.mono _) 4 (q := ((649, [some (.inr (.inr (200, 0))), some (.inr (.inr (0, 0))), some (.inr (.inr (12, 0))), some (.inl x3)], [.inl (x3 + (1 : Int32)), .inr (.inr (200, 0)), .inr (.inr (0, 0))]), σ)) rfl ?_
        obtain ⟨hc, h⟩ := ite_nn h
        refine Wp.X_ild6 (WpD.mono _) rfl rfl hc ?_
        show Wp (WpD (e + 96)) hcL_law Q (650, [some (.inr (.inr (200, 0))), some (.inr (.inr (0, 0))), some (.inr (.inr (12, 0))), some (.inl x3)], [.inl (σ.2.2.2.2.2 ((x3 + (1 : Int32))).toNatClampNeg), .inr (.inr (0, 0))]) σ
        refine Wp.run (WpD.mono _) 3 (q := ((654, [some (.inr (.inr (200, 0))), some (.inr (.inr (0, 0))), some (.inr (.inr (12, 0))), some (.inl x3)], [.inl (x3 + (2 : Int32)), .inr (.inr (200, 0)), .inl (σ.2.2.2.2.2 ((x3 + (1 : Int32))).toNatClampNeg), .inr (.inr (0, 0))]), σ)) rfl ?_
        obtain ⟨hc, h⟩ := ite_nn h
        refine Wp.X_ild6 (WpD.mono _) rfl rfl hc ?_
        show Wp (WpD (e + 96)) hcL_law Q (655, [some (.inr (.inr (200, 0))), some (.inr (.inr (0, 0))), some (.inr (.inr (12, 0))), some (.inl x3)], [.inl (σ.2.2.2.2.2 ((x3 + (2 : Int32))).toNatClampNeg), .inl (σ.2.2.2.2.2 ((x3 + (1 : Int32))).toNatClampNeg), .inr (.inr (0, 0))]) σ
        obtain ⟨q25, hb, h⟩ := bind_some h
        refine Wp.call (WpD.mono _) rfl (T_X11_told (e + 93) N (σ.2.2.2.2.2 ((x3 + (1 : Int32))).toNatClampNeg) (σ.2.2.2.2.2 ((x3 + (2 : Int32))).toNatClampNeg) σ _ _ _ hb ?_)
        show Wp (WpD (e + 96)) hcL_law Q (658, [some (.inr (.inr (200, 0))), some (.inr (.inr (0, 0))), some (.inr (.inr (12, 0))), some (.inl x3)], [.inl q25.1]) q25.2
        refine Wp.run (WpD.mono _) 4 (q := ((663, [some (.inr (.inr (200, 0))), some (.inr (.inr (0, 0))), some (.inr (.inr (12, 0))), some (.inl x3)], [.inl (x3 + (1 : Int32)), .inr (.inr (200, 0)), .inr (.inr (12, 0)), .inl q25.1]), q25.2)) rfl ?_
        obtain ⟨hc, h⟩ := ite_nn h
        refine Wp.X_ild6 (WpD.mono _) rfl rfl hc ?_
        show Wp (WpD (e + 96)) hcL_law Q (664, [some (.inr (.inr (200, 0))), some (.inr (.inr (0, 0))), some (.inr (.inr (12, 0))), some (.inl x3)], [.inl (q25.2.2.2.2.2.2 ((x3 + (1 : Int32))).toNatClampNeg), .inr (.inr (12, 0)), .inl q25.1]) q25.2
        refine Wp.run (WpD.mono _) 3 (q := ((668, [some (.inr (.inr (200, 0))), some (.inr (.inr (0, 0))), some (.inr (.inr (12, 0))), some (.inl x3)], [.inl (x3 + (2 : Int32)), .inr (.inr (200, 0)), .inl (q25.2.2.2.2.2.2 ((x3 + (1 : Int32))).toNatClampNeg), .inr (.inr (12, 0)), .inl q25.1]), q25.2)) rfl ?_
        obtain ⟨hc, h⟩ := ite_nn h
        refine Wp.X_ild6 (WpD.mono _) rfl rfl hc ?_
        show Wp (WpD (e + 96)) hcL_law Q (669, [some (.inr (.inr (200, 0))), some (.inr (.inr (0, 0))), some (.inr (.inr (12, 0))), some (.inl x3)], [.inl (q25.2.2.2.2.2.2 ((x3 + (2 : Int32))).toNatClampNeg), .inl (q25.2.2.2.2.2.2 ((x3 + (1 : Int32))).toNatClampNeg), .inr (.inr (12, 0)), .inl q25.1]) q25.2
        obtain ⟨q26, hb, h⟩ := bind_some h
        refine Wp.call (WpD.mono _) rfl (T_X12_told (e + 93) N (q25.2.2.2.2.2.2 ((x3 + (1 : Int32))).toNatClampNeg) (q25.2.2.2.2.2.2 ((x3 + (2 : Int32))).toNatClampNeg) q25.2 _ _ _ hb ?_)
        show Wp (WpD (e + 96)) hcL_law Q (672, [some (.inr (.inr (200, 0))), some (.inr (.inr (0, 0))), some (.inr (.inr (12, 0))), some (.inl x3)], [.inl q26.1, .inl q25.1]) q26.2
        refine Wp.if2_eq (WpD.mono _) rfl rfl (fun hc => ?_) (fun hc => ?_)
        · have h := (if_pos hc).symm.trans h
          show Wp (WpD (e + 96)) hcL_law Q (1692, [some (.inr (.inr (200, 0))), some (.inr (.inr (0, 0))), some (.inr (.inr (12, 0))), some (.inl x3)], []) q26.2
          refine Wp.run (WpD.mono _) 1 (q := ((18, [some (.inr (.inr (200, 0))), some (.inr (.inr (0, 0))), some (.inr (.inr (12, 0))), some (.inl (x3 + (6 : Int32)))], []), q26.2)) rfl ?_
          exact Wp.jump (WpD.mono _) rfl (ih (x3 + (6 : Int32)) q26.2 h)
        · have h := (if_neg hc).symm.trans h
          show Wp (WpD (e + 96)) hcL_law Q (675, [some (.inr (.inr (200, 0))), some (.inr (.inr (0, 0))), some (.inr (.inr (12, 0))), some (.inl x3)], []) q26.2
          refine Wp.run (WpD.mono _) 0 (q := ((676, [some (.inr (.inr (200, 0))), some (.inr (.inr (0, 0))), some (.inr (.inr (12, 0))), some (.inl x3)], [.inl (0 : Int32)]), q26.2)) rfl ?_
          obtain ⟨rfl, rfl⟩ := ret_inj h
          exact Wp.ret (WpD.mono _) rfl hQ
      have h := (if_neg hs12).symm.trans h
      by_cases hs13 : ((σ.2.2.2.2.2 (x3).toNatClampNeg) &&& (63 : Int32)) = 13
      · have h := (if_pos hs13).symm.trans h
        refine Wp.swIn (WpD.mono _) (q := ((677, [some (.inr (.inr (200, 0))), some (.inr (.inr (0, 0))), some (.inr (.inr (12, 0))), some (.inl x3)], []), σ)) hs13 rfl ?_
        refine Wp.run (WpD.mono _) 4 (q := ((682, [some (.inr (.inr (200, 0))), some (.inr (.inr (0, 0))), some (.inr (.inr (12, 0))), some (.inl x3)], [.inl (x3 + (1 : Int32)), .inr (.inr (200, 0)), .inr (.inr (0, 0))]), σ)) rfl ?_
        obtain ⟨hc, h⟩ := ite_nn h
        refine Wp.X_ild6 (WpD.mono _) rfl rfl hc ?_
        show Wp (WpD (e + 96)) hcL_law Q (683, [some (.inr (.inr (200, 0))), some (.inr (.inr (0, 0))), some (.inr (.inr (12, 0))), some (.inl x3)], [.inl (σ.2.2.2.2.2 ((x3 + (1 : Int32))).toNatClampNeg), .inr (.inr (0, 0))]) σ
        refine Wp.run (WpD.mono _) 3 (q := ((687, [some (.inr (.inr (200, 0))), some (.inr (.inr (0, 0))), some (.inr (.inr (12, 0))), some (.inl x3)], [.inl (x3 + (2 : Int32)), .inr (.inr (200, 0)), .inl (σ.2.2.2.2.2 ((x3 + (1 : Int32))).toNatClampNeg), .inr (.inr (0, 0))]), σ)) rfl ?_
        obtain ⟨hc, h⟩ := ite_nn h
        refine Wp.X_ild6 (WpD.mono _) rfl rfl hc ?_
        show Wp (WpD (e + 96)) hcL_law Q (688, [some (.inr (.inr (200, 0))), some (.inr (.inr (0, 0))), some (.inr (.inr (12, 0))), some (.inl x3)], [.inl (σ.2.2.2.2.2 ((x3 + (2 : Int32))).toNatClampNeg), .inl (σ.2.2.2.2.2 ((x3 + (1 : Int32))).toNatClampNeg), .inr (.inr (0, 0))]) σ
        obtain ⟨q27, hb, h⟩ := bind_some h
        refine Wp.call (WpD.mono _) rfl (T_X11_think (e + 92) N (σ.2.2.2.2.2 ((x3 + (1 : Int32))).toNatClampNeg) (σ.2.2.2.2.2 ((x3 + (2 : Int32))).toNatClampNeg) σ _ _ _ hb ?_)
        show Wp (WpD (e + 96)) hcL_law Q (691, [some (.inr (.inr (200, 0))), some (.inr (.inr (0, 0))), some (.inr (.inr (12, 0))), some (.inl x3)], [.inr (.inl q27.1)]) q27.2
        refine Wp.run (WpD.mono _) 4 (q := ((696, [some (.inr (.inr (200, 0))), some (.inr (.inr (0, 0))), some (.inr (.inr (12, 0))), some (.inl x3)], [.inl (x3 + (1 : Int32)), .inr (.inr (200, 0)), .inr (.inr (12, 0)), .inr (.inl q27.1)]), q27.2)) rfl ?_
        obtain ⟨hc, h⟩ := ite_nn h
        refine Wp.X_ild6 (WpD.mono _) rfl rfl hc ?_
        show Wp (WpD (e + 96)) hcL_law Q (697, [some (.inr (.inr (200, 0))), some (.inr (.inr (0, 0))), some (.inr (.inr (12, 0))), some (.inl x3)], [.inl (q27.2.2.2.2.2.2 ((x3 + (1 : Int32))).toNatClampNeg), .inr (.inr (12, 0)), .inr (.inl q27.1)]) q27.2
        refine Wp.run (WpD.mono _) 3 (q := ((701, [some (.inr (.inr (200, 0))), some (.inr (.inr (0, 0))), some (.inr (.inr (12, 0))), some (.inl x3)], [.inl (x3 + (2 : Int32)), .inr (.inr (200, 0)), .inl (q27.2.2.2.2.2.2 ((x3 + (1 : Int32))).toNatClampNeg), .inr (.inr (12, 0)), .inr (.inl q27.1)]), q27.2)) rfl ?_
        obtain ⟨hc, h⟩ := ite_nn h
        refine Wp.X_ild6 (WpD.mono _) rfl rfl hc ?_
        show Wp (WpD (e + 96)) hcL_law Q (702, [some (.inr (.inr (200, 0))), some (.inr (.inr (0, 0))), some (.inr (.inr (12, 0))), some (.inl x3)], [.inl (q27.2.2.2.2.2.2 ((x3 + (2 : Int32))).toNatClampNeg), .inl (q27.2.2.2.2.2.2 ((x3 + (1 : Int32))).toNatClampNeg), .inr (.inr (12, 0)), .inr (.inl q27.1)]) q27.2
        obtain ⟨q28, hb, h⟩ := bind_some h
        refine Wp.call (WpD.mono _) rfl (T_X12_think (e + 90) N (q27.2.2.2.2.2.2 ((x3 + (1 : Int32))).toNatClampNeg) (q27.2.2.2.2.2.2 ((x3 + (2 : Int32))).toNatClampNeg) q27.2 _ _ _ hb ?_)
        show Wp (WpD (e + 96)) hcL_law Q (705, [some (.inr (.inr (200, 0))), some (.inr (.inr (0, 0))), some (.inr (.inr (12, 0))), some (.inl x3)], [.inr (.inl q28.1), .inr (.inl q27.1)]) q28.2
        refine Wp.run (WpD.mono _) 0 (q := ((706, [some (.inr (.inr (200, 0))), some (.inr (.inr (0, 0))), some (.inr (.inr (12, 0))), some (.inl x3)], [.inl (lg_cmp q27.1 q28.1)]), q28.2)) rfl ?_
        refine Wp.if0_eq (WpD.mono _) rfl rfl (fun hc => ?_) (fun hc => ?_)
        · have h := (if_pos hc).symm.trans h
          show Wp (WpD (e + 96)) hcL_law Q (1692, [some (.inr (.inr (200, 0))), some (.inr (.inr (0, 0))), some (.inr (.inr (12, 0))), some (.inl x3)], []) q28.2
          refine Wp.run (WpD.mono _) 1 (q := ((18, [some (.inr (.inr (200, 0))), some (.inr (.inr (0, 0))), some (.inr (.inr (12, 0))), some (.inl (x3 + (6 : Int32)))], []), q28.2)) rfl ?_
          exact Wp.jump (WpD.mono _) rfl (ih (x3 + (6 : Int32)) q28.2 h)
        · have h := (if_neg hc).symm.trans h
          show Wp (WpD (e + 96)) hcL_law Q (709, [some (.inr (.inr (200, 0))), some (.inr (.inr (0, 0))), some (.inr (.inr (12, 0))), some (.inl x3)], []) q28.2
          refine Wp.run (WpD.mono _) 0 (q := ((710, [some (.inr (.inr (200, 0))), some (.inr (.inr (0, 0))), some (.inr (.inr (12, 0))), some (.inl x3)], [.inl (0 : Int32)]), q28.2)) rfl ?_
          obtain ⟨rfl, rfl⟩ := ret_inj h
          exact Wp.ret (WpD.mono _) rfl hQ
      have h := (if_neg hs13).symm.trans h
      by_cases hs14 : ((σ.2.2.2.2.2 (x3).toNatClampNeg) &&& (63 : Int32)) = 14
      · have h := (if_pos hs14).symm.trans h
        refine Wp.swIn (WpD.mono _) (q := ((711, [some (.inr (.inr (200, 0))), some (.inr (.inr (0, 0))), some (.inr (.inr (12, 0))), some (.inl x3)], []), σ)) hs14 rfl ?_
        refine Wp.run (WpD.mono _) 4 (q := ((716, [some (.inr (.inr (200, 0))), some (.inr (.inr (0, 0))), some (.inr (.inr (12, 0))), some (.inl x3)], [.inl (x3 + (1 : Int32)), .inr (.inr (200, 0)), .inr (.inr (0, 0))]), σ)) rfl ?_
        obtain ⟨hc, h⟩ := ite_nn h
        refine Wp.X_ild6 (WpD.mono _) rfl rfl hc ?_
        show Wp (WpD (e + 96)) hcL_law Q (717, [some (.inr (.inr (200, 0))), some (.inr (.inr (0, 0))), some (.inr (.inr (12, 0))), some (.inl x3)], [.inl (σ.2.2.2.2.2 ((x3 + (1 : Int32))).toNatClampNeg), .inr (.inr (0, 0))]) σ
        obtain ⟨q29, hb, h⟩ := bind_some h
        refine Wp.call (WpD.mono _) rfl (T_X11_likely (e + 92) N (σ.2.2.2.2.2 ((x3 + (1 : Int32))).toNatClampNeg) σ _ _ _ hb ?_)
        show Wp (WpD (e + 96)) hcL_law Q (720, [some (.inr (.inr (200, 0))), some (.inr (.inr (0, 0))), some (.inr (.inr (12, 0))), some (.inl x3)], [.inr (.inl q29.1)]) q29.2
        refine Wp.run (WpD.mono _) 4 (q := ((725, [some (.inr (.inr (200, 0))), some (.inr (.inr (0, 0))), some (.inr (.inr (12, 0))), some (.inl x3)], [.inl (x3 + (1 : Int32)), .inr (.inr (200, 0)), .inr (.inr (12, 0)), .inr (.inl q29.1)]), q29.2)) rfl ?_
        obtain ⟨hc, h⟩ := ite_nn h
        refine Wp.X_ild6 (WpD.mono _) rfl rfl hc ?_
        show Wp (WpD (e + 96)) hcL_law Q (726, [some (.inr (.inr (200, 0))), some (.inr (.inr (0, 0))), some (.inr (.inr (12, 0))), some (.inl x3)], [.inl (q29.2.2.2.2.2.2 ((x3 + (1 : Int32))).toNatClampNeg), .inr (.inr (12, 0)), .inr (.inl q29.1)]) q29.2
        obtain ⟨q30, hb, h⟩ := bind_some h
        refine Wp.call (WpD.mono _) rfl (T_X12_likely (e + 90) N (q29.2.2.2.2.2.2 ((x3 + (1 : Int32))).toNatClampNeg) q29.2 _ _ _ hb ?_)
        show Wp (WpD (e + 96)) hcL_law Q (729, [some (.inr (.inr (200, 0))), some (.inr (.inr (0, 0))), some (.inr (.inr (12, 0))), some (.inl x3)], [.inr (.inl q30.1), .inr (.inl q29.1)]) q30.2
        refine Wp.run (WpD.mono _) 0 (q := ((730, [some (.inr (.inr (200, 0))), some (.inr (.inr (0, 0))), some (.inr (.inr (12, 0))), some (.inl x3)], [.inl (lg_cmp q29.1 q30.1)]), q30.2)) rfl ?_
        refine Wp.if0_eq (WpD.mono _) rfl rfl (fun hc => ?_) (fun hc => ?_)
        · have h := (if_pos hc).symm.trans h
          show Wp (WpD (e + 96)) hcL_law Q (1692, [some (.inr (.inr (200, 0))), some (.inr (.inr (0, 0))), some (.inr (.inr (12, 0))), some (.inl x3)], []) q30.2
          refine Wp.run (WpD.mono _) 1 (q := ((18, [some (.inr (.inr (200, 0))), some (.inr (.inr (0, 0))), some (.inr (.inr (12, 0))), some (.inl (x3 + (6 : Int32)))], []), q30.2)) rfl ?_
          exact Wp.jump (WpD.mono _) rfl (ih (x3 + (6 : Int32)) q30.2 h)
        · have h := (if_neg hc).symm.trans h
          show Wp (WpD (e + 96)) hcL_law Q (733, [some (.inr (.inr (200, 0))), some (.inr (.inr (0, 0))), some (.inr (.inr (12, 0))), some (.inl x3)], []) q30.2
          refine Wp.run (WpD.mono _) 0 (q := ((734, [some (.inr (.inr (200, 0))), some (.inr (.inr (0, 0))), some (.inr (.inr (12, 0))), some (.inl x3)], [.inl (0 : Int32)]), q30.2)) rfl ?_
          obtain ⟨rfl, rfl⟩ := ret_inj h
          exact Wp.ret (WpD.mono _) rfl hQ
      have h := (if_neg hs14).symm.trans h
      by_cases hs15 : ((σ.2.2.2.2.2 (x3).toNatClampNeg) &&& (63 : Int32)) = 15
      · have h := (if_pos hs15).symm.trans h
        refine Wp.swIn (WpD.mono _) (q := ((735, [some (.inr (.inr (200, 0))), some (.inr (.inr (0, 0))), some (.inr (.inr (12, 0))), some (.inl x3)], []), σ)) hs15 rfl ?_
        refine Wp.run (WpD.mono _) 4 (q := ((740, [some (.inr (.inr (200, 0))), some (.inr (.inr (0, 0))), some (.inr (.inr (12, 0))), some (.inl x3)], [.inl (x3 + (1 : Int32)), .inr (.inr (200, 0)), .inr (.inr (0, 0))]), σ)) rfl ?_
        obtain ⟨hc, h⟩ := ite_nn h
        refine Wp.X_ild6 (WpD.mono _) rfl rfl hc ?_
        show Wp (WpD (e + 96)) hcL_law Q (741, [some (.inr (.inr (200, 0))), some (.inr (.inr (0, 0))), some (.inr (.inr (12, 0))), some (.inl x3)], [.inl (σ.2.2.2.2.2 ((x3 + (1 : Int32))).toNatClampNeg), .inr (.inr (0, 0))]) σ
        refine Wp.run (WpD.mono _) 3 (q := ((745, [some (.inr (.inr (200, 0))), some (.inr (.inr (0, 0))), some (.inr (.inr (12, 0))), some (.inl x3)], [.inl (x3 + (2 : Int32)), .inr (.inr (200, 0)), .inl (σ.2.2.2.2.2 ((x3 + (1 : Int32))).toNatClampNeg), .inr (.inr (0, 0))]), σ)) rfl ?_
        obtain ⟨hc, h⟩ := ite_nn h
        refine Wp.X_ild6 (WpD.mono _) rfl rfl hc ?_
        show Wp (WpD (e + 96)) hcL_law Q (746, [some (.inr (.inr (200, 0))), some (.inr (.inr (0, 0))), some (.inr (.inr (12, 0))), some (.inl x3)], [.inl (σ.2.2.2.2.2 ((x3 + (2 : Int32))).toNatClampNeg), .inl (σ.2.2.2.2.2 ((x3 + (1 : Int32))).toNatClampNeg), .inr (.inr (0, 0))]) σ
        obtain ⟨q31, hb, h⟩ := bind_some h
        refine Wp.call (WpD.mono _) rfl (T_X11_judge (e + 92) N (σ.2.2.2.2.2 ((x3 + (1 : Int32))).toNatClampNeg) (σ.2.2.2.2.2 ((x3 + (2 : Int32))).toNatClampNeg) σ _ _ _ hb ?_)
        show Wp (WpD (e + 96)) hcL_law Q (749, [some (.inr (.inr (200, 0))), some (.inr (.inr (0, 0))), some (.inr (.inr (12, 0))), some (.inl x3)], [.inl q31.1]) q31.2
        refine Wp.run (WpD.mono _) 4 (q := ((754, [some (.inr (.inr (200, 0))), some (.inr (.inr (0, 0))), some (.inr (.inr (12, 0))), some (.inl x3)], [.inl (x3 + (1 : Int32)), .inr (.inr (200, 0)), .inr (.inr (12, 0)), .inl q31.1]), q31.2)) rfl ?_
        obtain ⟨hc, h⟩ := ite_nn h
        refine Wp.X_ild6 (WpD.mono _) rfl rfl hc ?_
        show Wp (WpD (e + 96)) hcL_law Q (755, [some (.inr (.inr (200, 0))), some (.inr (.inr (0, 0))), some (.inr (.inr (12, 0))), some (.inl x3)], [.inl (q31.2.2.2.2.2.2 ((x3 + (1 : Int32))).toNatClampNeg), .inr (.inr (12, 0)), .inl q31.1]) q31.2
        refine Wp.run (WpD.mono _) 3 (q := ((759, [some (.inr (.inr (200, 0))), some (.inr (.inr (0, 0))), some (.inr (.inr (12, 0))), some (.inl x3)], [.inl (x3 + (2 : Int32)), .inr (.inr (200, 0)), .inl (q31.2.2.2.2.2.2 ((x3 + (1 : Int32))).toNatClampNeg), .inr (.inr (12, 0)), .inl q31.1]), q31.2)) rfl ?_
        obtain ⟨hc, h⟩ := ite_nn h
        refine Wp.X_ild6 (WpD.mono _) rfl rfl hc ?_
        show Wp (WpD (e + 96)) hcL_law Q (760, [some (.inr (.inr (200, 0))), some (.inr (.inr (0, 0))), some (.inr (.inr (12, 0))), some (.inl x3)], [.inl (q31.2.2.2.2.2.2 ((x3 + (2 : Int32))).toNatClampNeg), .inl (q31.2.2.2.2.2.2 ((x3 + (1 : Int32))).toNatClampNeg), .inr (.inr (12, 0)), .inl q31.1]) q31.2
        obtain ⟨q32, hb, h⟩ := bind_some h
        refine Wp.call (WpD.mono _) rfl (T_X12_judge (e + 91) N (q31.2.2.2.2.2.2 ((x3 + (1 : Int32))).toNatClampNeg) (q31.2.2.2.2.2.2 ((x3 + (2 : Int32))).toNatClampNeg) q31.2 _ _ _ hb ?_)
        show Wp (WpD (e + 96)) hcL_law Q (763, [some (.inr (.inr (200, 0))), some (.inr (.inr (0, 0))), some (.inr (.inr (12, 0))), some (.inl x3)], [.inl q32.1, .inl q31.1]) q32.2
        refine Wp.if2_eq (WpD.mono _) rfl rfl (fun hc => ?_) (fun hc => ?_)
        · have h := (if_pos hc).symm.trans h
          show Wp (WpD (e + 96)) hcL_law Q (1692, [some (.inr (.inr (200, 0))), some (.inr (.inr (0, 0))), some (.inr (.inr (12, 0))), some (.inl x3)], []) q32.2
          refine Wp.run (WpD.mono _) 1 (q := ((18, [some (.inr (.inr (200, 0))), some (.inr (.inr (0, 0))), some (.inr (.inr (12, 0))), some (.inl (x3 + (6 : Int32)))], []), q32.2)) rfl ?_
          exact Wp.jump (WpD.mono _) rfl (ih (x3 + (6 : Int32)) q32.2 h)
        · have h := (if_neg hc).symm.trans h
          show Wp (WpD (e + 96)) hcL_law Q (766, [some (.inr (.inr (200, 0))), some (.inr (.inr (0, 0))), some (.inr (.inr (12, 0))), some (.inl x3)], []) q32.2
          refine Wp.run (WpD.mono _) 0 (q := ((767, [some (.inr (.inr (200, 0))), some (.inr (.inr (0, 0))), some (.inr (.inr (12, 0))), some (.inl x3)], [.inl (0 : Int32)]), q32.2)) rfl ?_
          obtain ⟨rfl, rfl⟩ := ret_inj h
          exact Wp.ret (WpD.mono _) rfl hQ
      have h := (if_neg hs15).symm.trans h
      by_cases hs16 : ((σ.2.2.2.2.2 (x3).toNatClampNeg) &&& (63 : Int32)) = 16
      · have h := (if_pos hs16).symm.trans h
        refine Wp.swIn (WpD.mono _) (q := ((768, [some (.inr (.inr (200, 0))), some (.inr (.inr (0, 0))), some (.inr (.inr (12, 0))), some (.inl x3)], []), σ)) hs16 rfl ?_
        refine Wp.run (WpD.mono _) 4 (q := ((773, [some (.inr (.inr (200, 0))), some (.inr (.inr (0, 0))), some (.inr (.inr (12, 0))), some (.inl x3)], [.inl (x3 + (1 : Int32)), .inr (.inr (200, 0)), .inr (.inr (0, 0))]), σ)) rfl ?_
        obtain ⟨hc, h⟩ := ite_nn h
        refine Wp.X_ild6 (WpD.mono _) rfl rfl hc ?_
        show Wp (WpD (e + 96)) hcL_law Q (774, [some (.inr (.inr (200, 0))), some (.inr (.inr (0, 0))), some (.inr (.inr (12, 0))), some (.inl x3)], [.inl (σ.2.2.2.2.2 ((x3 + (1 : Int32))).toNatClampNeg), .inr (.inr (0, 0))]) σ
        refine Wp.run (WpD.mono _) 3 (q := ((778, [some (.inr (.inr (200, 0))), some (.inr (.inr (0, 0))), some (.inr (.inr (12, 0))), some (.inl x3)], [.inl (x3 + (2 : Int32)), .inr (.inr (200, 0)), .inl (σ.2.2.2.2.2 ((x3 + (1 : Int32))).toNatClampNeg), .inr (.inr (0, 0))]), σ)) rfl ?_
        obtain ⟨hc, h⟩ := ite_nn h
        refine Wp.X_ild6 (WpD.mono _) rfl rfl hc ?_
        show Wp (WpD (e + 96)) hcL_law Q (779, [some (.inr (.inr (200, 0))), some (.inr (.inr (0, 0))), some (.inr (.inr (12, 0))), some (.inl x3)], [.inl (σ.2.2.2.2.2 ((x3 + (2 : Int32))).toNatClampNeg), .inl (σ.2.2.2.2.2 ((x3 + (1 : Int32))).toNatClampNeg), .inr (.inr (0, 0))]) σ
        obtain ⟨q33, hb, h⟩ := bind_some h
        refine Wp.call (WpD.mono _) rfl (T_X11_row (e + 92) N (σ.2.2.2.2.2 ((x3 + (1 : Int32))).toNatClampNeg) (σ.2.2.2.2.2 ((x3 + (2 : Int32))).toNatClampNeg) σ _ _ _ hb ?_)
        show Wp (WpD (e + 96)) hcL_law Q (782, [some (.inr (.inr (200, 0))), some (.inr (.inr (0, 0))), some (.inr (.inr (12, 0))), some (.inl x3)], [.inr (.inl q33.1)]) q33.2
        refine Wp.run (WpD.mono _) 4 (q := ((787, [some (.inr (.inr (200, 0))), some (.inr (.inr (0, 0))), some (.inr (.inr (12, 0))), some (.inl x3)], [.inl (x3 + (1 : Int32)), .inr (.inr (200, 0)), .inr (.inr (12, 0)), .inr (.inl q33.1)]), q33.2)) rfl ?_
        obtain ⟨hc, h⟩ := ite_nn h
        refine Wp.X_ild6 (WpD.mono _) rfl rfl hc ?_
        show Wp (WpD (e + 96)) hcL_law Q (788, [some (.inr (.inr (200, 0))), some (.inr (.inr (0, 0))), some (.inr (.inr (12, 0))), some (.inl x3)], [.inl (q33.2.2.2.2.2.2 ((x3 + (1 : Int32))).toNatClampNeg), .inr (.inr (12, 0)), .inr (.inl q33.1)]) q33.2
        refine Wp.run (WpD.mono _) 3 (q := ((792, [some (.inr (.inr (200, 0))), some (.inr (.inr (0, 0))), some (.inr (.inr (12, 0))), some (.inl x3)], [.inl (x3 + (2 : Int32)), .inr (.inr (200, 0)), .inl (q33.2.2.2.2.2.2 ((x3 + (1 : Int32))).toNatClampNeg), .inr (.inr (12, 0)), .inr (.inl q33.1)]), q33.2)) rfl ?_
        obtain ⟨hc, h⟩ := ite_nn h
        refine Wp.X_ild6 (WpD.mono _) rfl rfl hc ?_
        show Wp (WpD (e + 96)) hcL_law Q (793, [some (.inr (.inr (200, 0))), some (.inr (.inr (0, 0))), some (.inr (.inr (12, 0))), some (.inl x3)], [.inl (q33.2.2.2.2.2.2 ((x3 + (2 : Int32))).toNatClampNeg), .inl (q33.2.2.2.2.2.2 ((x3 + (1 : Int32))).toNatClampNeg), .inr (.inr (12, 0)), .inr (.inl q33.1)]) q33.2
        obtain ⟨q34, hb, h⟩ := bind_some h
        refine Wp.call (WpD.mono _) rfl (T_X12_row (e + 91) N (q33.2.2.2.2.2.2 ((x3 + (1 : Int32))).toNatClampNeg) (q33.2.2.2.2.2.2 ((x3 + (2 : Int32))).toNatClampNeg) q33.2 _ _ _ hb ?_)
        show Wp (WpD (e + 96)) hcL_law Q (796, [some (.inr (.inr (200, 0))), some (.inr (.inr (0, 0))), some (.inr (.inr (12, 0))), some (.inl x3)], [.inr (.inl q34.1), .inr (.inl q33.1)]) q34.2
        refine Wp.run (WpD.mono _) 0 (q := ((797, [some (.inr (.inr (200, 0))), some (.inr (.inr (0, 0))), some (.inr (.inr (12, 0))), some (.inl x3)], [.inl (lg_cmp q33.1 q34.1)]), q34.2)) rfl ?_
        refine Wp.if0_eq (WpD.mono _) rfl rfl (fun hc => ?_) (fun hc => ?_)
        · have h := (if_pos hc).symm.trans h
          show Wp (WpD (e + 96)) hcL_law Q (1692, [some (.inr (.inr (200, 0))), some (.inr (.inr (0, 0))), some (.inr (.inr (12, 0))), some (.inl x3)], []) q34.2
          refine Wp.run (WpD.mono _) 1 (q := ((18, [some (.inr (.inr (200, 0))), some (.inr (.inr (0, 0))), some (.inr (.inr (12, 0))), some (.inl (x3 + (6 : Int32)))], []), q34.2)) rfl ?_
          exact Wp.jump (WpD.mono _) rfl (ih (x3 + (6 : Int32)) q34.2 h)
        · have h := (if_neg hc).symm.trans h
          show Wp (WpD (e + 96)) hcL_law Q (800, [some (.inr (.inr (200, 0))), some (.inr (.inr (0, 0))), some (.inr (.inr (12, 0))), some (.inl x3)], []) q34.2
          refine Wp.run (WpD.mono _) 0 (q := ((801, [some (.inr (.inr (200, 0))), some (.inr (.inr (0, 0))), some (.inr (.inr (12, 0))), some (.inl x3)], [.inl (0 : Int32)]), q34.2)) rfl ?_
          obtain ⟨rfl, rfl⟩ := ret_inj h
          exact Wp.ret (WpD.mono _) rfl hQ
      have h := (if_neg hs16).symm.trans h
      by_cases hs17 : ((σ.2.2.2.2.2 (x3).toNatClampNeg) &&& (63 : Int32)) = 17
      · have h := (if_pos hs17).symm.trans h
        refine Wp.swIn (WpD.mono _) (q := ((802, [some (.inr (.inr (200, 0))), some (.inr (.inr (0, 0))), some (.inr (.inr (12, 0))), some (.inl x3)], []), σ)) hs17 rfl ?_
        refine Wp.run (WpD.mono _) 4 (q := ((807, [some (.inr (.inr (200, 0))), some (.inr (.inr (0, 0))), some (.inr (.inr (12, 0))), some (.inl x3)], [.inl (x3 + (1 : Int32)), .inr (.inr (200, 0)), .inr (.inr (0, 0))]), σ)) rfl ?_
        obtain ⟨hc, h⟩ := ite_nn h
        refine Wp.X_ild6 (WpD.mono _) rfl rfl hc ?_
        show Wp (WpD (e + 96)) hcL_law Q (808, [some (.inr (.inr (200, 0))), some (.inr (.inr (0, 0))), some (.inr (.inr (12, 0))), some (.inl x3)], [.inl (σ.2.2.2.2.2 ((x3 + (1 : Int32))).toNatClampNeg), .inr (.inr (0, 0))]) σ
        obtain ⟨q35, hb, h⟩ := bind_some h
        refine Wp.call (WpD.mono _) rfl (T_X11_best (e + 82) N (σ.2.2.2.2.2 ((x3 + (1 : Int32))).toNatClampNeg) σ _ _ _ hb ?_)
        show Wp (WpD (e + 96)) hcL_law Q (811, [some (.inr (.inr (200, 0))), some (.inr (.inr (0, 0))), some (.inr (.inr (12, 0))), some (.inl x3)], [.inr (.inl q35.1)]) q35.2
        refine Wp.run (WpD.mono _) 4 (q := ((816, [some (.inr (.inr (200, 0))), some (.inr (.inr (0, 0))), some (.inr (.inr (12, 0))), some (.inl x3)], [.inl (x3 + (1 : Int32)), .inr (.inr (200, 0)), .inr (.inr (12, 0)), .inr (.inl q35.1)]), q35.2)) rfl ?_
        obtain ⟨hc, h⟩ := ite_nn h
        refine Wp.X_ild6 (WpD.mono _) rfl rfl hc ?_
        show Wp (WpD (e + 96)) hcL_law Q (817, [some (.inr (.inr (200, 0))), some (.inr (.inr (0, 0))), some (.inr (.inr (12, 0))), some (.inl x3)], [.inl (q35.2.2.2.2.2.2 ((x3 + (1 : Int32))).toNatClampNeg), .inr (.inr (12, 0)), .inr (.inl q35.1)]) q35.2
        obtain ⟨q36, hb, h⟩ := bind_some h
        refine Wp.call (WpD.mono _) rfl (T_X12_best (e + 71) N (q35.2.2.2.2.2.2 ((x3 + (1 : Int32))).toNatClampNeg) q35.2 _ _ _ hb ?_)
        show Wp (WpD (e + 96)) hcL_law Q (820, [some (.inr (.inr (200, 0))), some (.inr (.inr (0, 0))), some (.inr (.inr (12, 0))), some (.inl x3)], [.inr (.inl q36.1), .inr (.inl q35.1)]) q36.2
        refine Wp.run (WpD.mono _) 0 (q := ((821, [some (.inr (.inr (200, 0))), some (.inr (.inr (0, 0))), some (.inr (.inr (12, 0))), some (.inl x3)], [.inl (lg_cmp q35.1 q36.1)]), q36.2)) rfl ?_
        refine Wp.if0_eq (WpD.mono _) rfl rfl (fun hc => ?_) (fun hc => ?_)
        · have h := (if_pos hc).symm.trans h
          show Wp (WpD (e + 96)) hcL_law Q (1692, [some (.inr (.inr (200, 0))), some (.inr (.inr (0, 0))), some (.inr (.inr (12, 0))), some (.inl x3)], []) q36.2
          refine Wp.run (WpD.mono _) 1 (q := ((18, [some (.inr (.inr (200, 0))), some (.inr (.inr (0, 0))), some (.inr (.inr (12, 0))), some (.inl (x3 + (6 : Int32)))], []), q36.2)) rfl ?_
          exact Wp.jump (WpD.mono _) rfl (ih (x3 + (6 : Int32)) q36.2 h)
        · have h := (if_neg hc).symm.trans h
          show Wp (WpD (e + 96)) hcL_law Q (824, [some (.inr (.inr (200, 0))), some (.inr (.inr (0, 0))), some (.inr (.inr (12, 0))), some (.inl x3)], []) q36.2
          refine Wp.run (WpD.mono _) 0 (q := ((825, [some (.inr (.inr (200, 0))), some (.inr (.inr (0, 0))), some (.inr (.inr (12, 0))), some (.inl x3)], [.inl (0 : Int32)]), q36.2)) rfl ?_
          obtain ⟨rfl, rfl⟩ := ret_inj h
          exact Wp.ret (WpD.mono _) rfl hQ
      have h := (if_neg hs17).symm.trans h
      by_cases hs18 : ((σ.2.2.2.2.2 (x3).toNatClampNeg) &&& (63 : Int32)) = 18
      · have h := (if_pos hs18).symm.trans h
        refine Wp.swIn (WpD.mono _) (q := ((826, [some (.inr (.inr (200, 0))), some (.inr (.inr (0, 0))), some (.inr (.inr (12, 0))), some (.inl x3)], []), σ)) hs18 rfl ?_
        refine Wp.run (WpD.mono _) 4 (q := ((831, [some (.inr (.inr (200, 0))), some (.inr (.inr (0, 0))), some (.inr (.inr (12, 0))), some (.inl x3)], [.inl (x3 + (1 : Int32)), .inr (.inr (200, 0)), .inr (.inr (0, 0))]), σ)) rfl ?_
        obtain ⟨hc, h⟩ := ite_nn h
        refine Wp.X_ild6 (WpD.mono _) rfl rfl hc ?_
        show Wp (WpD (e + 96)) hcL_law Q (832, [some (.inr (.inr (200, 0))), some (.inr (.inr (0, 0))), some (.inr (.inr (12, 0))), some (.inl x3)], [.inl (σ.2.2.2.2.2 ((x3 + (1 : Int32))).toNatClampNeg), .inr (.inr (0, 0))]) σ
        obtain ⟨q37, hb, h⟩ := bind_some h
        refine Wp.call (WpD.mono _) rfl (T_X11_back (e + 83) N (σ.2.2.2.2.2 ((x3 + (1 : Int32))).toNatClampNeg) σ _ _ _ hb ?_)
        show Wp (WpD (e + 96)) hcL_law Q (835, [some (.inr (.inr (200, 0))), some (.inr (.inr (0, 0))), some (.inr (.inr (12, 0))), some (.inl x3)], [.inl q37.1]) q37.2
        refine Wp.run (WpD.mono _) 4 (q := ((840, [some (.inr (.inr (200, 0))), some (.inr (.inr (0, 0))), some (.inr (.inr (12, 0))), some (.inl x3)], [.inl (x3 + (1 : Int32)), .inr (.inr (200, 0)), .inr (.inr (12, 0)), .inl q37.1]), q37.2)) rfl ?_
        obtain ⟨hc, h⟩ := ite_nn h
        refine Wp.X_ild6 (WpD.mono _) rfl rfl hc ?_
        show Wp (WpD (e + 96)) hcL_law Q (841, [some (.inr (.inr (200, 0))), some (.inr (.inr (0, 0))), some (.inr (.inr (12, 0))), some (.inl x3)], [.inl (q37.2.2.2.2.2.2 ((x3 + (1 : Int32))).toNatClampNeg), .inr (.inr (12, 0)), .inl q37.1]) q37.2
        obtain ⟨q38, hb, h⟩ := bind_some h
        refine Wp.call (WpD.mono _) rfl (T_X12_back (e + 71) N (q37.2.2.2.2.2.2 ((x3 + (1 : Int32))).toNatClampNeg) q37.2 _ _ _ hb ?_)
        show Wp (WpD (e + 96)) hcL_law Q (844, [some (.inr (.inr (200, 0))), some (.inr (.inr (0, 0))), some (.inr (.inr (12, 0))), some (.inl x3)], [.inl q38.1, .inl q37.1]) q38.2
        refine Wp.if2_eq (WpD.mono _) rfl rfl (fun hc => ?_) (fun hc => ?_)
        · have h := (if_pos hc).symm.trans h
          show Wp (WpD (e + 96)) hcL_law Q (1692, [some (.inr (.inr (200, 0))), some (.inr (.inr (0, 0))), some (.inr (.inr (12, 0))), some (.inl x3)], []) q38.2
          refine Wp.run (WpD.mono _) 1 (q := ((18, [some (.inr (.inr (200, 0))), some (.inr (.inr (0, 0))), some (.inr (.inr (12, 0))), some (.inl (x3 + (6 : Int32)))], []), q38.2)) rfl ?_
          exact Wp.jump (WpD.mono _) rfl (ih (x3 + (6 : Int32)) q38.2 h)
        · have h := (if_neg hc).symm.trans h
          show Wp (WpD (e + 96)) hcL_law Q (847, [some (.inr (.inr (200, 0))), some (.inr (.inr (0, 0))), some (.inr (.inr (12, 0))), some (.inl x3)], []) q38.2
          refine Wp.run (WpD.mono _) 0 (q := ((848, [some (.inr (.inr (200, 0))), some (.inr (.inr (0, 0))), some (.inr (.inr (12, 0))), some (.inl x3)], [.inl (0 : Int32)]), q38.2)) rfl ?_
          obtain ⟨rfl, rfl⟩ := ret_inj h
          exact Wp.ret (WpD.mono _) rfl hQ
      have h := (if_neg hs18).symm.trans h
      by_cases hs19 : ((σ.2.2.2.2.2 (x3).toNatClampNeg) &&& (63 : Int32)) = 19
      · have h := (if_pos hs19).symm.trans h
        refine Wp.swIn (WpD.mono _) (q := ((849, [some (.inr (.inr (200, 0))), some (.inr (.inr (0, 0))), some (.inr (.inr (12, 0))), some (.inl x3)], []), σ)) hs19 rfl ?_
        refine Wp.run (WpD.mono _) 4 (q := ((854, [some (.inr (.inr (200, 0))), some (.inr (.inr (0, 0))), some (.inr (.inr (12, 0))), some (.inl x3)], [.inl (x3 + (1 : Int32)), .inr (.inr (200, 0)), .inr (.inr (0, 0))]), σ)) rfl ?_
        obtain ⟨hc, h⟩ := ite_nn h
        refine Wp.X_ild6 (WpD.mono _) rfl rfl hc ?_
        show Wp (WpD (e + 96)) hcL_law Q (855, [some (.inr (.inr (200, 0))), some (.inr (.inr (0, 0))), some (.inr (.inr (12, 0))), some (.inl x3)], [.inl (σ.2.2.2.2.2 ((x3 + (1 : Int32))).toNatClampNeg), .inr (.inr (0, 0))]) σ
        obtain ⟨q39, hb, h⟩ := bind_some h
        refine Wp.call (WpD.mono _) rfl (T_X11_index (e + 82) N (σ.2.2.2.2.2 ((x3 + (1 : Int32))).toNatClampNeg) σ _ _ _ hb ?_)
        show Wp (WpD (e + 96)) hcL_law Q (858, [some (.inr (.inr (200, 0))), some (.inr (.inr (0, 0))), some (.inr (.inr (12, 0))), some (.inl x3)], [.inl q39.1]) q39.2
        refine Wp.run (WpD.mono _) 4 (q := ((863, [some (.inr (.inr (200, 0))), some (.inr (.inr (0, 0))), some (.inr (.inr (12, 0))), some (.inl x3)], [.inl (x3 + (1 : Int32)), .inr (.inr (200, 0)), .inr (.inr (12, 0)), .inl q39.1]), q39.2)) rfl ?_
        obtain ⟨hc, h⟩ := ite_nn h
        refine Wp.X_ild6 (WpD.mono _) rfl rfl hc ?_
        show Wp (WpD (e + 96)) hcL_law Q (864, [some (.inr (.inr (200, 0))), some (.inr (.inr (0, 0))), some (.inr (.inr (12, 0))), some (.inl x3)], [.inl (q39.2.2.2.2.2.2 ((x3 + (1 : Int32))).toNatClampNeg), .inr (.inr (12, 0)), .inl q39.1]) q39.2
        obtain ⟨q40, hb, h⟩ := bind_some h
        refine Wp.call (WpD.mono _) rfl (T_X12_index (e + 70) N (q39.2.2.2.2.2.2 ((x3 + (1 : Int32))).toNatClampNeg) q39.2 _ _ _ hb ?_)
        show Wp (WpD (e + 96)) hcL_law Q (867, [some (.inr (.inr (200, 0))), some (.inr (.inr (0, 0))), some (.inr (.inr (12, 0))), some (.inl x3)], [.inl q40.1, .inl q39.1]) q40.2
        refine Wp.if2_eq (WpD.mono _) rfl rfl (fun hc => ?_) (fun hc => ?_)
        · have h := (if_pos hc).symm.trans h
          show Wp (WpD (e + 96)) hcL_law Q (1692, [some (.inr (.inr (200, 0))), some (.inr (.inr (0, 0))), some (.inr (.inr (12, 0))), some (.inl x3)], []) q40.2
          refine Wp.run (WpD.mono _) 1 (q := ((18, [some (.inr (.inr (200, 0))), some (.inr (.inr (0, 0))), some (.inr (.inr (12, 0))), some (.inl (x3 + (6 : Int32)))], []), q40.2)) rfl ?_
          exact Wp.jump (WpD.mono _) rfl (ih (x3 + (6 : Int32)) q40.2 h)
        · have h := (if_neg hc).symm.trans h
          show Wp (WpD (e + 96)) hcL_law Q (870, [some (.inr (.inr (200, 0))), some (.inr (.inr (0, 0))), some (.inr (.inr (12, 0))), some (.inl x3)], []) q40.2
          refine Wp.run (WpD.mono _) 0 (q := ((871, [some (.inr (.inr (200, 0))), some (.inr (.inr (0, 0))), some (.inr (.inr (12, 0))), some (.inl x3)], [.inl (0 : Int32)]), q40.2)) rfl ?_
          obtain ⟨rfl, rfl⟩ := ret_inj h
          exact Wp.ret (WpD.mono _) rfl hQ
      have h := (if_neg hs19).symm.trans h
      by_cases hs20 : ((σ.2.2.2.2.2 (x3).toNatClampNeg) &&& (63 : Int32)) = 20
      · have h := (if_pos hs20).symm.trans h
        refine Wp.swIn (WpD.mono _) (q := ((872, [some (.inr (.inr (200, 0))), some (.inr (.inr (0, 0))), some (.inr (.inr (12, 0))), some (.inl x3)], []), σ)) hs20 rfl ?_
        refine Wp.run (WpD.mono _) 0 (q := ((873, [some (.inr (.inr (200, 0))), some (.inr (.inr (0, 0))), some (.inr (.inr (12, 0))), some (.inl x3)], [.inr (.inr (0, 0))]), σ)) rfl ?_
        obtain ⟨q41, hb, h⟩ := bind_some h
        refine Wp.call (WpD.mono _) rfl (T_X11_next (e + 82) N σ _ _ _ hb ?_)
        show Wp (WpD (e + 96)) hcL_law Q (876, [some (.inr (.inr (200, 0))), some (.inr (.inr (0, 0))), some (.inr (.inr (12, 0))), some (.inl x3)], [.inl q41.1]) q41.2
        refine Wp.run (WpD.mono _) 0 (q := ((877, [some (.inr (.inr (200, 0))), some (.inr (.inr (0, 0))), some (.inr (.inr (12, 0))), some (.inl x3)], [.inr (.inr (12, 0)), .inl q41.1]), q41.2)) rfl ?_
        obtain ⟨q42, hb, h⟩ := bind_some h
        refine Wp.call (WpD.mono _) rfl (T_X12_next (e + 70) N q41.2 _ _ _ hb ?_)
        show Wp (WpD (e + 96)) hcL_law Q (880, [some (.inr (.inr (200, 0))), some (.inr (.inr (0, 0))), some (.inr (.inr (12, 0))), some (.inl x3)], [.inl q42.1, .inl q41.1]) q42.2
        refine Wp.if2_eq (WpD.mono _) rfl rfl (fun hc => ?_) (fun hc => ?_)
        · have h := (if_pos hc).symm.trans h
          show Wp (WpD (e + 96)) hcL_law Q (1692, [some (.inr (.inr (200, 0))), some (.inr (.inr (0, 0))), some (.inr (.inr (12, 0))), some (.inl x3)], []) q42.2
          refine Wp.run (WpD.mono _) 1 (q := ((18, [some (.inr (.inr (200, 0))), some (.inr (.inr (0, 0))), some (.inr (.inr (12, 0))), some (.inl (x3 + (6 : Int32)))], []), q42.2)) rfl ?_
          exact Wp.jump (WpD.mono _) rfl (ih (x3 + (6 : Int32)) q42.2 h)
        · have h := (if_neg hc).symm.trans h
          show Wp (WpD (e + 96)) hcL_law Q (883, [some (.inr (.inr (200, 0))), some (.inr (.inr (0, 0))), some (.inr (.inr (12, 0))), some (.inl x3)], []) q42.2
          refine Wp.run (WpD.mono _) 0 (q := ((884, [some (.inr (.inr (200, 0))), some (.inr (.inr (0, 0))), some (.inr (.inr (12, 0))), some (.inl x3)], [.inl (0 : Int32)]), q42.2)) rfl ?_
          obtain ⟨rfl, rfl⟩ := ret_inj h
          exact Wp.ret (WpD.mono _) rfl hQ
      have h := (if_neg hs20).symm.trans h
      by_cases hs21 : ((σ.2.2.2.2.2 (x3).toNatClampNeg) &&& (63 : Int32)) = 21
      · have h := (if_pos hs21).symm.trans h
        refine Wp.swIn (WpD.mono _) (q := ((885, [some (.inr (.inr (200, 0))), some (.inr (.inr (0, 0))), some (.inr (.inr (12, 0))), some (.inl x3)], []), σ)) hs21 rfl ?_
        refine Wp.run (WpD.mono _) 4 (q := ((890, [some (.inr (.inr (200, 0))), some (.inr (.inr (0, 0))), some (.inr (.inr (12, 0))), some (.inl x3)], [.inl (x3 + (1 : Int32)), .inr (.inr (200, 0)), .inr (.inr (0, 0))]), σ)) rfl ?_
        obtain ⟨hc, h⟩ := ite_nn h
        refine Wp.X_ild6 (WpD.mono _) rfl rfl hc ?_
        show Wp (WpD (e + 96)) hcL_law Q (891, [some (.inr (.inr (200, 0))), some (.inr (.inr (0, 0))), some (.inr (.inr (12, 0))), some (.inl x3)], [.inl (σ.2.2.2.2.2 ((x3 + (1 : Int32))).toNatClampNeg), .inr (.inr (0, 0))]) σ
        refine Wp.run (WpD.mono _) 3 (q := ((895, [some (.inr (.inr (200, 0))), some (.inr (.inr (0, 0))), some (.inr (.inr (12, 0))), some (.inl x3)], [.inl (x3 + (2 : Int32)), .inr (.inr (200, 0)), .inl (σ.2.2.2.2.2 ((x3 + (1 : Int32))).toNatClampNeg), .inr (.inr (0, 0))]), σ)) rfl ?_
        obtain ⟨hc, h⟩ := ite_nn h
        refine Wp.X_ild6 (WpD.mono _) rfl rfl hc ?_
        show Wp (WpD (e + 96)) hcL_law Q (896, [some (.inr (.inr (200, 0))), some (.inr (.inr (0, 0))), some (.inr (.inr (12, 0))), some (.inl x3)], [.inl (σ.2.2.2.2.2 ((x3 + (2 : Int32))).toNatClampNeg), .inl (σ.2.2.2.2.2 ((x3 + (1 : Int32))).toNatClampNeg), .inr (.inr (0, 0))]) σ
        refine Wp.run (WpD.mono _) 3 (q := ((900, [some (.inr (.inr (200, 0))), some (.inr (.inr (0, 0))), some (.inr (.inr (12, 0))), some (.inl x3)], [.inl (x3 + (3 : Int32)), .inr (.inr (200, 0)), .inl (σ.2.2.2.2.2 ((x3 + (2 : Int32))).toNatClampNeg), .inl (σ.2.2.2.2.2 ((x3 + (1 : Int32))).toNatClampNeg), .inr (.inr (0, 0))]), σ)) rfl ?_
        obtain ⟨hc, h⟩ := ite_nn h
        refine Wp.X_ild6 (WpD.mono _) rfl rfl hc ?_
        show Wp (WpD (e + 96)) hcL_law Q (901, [some (.inr (.inr (200, 0))), some (.inr (.inr (0, 0))), some (.inr (.inr (12, 0))), some (.inl x3)], [.inl (σ.2.2.2.2.2 ((x3 + (3 : Int32))).toNatClampNeg), .inl (σ.2.2.2.2.2 ((x3 + (2 : Int32))).toNatClampNeg), .inl (σ.2.2.2.2.2 ((x3 + (1 : Int32))).toNatClampNeg), .inr (.inr (0, 0))]) σ
        obtain ⟨q43, hb, h⟩ := bind_some h
        refine Wp.call (WpD.mono _) rfl (T_X11_rule (e + 94) N (σ.2.2.2.2.2 ((x3 + (1 : Int32))).toNatClampNeg) (σ.2.2.2.2.2 ((x3 + (2 : Int32))).toNatClampNeg) (σ.2.2.2.2.2 ((x3 + (3 : Int32))).toNatClampNeg) σ _ _ _ hb ?_)
        show Wp (WpD (e + 96)) hcL_law Q (904, [some (.inr (.inr (200, 0))), some (.inr (.inr (0, 0))), some (.inr (.inr (12, 0))), some (.inl x3)], [.inl q43.1]) q43.2
        refine Wp.run (WpD.mono _) 4 (q := ((909, [some (.inr (.inr (200, 0))), some (.inr (.inr (0, 0))), some (.inr (.inr (12, 0))), some (.inl x3)], [.inl (x3 + (1 : Int32)), .inr (.inr (200, 0)), .inr (.inr (12, 0)), .inl q43.1]), q43.2)) rfl ?_
        obtain ⟨hc, h⟩ := ite_nn h
        refine Wp.X_ild6 (WpD.mono _) rfl rfl hc ?_
        show Wp (WpD (e + 96)) hcL_law Q (910, [some (.inr (.inr (200, 0))), some (.inr (.inr (0, 0))), some (.inr (.inr (12, 0))), some (.inl x3)], [.inl (q43.2.2.2.2.2.2 ((x3 + (1 : Int32))).toNatClampNeg), .inr (.inr (12, 0)), .inl q43.1]) q43.2
        refine Wp.run (WpD.mono _) 3 (q := ((914, [some (.inr (.inr (200, 0))), some (.inr (.inr (0, 0))), some (.inr (.inr (12, 0))), some (.inl x3)], [.inl (x3 + (2 : Int32)), .inr (.inr (200, 0)), .inl (q43.2.2.2.2.2.2 ((x3 + (1 : Int32))).toNatClampNeg), .inr (.inr (12, 0)), .inl q43.1]), q43.2)) rfl ?_
        obtain ⟨hc, h⟩ := ite_nn h
        refine Wp.X_ild6 (WpD.mono _) rfl rfl hc ?_
        show Wp (WpD (e + 96)) hcL_law Q (915, [some (.inr (.inr (200, 0))), some (.inr (.inr (0, 0))), some (.inr (.inr (12, 0))), some (.inl x3)], [.inl (q43.2.2.2.2.2.2 ((x3 + (2 : Int32))).toNatClampNeg), .inl (q43.2.2.2.2.2.2 ((x3 + (1 : Int32))).toNatClampNeg), .inr (.inr (12, 0)), .inl q43.1]) q43.2
        refine Wp.run (WpD.mono _) 3 (q := ((919, [some (.inr (.inr (200, 0))), some (.inr (.inr (0, 0))), some (.inr (.inr (12, 0))), some (.inl x3)], [.inl (x3 + (3 : Int32)), .inr (.inr (200, 0)), .inl (q43.2.2.2.2.2.2 ((x3 + (2 : Int32))).toNatClampNeg), .inl (q43.2.2.2.2.2.2 ((x3 + (1 : Int32))).toNatClampNeg), .inr (.inr (12, 0)), .inl q43.1]), q43.2)) rfl ?_
        obtain ⟨hc, h⟩ := ite_nn h
        refine Wp.X_ild6 (WpD.mono _) rfl rfl hc ?_
        show Wp (WpD (e + 96)) hcL_law Q (920, [some (.inr (.inr (200, 0))), some (.inr (.inr (0, 0))), some (.inr (.inr (12, 0))), some (.inl x3)], [.inl (q43.2.2.2.2.2.2 ((x3 + (3 : Int32))).toNatClampNeg), .inl (q43.2.2.2.2.2.2 ((x3 + (2 : Int32))).toNatClampNeg), .inl (q43.2.2.2.2.2.2 ((x3 + (1 : Int32))).toNatClampNeg), .inr (.inr (12, 0)), .inl q43.1]) q43.2
        obtain ⟨q44, hb, h⟩ := bind_some h
        refine Wp.call (WpD.mono _) rfl (T_X12_rule (e + 94) N (q43.2.2.2.2.2.2 ((x3 + (1 : Int32))).toNatClampNeg) (q43.2.2.2.2.2.2 ((x3 + (2 : Int32))).toNatClampNeg) (q43.2.2.2.2.2.2 ((x3 + (3 : Int32))).toNatClampNeg) q43.2 _ _ _ hb ?_)
        show Wp (WpD (e + 96)) hcL_law Q (923, [some (.inr (.inr (200, 0))), some (.inr (.inr (0, 0))), some (.inr (.inr (12, 0))), some (.inl x3)], [.inl q44.1, .inl q43.1]) q44.2
        refine Wp.if2_eq (WpD.mono _) rfl rfl (fun hc => ?_) (fun hc => ?_)
        · have h := (if_pos hc).symm.trans h
          show Wp (WpD (e + 96)) hcL_law Q (1692, [some (.inr (.inr (200, 0))), some (.inr (.inr (0, 0))), some (.inr (.inr (12, 0))), some (.inl x3)], []) q44.2
          refine Wp.run (WpD.mono _) 1 (q := ((18, [some (.inr (.inr (200, 0))), some (.inr (.inr (0, 0))), some (.inr (.inr (12, 0))), some (.inl (x3 + (6 : Int32)))], []), q44.2)) rfl ?_
          exact Wp.jump (WpD.mono _) rfl (ih (x3 + (6 : Int32)) q44.2 h)
        · have h := (if_neg hc).symm.trans h
          show Wp (WpD (e + 96)) hcL_law Q (926, [some (.inr (.inr (200, 0))), some (.inr (.inr (0, 0))), some (.inr (.inr (12, 0))), some (.inl x3)], []) q44.2
          refine Wp.run (WpD.mono _) 0 (q := ((927, [some (.inr (.inr (200, 0))), some (.inr (.inr (0, 0))), some (.inr (.inr (12, 0))), some (.inl x3)], [.inl (0 : Int32)]), q44.2)) rfl ?_
          obtain ⟨rfl, rfl⟩ := ret_inj h
          exact Wp.ret (WpD.mono _) rfl hQ
      have h := (if_neg hs21).symm.trans h
      by_cases hs22 : ((σ.2.2.2.2.2 (x3).toNatClampNeg) &&& (63 : Int32)) = 22
      · have h := (if_pos hs22).symm.trans h
        refine Wp.swIn (WpD.mono _) (q := ((928, [some (.inr (.inr (200, 0))), some (.inr (.inr (0, 0))), some (.inr (.inr (12, 0))), some (.inl x3)], []), σ)) hs22 rfl ?_
        refine Wp.run (WpD.mono _) 4 (q := ((933, [some (.inr (.inr (200, 0))), some (.inr (.inr (0, 0))), some (.inr (.inr (12, 0))), some (.inl x3)], [.inl (x3 + (1 : Int32)), .inr (.inr (200, 0)), .inr (.inr (0, 0))]), σ)) rfl ?_
        obtain ⟨hc, h⟩ := ite_nn h
        refine Wp.X_ild6 (WpD.mono _) rfl rfl hc ?_
        show Wp (WpD (e + 96)) hcL_law Q (934, [some (.inr (.inr (200, 0))), some (.inr (.inr (0, 0))), some (.inr (.inr (12, 0))), some (.inl x3)], [.inl (σ.2.2.2.2.2 ((x3 + (1 : Int32))).toNatClampNeg), .inr (.inr (0, 0))]) σ
        refine Wp.run (WpD.mono _) 3 (q := ((938, [some (.inr (.inr (200, 0))), some (.inr (.inr (0, 0))), some (.inr (.inr (12, 0))), some (.inl x3)], [.inl (x3 + (2 : Int32)), .inr (.inr (200, 0)), .inl (σ.2.2.2.2.2 ((x3 + (1 : Int32))).toNatClampNeg), .inr (.inr (0, 0))]), σ)) rfl ?_
        obtain ⟨hc, h⟩ := ite_nn h
        refine Wp.X_ild6 (WpD.mono _) rfl rfl hc ?_
        show Wp (WpD (e + 96)) hcL_law Q (939, [some (.inr (.inr (200, 0))), some (.inr (.inr (0, 0))), some (.inr (.inr (12, 0))), some (.inl x3)], [.inl (σ.2.2.2.2.2 ((x3 + (2 : Int32))).toNatClampNeg), .inl (σ.2.2.2.2.2 ((x3 + (1 : Int32))).toNatClampNeg), .inr (.inr (0, 0))]) σ
        obtain ⟨q45, hb, h⟩ := bind_some h
        refine Wp.call (WpD.mono _) rfl (T_X11_ruleTold (e + 93) N (σ.2.2.2.2.2 ((x3 + (1 : Int32))).toNatClampNeg) (σ.2.2.2.2.2 ((x3 + (2 : Int32))).toNatClampNeg) σ _ _ _ hb ?_)
        show Wp (WpD (e + 96)) hcL_law Q (942, [some (.inr (.inr (200, 0))), some (.inr (.inr (0, 0))), some (.inr (.inr (12, 0))), some (.inl x3)], [.inl q45.1]) q45.2
        refine Wp.run (WpD.mono _) 4 (q := ((947, [some (.inr (.inr (200, 0))), some (.inr (.inr (0, 0))), some (.inr (.inr (12, 0))), some (.inl x3)], [.inl (x3 + (1 : Int32)), .inr (.inr (200, 0)), .inr (.inr (12, 0)), .inl q45.1]), q45.2)) rfl ?_
        obtain ⟨hc, h⟩ := ite_nn h
        refine Wp.X_ild6 (WpD.mono _) rfl rfl hc ?_
        show Wp (WpD (e + 96)) hcL_law Q (948, [some (.inr (.inr (200, 0))), some (.inr (.inr (0, 0))), some (.inr (.inr (12, 0))), some (.inl x3)], [.inl (q45.2.2.2.2.2.2 ((x3 + (1 : Int32))).toNatClampNeg), .inr (.inr (12, 0)), .inl q45.1]) q45.2
        refine Wp.run (WpD.mono _) 3 (q := ((952, [some (.inr (.inr (200, 0))), some (.inr (.inr (0, 0))), some (.inr (.inr (12, 0))), some (.inl x3)], [.inl (x3 + (2 : Int32)), .inr (.inr (200, 0)), .inl (q45.2.2.2.2.2.2 ((x3 + (1 : Int32))).toNatClampNeg), .inr (.inr (12, 0)), .inl q45.1]), q45.2)) rfl ?_
        obtain ⟨hc, h⟩ := ite_nn h
        refine Wp.X_ild6 (WpD.mono _) rfl rfl hc ?_
        show Wp (WpD (e + 96)) hcL_law Q (953, [some (.inr (.inr (200, 0))), some (.inr (.inr (0, 0))), some (.inr (.inr (12, 0))), some (.inl x3)], [.inl (q45.2.2.2.2.2.2 ((x3 + (2 : Int32))).toNatClampNeg), .inl (q45.2.2.2.2.2.2 ((x3 + (1 : Int32))).toNatClampNeg), .inr (.inr (12, 0)), .inl q45.1]) q45.2
        obtain ⟨q46, hb, h⟩ := bind_some h
        refine Wp.call (WpD.mono _) rfl (T_X12_ruleTold (e + 93) N (q45.2.2.2.2.2.2 ((x3 + (1 : Int32))).toNatClampNeg) (q45.2.2.2.2.2.2 ((x3 + (2 : Int32))).toNatClampNeg) q45.2 _ _ _ hb ?_)
        show Wp (WpD (e + 96)) hcL_law Q (956, [some (.inr (.inr (200, 0))), some (.inr (.inr (0, 0))), some (.inr (.inr (12, 0))), some (.inl x3)], [.inl q46.1, .inl q45.1]) q46.2
        refine Wp.if2_eq (WpD.mono _) rfl rfl (fun hc => ?_) (fun hc => ?_)
        · have h := (if_pos hc).symm.trans h
          show Wp (WpD (e + 96)) hcL_law Q (1692, [some (.inr (.inr (200, 0))), some (.inr (.inr (0, 0))), some (.inr (.inr (12, 0))), some (.inl x3)], []) q46.2
          refine Wp.run (WpD.mono _) 1 (q := ((18, [some (.inr (.inr (200, 0))), some (.inr (.inr (0, 0))), some (.inr (.inr (12, 0))), some (.inl (x3 + (6 : Int32)))], []), q46.2)) rfl ?_
          exact Wp.jump (WpD.mono _) rfl (ih (x3 + (6 : Int32)) q46.2 h)
        · have h := (if_neg hc).symm.trans h
          show Wp (WpD (e + 96)) hcL_law Q (959, [some (.inr (.inr (200, 0))), some (.inr (.inr (0, 0))), some (.inr (.inr (12, 0))), some (.inl x3)], []) q46.2
          refine Wp.run (WpD.mono _) 0 (q := ((960, [some (.inr (.inr (200, 0))), some (.inr (.inr (0, 0))), some (.inr (.inr (12, 0))), some (.inl x3)], [.inl (0 : Int32)]), q46.2)) rfl ?_
          obtain ⟨rfl, rfl⟩ := ret_inj h
          exact Wp.ret (WpD.mono _) rfl hQ
      have h := (if_neg hs22).symm.trans h
      by_cases hs23 : ((σ.2.2.2.2.2 (x3).toNatClampNeg) &&& (63 : Int32)) = 23
      · have h := (if_pos hs23).symm.trans h
        refine Wp.swIn (WpD.mono _) (q := ((961, [some (.inr (.inr (200, 0))), some (.inr (.inr (0, 0))), some (.inr (.inr (12, 0))), some (.inl x3)], []), σ)) hs23 rfl ?_
        refine Wp.run (WpD.mono _) 4 (q := ((966, [some (.inr (.inr (200, 0))), some (.inr (.inr (0, 0))), some (.inr (.inr (12, 0))), some (.inl x3)], [.inl (x3 + (1 : Int32)), .inr (.inr (200, 0)), .inr (.inr (0, 0))]), σ)) rfl ?_
        obtain ⟨hc, h⟩ := ite_nn h
        refine Wp.X_ild6 (WpD.mono _) rfl rfl hc ?_
        show Wp (WpD (e + 96)) hcL_law Q (967, [some (.inr (.inr (200, 0))), some (.inr (.inr (0, 0))), some (.inr (.inr (12, 0))), some (.inl x3)], [.inl (σ.2.2.2.2.2 ((x3 + (1 : Int32))).toNatClampNeg), .inr (.inr (0, 0))]) σ
        refine Wp.run (WpD.mono _) 3 (q := ((971, [some (.inr (.inr (200, 0))), some (.inr (.inr (0, 0))), some (.inr (.inr (12, 0))), some (.inl x3)], [.inl (x3 + (2 : Int32)), .inr (.inr (200, 0)), .inl (σ.2.2.2.2.2 ((x3 + (1 : Int32))).toNatClampNeg), .inr (.inr (0, 0))]), σ)) rfl ?_
        obtain ⟨hc, h⟩ := ite_nn h
        refine Wp.X_ild6 (WpD.mono _) rfl rfl hc ?_
        show Wp (WpD (e + 96)) hcL_law Q (972, [some (.inr (.inr (200, 0))), some (.inr (.inr (0, 0))), some (.inr (.inr (12, 0))), some (.inl x3)], [.inl (σ.2.2.2.2.2 ((x3 + (2 : Int32))).toNatClampNeg), .inl (σ.2.2.2.2.2 ((x3 + (1 : Int32))).toNatClampNeg), .inr (.inr (0, 0))]) σ
        refine Wp.run (WpD.mono _) 3 (q := ((976, [some (.inr (.inr (200, 0))), some (.inr (.inr (0, 0))), some (.inr (.inr (12, 0))), some (.inl x3)], [.inl (x3 + (3 : Int32)), .inr (.inr (200, 0)), .inl (σ.2.2.2.2.2 ((x3 + (2 : Int32))).toNatClampNeg), .inl (σ.2.2.2.2.2 ((x3 + (1 : Int32))).toNatClampNeg), .inr (.inr (0, 0))]), σ)) rfl ?_
        obtain ⟨hc, h⟩ := ite_nn h
        refine Wp.X_ild6 (WpD.mono _) rfl rfl hc ?_
        show Wp (WpD (e + 96)) hcL_law Q (977, [some (.inr (.inr (200, 0))), some (.inr (.inr (0, 0))), some (.inr (.inr (12, 0))), some (.inl x3)], [.inl (σ.2.2.2.2.2 ((x3 + (3 : Int32))).toNatClampNeg), .inl (σ.2.2.2.2.2 ((x3 + (2 : Int32))).toNatClampNeg), .inl (σ.2.2.2.2.2 ((x3 + (1 : Int32))).toNatClampNeg), .inr (.inr (0, 0))]) σ
        obtain ⟨q47, hb, h⟩ := bind_some h
        refine Wp.call (WpD.mono _) rfl (T_X11_mean (e + 71) N (σ.2.2.2.2.2 ((x3 + (1 : Int32))).toNatClampNeg) (σ.2.2.2.2.2 ((x3 + (2 : Int32))).toNatClampNeg) (σ.2.2.2.2.2 ((x3 + (3 : Int32))).toNatClampNeg) σ _ _ _ hb ?_)
        show Wp (WpD (e + 96)) hcL_law Q (980, [some (.inr (.inr (200, 0))), some (.inr (.inr (0, 0))), some (.inr (.inr (12, 0))), some (.inl x3)], [.inr (.inl q47.1)]) q47.2
        refine Wp.run (WpD.mono _) 4 (q := ((985, [some (.inr (.inr (200, 0))), some (.inr (.inr (0, 0))), some (.inr (.inr (12, 0))), some (.inl x3)], [.inl (x3 + (1 : Int32)), .inr (.inr (200, 0)), .inr (.inr (12, 0)), .inr (.inl q47.1)]), q47.2)) rfl ?_
        obtain ⟨hc, h⟩ := ite_nn h
        refine Wp.X_ild6 (WpD.mono _) rfl rfl hc ?_
        show Wp (WpD (e + 96)) hcL_law Q (986, [some (.inr (.inr (200, 0))), some (.inr (.inr (0, 0))), some (.inr (.inr (12, 0))), some (.inl x3)], [.inl (q47.2.2.2.2.2.2 ((x3 + (1 : Int32))).toNatClampNeg), .inr (.inr (12, 0)), .inr (.inl q47.1)]) q47.2
        refine Wp.run (WpD.mono _) 3 (q := ((990, [some (.inr (.inr (200, 0))), some (.inr (.inr (0, 0))), some (.inr (.inr (12, 0))), some (.inl x3)], [.inl (x3 + (2 : Int32)), .inr (.inr (200, 0)), .inl (q47.2.2.2.2.2.2 ((x3 + (1 : Int32))).toNatClampNeg), .inr (.inr (12, 0)), .inr (.inl q47.1)]), q47.2)) rfl ?_
        obtain ⟨hc, h⟩ := ite_nn h
        refine Wp.X_ild6 (WpD.mono _) rfl rfl hc ?_
        show Wp (WpD (e + 96)) hcL_law Q (991, [some (.inr (.inr (200, 0))), some (.inr (.inr (0, 0))), some (.inr (.inr (12, 0))), some (.inl x3)], [.inl (q47.2.2.2.2.2.2 ((x3 + (2 : Int32))).toNatClampNeg), .inl (q47.2.2.2.2.2.2 ((x3 + (1 : Int32))).toNatClampNeg), .inr (.inr (12, 0)), .inr (.inl q47.1)]) q47.2
        refine Wp.run (WpD.mono _) 3 (q := ((995, [some (.inr (.inr (200, 0))), some (.inr (.inr (0, 0))), some (.inr (.inr (12, 0))), some (.inl x3)], [.inl (x3 + (3 : Int32)), .inr (.inr (200, 0)), .inl (q47.2.2.2.2.2.2 ((x3 + (2 : Int32))).toNatClampNeg), .inl (q47.2.2.2.2.2.2 ((x3 + (1 : Int32))).toNatClampNeg), .inr (.inr (12, 0)), .inr (.inl q47.1)]), q47.2)) rfl ?_
        obtain ⟨hc, h⟩ := ite_nn h
        refine Wp.X_ild6 (WpD.mono _) rfl rfl hc ?_
        show Wp (WpD (e + 96)) hcL_law Q (996, [some (.inr (.inr (200, 0))), some (.inr (.inr (0, 0))), some (.inr (.inr (12, 0))), some (.inl x3)], [.inl (q47.2.2.2.2.2.2 ((x3 + (3 : Int32))).toNatClampNeg), .inl (q47.2.2.2.2.2.2 ((x3 + (2 : Int32))).toNatClampNeg), .inl (q47.2.2.2.2.2.2 ((x3 + (1 : Int32))).toNatClampNeg), .inr (.inr (12, 0)), .inr (.inl q47.1)]) q47.2
        obtain ⟨q48, hb, h⟩ := bind_some h
        refine Wp.call (WpD.mono _) rfl (T_X12_mean (e + 59) N (q47.2.2.2.2.2.2 ((x3 + (1 : Int32))).toNatClampNeg) (q47.2.2.2.2.2.2 ((x3 + (2 : Int32))).toNatClampNeg) (q47.2.2.2.2.2.2 ((x3 + (3 : Int32))).toNatClampNeg) q47.2 _ _ _ hb ?_)
        show Wp (WpD (e + 96)) hcL_law Q (999, [some (.inr (.inr (200, 0))), some (.inr (.inr (0, 0))), some (.inr (.inr (12, 0))), some (.inl x3)], [.inr (.inl q48.1), .inr (.inl q47.1)]) q48.2
        refine Wp.run (WpD.mono _) 0 (q := ((1000, [some (.inr (.inr (200, 0))), some (.inr (.inr (0, 0))), some (.inr (.inr (12, 0))), some (.inl x3)], [.inl (lg_cmp q47.1 q48.1)]), q48.2)) rfl ?_
        refine Wp.if0_eq (WpD.mono _) rfl rfl (fun hc => ?_) (fun hc => ?_)
        · have h := (if_pos hc).symm.trans h
          show Wp (WpD (e + 96)) hcL_law Q (1692, [some (.inr (.inr (200, 0))), some (.inr (.inr (0, 0))), some (.inr (.inr (12, 0))), some (.inl x3)], []) q48.2
          refine Wp.run (WpD.mono _) 1 (q := ((18, [some (.inr (.inr (200, 0))), some (.inr (.inr (0, 0))), some (.inr (.inr (12, 0))), some (.inl (x3 + (6 : Int32)))], []), q48.2)) rfl ?_
          exact Wp.jump (WpD.mono _) rfl (ih (x3 + (6 : Int32)) q48.2 h)
        · have h := (if_neg hc).symm.trans h
          show Wp (WpD (e + 96)) hcL_law Q (1003, [some (.inr (.inr (200, 0))), some (.inr (.inr (0, 0))), some (.inr (.inr (12, 0))), some (.inl x3)], []) q48.2
          refine Wp.run (WpD.mono _) 0 (q := ((1004, [some (.inr (.inr (200, 0))), some (.inr (.inr (0, 0))), some (.inr (.inr (12, 0))), some (.inl x3)], [.inl (0 : Int32)]), q48.2)) rfl ?_
          obtain ⟨rfl, rfl⟩ := ret_inj h
          exact Wp.ret (WpD.mono _) rfl hQ
      have h := (if_neg hs23).symm.trans h
      by_cases hs24 : ((σ.2.2.2.2.2 (x3).toNatClampNeg) &&& (63 : Int32)) = 24
      · have h := (if_pos hs24).symm.trans h
        refine Wp.swIn (WpD.mono _) (q := ((1005, [some (.inr (.inr (200, 0))), some (.inr (.inr (0, 0))), some (.inr (.inr (12, 0))), some (.inl x3)], []), σ)) hs24 rfl ?_
        refine Wp.run (WpD.mono _) 4 (q := ((1010, [some (.inr (.inr (200, 0))), some (.inr (.inr (0, 0))), some (.inr (.inr (12, 0))), some (.inl x3)], [.inl (x3 + (1 : Int32)), .inr (.inr (200, 0)), .inr (.inr (0, 0))]), σ)) rfl ?_
        obtain ⟨hc, h⟩ := ite_nn h
        refine Wp.X_ild6 (WpD.mono _) rfl rfl hc ?_
        show Wp (WpD (e + 96)) hcL_law Q (1011, [some (.inr (.inr (200, 0))), some (.inr (.inr (0, 0))), some (.inr (.inr (12, 0))), some (.inl x3)], [.inl (σ.2.2.2.2.2 ((x3 + (1 : Int32))).toNatClampNeg), .inr (.inr (0, 0))]) σ
        obtain ⟨q49, hb, h⟩ := bind_some h
        refine Wp.call (WpD.mono _) rfl (T_X11_right (e + 71) N (σ.2.2.2.2.2 ((x3 + (1 : Int32))).toNatClampNeg) σ _ _ _ hb ?_)
        show Wp (WpD (e + 96)) hcL_law Q (1014, [some (.inr (.inr (200, 0))), some (.inr (.inr (0, 0))), some (.inr (.inr (12, 0))), some (.inl x3)], [.inl q49.1]) q49.2
        refine Wp.run (WpD.mono _) 4 (q := ((1019, [some (.inr (.inr (200, 0))), some (.inr (.inr (0, 0))), some (.inr (.inr (12, 0))), some (.inl x3)], [.inl (x3 + (1 : Int32)), .inr (.inr (200, 0)), .inr (.inr (12, 0)), .inl q49.1]), q49.2)) rfl ?_
        obtain ⟨hc, h⟩ := ite_nn h
        refine Wp.X_ild6 (WpD.mono _) rfl rfl hc ?_
        show Wp (WpD (e + 96)) hcL_law Q (1020, [some (.inr (.inr (200, 0))), some (.inr (.inr (0, 0))), some (.inr (.inr (12, 0))), some (.inl x3)], [.inl (q49.2.2.2.2.2.2 ((x3 + (1 : Int32))).toNatClampNeg), .inr (.inr (12, 0)), .inl q49.1]) q49.2
        obtain ⟨q50, hb, h⟩ := bind_some h
        refine Wp.call (WpD.mono _) rfl (T_X12_right (e + 59) N (q49.2.2.2.2.2.2 ((x3 + (1 : Int32))).toNatClampNeg) q49.2 _ _ _ hb ?_)
        show Wp (WpD (e + 96)) hcL_law Q (1023, [some (.inr (.inr (200, 0))), some (.inr (.inr (0, 0))), some (.inr (.inr (12, 0))), some (.inl x3)], [.inl q50.1, .inl q49.1]) q50.2
        refine Wp.if2_eq (WpD.mono _) rfl rfl (fun hc => ?_) (fun hc => ?_)
        · have h := (if_pos hc).symm.trans h
          show Wp (WpD (e + 96)) hcL_law Q (1692, [some (.inr (.inr (200, 0))), some (.inr (.inr (0, 0))), some (.inr (.inr (12, 0))), some (.inl x3)], []) q50.2
          refine Wp.run (WpD.mono _) 1 (q := ((18, [some (.inr (.inr (200, 0))), some (.inr (.inr (0, 0))), some (.inr (.inr (12, 0))), some (.inl (x3 + (6 : Int32)))], []), q50.2)) rfl ?_
          exact Wp.jump (WpD.mono _) rfl (ih (x3 + (6 : Int32)) q50.2 h)
        · have h := (if_neg hc).symm.trans h
          show Wp (WpD (e + 96)) hcL_law Q (1026, [some (.inr (.inr (200, 0))), some (.inr (.inr (0, 0))), some (.inr (.inr (12, 0))), some (.inl x3)], []) q50.2
          refine Wp.run (WpD.mono _) 0 (q := ((1027, [some (.inr (.inr (200, 0))), some (.inr (.inr (0, 0))), some (.inr (.inr (12, 0))), some (.inl x3)], [.inl (0 : Int32)]), q50.2)) rfl ?_
          obtain ⟨rfl, rfl⟩ := ret_inj h
          exact Wp.ret (WpD.mono _) rfl hQ
      have h := (if_neg hs24).symm.trans h
      by_cases hs25 : ((σ.2.2.2.2.2 (x3).toNatClampNeg) &&& (63 : Int32)) = 25
      · have h := (if_pos hs25).symm.trans h
        refine Wp.swIn (WpD.mono _) (q := ((1028, [some (.inr (.inr (200, 0))), some (.inr (.inr (0, 0))), some (.inr (.inr (12, 0))), some (.inl x3)], []), σ)) hs25 rfl ?_
        refine Wp.run (WpD.mono _) 4 (q := ((1033, [some (.inr (.inr (200, 0))), some (.inr (.inr (0, 0))), some (.inr (.inr (12, 0))), some (.inl x3)], [.inl (x3 + (1 : Int32)), .inr (.inr (200, 0)), .inr (.inr (0, 0))]), σ)) rfl ?_
        obtain ⟨hc, h⟩ := ite_nn h
        refine Wp.X_ild6 (WpD.mono _) rfl rfl hc ?_
        show Wp (WpD (e + 96)) hcL_law Q (1034, [some (.inr (.inr (200, 0))), some (.inr (.inr (0, 0))), some (.inr (.inr (12, 0))), some (.inl x3)], [.inl (σ.2.2.2.2.2 ((x3 + (1 : Int32))).toNatClampNeg), .inr (.inr (0, 0))]) σ
        refine Wp.run (WpD.mono _) 3 (q := ((1038, [some (.inr (.inr (200, 0))), some (.inr (.inr (0, 0))), some (.inr (.inr (12, 0))), some (.inl x3)], [.inl (x3 + (2 : Int32)), .inr (.inr (200, 0)), .inl (σ.2.2.2.2.2 ((x3 + (1 : Int32))).toNatClampNeg), .inr (.inr (0, 0))]), σ)) rfl ?_
        obtain ⟨hc, h⟩ := ite_nn h
        refine Wp.X_ild6 (WpD.mono _) rfl rfl hc ?_
        show Wp (WpD (e + 96)) hcL_law Q (1039, [some (.inr (.inr (200, 0))), some (.inr (.inr (0, 0))), some (.inr (.inr (12, 0))), some (.inl x3)], [.inl (σ.2.2.2.2.2 ((x3 + (2 : Int32))).toNatClampNeg), .inl (σ.2.2.2.2.2 ((x3 + (1 : Int32))).toNatClampNeg), .inr (.inr (0, 0))]) σ
        obtain ⟨q51, hb, h⟩ := bind_some h
        refine Wp.call (WpD.mono _) rfl (T_X11_goesBy (e + 82) N (σ.2.2.2.2.2 ((x3 + (1 : Int32))).toNatClampNeg) (σ.2.2.2.2.2 ((x3 + (2 : Int32))).toNatClampNeg) σ _ _ _ hb ?_)
        show Wp (WpD (e + 96)) hcL_law Q (1042, [some (.inr (.inr (200, 0))), some (.inr (.inr (0, 0))), some (.inr (.inr (12, 0))), some (.inl x3)], [.inl q51.1]) q51.2
        refine Wp.run (WpD.mono _) 4 (q := ((1047, [some (.inr (.inr (200, 0))), some (.inr (.inr (0, 0))), some (.inr (.inr (12, 0))), some (.inl x3)], [.inl (x3 + (1 : Int32)), .inr (.inr (200, 0)), .inr (.inr (12, 0)), .inl q51.1]), q51.2)) rfl ?_
        obtain ⟨hc, h⟩ := ite_nn h
        refine Wp.X_ild6 (WpD.mono _) rfl rfl hc ?_
        show Wp (WpD (e + 96)) hcL_law Q (1048, [some (.inr (.inr (200, 0))), some (.inr (.inr (0, 0))), some (.inr (.inr (12, 0))), some (.inl x3)], [.inl (q51.2.2.2.2.2.2 ((x3 + (1 : Int32))).toNatClampNeg), .inr (.inr (12, 0)), .inl q51.1]) q51.2
        refine Wp.run (WpD.mono _) 3 (q := ((1052, [some (.inr (.inr (200, 0))), some (.inr (.inr (0, 0))), some (.inr (.inr (12, 0))), some (.inl x3)], [.inl (x3 + (2 : Int32)), .inr (.inr (200, 0)), .inl (q51.2.2.2.2.2.2 ((x3 + (1 : Int32))).toNatClampNeg), .inr (.inr (12, 0)), .inl q51.1]), q51.2)) rfl ?_
        obtain ⟨hc, h⟩ := ite_nn h
        refine Wp.X_ild6 (WpD.mono _) rfl rfl hc ?_
        show Wp (WpD (e + 96)) hcL_law Q (1053, [some (.inr (.inr (200, 0))), some (.inr (.inr (0, 0))), some (.inr (.inr (12, 0))), some (.inl x3)], [.inl (q51.2.2.2.2.2.2 ((x3 + (2 : Int32))).toNatClampNeg), .inl (q51.2.2.2.2.2.2 ((x3 + (1 : Int32))).toNatClampNeg), .inr (.inr (12, 0)), .inl q51.1]) q51.2
        obtain ⟨q52, hb, h⟩ := bind_some h
        refine Wp.call (WpD.mono _) rfl (T_X12_goesBy (e + 70) N (q51.2.2.2.2.2.2 ((x3 + (1 : Int32))).toNatClampNeg) (q51.2.2.2.2.2.2 ((x3 + (2 : Int32))).toNatClampNeg) q51.2 _ _ _ hb ?_)
        show Wp (WpD (e + 96)) hcL_law Q (1056, [some (.inr (.inr (200, 0))), some (.inr (.inr (0, 0))), some (.inr (.inr (12, 0))), some (.inl x3)], [.inl q52.1, .inl q51.1]) q52.2
        refine Wp.if2_eq (WpD.mono _) rfl rfl (fun hc => ?_) (fun hc => ?_)
        · have h := (if_pos hc).symm.trans h
          show Wp (WpD (e + 96)) hcL_law Q (1692, [some (.inr (.inr (200, 0))), some (.inr (.inr (0, 0))), some (.inr (.inr (12, 0))), some (.inl x3)], []) q52.2
          refine Wp.run (WpD.mono _) 1 (q := ((18, [some (.inr (.inr (200, 0))), some (.inr (.inr (0, 0))), some (.inr (.inr (12, 0))), some (.inl (x3 + (6 : Int32)))], []), q52.2)) rfl ?_
          exact Wp.jump (WpD.mono _) rfl (ih (x3 + (6 : Int32)) q52.2 h)
        · have h := (if_neg hc).symm.trans h
          show Wp (WpD (e + 96)) hcL_law Q (1059, [some (.inr (.inr (200, 0))), some (.inr (.inr (0, 0))), some (.inr (.inr (12, 0))), some (.inl x3)], []) q52.2
          refine Wp.run (WpD.mono _) 0 (q := ((1060, [some (.inr (.inr (200, 0))), some (.inr (.inr (0, 0))), some (.inr (.inr (12, 0))), some (.inl x3)], [.inl (0 : Int32)]), q52.2)) rfl ?_
          obtain ⟨rfl, rfl⟩ := ret_inj h
          exact Wp.ret (WpD.mono _) rfl hQ
      have h := (if_neg hs25).symm.trans h
      by_cases hs26 : ((σ.2.2.2.2.2 (x3).toNatClampNeg) &&& (63 : Int32)) = 26
      · have h := (if_pos hs26).symm.trans h
        refine Wp.swIn (WpD.mono _) (q := ((1061, [some (.inr (.inr (200, 0))), some (.inr (.inr (0, 0))), some (.inr (.inr (12, 0))), some (.inl x3)], []), σ)) hs26 rfl ?_
        refine Wp.run (WpD.mono _) 4 (q := ((1066, [some (.inr (.inr (200, 0))), some (.inr (.inr (0, 0))), some (.inr (.inr (12, 0))), some (.inl x3)], [.inl (x3 + (1 : Int32)), .inr (.inr (200, 0)), .inr (.inr (0, 0))]), σ)) rfl ?_
        obtain ⟨hc, h⟩ := ite_nn h
        refine Wp.X_ild6 (WpD.mono _) rfl rfl hc ?_
        show Wp (WpD (e + 96)) hcL_law Q (1067, [some (.inr (.inr (200, 0))), some (.inr (.inr (0, 0))), some (.inr (.inr (12, 0))), some (.inl x3)], [.inl (σ.2.2.2.2.2 ((x3 + (1 : Int32))).toNatClampNeg), .inr (.inr (0, 0))]) σ
        refine Wp.run (WpD.mono _) 3 (q := ((1071, [some (.inr (.inr (200, 0))), some (.inr (.inr (0, 0))), some (.inr (.inr (12, 0))), some (.inl x3)], [.inl (x3 + (2 : Int32)), .inr (.inr (200, 0)), .inl (σ.2.2.2.2.2 ((x3 + (1 : Int32))).toNatClampNeg), .inr (.inr (0, 0))]), σ)) rfl ?_
        obtain ⟨hc, h⟩ := ite_nn h
        refine Wp.X_ild6 (WpD.mono _) rfl rfl hc ?_
        show Wp (WpD (e + 96)) hcL_law Q (1072, [some (.inr (.inr (200, 0))), some (.inr (.inr (0, 0))), some (.inr (.inr (12, 0))), some (.inl x3)], [.inl (σ.2.2.2.2.2 ((x3 + (2 : Int32))).toNatClampNeg), .inl (σ.2.2.2.2.2 ((x3 + (1 : Int32))).toNatClampNeg), .inr (.inr (0, 0))]) σ
        obtain ⟨q53, hb, h⟩ := bind_some h
        refine Wp.call (WpD.mono _) rfl (T_X11_bore (e + 71) N (σ.2.2.2.2.2 ((x3 + (1 : Int32))).toNatClampNeg) (σ.2.2.2.2.2 ((x3 + (2 : Int32))).toNatClampNeg) σ _ _ _ hb ?_)
        show Wp (WpD (e + 96)) hcL_law Q (1075, [some (.inr (.inr (200, 0))), some (.inr (.inr (0, 0))), some (.inr (.inr (12, 0))), some (.inl x3)], [.inr (.inl q53.1)]) q53.2
        refine Wp.run (WpD.mono _) 4 (q := ((1080, [some (.inr (.inr (200, 0))), some (.inr (.inr (0, 0))), some (.inr (.inr (12, 0))), some (.inl x3)], [.inl (x3 + (1 : Int32)), .inr (.inr (200, 0)), .inr (.inr (12, 0)), .inr (.inl q53.1)]), q53.2)) rfl ?_
        obtain ⟨hc, h⟩ := ite_nn h
        refine Wp.X_ild6 (WpD.mono _) rfl rfl hc ?_
        show Wp (WpD (e + 96)) hcL_law Q (1081, [some (.inr (.inr (200, 0))), some (.inr (.inr (0, 0))), some (.inr (.inr (12, 0))), some (.inl x3)], [.inl (q53.2.2.2.2.2.2 ((x3 + (1 : Int32))).toNatClampNeg), .inr (.inr (12, 0)), .inr (.inl q53.1)]) q53.2
        refine Wp.run (WpD.mono _) 3 (q := ((1085, [some (.inr (.inr (200, 0))), some (.inr (.inr (0, 0))), some (.inr (.inr (12, 0))), some (.inl x3)], [.inl (x3 + (2 : Int32)), .inr (.inr (200, 0)), .inl (q53.2.2.2.2.2.2 ((x3 + (1 : Int32))).toNatClampNeg), .inr (.inr (12, 0)), .inr (.inl q53.1)]), q53.2)) rfl ?_
        obtain ⟨hc, h⟩ := ite_nn h
        refine Wp.X_ild6 (WpD.mono _) rfl rfl hc ?_
        show Wp (WpD (e + 96)) hcL_law Q (1086, [some (.inr (.inr (200, 0))), some (.inr (.inr (0, 0))), some (.inr (.inr (12, 0))), some (.inl x3)], [.inl (q53.2.2.2.2.2.2 ((x3 + (2 : Int32))).toNatClampNeg), .inl (q53.2.2.2.2.2.2 ((x3 + (1 : Int32))).toNatClampNeg), .inr (.inr (12, 0)), .inr (.inl q53.1)]) q53.2
        obtain ⟨q54, hb, h⟩ := bind_some h
        refine Wp.call (WpD.mono _) rfl (T_X12_bore (e + 60) N (q53.2.2.2.2.2.2 ((x3 + (1 : Int32))).toNatClampNeg) (q53.2.2.2.2.2.2 ((x3 + (2 : Int32))).toNatClampNeg) q53.2 _ _ _ hb ?_)
        show Wp (WpD (e + 96)) hcL_law Q (1089, [some (.inr (.inr (200, 0))), some (.inr (.inr (0, 0))), some (.inr (.inr (12, 0))), some (.inl x3)], [.inr (.inl q54.1), .inr (.inl q53.1)]) q54.2
        refine Wp.run (WpD.mono _) 0 (q := ((1090, [some (.inr (.inr (200, 0))), some (.inr (.inr (0, 0))), some (.inr (.inr (12, 0))), some (.inl x3)], [.inl (lg_cmp q53.1 q54.1)]), q54.2)) rfl ?_
        refine Wp.if0_eq (WpD.mono _) rfl rfl (fun hc => ?_) (fun hc => ?_)
        · have h := (if_pos hc).symm.trans h
          show Wp (WpD (e + 96)) hcL_law Q (1692, [some (.inr (.inr (200, 0))), some (.inr (.inr (0, 0))), some (.inr (.inr (12, 0))), some (.inl x3)], []) q54.2
          refine Wp.run (WpD.mono _) 1 (q := ((18, [some (.inr (.inr (200, 0))), some (.inr (.inr (0, 0))), some (.inr (.inr (12, 0))), some (.inl (x3 + (6 : Int32)))], []), q54.2)) rfl ?_
          exact Wp.jump (WpD.mono _) rfl (ih (x3 + (6 : Int32)) q54.2 h)
        · have h := (if_neg hc).symm.trans h
          show Wp (WpD (e + 96)) hcL_law Q (1093, [some (.inr (.inr (200, 0))), some (.inr (.inr (0, 0))), some (.inr (.inr (12, 0))), some (.inl x3)], []) q54.2
          refine Wp.run (WpD.mono _) 0 (q := ((1094, [some (.inr (.inr (200, 0))), some (.inr (.inr (0, 0))), some (.inr (.inr (12, 0))), some (.inl x3)], [.inl (0 : Int32)]), q54.2)) rfl ?_
          obtain ⟨rfl, rfl⟩ := ret_inj h
          exact Wp.ret (WpD.mono _) rfl hQ
      have h := (if_neg hs26).symm.trans h
      by_cases hs27 : ((σ.2.2.2.2.2 (x3).toNatClampNeg) &&& (63 : Int32)) = 27
      · have h := (if_pos hs27).symm.trans h
        refine Wp.swIn (WpD.mono _) (q := ((1095, [some (.inr (.inr (200, 0))), some (.inr (.inr (0, 0))), some (.inr (.inr (12, 0))), some (.inl x3)], []), σ)) hs27 rfl ?_
        refine Wp.run (WpD.mono _) 4 (q := ((1100, [some (.inr (.inr (200, 0))), some (.inr (.inr (0, 0))), some (.inr (.inr (12, 0))), some (.inl x3)], [.inl (x3 + (1 : Int32)), .inr (.inr (200, 0)), .inr (.inr (0, 0))]), σ)) rfl ?_
        obtain ⟨hc, h⟩ := ite_nn h
        refine Wp.X_ild6 (WpD.mono _) rfl rfl hc ?_
        show Wp (WpD (e + 96)) hcL_law Q (1101, [some (.inr (.inr (200, 0))), some (.inr (.inr (0, 0))), some (.inr (.inr (12, 0))), some (.inl x3)], [.inl (σ.2.2.2.2.2 ((x3 + (1 : Int32))).toNatClampNeg), .inr (.inr (0, 0))]) σ
        refine Wp.run (WpD.mono _) 3 (q := ((1105, [some (.inr (.inr (200, 0))), some (.inr (.inr (0, 0))), some (.inr (.inr (12, 0))), some (.inl x3)], [.inl (x3 + (2 : Int32)), .inr (.inr (200, 0)), .inl (σ.2.2.2.2.2 ((x3 + (1 : Int32))).toNatClampNeg), .inr (.inr (0, 0))]), σ)) rfl ?_
        obtain ⟨hc, h⟩ := ite_nn h
        refine Wp.X_ild6 (WpD.mono _) rfl rfl hc ?_
        show Wp (WpD (e + 96)) hcL_law Q (1106, [some (.inr (.inr (200, 0))), some (.inr (.inr (0, 0))), some (.inr (.inr (12, 0))), some (.inl x3)], [.inl (σ.2.2.2.2.2 ((x3 + (2 : Int32))).toNatClampNeg), .inl (σ.2.2.2.2.2 ((x3 + (1 : Int32))).toNatClampNeg), .inr (.inr (0, 0))]) σ
        obtain ⟨q55, hb, h⟩ := bind_some h
        refine Wp.call (WpD.mono _) rfl (T_X11_far (e + 70) N (σ.2.2.2.2.2 ((x3 + (1 : Int32))).toNatClampNeg) (σ.2.2.2.2.2 ((x3 + (2 : Int32))).toNatClampNeg) σ _ _ _ hb ?_)
        show Wp (WpD (e + 96)) hcL_law Q (1109, [some (.inr (.inr (200, 0))), some (.inr (.inr (0, 0))), some (.inr (.inr (12, 0))), some (.inl x3)], [.inl q55.1]) q55.2
        refine Wp.run (WpD.mono _) 4 (q := ((1114, [some (.inr (.inr (200, 0))), some (.inr (.inr (0, 0))), some (.inr (.inr (12, 0))), some (.inl x3)], [.inl (x3 + (1 : Int32)), .inr (.inr (200, 0)), .inr (.inr (12, 0)), .inl q55.1]), q55.2)) rfl ?_
        obtain ⟨hc, h⟩ := ite_nn h
        refine Wp.X_ild6 (WpD.mono _) rfl rfl hc ?_
        show Wp (WpD (e + 96)) hcL_law Q (1115, [some (.inr (.inr (200, 0))), some (.inr (.inr (0, 0))), some (.inr (.inr (12, 0))), some (.inl x3)], [.inl (q55.2.2.2.2.2.2 ((x3 + (1 : Int32))).toNatClampNeg), .inr (.inr (12, 0)), .inl q55.1]) q55.2
        refine Wp.run (WpD.mono _) 3 (q := ((1119, [some (.inr (.inr (200, 0))), some (.inr (.inr (0, 0))), some (.inr (.inr (12, 0))), some (.inl x3)], [.inl (x3 + (2 : Int32)), .inr (.inr (200, 0)), .inl (q55.2.2.2.2.2.2 ((x3 + (1 : Int32))).toNatClampNeg), .inr (.inr (12, 0)), .inl q55.1]), q55.2)) rfl ?_
        obtain ⟨hc, h⟩ := ite_nn h
        refine Wp.X_ild6 (WpD.mono _) rfl rfl hc ?_
        show Wp (WpD (e + 96)) hcL_law Q (1120, [some (.inr (.inr (200, 0))), some (.inr (.inr (0, 0))), some (.inr (.inr (12, 0))), some (.inl x3)], [.inl (q55.2.2.2.2.2.2 ((x3 + (2 : Int32))).toNatClampNeg), .inl (q55.2.2.2.2.2.2 ((x3 + (1 : Int32))).toNatClampNeg), .inr (.inr (12, 0)), .inl q55.1]) q55.2
        obtain ⟨q56, hb, h⟩ := bind_some h
        refine Wp.call (WpD.mono _) rfl (T_X12_far (e + 60) N (q55.2.2.2.2.2.2 ((x3 + (1 : Int32))).toNatClampNeg) (q55.2.2.2.2.2.2 ((x3 + (2 : Int32))).toNatClampNeg) q55.2 _ _ _ hb ?_)
        show Wp (WpD (e + 96)) hcL_law Q (1123, [some (.inr (.inr (200, 0))), some (.inr (.inr (0, 0))), some (.inr (.inr (12, 0))), some (.inl x3)], [.inl q56.1, .inl q55.1]) q56.2
        refine Wp.if2_eq (WpD.mono _) rfl rfl (fun hc => ?_) (fun hc => ?_)
        · have h := (if_pos hc).symm.trans h
          show Wp (WpD (e + 96)) hcL_law Q (1692, [some (.inr (.inr (200, 0))), some (.inr (.inr (0, 0))), some (.inr (.inr (12, 0))), some (.inl x3)], []) q56.2
          refine Wp.run (WpD.mono _) 1 (q := ((18, [some (.inr (.inr (200, 0))), some (.inr (.inr (0, 0))), some (.inr (.inr (12, 0))), some (.inl (x3 + (6 : Int32)))], []), q56.2)) rfl ?_
          exact Wp.jump (WpD.mono _) rfl (ih (x3 + (6 : Int32)) q56.2 h)
        · have h := (if_neg hc).symm.trans h
          show Wp (WpD (e + 96)) hcL_law Q (1126, [some (.inr (.inr (200, 0))), some (.inr (.inr (0, 0))), some (.inr (.inr (12, 0))), some (.inl x3)], []) q56.2
          refine Wp.run (WpD.mono _) 0 (q := ((1127, [some (.inr (.inr (200, 0))), some (.inr (.inr (0, 0))), some (.inr (.inr (12, 0))), some (.inl x3)], [.inl (0 : Int32)]), q56.2)) rfl ?_
          obtain ⟨rfl, rfl⟩ := ret_inj h
          exact Wp.ret (WpD.mono _) rfl hQ
      have h := (if_neg hs27).symm.trans h
      by_cases hs28 : ((σ.2.2.2.2.2 (x3).toNatClampNeg) &&& (63 : Int32)) = 28
      · have h := (if_pos hs28).symm.trans h
        refine Wp.swIn (WpD.mono _) (q := ((1128, [some (.inr (.inr (200, 0))), some (.inr (.inr (0, 0))), some (.inr (.inr (12, 0))), some (.inl x3)], []), σ)) hs28 rfl ?_
        refine Wp.run (WpD.mono _) 4 (q := ((1133, [some (.inr (.inr (200, 0))), some (.inr (.inr (0, 0))), some (.inr (.inr (12, 0))), some (.inl x3)], [.inl (x3 + (1 : Int32)), .inr (.inr (200, 0)), .inr (.inr (0, 0))]), σ)) rfl ?_
        obtain ⟨hc, h⟩ := ite_nn h
        refine Wp.X_ild6 (WpD.mono _) rfl rfl hc ?_
        show Wp (WpD (e + 96)) hcL_law Q (1134, [some (.inr (.inr (200, 0))), some (.inr (.inr (0, 0))), some (.inr (.inr (12, 0))), some (.inl x3)], [.inl (σ.2.2.2.2.2 ((x3 + (1 : Int32))).toNatClampNeg), .inr (.inr (0, 0))]) σ
        refine Wp.run (WpD.mono _) 3 (q := ((1138, [some (.inr (.inr (200, 0))), some (.inr (.inr (0, 0))), some (.inr (.inr (12, 0))), some (.inl x3)], [.inl (x3 + (2 : Int32)), .inr (.inr (200, 0)), .inl (σ.2.2.2.2.2 ((x3 + (1 : Int32))).toNatClampNeg), .inr (.inr (0, 0))]), σ)) rfl ?_
        obtain ⟨hc, h⟩ := ite_nn h
        refine Wp.X_ild6 (WpD.mono _) rfl rfl hc ?_
        show Wp (WpD (e + 96)) hcL_law Q (1139, [some (.inr (.inr (200, 0))), some (.inr (.inr (0, 0))), some (.inr (.inr (12, 0))), some (.inl x3)], [.inl (σ.2.2.2.2.2 ((x3 + (2 : Int32))).toNatClampNeg), .inl (σ.2.2.2.2.2 ((x3 + (1 : Int32))).toNatClampNeg), .inr (.inr (0, 0))]) σ
        obtain ⟨q57, hb, h⟩ := bind_some h
        refine Wp.call (WpD.mono _) rfl (T_X11_diviner (e + 82) N (σ.2.2.2.2.2 ((x3 + (1 : Int32))).toNatClampNeg) (σ.2.2.2.2.2 ((x3 + (2 : Int32))).toNatClampNeg) σ _ _ _ hb ?_)
        show Wp (WpD (e + 96)) hcL_law Q (1142, [some (.inr (.inr (200, 0))), some (.inr (.inr (0, 0))), some (.inr (.inr (12, 0))), some (.inl x3)], [.inr (.inl q57.1)]) q57.2
        refine Wp.run (WpD.mono _) 4 (q := ((1147, [some (.inr (.inr (200, 0))), some (.inr (.inr (0, 0))), some (.inr (.inr (12, 0))), some (.inl x3)], [.inl (x3 + (1 : Int32)), .inr (.inr (200, 0)), .inr (.inr (12, 0)), .inr (.inl q57.1)]), q57.2)) rfl ?_
        obtain ⟨hc, h⟩ := ite_nn h
        refine Wp.X_ild6 (WpD.mono _) rfl rfl hc ?_
        show Wp (WpD (e + 96)) hcL_law Q (1148, [some (.inr (.inr (200, 0))), some (.inr (.inr (0, 0))), some (.inr (.inr (12, 0))), some (.inl x3)], [.inl (q57.2.2.2.2.2.2 ((x3 + (1 : Int32))).toNatClampNeg), .inr (.inr (12, 0)), .inr (.inl q57.1)]) q57.2
        refine Wp.run (WpD.mono _) 3 (q := ((1152, [some (.inr (.inr (200, 0))), some (.inr (.inr (0, 0))), some (.inr (.inr (12, 0))), some (.inl x3)], [.inl (x3 + (2 : Int32)), .inr (.inr (200, 0)), .inl (q57.2.2.2.2.2.2 ((x3 + (1 : Int32))).toNatClampNeg), .inr (.inr (12, 0)), .inr (.inl q57.1)]), q57.2)) rfl ?_
        obtain ⟨hc, h⟩ := ite_nn h
        refine Wp.X_ild6 (WpD.mono _) rfl rfl hc ?_
        show Wp (WpD (e + 96)) hcL_law Q (1153, [some (.inr (.inr (200, 0))), some (.inr (.inr (0, 0))), some (.inr (.inr (12, 0))), some (.inl x3)], [.inl (q57.2.2.2.2.2.2 ((x3 + (2 : Int32))).toNatClampNeg), .inl (q57.2.2.2.2.2.2 ((x3 + (1 : Int32))).toNatClampNeg), .inr (.inr (12, 0)), .inr (.inl q57.1)]) q57.2
        obtain ⟨q58, hb, h⟩ := bind_some h
        refine Wp.call (WpD.mono _) rfl (T_X12_diviner (e + 70) N (q57.2.2.2.2.2.2 ((x3 + (1 : Int32))).toNatClampNeg) (q57.2.2.2.2.2.2 ((x3 + (2 : Int32))).toNatClampNeg) q57.2 _ _ _ hb ?_)
        show Wp (WpD (e + 96)) hcL_law Q (1156, [some (.inr (.inr (200, 0))), some (.inr (.inr (0, 0))), some (.inr (.inr (12, 0))), some (.inl x3)], [.inr (.inl q58.1), .inr (.inl q57.1)]) q58.2
        refine Wp.run (WpD.mono _) 0 (q := ((1157, [some (.inr (.inr (200, 0))), some (.inr (.inr (0, 0))), some (.inr (.inr (12, 0))), some (.inl x3)], [.inl (lg_cmp q57.1 q58.1)]), q58.2)) rfl ?_
        refine Wp.if0_eq (WpD.mono _) rfl rfl (fun hc => ?_) (fun hc => ?_)
        · have h := (if_pos hc).symm.trans h
          show Wp (WpD (e + 96)) hcL_law Q (1692, [some (.inr (.inr (200, 0))), some (.inr (.inr (0, 0))), some (.inr (.inr (12, 0))), some (.inl x3)], []) q58.2
          refine Wp.run (WpD.mono _) 1 (q := ((18, [some (.inr (.inr (200, 0))), some (.inr (.inr (0, 0))), some (.inr (.inr (12, 0))), some (.inl (x3 + (6 : Int32)))], []), q58.2)) rfl ?_
          exact Wp.jump (WpD.mono _) rfl (ih (x3 + (6 : Int32)) q58.2 h)
        · have h := (if_neg hc).symm.trans h
          show Wp (WpD (e + 96)) hcL_law Q (1160, [some (.inr (.inr (200, 0))), some (.inr (.inr (0, 0))), some (.inr (.inr (12, 0))), some (.inl x3)], []) q58.2
          refine Wp.run (WpD.mono _) 0 (q := ((1161, [some (.inr (.inr (200, 0))), some (.inr (.inr (0, 0))), some (.inr (.inr (12, 0))), some (.inl x3)], [.inl (0 : Int32)]), q58.2)) rfl ?_
          obtain ⟨rfl, rfl⟩ := ret_inj h
          exact Wp.ret (WpD.mono _) rfl hQ
      have h := (if_neg hs28).symm.trans h
      by_cases hs29 : ((σ.2.2.2.2.2 (x3).toNatClampNeg) &&& (63 : Int32)) = 29
      · have h := (if_pos hs29).symm.trans h
        refine Wp.swIn (WpD.mono _) (q := ((1162, [some (.inr (.inr (200, 0))), some (.inr (.inr (0, 0))), some (.inr (.inr (12, 0))), some (.inl x3)], []), σ)) hs29 rfl ?_
        refine Wp.run (WpD.mono _) 4 (q := ((1167, [some (.inr (.inr (200, 0))), some (.inr (.inr (0, 0))), some (.inr (.inr (12, 0))), some (.inl x3)], [.inl (x3 + (1 : Int32)), .inr (.inr (200, 0)), .inr (.inr (0, 0))]), σ)) rfl ?_
        obtain ⟨hc, h⟩ := ite_nn h
        refine Wp.X_ild6 (WpD.mono _) rfl rfl hc ?_
        show Wp (WpD (e + 96)) hcL_law Q (1168, [some (.inr (.inr (200, 0))), some (.inr (.inr (0, 0))), some (.inr (.inr (12, 0))), some (.inl x3)], [.inl (σ.2.2.2.2.2 ((x3 + (1 : Int32))).toNatClampNeg), .inr (.inr (0, 0))]) σ
        obtain ⟨q59, hb, h⟩ := bind_some h
        refine Wp.call (WpD.mono _) rfl (T_X11_believe (e + 82) N (σ.2.2.2.2.2 ((x3 + (1 : Int32))).toNatClampNeg) σ _ _ _ hb ?_)
        show Wp (WpD (e + 96)) hcL_law Q (1171, [some (.inr (.inr (200, 0))), some (.inr (.inr (0, 0))), some (.inr (.inr (12, 0))), some (.inl x3)], [.inl q59.1]) q59.2
        refine Wp.run (WpD.mono _) 4 (q := ((1176, [some (.inr (.inr (200, 0))), some (.inr (.inr (0, 0))), some (.inr (.inr (12, 0))), some (.inl x3)], [.inl (x3 + (1 : Int32)), .inr (.inr (200, 0)), .inr (.inr (12, 0)), .inl q59.1]), q59.2)) rfl ?_
        obtain ⟨hc, h⟩ := ite_nn h
        refine Wp.X_ild6 (WpD.mono _) rfl rfl hc ?_
        show Wp (WpD (e + 96)) hcL_law Q (1177, [some (.inr (.inr (200, 0))), some (.inr (.inr (0, 0))), some (.inr (.inr (12, 0))), some (.inl x3)], [.inl (q59.2.2.2.2.2.2 ((x3 + (1 : Int32))).toNatClampNeg), .inr (.inr (12, 0)), .inl q59.1]) q59.2
        obtain ⟨q60, hb, h⟩ := bind_some h
        refine Wp.call (WpD.mono _) rfl (T_X12_believe (e + 70) N (q59.2.2.2.2.2.2 ((x3 + (1 : Int32))).toNatClampNeg) q59.2 _ _ _ hb ?_)
        show Wp (WpD (e + 96)) hcL_law Q (1180, [some (.inr (.inr (200, 0))), some (.inr (.inr (0, 0))), some (.inr (.inr (12, 0))), some (.inl x3)], [.inl q60.1, .inl q59.1]) q60.2
        refine Wp.if2_eq (WpD.mono _) rfl rfl (fun hc => ?_) (fun hc => ?_)
        · have h := (if_pos hc).symm.trans h
          show Wp (WpD (e + 96)) hcL_law Q (1692, [some (.inr (.inr (200, 0))), some (.inr (.inr (0, 0))), some (.inr (.inr (12, 0))), some (.inl x3)], []) q60.2
          refine Wp.run (WpD.mono _) 1 (q := ((18, [some (.inr (.inr (200, 0))), some (.inr (.inr (0, 0))), some (.inr (.inr (12, 0))), some (.inl (x3 + (6 : Int32)))], []), q60.2)) rfl ?_
          exact Wp.jump (WpD.mono _) rfl (ih (x3 + (6 : Int32)) q60.2 h)
        · have h := (if_neg hc).symm.trans h
          show Wp (WpD (e + 96)) hcL_law Q (1183, [some (.inr (.inr (200, 0))), some (.inr (.inr (0, 0))), some (.inr (.inr (12, 0))), some (.inl x3)], []) q60.2
          refine Wp.run (WpD.mono _) 0 (q := ((1184, [some (.inr (.inr (200, 0))), some (.inr (.inr (0, 0))), some (.inr (.inr (12, 0))), some (.inl x3)], [.inl (0 : Int32)]), q60.2)) rfl ?_
          obtain ⟨rfl, rfl⟩ := ret_inj h
          exact Wp.ret (WpD.mono _) rfl hQ
      have h := (if_neg hs29).symm.trans h
      by_cases hs30 : ((σ.2.2.2.2.2 (x3).toNatClampNeg) &&& (63 : Int32)) = 30
      · have h := (if_pos hs30).symm.trans h
        refine Wp.swIn (WpD.mono _) (q := ((1185, [some (.inr (.inr (200, 0))), some (.inr (.inr (0, 0))), some (.inr (.inr (12, 0))), some (.inl x3)], []), σ)) hs30 rfl ?_
        refine Wp.run (WpD.mono _) 4 (q := ((1190, [some (.inr (.inr (200, 0))), some (.inr (.inr (0, 0))), some (.inr (.inr (12, 0))), some (.inl x3)], [.inl (x3 + (1 : Int32)), .inr (.inr (200, 0)), .inr (.inr (0, 0))]), σ)) rfl ?_
        obtain ⟨hc, h⟩ := ite_nn h
        refine Wp.X_ild6 (WpD.mono _) rfl rfl hc ?_
        show Wp (WpD (e + 96)) hcL_law Q (1191, [some (.inr (.inr (200, 0))), some (.inr (.inr (0, 0))), some (.inr (.inr (12, 0))), some (.inl x3)], [.inl (σ.2.2.2.2.2 ((x3 + (1 : Int32))).toNatClampNeg), .inr (.inr (0, 0))]) σ
        refine Wp.run (WpD.mono _) 3 (q := ((1195, [some (.inr (.inr (200, 0))), some (.inr (.inr (0, 0))), some (.inr (.inr (12, 0))), some (.inl x3)], [.inl (x3 + (2 : Int32)), .inr (.inr (200, 0)), .inl (σ.2.2.2.2.2 ((x3 + (1 : Int32))).toNatClampNeg), .inr (.inr (0, 0))]), σ)) rfl ?_
        obtain ⟨hc, h⟩ := ite_nn h
        refine Wp.X_ild6 (WpD.mono _) rfl rfl hc ?_
        show Wp (WpD (e + 96)) hcL_law Q (1196, [some (.inr (.inr (200, 0))), some (.inr (.inr (0, 0))), some (.inr (.inr (12, 0))), some (.inl x3)], [.inl (σ.2.2.2.2.2 ((x3 + (2 : Int32))).toNatClampNeg), .inl (σ.2.2.2.2.2 ((x3 + (1 : Int32))).toNatClampNeg), .inr (.inr (0, 0))]) σ
        obtain ⟨q61, hb, h⟩ := bind_some h
        refine Wp.call (WpD.mono _) rfl (T_X11_fall (e + 94) N (σ.2.2.2.2.2 ((x3 + (1 : Int32))).toNatClampNeg) (σ.2.2.2.2.2 ((x3 + (2 : Int32))).toNatClampNeg) σ _ _ _ hb ?_)
        show Wp (WpD (e + 96)) hcL_law Q (1199, [some (.inr (.inr (200, 0))), some (.inr (.inr (0, 0))), some (.inr (.inr (12, 0))), some (.inl x3)], [.inr (.inl q61.1)]) q61.2
        refine Wp.run (WpD.mono _) 4 (q := ((1204, [some (.inr (.inr (200, 0))), some (.inr (.inr (0, 0))), some (.inr (.inr (12, 0))), some (.inl x3)], [.inl (x3 + (1 : Int32)), .inr (.inr (200, 0)), .inr (.inr (12, 0)), .inr (.inl q61.1)]), q61.2)) rfl ?_
        obtain ⟨hc, h⟩ := ite_nn h
        refine Wp.X_ild6 (WpD.mono _) rfl rfl hc ?_
        show Wp (WpD (e + 96)) hcL_law Q (1205, [some (.inr (.inr (200, 0))), some (.inr (.inr (0, 0))), some (.inr (.inr (12, 0))), some (.inl x3)], [.inl (q61.2.2.2.2.2.2 ((x3 + (1 : Int32))).toNatClampNeg), .inr (.inr (12, 0)), .inr (.inl q61.1)]) q61.2
        refine Wp.run (WpD.mono _) 3 (q := ((1209, [some (.inr (.inr (200, 0))), some (.inr (.inr (0, 0))), some (.inr (.inr (12, 0))), some (.inl x3)], [.inl (x3 + (2 : Int32)), .inr (.inr (200, 0)), .inl (q61.2.2.2.2.2.2 ((x3 + (1 : Int32))).toNatClampNeg), .inr (.inr (12, 0)), .inr (.inl q61.1)]), q61.2)) rfl ?_
        obtain ⟨hc, h⟩ := ite_nn h
        refine Wp.X_ild6 (WpD.mono _) rfl rfl hc ?_
        show Wp (WpD (e + 96)) hcL_law Q (1210, [some (.inr (.inr (200, 0))), some (.inr (.inr (0, 0))), some (.inr (.inr (12, 0))), some (.inl x3)], [.inl (q61.2.2.2.2.2.2 ((x3 + (2 : Int32))).toNatClampNeg), .inl (q61.2.2.2.2.2.2 ((x3 + (1 : Int32))).toNatClampNeg), .inr (.inr (12, 0)), .inr (.inl q61.1)]) q61.2
        obtain ⟨q62, hb, h⟩ := bind_some h
        refine Wp.call (WpD.mono _) rfl (T_X12_fall (e + 91) N (q61.2.2.2.2.2.2 ((x3 + (1 : Int32))).toNatClampNeg) (q61.2.2.2.2.2.2 ((x3 + (2 : Int32))).toNatClampNeg) q61.2 _ _ _ hb ?_)
        show Wp (WpD (e + 96)) hcL_law Q (1213, [some (.inr (.inr (200, 0))), some (.inr (.inr (0, 0))), some (.inr (.inr (12, 0))), some (.inl x3)], [.inr (.inl q62.1), .inr (.inl q61.1)]) q62.2
        refine Wp.run (WpD.mono _) 0 (q := ((1214, [some (.inr (.inr (200, 0))), some (.inr (.inr (0, 0))), some (.inr (.inr (12, 0))), some (.inl x3)], [.inl (lg_cmp q61.1 q62.1)]), q62.2)) rfl ?_
        refine Wp.if0_eq (WpD.mono _) rfl rfl (fun hc => ?_) (fun hc => ?_)
        · have h := (if_pos hc).symm.trans h
          show Wp (WpD (e + 96)) hcL_law Q (1692, [some (.inr (.inr (200, 0))), some (.inr (.inr (0, 0))), some (.inr (.inr (12, 0))), some (.inl x3)], []) q62.2
          refine Wp.run (WpD.mono _) 1 (q := ((18, [some (.inr (.inr (200, 0))), some (.inr (.inr (0, 0))), some (.inr (.inr (12, 0))), some (.inl (x3 + (6 : Int32)))], []), q62.2)) rfl ?_
          exact Wp.jump (WpD.mono _) rfl (ih (x3 + (6 : Int32)) q62.2 h)
        · have h := (if_neg hc).symm.trans h
          show Wp (WpD (e + 96)) hcL_law Q (1217, [some (.inr (.inr (200, 0))), some (.inr (.inr (0, 0))), some (.inr (.inr (12, 0))), some (.inl x3)], []) q62.2
          refine Wp.run (WpD.mono _) 0 (q := ((1218, [some (.inr (.inr (200, 0))), some (.inr (.inr (0, 0))), some (.inr (.inr (12, 0))), some (.inl x3)], [.inl (0 : Int32)]), q62.2)) rfl ?_
          obtain ⟨rfl, rfl⟩ := ret_inj h
          exact Wp.ret (WpD.mono _) rfl hQ
      have h := (if_neg hs30).symm.trans h
      by_cases hs31 : ((σ.2.2.2.2.2 (x3).toNatClampNeg) &&& (63 : Int32)) = 31
      · have h := (if_pos hs31).symm.trans h
        refine Wp.swIn (WpD.mono _) (q := ((1219, [some (.inr (.inr (200, 0))), some (.inr (.inr (0, 0))), some (.inr (.inr (12, 0))), some (.inl x3)], []), σ)) hs31 rfl ?_
        refine Wp.run (WpD.mono _) 4 (q := ((1224, [some (.inr (.inr (200, 0))), some (.inr (.inr (0, 0))), some (.inr (.inr (12, 0))), some (.inl x3)], [.inl (x3 + (1 : Int32)), .inr (.inr (200, 0)), .inr (.inr (0, 0))]), σ)) rfl ?_
        obtain ⟨hc, h⟩ := ite_nn h
        refine Wp.X_ild6 (WpD.mono _) rfl rfl hc ?_
        show Wp (WpD (e + 96)) hcL_law Q (1225, [some (.inr (.inr (200, 0))), some (.inr (.inr (0, 0))), some (.inr (.inr (12, 0))), some (.inl x3)], [.inl (σ.2.2.2.2.2 ((x3 + (1 : Int32))).toNatClampNeg), .inr (.inr (0, 0))]) σ
        obtain ⟨q63, hb, h⟩ := bind_some h
        refine Wp.call (WpD.mono _) rfl (T_X11_line (e + 93) N (σ.2.2.2.2.2 ((x3 + (1 : Int32))).toNatClampNeg) σ _ _ _ hb ?_)
        show Wp (WpD (e + 96)) hcL_law Q (1228, [some (.inr (.inr (200, 0))), some (.inr (.inr (0, 0))), some (.inr (.inr (12, 0))), some (.inl x3)], [.inl q63.1]) q63.2
        refine Wp.run (WpD.mono _) 4 (q := ((1233, [some (.inr (.inr (200, 0))), some (.inr (.inr (0, 0))), some (.inr (.inr (12, 0))), some (.inl x3)], [.inl (x3 + (1 : Int32)), .inr (.inr (200, 0)), .inr (.inr (12, 0)), .inl q63.1]), q63.2)) rfl ?_
        obtain ⟨hc, h⟩ := ite_nn h
        refine Wp.X_ild6 (WpD.mono _) rfl rfl hc ?_
        show Wp (WpD (e + 96)) hcL_law Q (1234, [some (.inr (.inr (200, 0))), some (.inr (.inr (0, 0))), some (.inr (.inr (12, 0))), some (.inl x3)], [.inl (q63.2.2.2.2.2.2 ((x3 + (1 : Int32))).toNatClampNeg), .inr (.inr (12, 0)), .inl q63.1]) q63.2
        obtain ⟨q64, hb, h⟩ := bind_some h
        refine Wp.call (WpD.mono _) rfl (T_X12_line (e + 91) N (q63.2.2.2.2.2.2 ((x3 + (1 : Int32))).toNatClampNeg) q63.2 _ _ _ hb ?_)
        show Wp (WpD (e + 96)) hcL_law Q (1237, [some (.inr (.inr (200, 0))), some (.inr (.inr (0, 0))), some (.inr (.inr (12, 0))), some (.inl x3)], [.inl q64.1, .inl q63.1]) q64.2
        refine Wp.if2_eq (WpD.mono _) rfl rfl (fun hc => ?_) (fun hc => ?_)
        · have h := (if_pos hc).symm.trans h
          show Wp (WpD (e + 96)) hcL_law Q (1692, [some (.inr (.inr (200, 0))), some (.inr (.inr (0, 0))), some (.inr (.inr (12, 0))), some (.inl x3)], []) q64.2
          refine Wp.run (WpD.mono _) 1 (q := ((18, [some (.inr (.inr (200, 0))), some (.inr (.inr (0, 0))), some (.inr (.inr (12, 0))), some (.inl (x3 + (6 : Int32)))], []), q64.2)) rfl ?_
          exact Wp.jump (WpD.mono _) rfl (ih (x3 + (6 : Int32)) q64.2 h)
        · have h := (if_neg hc).symm.trans h
          show Wp (WpD (e + 96)) hcL_law Q (1240, [some (.inr (.inr (200, 0))), some (.inr (.inr (0, 0))), some (.inr (.inr (12, 0))), some (.inl x3)], []) q64.2
          refine Wp.run (WpD.mono _) 0 (q := ((1241, [some (.inr (.inr (200, 0))), some (.inr (.inr (0, 0))), some (.inr (.inr (12, 0))), some (.inl x3)], [.inl (0 : Int32)]), q64.2)) rfl ?_
          obtain ⟨rfl, rfl⟩ := ret_inj h
          exact Wp.ret (WpD.mono _) rfl hQ
      have h := (if_neg hs31).symm.trans h
      by_cases hs32 : ((σ.2.2.2.2.2 (x3).toNatClampNeg) &&& (63 : Int32)) = 32
      · have h := (if_pos hs32).symm.trans h
        refine Wp.swIn (WpD.mono _) (q := ((1242, [some (.inr (.inr (200, 0))), some (.inr (.inr (0, 0))), some (.inr (.inr (12, 0))), some (.inl x3)], []), σ)) hs32 rfl ?_
        refine Wp.run (WpD.mono _) 4 (q := ((1247, [some (.inr (.inr (200, 0))), some (.inr (.inr (0, 0))), some (.inr (.inr (12, 0))), some (.inl x3)], [.inl (x3 + (1 : Int32)), .inr (.inr (200, 0)), .inr (.inr (0, 0))]), σ)) rfl ?_
        obtain ⟨hc, h⟩ := ite_nn h
        refine Wp.X_ild6 (WpD.mono _) rfl rfl hc ?_
        show Wp (WpD (e + 96)) hcL_law Q (1248, [some (.inr (.inr (200, 0))), some (.inr (.inr (0, 0))), some (.inr (.inr (12, 0))), some (.inl x3)], [.inl (σ.2.2.2.2.2 ((x3 + (1 : Int32))).toNatClampNeg), .inr (.inr (0, 0))]) σ
        refine Wp.run (WpD.mono _) 3 (q := ((1252, [some (.inr (.inr (200, 0))), some (.inr (.inr (0, 0))), some (.inr (.inr (12, 0))), some (.inl x3)], [.inl (x3 + (2 : Int32)), .inr (.inr (200, 0)), .inl (σ.2.2.2.2.2 ((x3 + (1 : Int32))).toNatClampNeg), .inr (.inr (0, 0))]), σ)) rfl ?_
        obtain ⟨hc, h⟩ := ite_nn h
        refine Wp.X_ild6 (WpD.mono _) rfl rfl hc ?_
        show Wp (WpD (e + 96)) hcL_law Q (1253, [some (.inr (.inr (200, 0))), some (.inr (.inr (0, 0))), some (.inr (.inr (12, 0))), some (.inl x3)], [.inl (σ.2.2.2.2.2 ((x3 + (2 : Int32))).toNatClampNeg), .inl (σ.2.2.2.2.2 ((x3 + (1 : Int32))).toNatClampNeg), .inr (.inr (0, 0))]) σ
        obtain ⟨q65, hb, h⟩ := bind_some h
        refine Wp.call (WpD.mono _) rfl (T_X11_farm (e + 94) N (σ.2.2.2.2.2 ((x3 + (1 : Int32))).toNatClampNeg) (σ.2.2.2.2.2 ((x3 + (2 : Int32))).toNatClampNeg) σ _ _ _ hb ?_)
        show Wp (WpD (e + 96)) hcL_law Q (1256, [some (.inr (.inr (200, 0))), some (.inr (.inr (0, 0))), some (.inr (.inr (12, 0))), some (.inl x3)], [.inl q65.1]) q65.2
        refine Wp.run (WpD.mono _) 4 (q := ((1261, [some (.inr (.inr (200, 0))), some (.inr (.inr (0, 0))), some (.inr (.inr (12, 0))), some (.inl x3)], [.inl (x3 + (1 : Int32)), .inr (.inr (200, 0)), .inr (.inr (12, 0)), .inl q65.1]), q65.2)) rfl ?_
        obtain ⟨hc, h⟩ := ite_nn h
        refine Wp.X_ild6 (WpD.mono _) rfl rfl hc ?_
        show Wp (WpD (e + 96)) hcL_law Q (1262, [some (.inr (.inr (200, 0))), some (.inr (.inr (0, 0))), some (.inr (.inr (12, 0))), some (.inl x3)], [.inl (q65.2.2.2.2.2.2 ((x3 + (1 : Int32))).toNatClampNeg), .inr (.inr (12, 0)), .inl q65.1]) q65.2
        refine Wp.run (WpD.mono _) 3 (q := ((1266, [some (.inr (.inr (200, 0))), some (.inr (.inr (0, 0))), some (.inr (.inr (12, 0))), some (.inl x3)], [.inl (x3 + (2 : Int32)), .inr (.inr (200, 0)), .inl (q65.2.2.2.2.2.2 ((x3 + (1 : Int32))).toNatClampNeg), .inr (.inr (12, 0)), .inl q65.1]), q65.2)) rfl ?_
        obtain ⟨hc, h⟩ := ite_nn h
        refine Wp.X_ild6 (WpD.mono _) rfl rfl hc ?_
        show Wp (WpD (e + 96)) hcL_law Q (1267, [some (.inr (.inr (200, 0))), some (.inr (.inr (0, 0))), some (.inr (.inr (12, 0))), some (.inl x3)], [.inl (q65.2.2.2.2.2.2 ((x3 + (2 : Int32))).toNatClampNeg), .inl (q65.2.2.2.2.2.2 ((x3 + (1 : Int32))).toNatClampNeg), .inr (.inr (12, 0)), .inl q65.1]) q65.2
        obtain ⟨q66, hb, h⟩ := bind_some h
        refine Wp.call (WpD.mono _) rfl (T_X12_farm (e + 94) N (q65.2.2.2.2.2.2 ((x3 + (1 : Int32))).toNatClampNeg) (q65.2.2.2.2.2.2 ((x3 + (2 : Int32))).toNatClampNeg) q65.2 _ _ _ hb ?_)
        show Wp (WpD (e + 96)) hcL_law Q (1270, [some (.inr (.inr (200, 0))), some (.inr (.inr (0, 0))), some (.inr (.inr (12, 0))), some (.inl x3)], [.inl q66.1, .inl q65.1]) q66.2
        refine Wp.if2_eq (WpD.mono _) rfl rfl (fun hc => ?_) (fun hc => ?_)
        · have h := (if_pos hc).symm.trans h
          show Wp (WpD (e + 96)) hcL_law Q (1692, [some (.inr (.inr (200, 0))), some (.inr (.inr (0, 0))), some (.inr (.inr (12, 0))), some (.inl x3)], []) q66.2
          refine Wp.run (WpD.mono _) 1 (q := ((18, [some (.inr (.inr (200, 0))), some (.inr (.inr (0, 0))), some (.inr (.inr (12, 0))), some (.inl (x3 + (6 : Int32)))], []), q66.2)) rfl ?_
          exact Wp.jump (WpD.mono _) rfl (ih (x3 + (6 : Int32)) q66.2 h)
        · have h := (if_neg hc).symm.trans h
          show Wp (WpD (e + 96)) hcL_law Q (1273, [some (.inr (.inr (200, 0))), some (.inr (.inr (0, 0))), some (.inr (.inr (12, 0))), some (.inl x3)], []) q66.2
          refine Wp.run (WpD.mono _) 0 (q := ((1274, [some (.inr (.inr (200, 0))), some (.inr (.inr (0, 0))), some (.inr (.inr (12, 0))), some (.inl x3)], [.inl (0 : Int32)]), q66.2)) rfl ?_
          obtain ⟨rfl, rfl⟩ := ret_inj h
          exact Wp.ret (WpD.mono _) rfl hQ
      have h := (if_neg hs32).symm.trans h
      by_cases hs33 : ((σ.2.2.2.2.2 (x3).toNatClampNeg) &&& (63 : Int32)) = 33
      · have h := (if_pos hs33).symm.trans h
        refine Wp.swIn (WpD.mono _) (q := ((1275, [some (.inr (.inr (200, 0))), some (.inr (.inr (0, 0))), some (.inr (.inr (12, 0))), some (.inl x3)], []), σ)) hs33 rfl ?_
        refine Wp.run (WpD.mono _) 4 (q := ((1280, [some (.inr (.inr (200, 0))), some (.inr (.inr (0, 0))), some (.inr (.inr (12, 0))), some (.inl x3)], [.inl (x3 + (1 : Int32)), .inr (.inr (200, 0)), .inr (.inr (0, 0))]), σ)) rfl ?_
        obtain ⟨hc, h⟩ := ite_nn h
        refine Wp.X_ild6 (WpD.mono _) rfl rfl hc ?_
        show Wp (WpD (e + 96)) hcL_law Q (1281, [some (.inr (.inr (200, 0))), some (.inr (.inr (0, 0))), some (.inr (.inr (12, 0))), some (.inl x3)], [.inl (σ.2.2.2.2.2 ((x3 + (1 : Int32))).toNatClampNeg), .inr (.inr (0, 0))]) σ
        refine Wp.run (WpD.mono _) 3 (q := ((1285, [some (.inr (.inr (200, 0))), some (.inr (.inr (0, 0))), some (.inr (.inr (12, 0))), some (.inl x3)], [.inl (x3 + (2 : Int32)), .inr (.inr (200, 0)), .inl (σ.2.2.2.2.2 ((x3 + (1 : Int32))).toNatClampNeg), .inr (.inr (0, 0))]), σ)) rfl ?_
        obtain ⟨hc, h⟩ := ite_nn h
        refine Wp.X_ild6 (WpD.mono _) rfl rfl hc ?_
        show Wp (WpD (e + 96)) hcL_law Q (1286, [some (.inr (.inr (200, 0))), some (.inr (.inr (0, 0))), some (.inr (.inr (12, 0))), some (.inl x3)], [.inl (σ.2.2.2.2.2 ((x3 + (2 : Int32))).toNatClampNeg), .inl (σ.2.2.2.2.2 ((x3 + (1 : Int32))).toNatClampNeg), .inr (.inr (0, 0))]) σ
        obtain ⟨q67, hb, h⟩ := bind_some h
        refine Wp.call (WpD.mono _) rfl (T_X11_share (e + 92) N (σ.2.2.2.2.2 ((x3 + (1 : Int32))).toNatClampNeg) (σ.2.2.2.2.2 ((x3 + (2 : Int32))).toNatClampNeg) σ _ _ _ hb ?_)
        show Wp (WpD (e + 96)) hcL_law Q (1289, [some (.inr (.inr (200, 0))), some (.inr (.inr (0, 0))), some (.inr (.inr (12, 0))), some (.inl x3)], [.inl q67.1]) q67.2
        refine Wp.run (WpD.mono _) 4 (q := ((1294, [some (.inr (.inr (200, 0))), some (.inr (.inr (0, 0))), some (.inr (.inr (12, 0))), some (.inl x3)], [.inl (x3 + (1 : Int32)), .inr (.inr (200, 0)), .inr (.inr (12, 0)), .inl q67.1]), q67.2)) rfl ?_
        obtain ⟨hc, h⟩ := ite_nn h
        refine Wp.X_ild6 (WpD.mono _) rfl rfl hc ?_
        show Wp (WpD (e + 96)) hcL_law Q (1295, [some (.inr (.inr (200, 0))), some (.inr (.inr (0, 0))), some (.inr (.inr (12, 0))), some (.inl x3)], [.inl (q67.2.2.2.2.2.2 ((x3 + (1 : Int32))).toNatClampNeg), .inr (.inr (12, 0)), .inl q67.1]) q67.2
        refine Wp.run (WpD.mono _) 3 (q := ((1299, [some (.inr (.inr (200, 0))), some (.inr (.inr (0, 0))), some (.inr (.inr (12, 0))), some (.inl x3)], [.inl (x3 + (2 : Int32)), .inr (.inr (200, 0)), .inl (q67.2.2.2.2.2.2 ((x3 + (1 : Int32))).toNatClampNeg), .inr (.inr (12, 0)), .inl q67.1]), q67.2)) rfl ?_
        obtain ⟨hc, h⟩ := ite_nn h
        refine Wp.X_ild6 (WpD.mono _) rfl rfl hc ?_
        show Wp (WpD (e + 96)) hcL_law Q (1300, [some (.inr (.inr (200, 0))), some (.inr (.inr (0, 0))), some (.inr (.inr (12, 0))), some (.inl x3)], [.inl (q67.2.2.2.2.2.2 ((x3 + (2 : Int32))).toNatClampNeg), .inl (q67.2.2.2.2.2.2 ((x3 + (1 : Int32))).toNatClampNeg), .inr (.inr (12, 0)), .inl q67.1]) q67.2
        obtain ⟨q68, hb, h⟩ := bind_some h
        refine Wp.call (WpD.mono _) rfl (T_X12_share (e + 94) N (q67.2.2.2.2.2.2 ((x3 + (1 : Int32))).toNatClampNeg) (q67.2.2.2.2.2.2 ((x3 + (2 : Int32))).toNatClampNeg) q67.2 _ _ _ hb ?_)
        show Wp (WpD (e + 96)) hcL_law Q (1303, [some (.inr (.inr (200, 0))), some (.inr (.inr (0, 0))), some (.inr (.inr (12, 0))), some (.inl x3)], [.inl q68.1, .inl q67.1]) q68.2
        refine Wp.if2_eq (WpD.mono _) rfl rfl (fun hc => ?_) (fun hc => ?_)
        · have h := (if_pos hc).symm.trans h
          show Wp (WpD (e + 96)) hcL_law Q (1692, [some (.inr (.inr (200, 0))), some (.inr (.inr (0, 0))), some (.inr (.inr (12, 0))), some (.inl x3)], []) q68.2
          refine Wp.run (WpD.mono _) 1 (q := ((18, [some (.inr (.inr (200, 0))), some (.inr (.inr (0, 0))), some (.inr (.inr (12, 0))), some (.inl (x3 + (6 : Int32)))], []), q68.2)) rfl ?_
          exact Wp.jump (WpD.mono _) rfl (ih (x3 + (6 : Int32)) q68.2 h)
        · have h := (if_neg hc).symm.trans h
          show Wp (WpD (e + 96)) hcL_law Q (1306, [some (.inr (.inr (200, 0))), some (.inr (.inr (0, 0))), some (.inr (.inr (12, 0))), some (.inl x3)], []) q68.2
          refine Wp.run (WpD.mono _) 0 (q := ((1307, [some (.inr (.inr (200, 0))), some (.inr (.inr (0, 0))), some (.inr (.inr (12, 0))), some (.inl x3)], [.inl (0 : Int32)]), q68.2)) rfl ?_
          obtain ⟨rfl, rfl⟩ := ret_inj h
          exact Wp.ret (WpD.mono _) rfl hQ
      have h := (if_neg hs33).symm.trans h
      by_cases hs34 : ((σ.2.2.2.2.2 (x3).toNatClampNeg) &&& (63 : Int32)) = 34
      · have h := (if_pos hs34).symm.trans h
        refine Wp.swIn (WpD.mono _) (q := ((1308, [some (.inr (.inr (200, 0))), some (.inr (.inr (0, 0))), some (.inr (.inr (12, 0))), some (.inl x3)], []), σ)) hs34 rfl ?_
        refine Wp.run (WpD.mono _) 4 (q := ((1313, [some (.inr (.inr (200, 0))), some (.inr (.inr (0, 0))), some (.inr (.inr (12, 0))), some (.inl x3)], [.inl (x3 + (1 : Int32)), .inr (.inr (200, 0)), .inr (.inr (0, 0))]), σ)) rfl ?_
        obtain ⟨hc, h⟩ := ite_nn h
        refine Wp.X_ild6 (WpD.mono _) rfl rfl hc ?_
        show Wp (WpD (e + 96)) hcL_law Q (1314, [some (.inr (.inr (200, 0))), some (.inr (.inr (0, 0))), some (.inr (.inr (12, 0))), some (.inl x3)], [.inl (σ.2.2.2.2.2 ((x3 + (1 : Int32))).toNatClampNeg), .inr (.inr (0, 0))]) σ
        refine Wp.run (WpD.mono _) 3 (q := ((1318, [some (.inr (.inr (200, 0))), some (.inr (.inr (0, 0))), some (.inr (.inr (12, 0))), some (.inl x3)], [.inl (x3 + (2 : Int32)), .inr (.inr (200, 0)), .inl (σ.2.2.2.2.2 ((x3 + (1 : Int32))).toNatClampNeg), .inr (.inr (0, 0))]), σ)) rfl ?_
        obtain ⟨hc, h⟩ := ite_nn h
        refine Wp.X_ild6 (WpD.mono _) rfl rfl hc ?_
        show Wp (WpD (e + 96)) hcL_law Q (1319, [some (.inr (.inr (200, 0))), some (.inr (.inr (0, 0))), some (.inr (.inr (12, 0))), some (.inl x3)], [.inl (σ.2.2.2.2.2 ((x3 + (2 : Int32))).toNatClampNeg), .inl (σ.2.2.2.2.2 ((x3 + (1 : Int32))).toNatClampNeg), .inr (.inr (0, 0))]) σ
        obtain ⟨q69, hb, h⟩ := bind_some h
        refine Wp.call (WpD.mono _) rfl (T_X11_join (e + 91) N (σ.2.2.2.2.2 ((x3 + (1 : Int32))).toNatClampNeg) (σ.2.2.2.2.2 ((x3 + (2 : Int32))).toNatClampNeg) σ _ _ _ hb ?_)
        show Wp (WpD (e + 96)) hcL_law Q (1322, [some (.inr (.inr (200, 0))), some (.inr (.inr (0, 0))), some (.inr (.inr (12, 0))), some (.inl x3)], [.inl q69.1]) q69.2
        refine Wp.run (WpD.mono _) 4 (q := ((1327, [some (.inr (.inr (200, 0))), some (.inr (.inr (0, 0))), some (.inr (.inr (12, 0))), some (.inl x3)], [.inl (x3 + (1 : Int32)), .inr (.inr (200, 0)), .inr (.inr (12, 0)), .inl q69.1]), q69.2)) rfl ?_
        obtain ⟨hc, h⟩ := ite_nn h
        refine Wp.X_ild6 (WpD.mono _) rfl rfl hc ?_
        show Wp (WpD (e + 96)) hcL_law Q (1328, [some (.inr (.inr (200, 0))), some (.inr (.inr (0, 0))), some (.inr (.inr (12, 0))), some (.inl x3)], [.inl (q69.2.2.2.2.2.2 ((x3 + (1 : Int32))).toNatClampNeg), .inr (.inr (12, 0)), .inl q69.1]) q69.2
        refine Wp.run (WpD.mono _) 3 (q := ((1332, [some (.inr (.inr (200, 0))), some (.inr (.inr (0, 0))), some (.inr (.inr (12, 0))), some (.inl x3)], [.inl (x3 + (2 : Int32)), .inr (.inr (200, 0)), .inl (q69.2.2.2.2.2.2 ((x3 + (1 : Int32))).toNatClampNeg), .inr (.inr (12, 0)), .inl q69.1]), q69.2)) rfl ?_
        obtain ⟨hc, h⟩ := ite_nn h
        refine Wp.X_ild6 (WpD.mono _) rfl rfl hc ?_
        show Wp (WpD (e + 96)) hcL_law Q (1333, [some (.inr (.inr (200, 0))), some (.inr (.inr (0, 0))), some (.inr (.inr (12, 0))), some (.inl x3)], [.inl (q69.2.2.2.2.2.2 ((x3 + (2 : Int32))).toNatClampNeg), .inl (q69.2.2.2.2.2.2 ((x3 + (1 : Int32))).toNatClampNeg), .inr (.inr (12, 0)), .inl q69.1]) q69.2
        obtain ⟨q70, hb, h⟩ := bind_some h
        refine Wp.call (WpD.mono _) rfl (T_X12_join (e + 91) N (q69.2.2.2.2.2.2 ((x3 + (1 : Int32))).toNatClampNeg) (q69.2.2.2.2.2.2 ((x3 + (2 : Int32))).toNatClampNeg) q69.2 _ _ _ hb ?_)
        show Wp (WpD (e + 96)) hcL_law Q (1336, [some (.inr (.inr (200, 0))), some (.inr (.inr (0, 0))), some (.inr (.inr (12, 0))), some (.inl x3)], [.inl q70.1, .inl q69.1]) q70.2
        refine Wp.if2_eq (WpD.mono _) rfl rfl (fun hc => ?_) (fun hc => ?_)
        · have h := (if_pos hc).symm.trans h
          show Wp (WpD (e + 96)) hcL_law Q (1692, [some (.inr (.inr (200, 0))), some (.inr (.inr (0, 0))), some (.inr (.inr (12, 0))), some (.inl x3)], []) q70.2
          refine Wp.run (WpD.mono _) 1 (q := ((18, [some (.inr (.inr (200, 0))), some (.inr (.inr (0, 0))), some (.inr (.inr (12, 0))), some (.inl (x3 + (6 : Int32)))], []), q70.2)) rfl ?_
          exact Wp.jump (WpD.mono _) rfl (ih (x3 + (6 : Int32)) q70.2 h)
        · have h := (if_neg hc).symm.trans h
          show Wp (WpD (e + 96)) hcL_law Q (1339, [some (.inr (.inr (200, 0))), some (.inr (.inr (0, 0))), some (.inr (.inr (12, 0))), some (.inl x3)], []) q70.2
          refine Wp.run (WpD.mono _) 0 (q := ((1340, [some (.inr (.inr (200, 0))), some (.inr (.inr (0, 0))), some (.inr (.inr (12, 0))), some (.inl x3)], [.inl (0 : Int32)]), q70.2)) rfl ?_
          obtain ⟨rfl, rfl⟩ := ret_inj h
          exact Wp.ret (WpD.mono _) rfl hQ
      have h := (if_neg hs34).symm.trans h
      by_cases hs35 : ((σ.2.2.2.2.2 (x3).toNatClampNeg) &&& (63 : Int32)) = 35
      · have h := (if_pos hs35).symm.trans h
        refine Wp.swIn (WpD.mono _) (q := ((1341, [some (.inr (.inr (200, 0))), some (.inr (.inr (0, 0))), some (.inr (.inr (12, 0))), some (.inl x3)], []), σ)) hs35 rfl ?_
        refine Wp.run (WpD.mono _) 4 (q := ((1346, [some (.inr (.inr (200, 0))), some (.inr (.inr (0, 0))), some (.inr (.inr (12, 0))), some (.inl x3)], [.inl (x3 + (1 : Int32)), .inr (.inr (200, 0)), .inr (.inr (0, 0))]), σ)) rfl ?_
        obtain ⟨hc, h⟩ := ite_nn h
        refine Wp.X_ild6 (WpD.mono _) rfl rfl hc ?_
        show Wp (WpD (e + 96)) hcL_law Q (1347, [some (.inr (.inr (200, 0))), some (.inr (.inr (0, 0))), some (.inr (.inr (12, 0))), some (.inl x3)], [.inl (σ.2.2.2.2.2 ((x3 + (1 : Int32))).toNatClampNeg), .inr (.inr (0, 0))]) σ
        obtain ⟨q71, hb, h⟩ := bind_some h
        refine Wp.call (WpD.mono _) rfl (T_X11_learn (e + 80) N (σ.2.2.2.2.2 ((x3 + (1 : Int32))).toNatClampNeg) σ _ _ _ hb ?_)
        show Wp (WpD (e + 96)) hcL_law Q (1350, [some (.inr (.inr (200, 0))), some (.inr (.inr (0, 0))), some (.inr (.inr (12, 0))), some (.inl x3)], [.inr (.inl q71.1)]) q71.2
        refine Wp.run (WpD.mono _) 4 (q := ((1355, [some (.inr (.inr (200, 0))), some (.inr (.inr (0, 0))), some (.inr (.inr (12, 0))), some (.inl x3)], [.inl (x3 + (1 : Int32)), .inr (.inr (200, 0)), .inr (.inr (12, 0)), .inr (.inl q71.1)]), q71.2)) rfl ?_
        obtain ⟨hc, h⟩ := ite_nn h
        refine Wp.X_ild6 (WpD.mono _) rfl rfl hc ?_
        show Wp (WpD (e + 96)) hcL_law Q (1356, [some (.inr (.inr (200, 0))), some (.inr (.inr (0, 0))), some (.inr (.inr (12, 0))), some (.inl x3)], [.inl (q71.2.2.2.2.2.2 ((x3 + (1 : Int32))).toNatClampNeg), .inr (.inr (12, 0)), .inr (.inl q71.1)]) q71.2
        obtain ⟨q72, hb, h⟩ := bind_some h
        refine Wp.call (WpD.mono _) rfl (T_X12_learn (e + 70) N (q71.2.2.2.2.2.2 ((x3 + (1 : Int32))).toNatClampNeg) q71.2 _ _ _ hb ?_)
        show Wp (WpD (e + 96)) hcL_law Q (1359, [some (.inr (.inr (200, 0))), some (.inr (.inr (0, 0))), some (.inr (.inr (12, 0))), some (.inl x3)], [.inr (.inl q72.1), .inr (.inl q71.1)]) q72.2
        refine Wp.run (WpD.mono _) 0 (q := ((1360, [some (.inr (.inr (200, 0))), some (.inr (.inr (0, 0))), some (.inr (.inr (12, 0))), some (.inl x3)], [.inl (lg_cmp q71.1 q72.1)]), q72.2)) rfl ?_
        refine Wp.if0_eq (WpD.mono _) rfl rfl (fun hc => ?_) (fun hc => ?_)
        · have h := (if_pos hc).symm.trans h
          show Wp (WpD (e + 96)) hcL_law Q (1692, [some (.inr (.inr (200, 0))), some (.inr (.inr (0, 0))), some (.inr (.inr (12, 0))), some (.inl x3)], []) q72.2
          refine Wp.run (WpD.mono _) 1 (q := ((18, [some (.inr (.inr (200, 0))), some (.inr (.inr (0, 0))), some (.inr (.inr (12, 0))), some (.inl (x3 + (6 : Int32)))], []), q72.2)) rfl ?_
          exact Wp.jump (WpD.mono _) rfl (ih (x3 + (6 : Int32)) q72.2 h)
        · have h := (if_neg hc).symm.trans h
          show Wp (WpD (e + 96)) hcL_law Q (1363, [some (.inr (.inr (200, 0))), some (.inr (.inr (0, 0))), some (.inr (.inr (12, 0))), some (.inl x3)], []) q72.2
          refine Wp.run (WpD.mono _) 0 (q := ((1364, [some (.inr (.inr (200, 0))), some (.inr (.inr (0, 0))), some (.inr (.inr (12, 0))), some (.inl x3)], [.inl (0 : Int32)]), q72.2)) rfl ?_
          obtain ⟨rfl, rfl⟩ := ret_inj h
          exact Wp.ret (WpD.mono _) rfl hQ
      have h := (if_neg hs35).symm.trans h
      by_cases hs36 : ((σ.2.2.2.2.2 (x3).toNatClampNeg) &&& (63 : Int32)) = 36
      · have h := (if_pos hs36).symm.trans h
        refine Wp.swIn (WpD.mono _) (q := ((1365, [some (.inr (.inr (200, 0))), some (.inr (.inr (0, 0))), some (.inr (.inr (12, 0))), some (.inl x3)], []), σ)) hs36 rfl ?_
        refine Wp.run (WpD.mono _) 0 (q := ((1366, [some (.inr (.inr (200, 0))), some (.inr (.inr (0, 0))), some (.inr (.inr (12, 0))), some (.inl x3)], [.inr (.inr (0, 0))]), σ)) rfl ?_
        obtain ⟨q73, hb, h⟩ := bind_some h
        refine Wp.call (WpD.mono _) rfl (T_X11_first (e + 80) N σ _ _ _ hb ?_)
        show Wp (WpD (e + 96)) hcL_law Q (1369, [some (.inr (.inr (200, 0))), some (.inr (.inr (0, 0))), some (.inr (.inr (12, 0))), some (.inl x3)], [.inl q73.1]) q73.2
        refine Wp.run (WpD.mono _) 0 (q := ((1370, [some (.inr (.inr (200, 0))), some (.inr (.inr (0, 0))), some (.inr (.inr (12, 0))), some (.inl x3)], [.inr (.inr (12, 0)), .inl q73.1]), q73.2)) rfl ?_
        obtain ⟨q74, hb, h⟩ := bind_some h
        refine Wp.call (WpD.mono _) rfl (T_X12_first_ (e + 70) N q73.2 _ _ _ hb ?_)
        show Wp (WpD (e + 96)) hcL_law Q (1373, [some (.inr (.inr (200, 0))), some (.inr (.inr (0, 0))), some (.inr (.inr (12, 0))), some (.inl x3)], [.inl q74.1, .inl q73.1]) q74.2
        refine Wp.if2_eq (WpD.mono _) rfl rfl (fun hc => ?_) (fun hc => ?_)
        · have h := (if_pos hc).symm.trans h
          show Wp (WpD (e + 96)) hcL_law Q (1692, [some (.inr (.inr (200, 0))), some (.inr (.inr (0, 0))), some (.inr (.inr (12, 0))), some (.inl x3)], []) q74.2
          refine Wp.run (WpD.mono _) 1 (q := ((18, [some (.inr (.inr (200, 0))), some (.inr (.inr (0, 0))), some (.inr (.inr (12, 0))), some (.inl (x3 + (6 : Int32)))], []), q74.2)) rfl ?_
          exact Wp.jump (WpD.mono _) rfl (ih (x3 + (6 : Int32)) q74.2 h)
        · have h := (if_neg hc).symm.trans h
          show Wp (WpD (e + 96)) hcL_law Q (1376, [some (.inr (.inr (200, 0))), some (.inr (.inr (0, 0))), some (.inr (.inr (12, 0))), some (.inl x3)], []) q74.2
          refine Wp.run (WpD.mono _) 0 (q := ((1377, [some (.inr (.inr (200, 0))), some (.inr (.inr (0, 0))), some (.inr (.inr (12, 0))), some (.inl x3)], [.inl (0 : Int32)]), q74.2)) rfl ?_
          obtain ⟨rfl, rfl⟩ := ret_inj h
          exact Wp.ret (WpD.mono _) rfl hQ
      have h := (if_neg hs36).symm.trans h
      by_cases hs37 : ((σ.2.2.2.2.2 (x3).toNatClampNeg) &&& (63 : Int32)) = 37
      · have h := (if_pos hs37).symm.trans h
        refine Wp.swIn (WpD.mono _) (q := ((1378, [some (.inr (.inr (200, 0))), some (.inr (.inr (0, 0))), some (.inr (.inr (12, 0))), some (.inl x3)], []), σ)) hs37 rfl ?_
        refine Wp.run (WpD.mono _) 4 (q := ((1383, [some (.inr (.inr (200, 0))), some (.inr (.inr (0, 0))), some (.inr (.inr (12, 0))), some (.inl x3)], [.inl (x3 + (1 : Int32)), .inr (.inr (200, 0)), .inr (.inr (0, 0))]), σ)) rfl ?_
        obtain ⟨hc, h⟩ := ite_nn h
        refine Wp.X_ild6 (WpD.mono _) rfl rfl hc ?_
        show Wp (WpD (e + 96)) hcL_law Q (1384, [some (.inr (.inr (200, 0))), some (.inr (.inr (0, 0))), some (.inr (.inr (12, 0))), some (.inl x3)], [.inl (σ.2.2.2.2.2 ((x3 + (1 : Int32))).toNatClampNeg), .inr (.inr (0, 0))]) σ
        refine Wp.run (WpD.mono _) 3 (q := ((1388, [some (.inr (.inr (200, 0))), some (.inr (.inr (0, 0))), some (.inr (.inr (12, 0))), some (.inl x3)], [.inl (x3 + (2 : Int32)), .inr (.inr (200, 0)), .inl (σ.2.2.2.2.2 ((x3 + (1 : Int32))).toNatClampNeg), .inr (.inr (0, 0))]), σ)) rfl ?_
        obtain ⟨hc, h⟩ := ite_nn h
        refine Wp.X_ild6 (WpD.mono _) rfl rfl hc ?_
        show Wp (WpD (e + 96)) hcL_law Q (1389, [some (.inr (.inr (200, 0))), some (.inr (.inr (0, 0))), some (.inr (.inr (12, 0))), some (.inl x3)], [.inl (σ.2.2.2.2.2 ((x3 + (2 : Int32))).toNatClampNeg), .inl (σ.2.2.2.2.2 ((x3 + (1 : Int32))).toNatClampNeg), .inr (.inr (0, 0))]) σ
        refine Wp.run (WpD.mono _) 3 (q := ((1393, [some (.inr (.inr (200, 0))), some (.inr (.inr (0, 0))), some (.inr (.inr (12, 0))), some (.inl x3)], [.inl (x3 + (3 : Int32)), .inr (.inr (200, 0)), .inl (σ.2.2.2.2.2 ((x3 + (2 : Int32))).toNatClampNeg), .inl (σ.2.2.2.2.2 ((x3 + (1 : Int32))).toNatClampNeg), .inr (.inr (0, 0))]), σ)) rfl ?_
        obtain ⟨hc, h⟩ := ite_nn h
        refine Wp.X_ild6 (WpD.mono _) rfl rfl hc ?_
        show Wp (WpD (e + 96)) hcL_law Q (1394, [some (.inr (.inr (200, 0))), some (.inr (.inr (0, 0))), some (.inr (.inr (12, 0))), some (.inl x3)], [.inl (σ.2.2.2.2.2 ((x3 + (3 : Int32))).toNatClampNeg), .inl (σ.2.2.2.2.2 ((x3 + (2 : Int32))).toNatClampNeg), .inl (σ.2.2.2.2.2 ((x3 + (1 : Int32))).toNatClampNeg), .inr (.inr (0, 0))]) σ
        refine Wp.run (WpD.mono _) 3 (q := ((1398, [some (.inr (.inr (200, 0))), some (.inr (.inr (0, 0))), some (.inr (.inr (12, 0))), some (.inl x3)], [.inl (x3 + (4 : Int32)), .inr (.inr (200, 0)), .inl (σ.2.2.2.2.2 ((x3 + (3 : Int32))).toNatClampNeg), .inl (σ.2.2.2.2.2 ((x3 + (2 : Int32))).toNatClampNeg), .inl (σ.2.2.2.2.2 ((x3 + (1 : Int32))).toNatClampNeg), .inr (.inr (0, 0))]), σ)) rfl ?_
        obtain ⟨hc, h⟩ := ite_nn h
        refine Wp.X_ild6 (WpD.mono _) rfl rfl hc ?_
        show Wp (WpD (e + 96)) hcL_law Q (1399, [some (.inr (.inr (200, 0))), some (.inr (.inr (0, 0))), some (.inr (.inr (12, 0))), some (.inl x3)], [.inl (σ.2.2.2.2.2 ((x3 + (4 : Int32))).toNatClampNeg), .inl (σ.2.2.2.2.2 ((x3 + (3 : Int32))).toNatClampNeg), .inl (σ.2.2.2.2.2 ((x3 + (2 : Int32))).toNatClampNeg), .inl (σ.2.2.2.2.2 ((x3 + (1 : Int32))).toNatClampNeg), .inr (.inr (0, 0))]) σ
        obtain ⟨q75, hb, h⟩ := bind_some h
        refine Wp.call (WpD.mono _) rfl (T_X11_drawn (e + 81) N (σ.2.2.2.2.2 ((x3 + (1 : Int32))).toNatClampNeg) (σ.2.2.2.2.2 ((x3 + (2 : Int32))).toNatClampNeg) (σ.2.2.2.2.2 ((x3 + (3 : Int32))).toNatClampNeg) (σ.2.2.2.2.2 ((x3 + (4 : Int32))).toNatClampNeg) σ _ _ _ hb ?_)
        show Wp (WpD (e + 96)) hcL_law Q (1402, [some (.inr (.inr (200, 0))), some (.inr (.inr (0, 0))), some (.inr (.inr (12, 0))), some (.inl x3)], [.inl q75.1]) q75.2
        refine Wp.run (WpD.mono _) 4 (q := ((1407, [some (.inr (.inr (200, 0))), some (.inr (.inr (0, 0))), some (.inr (.inr (12, 0))), some (.inl x3)], [.inl (x3 + (1 : Int32)), .inr (.inr (200, 0)), .inr (.inr (12, 0)), .inl q75.1]), q75.2)) rfl ?_
        obtain ⟨hc, h⟩ := ite_nn h
        refine Wp.X_ild6 (WpD.mono _) rfl rfl hc ?_
        show Wp (WpD (e + 96)) hcL_law Q (1408, [some (.inr (.inr (200, 0))), some (.inr (.inr (0, 0))), some (.inr (.inr (12, 0))), some (.inl x3)], [.inl (q75.2.2.2.2.2.2 ((x3 + (1 : Int32))).toNatClampNeg), .inr (.inr (12, 0)), .inl q75.1]) q75.2
        refine Wp.run (WpD.mono _) 3 (q := ((1412, [some (.inr (.inr (200, 0))), some (.inr (.inr (0, 0))), some (.inr (.inr (12, 0))), some (.inl x3)], [.inl (x3 + (2 : Int32)), .inr (.inr (200, 0)), .inl (q75.2.2.2.2.2.2 ((x3 + (1 : Int32))).toNatClampNeg), .inr (.inr (12, 0)), .inl q75.1]), q75.2)) rfl ?_
        obtain ⟨hc, h⟩ := ite_nn h
        refine Wp.X_ild6 (WpD.mono _) rfl rfl hc ?_
        show Wp (WpD (e + 96)) hcL_law Q (1413, [some (.inr (.inr (200, 0))), some (.inr (.inr (0, 0))), some (.inr (.inr (12, 0))), some (.inl x3)], [.inl (q75.2.2.2.2.2.2 ((x3 + (2 : Int32))).toNatClampNeg), .inl (q75.2.2.2.2.2.2 ((x3 + (1 : Int32))).toNatClampNeg), .inr (.inr (12, 0)), .inl q75.1]) q75.2
        refine Wp.run (WpD.mono _) 3 (q := ((1417, [some (.inr (.inr (200, 0))), some (.inr (.inr (0, 0))), some (.inr (.inr (12, 0))), some (.inl x3)], [.inl (x3 + (3 : Int32)), .inr (.inr (200, 0)), .inl (q75.2.2.2.2.2.2 ((x3 + (2 : Int32))).toNatClampNeg), .inl (q75.2.2.2.2.2.2 ((x3 + (1 : Int32))).toNatClampNeg), .inr (.inr (12, 0)), .inl q75.1]), q75.2)) rfl ?_
        obtain ⟨hc, h⟩ := ite_nn h
        refine Wp.X_ild6 (WpD.mono _) rfl rfl hc ?_
        show Wp (WpD (e + 96)) hcL_law Q (1418, [some (.inr (.inr (200, 0))), some (.inr (.inr (0, 0))), some (.inr (.inr (12, 0))), some (.inl x3)], [.inl (q75.2.2.2.2.2.2 ((x3 + (3 : Int32))).toNatClampNeg), .inl (q75.2.2.2.2.2.2 ((x3 + (2 : Int32))).toNatClampNeg), .inl (q75.2.2.2.2.2.2 ((x3 + (1 : Int32))).toNatClampNeg), .inr (.inr (12, 0)), .inl q75.1]) q75.2
        refine Wp.run (WpD.mono _) 3 (q := ((1422, [some (.inr (.inr (200, 0))), some (.inr (.inr (0, 0))), some (.inr (.inr (12, 0))), some (.inl x3)], [.inl (x3 + (4 : Int32)), .inr (.inr (200, 0)), .inl (q75.2.2.2.2.2.2 ((x3 + (3 : Int32))).toNatClampNeg), .inl (q75.2.2.2.2.2.2 ((x3 + (2 : Int32))).toNatClampNeg), .inl (q75.2.2.2.2.2.2 ((x3 + (1 : Int32))).toNatClampNeg), .inr (.inr (12, 0)), .inl q75.1]), q75.2)) rfl ?_
        obtain ⟨hc, h⟩ := ite_nn h
        refine Wp.X_ild6 (WpD.mono _) rfl rfl hc ?_
        show Wp (WpD (e + 96)) hcL_law Q (1423, [some (.inr (.inr (200, 0))), some (.inr (.inr (0, 0))), some (.inr (.inr (12, 0))), some (.inl x3)], [.inl (q75.2.2.2.2.2.2 ((x3 + (4 : Int32))).toNatClampNeg), .inl (q75.2.2.2.2.2.2 ((x3 + (3 : Int32))).toNatClampNeg), .inl (q75.2.2.2.2.2.2 ((x3 + (2 : Int32))).toNatClampNeg), .inl (q75.2.2.2.2.2.2 ((x3 + (1 : Int32))).toNatClampNeg), .inr (.inr (12, 0)), .inl q75.1]) q75.2
        obtain ⟨q76, hb, h⟩ := bind_some h
        refine Wp.call (WpD.mono _) rfl (T_X12_drawn (e + 70) N (q75.2.2.2.2.2.2 ((x3 + (1 : Int32))).toNatClampNeg) (q75.2.2.2.2.2.2 ((x3 + (2 : Int32))).toNatClampNeg) (q75.2.2.2.2.2.2 ((x3 + (3 : Int32))).toNatClampNeg) (q75.2.2.2.2.2.2 ((x3 + (4 : Int32))).toNatClampNeg) q75.2 _ _ _ hb ?_)
        show Wp (WpD (e + 96)) hcL_law Q (1426, [some (.inr (.inr (200, 0))), some (.inr (.inr (0, 0))), some (.inr (.inr (12, 0))), some (.inl x3)], [.inl q76.1, .inl q75.1]) q76.2
        refine Wp.if2_eq (WpD.mono _) rfl rfl (fun hc => ?_) (fun hc => ?_)
        · have h := (if_pos hc).symm.trans h
          show Wp (WpD (e + 96)) hcL_law Q (1692, [some (.inr (.inr (200, 0))), some (.inr (.inr (0, 0))), some (.inr (.inr (12, 0))), some (.inl x3)], []) q76.2
          refine Wp.run (WpD.mono _) 1 (q := ((18, [some (.inr (.inr (200, 0))), some (.inr (.inr (0, 0))), some (.inr (.inr (12, 0))), some (.inl (x3 + (6 : Int32)))], []), q76.2)) rfl ?_
          exact Wp.jump (WpD.mono _) rfl (ih (x3 + (6 : Int32)) q76.2 h)
        · have h := (if_neg hc).symm.trans h
          show Wp (WpD (e + 96)) hcL_law Q (1429, [some (.inr (.inr (200, 0))), some (.inr (.inr (0, 0))), some (.inr (.inr (12, 0))), some (.inl x3)], []) q76.2
          refine Wp.run (WpD.mono _) 0 (q := ((1430, [some (.inr (.inr (200, 0))), some (.inr (.inr (0, 0))), some (.inr (.inr (12, 0))), some (.inl x3)], [.inl (0 : Int32)]), q76.2)) rfl ?_
          obtain ⟨rfl, rfl⟩ := ret_inj h
          exact Wp.ret (WpD.mono _) rfl hQ
      have h := (if_neg hs37).symm.trans h
      by_cases hs38 : ((σ.2.2.2.2.2 (x3).toNatClampNeg) &&& (63 : Int32)) = 38
      · have h := (if_pos hs38).symm.trans h
        refine Wp.swIn (WpD.mono _) (q := ((1431, [some (.inr (.inr (200, 0))), some (.inr (.inr (0, 0))), some (.inr (.inr (12, 0))), some (.inl x3)], []), σ)) hs38 rfl ?_
        refine Wp.run (WpD.mono _) 0 (q := ((1432, [some (.inr (.inr (200, 0))), some (.inr (.inr (0, 0))), some (.inr (.inr (12, 0))), some (.inl x3)], [.inr (.inr (0, 0))]), σ)) rfl ?_
        obtain ⟨q77, hb, h⟩ := bind_some h
        refine Wp.call (WpD.mono _) rfl (T_X11_image (e + 93) N σ _ _ _ hb ?_)
        show Wp (WpD (e + 96)) hcL_law Q (1435, [some (.inr (.inr (200, 0))), some (.inr (.inr (0, 0))), some (.inr (.inr (12, 0))), some (.inl x3)], [.inl q77.1]) q77.2
        refine Wp.run (WpD.mono _) 0 (q := ((1436, [some (.inr (.inr (200, 0))), some (.inr (.inr (0, 0))), some (.inr (.inr (12, 0))), some (.inl x3)], [.inr (.inr (12, 0)), .inl q77.1]), q77.2)) rfl ?_
        obtain ⟨q78, hb, h⟩ := bind_some h
        refine Wp.call (WpD.mono _) rfl (T_X12_image (e + 94) N q77.2 _ _ _ hb ?_)
        show Wp (WpD (e + 96)) hcL_law Q (1439, [some (.inr (.inr (200, 0))), some (.inr (.inr (0, 0))), some (.inr (.inr (12, 0))), some (.inl x3)], [.inl q78.1, .inl q77.1]) q78.2
        refine Wp.if2_eq (WpD.mono _) rfl rfl (fun hc => ?_) (fun hc => ?_)
        · have h := (if_pos hc).symm.trans h
          show Wp (WpD (e + 96)) hcL_law Q (1692, [some (.inr (.inr (200, 0))), some (.inr (.inr (0, 0))), some (.inr (.inr (12, 0))), some (.inl x3)], []) q78.2
          refine Wp.run (WpD.mono _) 1 (q := ((18, [some (.inr (.inr (200, 0))), some (.inr (.inr (0, 0))), some (.inr (.inr (12, 0))), some (.inl (x3 + (6 : Int32)))], []), q78.2)) rfl ?_
          exact Wp.jump (WpD.mono _) rfl (ih (x3 + (6 : Int32)) q78.2 h)
        · have h := (if_neg hc).symm.trans h
          show Wp (WpD (e + 96)) hcL_law Q (1442, [some (.inr (.inr (200, 0))), some (.inr (.inr (0, 0))), some (.inr (.inr (12, 0))), some (.inl x3)], []) q78.2
          refine Wp.run (WpD.mono _) 0 (q := ((1443, [some (.inr (.inr (200, 0))), some (.inr (.inr (0, 0))), some (.inr (.inr (12, 0))), some (.inl x3)], [.inl (0 : Int32)]), q78.2)) rfl ?_
          obtain ⟨rfl, rfl⟩ := ret_inj h
          exact Wp.ret (WpD.mono _) rfl hQ
      have h := (if_neg hs38).symm.trans h
      by_cases hs39 : ((σ.2.2.2.2.2 (x3).toNatClampNeg) &&& (63 : Int32)) = 39
      · have h := (if_pos hs39).symm.trans h
        refine Wp.swIn (WpD.mono _) (q := ((1444, [some (.inr (.inr (200, 0))), some (.inr (.inr (0, 0))), some (.inr (.inr (12, 0))), some (.inl x3)], []), σ)) hs39 rfl ?_
        refine Wp.run (WpD.mono _) 0 (q := ((1445, [some (.inr (.inr (200, 0))), some (.inr (.inr (0, 0))), some (.inr (.inr (12, 0))), some (.inl x3)], [.inr (.inr (0, 0))]), σ)) rfl ?_
        obtain ⟨q79, hb, h⟩ := bind_some h
        refine Wp.call (WpD.mono _) rfl (T_X11_undo (e + 89) N σ _ _ _ hb ?_)
        show Wp (WpD (e + 96)) hcL_law Q (1448, [some (.inr (.inr (200, 0))), some (.inr (.inr (0, 0))), some (.inr (.inr (12, 0))), some (.inl x3)], [.inl q79.1]) q79.2
        refine Wp.run (WpD.mono _) 0 (q := ((1449, [some (.inr (.inr (200, 0))), some (.inr (.inr (0, 0))), some (.inr (.inr (12, 0))), some (.inl x3)], [.inr (.inr (12, 0)), .inl q79.1]), q79.2)) rfl ?_
        obtain ⟨q80, hb, h⟩ := bind_some h
        refine Wp.call (WpD.mono _) rfl (T_X12_undo (e + 94) N q79.2 _ _ _ hb ?_)
        show Wp (WpD (e + 96)) hcL_law Q (1452, [some (.inr (.inr (200, 0))), some (.inr (.inr (0, 0))), some (.inr (.inr (12, 0))), some (.inl x3)], [.inl q80.1, .inl q79.1]) q80.2
        refine Wp.if2_eq (WpD.mono _) rfl rfl (fun hc => ?_) (fun hc => ?_)
        · have h := (if_pos hc).symm.trans h
          show Wp (WpD (e + 96)) hcL_law Q (1692, [some (.inr (.inr (200, 0))), some (.inr (.inr (0, 0))), some (.inr (.inr (12, 0))), some (.inl x3)], []) q80.2
          refine Wp.run (WpD.mono _) 1 (q := ((18, [some (.inr (.inr (200, 0))), some (.inr (.inr (0, 0))), some (.inr (.inr (12, 0))), some (.inl (x3 + (6 : Int32)))], []), q80.2)) rfl ?_
          exact Wp.jump (WpD.mono _) rfl (ih (x3 + (6 : Int32)) q80.2 h)
        · have h := (if_neg hc).symm.trans h
          show Wp (WpD (e + 96)) hcL_law Q (1455, [some (.inr (.inr (200, 0))), some (.inr (.inr (0, 0))), some (.inr (.inr (12, 0))), some (.inl x3)], []) q80.2
          refine Wp.run (WpD.mono _) 0 (q := ((1456, [some (.inr (.inr (200, 0))), some (.inr (.inr (0, 0))), some (.inr (.inr (12, 0))), some (.inl x3)], [.inl (0 : Int32)]), q80.2)) rfl ?_
          obtain ⟨rfl, rfl⟩ := ret_inj h
          exact Wp.ret (WpD.mono _) rfl hQ
      have h := (if_neg hs39).symm.trans h
      by_cases hs40 : ((σ.2.2.2.2.2 (x3).toNatClampNeg) &&& (63 : Int32)) = 40
      · have h := (if_pos hs40).symm.trans h
        refine Wp.swIn (WpD.mono _) (q := ((1457, [some (.inr (.inr (200, 0))), some (.inr (.inr (0, 0))), some (.inr (.inr (12, 0))), some (.inl x3)], []), σ)) hs40 rfl ?_
        refine Wp.run (WpD.mono _) 4 (q := ((1462, [some (.inr (.inr (200, 0))), some (.inr (.inr (0, 0))), some (.inr (.inr (12, 0))), some (.inl x3)], [.inl (x3 + (1 : Int32)), .inr (.inr (200, 0)), .inr (.inr (0, 0))]), σ)) rfl ?_
        obtain ⟨hc, h⟩ := ite_nn h
        refine Wp.X_ild6 (WpD.mono _) rfl rfl hc ?_
        show Wp (WpD (e + 96)) hcL_law Q (1463, [some (.inr (.inr (200, 0))), some (.inr (.inr (0, 0))), some (.inr (.inr (12, 0))), some (.inl x3)], [.inl (σ.2.2.2.2.2 ((x3 + (1 : Int32))).toNatClampNeg), .inr (.inr (0, 0))]) σ
        refine Wp.run (WpD.mono _) 3 (q := ((1467, [some (.inr (.inr (200, 0))), some (.inr (.inr (0, 0))), some (.inr (.inr (12, 0))), some (.inl x3)], [.inl (x3 + (2 : Int32)), .inr (.inr (200, 0)), .inl (σ.2.2.2.2.2 ((x3 + (1 : Int32))).toNatClampNeg), .inr (.inr (0, 0))]), σ)) rfl ?_
        obtain ⟨hc, h⟩ := ite_nn h
        refine Wp.X_ild6 (WpD.mono _) rfl rfl hc ?_
        show Wp (WpD (e + 96)) hcL_law Q (1468, [some (.inr (.inr (200, 0))), some (.inr (.inr (0, 0))), some (.inr (.inr (12, 0))), some (.inl x3)], [.inl (σ.2.2.2.2.2 ((x3 + (2 : Int32))).toNatClampNeg), .inl (σ.2.2.2.2.2 ((x3 + (1 : Int32))).toNatClampNeg), .inr (.inr (0, 0))]) σ
        refine Wp.run (WpD.mono _) 3 (q := ((1472, [some (.inr (.inr (200, 0))), some (.inr (.inr (0, 0))), some (.inr (.inr (12, 0))), some (.inl x3)], [.inl (x3 + (3 : Int32)), .inr (.inr (200, 0)), .inl (σ.2.2.2.2.2 ((x3 + (2 : Int32))).toNatClampNeg), .inl (σ.2.2.2.2.2 ((x3 + (1 : Int32))).toNatClampNeg), .inr (.inr (0, 0))]), σ)) rfl ?_
        obtain ⟨hc, h⟩ := ite_nn h
        refine Wp.X_ild6 (WpD.mono _) rfl rfl hc ?_
        show Wp (WpD (e + 96)) hcL_law Q (1473, [some (.inr (.inr (200, 0))), some (.inr (.inr (0, 0))), some (.inr (.inr (12, 0))), some (.inl x3)], [.inl (σ.2.2.2.2.2 ((x3 + (3 : Int32))).toNatClampNeg), .inl (σ.2.2.2.2.2 ((x3 + (2 : Int32))).toNatClampNeg), .inl (σ.2.2.2.2.2 ((x3 + (1 : Int32))).toNatClampNeg), .inr (.inr (0, 0))]) σ
        obtain ⟨q81, hb, h⟩ := bind_some h
        refine Wp.call (WpD.mono _) rfl (T_X11_sheet (e + 93) N (σ.2.2.2.2.2 ((x3 + (1 : Int32))).toNatClampNeg) (σ.2.2.2.2.2 ((x3 + (2 : Int32))).toNatClampNeg) (σ.2.2.2.2.2 ((x3 + (3 : Int32))).toNatClampNeg) σ _ _ _ hb ?_)
        show Wp (WpD (e + 96)) hcL_law Q (1476, [some (.inr (.inr (200, 0))), some (.inr (.inr (0, 0))), some (.inr (.inr (12, 0))), some (.inl x3)], [.inl q81.1]) q81.2
        refine Wp.run (WpD.mono _) 4 (q := ((1481, [some (.inr (.inr (200, 0))), some (.inr (.inr (0, 0))), some (.inr (.inr (12, 0))), some (.inl x3)], [.inl (x3 + (1 : Int32)), .inr (.inr (200, 0)), .inr (.inr (12, 0)), .inl q81.1]), q81.2)) rfl ?_
        obtain ⟨hc, h⟩ := ite_nn h
        refine Wp.X_ild6 (WpD.mono _) rfl rfl hc ?_
        show Wp (WpD (e + 96)) hcL_law Q (1482, [some (.inr (.inr (200, 0))), some (.inr (.inr (0, 0))), some (.inr (.inr (12, 0))), some (.inl x3)], [.inl (q81.2.2.2.2.2.2 ((x3 + (1 : Int32))).toNatClampNeg), .inr (.inr (12, 0)), .inl q81.1]) q81.2
        refine Wp.run (WpD.mono _) 3 (q := ((1486, [some (.inr (.inr (200, 0))), some (.inr (.inr (0, 0))), some (.inr (.inr (12, 0))), some (.inl x3)], [.inl (x3 + (2 : Int32)), .inr (.inr (200, 0)), .inl (q81.2.2.2.2.2.2 ((x3 + (1 : Int32))).toNatClampNeg), .inr (.inr (12, 0)), .inl q81.1]), q81.2)) rfl ?_
        obtain ⟨hc, h⟩ := ite_nn h
        refine Wp.X_ild6 (WpD.mono _) rfl rfl hc ?_
        show Wp (WpD (e + 96)) hcL_law Q (1487, [some (.inr (.inr (200, 0))), some (.inr (.inr (0, 0))), some (.inr (.inr (12, 0))), some (.inl x3)], [.inl (q81.2.2.2.2.2.2 ((x3 + (2 : Int32))).toNatClampNeg), .inl (q81.2.2.2.2.2.2 ((x3 + (1 : Int32))).toNatClampNeg), .inr (.inr (12, 0)), .inl q81.1]) q81.2
        refine Wp.run (WpD.mono _) 3 (q := ((1491, [some (.inr (.inr (200, 0))), some (.inr (.inr (0, 0))), some (.inr (.inr (12, 0))), some (.inl x3)], [.inl (x3 + (3 : Int32)), .inr (.inr (200, 0)), .inl (q81.2.2.2.2.2.2 ((x3 + (2 : Int32))).toNatClampNeg), .inl (q81.2.2.2.2.2.2 ((x3 + (1 : Int32))).toNatClampNeg), .inr (.inr (12, 0)), .inl q81.1]), q81.2)) rfl ?_
        obtain ⟨hc, h⟩ := ite_nn h
        refine Wp.X_ild6 (WpD.mono _) rfl rfl hc ?_
        show Wp (WpD (e + 96)) hcL_law Q (1492, [some (.inr (.inr (200, 0))), some (.inr (.inr (0, 0))), some (.inr (.inr (12, 0))), some (.inl x3)], [.inl (q81.2.2.2.2.2.2 ((x3 + (3 : Int32))).toNatClampNeg), .inl (q81.2.2.2.2.2.2 ((x3 + (2 : Int32))).toNatClampNeg), .inl (q81.2.2.2.2.2.2 ((x3 + (1 : Int32))).toNatClampNeg), .inr (.inr (12, 0)), .inl q81.1]) q81.2
        obtain ⟨q82, hb, h⟩ := bind_some h
        refine Wp.call (WpD.mono _) rfl (T_X12_sheet (e + 94) N (q81.2.2.2.2.2.2 ((x3 + (1 : Int32))).toNatClampNeg) (q81.2.2.2.2.2.2 ((x3 + (2 : Int32))).toNatClampNeg) (q81.2.2.2.2.2.2 ((x3 + (3 : Int32))).toNatClampNeg) q81.2 _ _ _ hb ?_)
        show Wp (WpD (e + 96)) hcL_law Q (1495, [some (.inr (.inr (200, 0))), some (.inr (.inr (0, 0))), some (.inr (.inr (12, 0))), some (.inl x3)], [.inl q82.1, .inl q81.1]) q82.2
        refine Wp.if2_eq (WpD.mono _) rfl rfl (fun hc => ?_) (fun hc => ?_)
        · have h := (if_pos hc).symm.trans h
          show Wp (WpD (e + 96)) hcL_law Q (1692, [some (.inr (.inr (200, 0))), some (.inr (.inr (0, 0))), some (.inr (.inr (12, 0))), some (.inl x3)], []) q82.2
          refine Wp.run (WpD.mono _) 1 (q := ((18, [some (.inr (.inr (200, 0))), some (.inr (.inr (0, 0))), some (.inr (.inr (12, 0))), some (.inl (x3 + (6 : Int32)))], []), q82.2)) rfl ?_
          exact Wp.jump (WpD.mono _) rfl (ih (x3 + (6 : Int32)) q82.2 h)
        · have h := (if_neg hc).symm.trans h
          show Wp (WpD (e + 96)) hcL_law Q (1498, [some (.inr (.inr (200, 0))), some (.inr (.inr (0, 0))), some (.inr (.inr (12, 0))), some (.inl x3)], []) q82.2
          refine Wp.run (WpD.mono _) 0 (q := ((1499, [some (.inr (.inr (200, 0))), some (.inr (.inr (0, 0))), some (.inr (.inr (12, 0))), some (.inl x3)], [.inl (0 : Int32)]), q82.2)) rfl ?_
          obtain ⟨rfl, rfl⟩ := ret_inj h
          exact Wp.ret (WpD.mono _) rfl hQ
      have h := (if_neg hs40).symm.trans h
      by_cases hs41 : ((σ.2.2.2.2.2 (x3).toNatClampNeg) &&& (63 : Int32)) = 41
      · have h := (if_pos hs41).symm.trans h
        refine Wp.swIn (WpD.mono _) (q := ((1500, [some (.inr (.inr (200, 0))), some (.inr (.inr (0, 0))), some (.inr (.inr (12, 0))), some (.inl x3)], []), σ)) hs41 rfl ?_
        refine Wp.run (WpD.mono _) 4 (q := ((1505, [some (.inr (.inr (200, 0))), some (.inr (.inr (0, 0))), some (.inr (.inr (12, 0))), some (.inl x3)], [.inl (x3 + (1 : Int32)), .inr (.inr (200, 0)), .inr (.inr (0, 0))]), σ)) rfl ?_
        obtain ⟨hc, h⟩ := ite_nn h
        refine Wp.X_ild6 (WpD.mono _) rfl rfl hc ?_
        show Wp (WpD (e + 96)) hcL_law Q (1506, [some (.inr (.inr (200, 0))), some (.inr (.inr (0, 0))), some (.inr (.inr (12, 0))), some (.inl x3)], [.inl (σ.2.2.2.2.2 ((x3 + (1 : Int32))).toNatClampNeg), .inr (.inr (0, 0))]) σ
        refine Wp.run (WpD.mono _) 3 (q := ((1510, [some (.inr (.inr (200, 0))), some (.inr (.inr (0, 0))), some (.inr (.inr (12, 0))), some (.inl x3)], [.inl (x3 + (2 : Int32)), .inr (.inr (200, 0)), .inl (σ.2.2.2.2.2 ((x3 + (1 : Int32))).toNatClampNeg), .inr (.inr (0, 0))]), σ)) rfl ?_
        obtain ⟨hc, h⟩ := ite_nn h
        refine Wp.X_ild6 (WpD.mono _) rfl rfl hc ?_
        show Wp (WpD (e + 96)) hcL_law Q (1511, [some (.inr (.inr (200, 0))), some (.inr (.inr (0, 0))), some (.inr (.inr (12, 0))), some (.inl x3)], [.inl (σ.2.2.2.2.2 ((x3 + (2 : Int32))).toNatClampNeg), .inl (σ.2.2.2.2.2 ((x3 + (1 : Int32))).toNatClampNeg), .inr (.inr (0, 0))]) σ
        refine Wp.run (WpD.mono _) 3 (q := ((1515, [some (.inr (.inr (200, 0))), some (.inr (.inr (0, 0))), some (.inr (.inr (12, 0))), some (.inl x3)], [.inl (x3 + (3 : Int32)), .inr (.inr (200, 0)), .inl (σ.2.2.2.2.2 ((x3 + (2 : Int32))).toNatClampNeg), .inl (σ.2.2.2.2.2 ((x3 + (1 : Int32))).toNatClampNeg), .inr (.inr (0, 0))]), σ)) rfl ?_
        obtain ⟨hc, h⟩ := ite_nn h
        refine Wp.X_ild6 (WpD.mono _) rfl rfl hc ?_
        show Wp (WpD (e + 96)) hcL_law Q (1516, [some (.inr (.inr (200, 0))), some (.inr (.inr (0, 0))), some (.inr (.inr (12, 0))), some (.inl x3)], [.inl (σ.2.2.2.2.2 ((x3 + (3 : Int32))).toNatClampNeg), .inl (σ.2.2.2.2.2 ((x3 + (2 : Int32))).toNatClampNeg), .inl (σ.2.2.2.2.2 ((x3 + (1 : Int32))).toNatClampNeg), .inr (.inr (0, 0))]) σ
        obtain ⟨q83, hb, h⟩ := bind_some h
        refine Wp.call (WpD.mono _) rfl (T_X11_cell (e + 93) N (σ.2.2.2.2.2 ((x3 + (1 : Int32))).toNatClampNeg) (σ.2.2.2.2.2 ((x3 + (2 : Int32))).toNatClampNeg) (σ.2.2.2.2.2 ((x3 + (3 : Int32))).toNatClampNeg) σ _ _ _ hb ?_)
        show Wp (WpD (e + 96)) hcL_law Q (1519, [some (.inr (.inr (200, 0))), some (.inr (.inr (0, 0))), some (.inr (.inr (12, 0))), some (.inl x3)], [.inl q83.1]) q83.2
        refine Wp.run (WpD.mono _) 4 (q := ((1524, [some (.inr (.inr (200, 0))), some (.inr (.inr (0, 0))), some (.inr (.inr (12, 0))), some (.inl x3)], [.inl (x3 + (1 : Int32)), .inr (.inr (200, 0)), .inr (.inr (12, 0)), .inl q83.1]), q83.2)) rfl ?_
        obtain ⟨hc, h⟩ := ite_nn h
        refine Wp.X_ild6 (WpD.mono _) rfl rfl hc ?_
        show Wp (WpD (e + 96)) hcL_law Q (1525, [some (.inr (.inr (200, 0))), some (.inr (.inr (0, 0))), some (.inr (.inr (12, 0))), some (.inl x3)], [.inl (q83.2.2.2.2.2.2 ((x3 + (1 : Int32))).toNatClampNeg), .inr (.inr (12, 0)), .inl q83.1]) q83.2
        refine Wp.run (WpD.mono _) 3 (q := ((1529, [some (.inr (.inr (200, 0))), some (.inr (.inr (0, 0))), some (.inr (.inr (12, 0))), some (.inl x3)], [.inl (x3 + (2 : Int32)), .inr (.inr (200, 0)), .inl (q83.2.2.2.2.2.2 ((x3 + (1 : Int32))).toNatClampNeg), .inr (.inr (12, 0)), .inl q83.1]), q83.2)) rfl ?_
        obtain ⟨hc, h⟩ := ite_nn h
        refine Wp.X_ild6 (WpD.mono _) rfl rfl hc ?_
        show Wp (WpD (e + 96)) hcL_law Q (1530, [some (.inr (.inr (200, 0))), some (.inr (.inr (0, 0))), some (.inr (.inr (12, 0))), some (.inl x3)], [.inl (q83.2.2.2.2.2.2 ((x3 + (2 : Int32))).toNatClampNeg), .inl (q83.2.2.2.2.2.2 ((x3 + (1 : Int32))).toNatClampNeg), .inr (.inr (12, 0)), .inl q83.1]) q83.2
        refine Wp.run (WpD.mono _) 3 (q := ((1534, [some (.inr (.inr (200, 0))), some (.inr (.inr (0, 0))), some (.inr (.inr (12, 0))), some (.inl x3)], [.inl (x3 + (3 : Int32)), .inr (.inr (200, 0)), .inl (q83.2.2.2.2.2.2 ((x3 + (2 : Int32))).toNatClampNeg), .inl (q83.2.2.2.2.2.2 ((x3 + (1 : Int32))).toNatClampNeg), .inr (.inr (12, 0)), .inl q83.1]), q83.2)) rfl ?_
        obtain ⟨hc, h⟩ := ite_nn h
        refine Wp.X_ild6 (WpD.mono _) rfl rfl hc ?_
        show Wp (WpD (e + 96)) hcL_law Q (1535, [some (.inr (.inr (200, 0))), some (.inr (.inr (0, 0))), some (.inr (.inr (12, 0))), some (.inl x3)], [.inl (q83.2.2.2.2.2.2 ((x3 + (3 : Int32))).toNatClampNeg), .inl (q83.2.2.2.2.2.2 ((x3 + (2 : Int32))).toNatClampNeg), .inl (q83.2.2.2.2.2.2 ((x3 + (1 : Int32))).toNatClampNeg), .inr (.inr (12, 0)), .inl q83.1]) q83.2
        obtain ⟨q84, hb, h⟩ := bind_some h
        refine Wp.call (WpD.mono _) rfl (T_X12_cell (e + 94) N (q83.2.2.2.2.2.2 ((x3 + (1 : Int32))).toNatClampNeg) (q83.2.2.2.2.2.2 ((x3 + (2 : Int32))).toNatClampNeg) (q83.2.2.2.2.2.2 ((x3 + (3 : Int32))).toNatClampNeg) q83.2 _ _ _ hb ?_)
        show Wp (WpD (e + 96)) hcL_law Q (1538, [some (.inr (.inr (200, 0))), some (.inr (.inr (0, 0))), some (.inr (.inr (12, 0))), some (.inl x3)], [.inl q84.1, .inl q83.1]) q84.2
        refine Wp.if2_eq (WpD.mono _) rfl rfl (fun hc => ?_) (fun hc => ?_)
        · have h := (if_pos hc).symm.trans h
          show Wp (WpD (e + 96)) hcL_law Q (1692, [some (.inr (.inr (200, 0))), some (.inr (.inr (0, 0))), some (.inr (.inr (12, 0))), some (.inl x3)], []) q84.2
          refine Wp.run (WpD.mono _) 1 (q := ((18, [some (.inr (.inr (200, 0))), some (.inr (.inr (0, 0))), some (.inr (.inr (12, 0))), some (.inl (x3 + (6 : Int32)))], []), q84.2)) rfl ?_
          exact Wp.jump (WpD.mono _) rfl (ih (x3 + (6 : Int32)) q84.2 h)
        · have h := (if_neg hc).symm.trans h
          show Wp (WpD (e + 96)) hcL_law Q (1541, [some (.inr (.inr (200, 0))), some (.inr (.inr (0, 0))), some (.inr (.inr (12, 0))), some (.inl x3)], []) q84.2
          refine Wp.run (WpD.mono _) 0 (q := ((1542, [some (.inr (.inr (200, 0))), some (.inr (.inr (0, 0))), some (.inr (.inr (12, 0))), some (.inl x3)], [.inl (0 : Int32)]), q84.2)) rfl ?_
          obtain ⟨rfl, rfl⟩ := ret_inj h
          exact Wp.ret (WpD.mono _) rfl hQ
      have h := (if_neg hs41).symm.trans h
      by_cases hs42 : ((σ.2.2.2.2.2 (x3).toNatClampNeg) &&& (63 : Int32)) = 42
      · have h := (if_pos hs42).symm.trans h
        refine Wp.swIn (WpD.mono _) (q := ((1543, [some (.inr (.inr (200, 0))), some (.inr (.inr (0, 0))), some (.inr (.inr (12, 0))), some (.inl x3)], []), σ)) hs42 rfl ?_
        refine Wp.run (WpD.mono _) 4 (q := ((1548, [some (.inr (.inr (200, 0))), some (.inr (.inr (0, 0))), some (.inr (.inr (12, 0))), some (.inl x3)], [.inl (x3 + (1 : Int32)), .inr (.inr (200, 0)), .inr (.inr (0, 0))]), σ)) rfl ?_
        obtain ⟨hc, h⟩ := ite_nn h
        refine Wp.X_ild6 (WpD.mono _) rfl rfl hc ?_
        show Wp (WpD (e + 96)) hcL_law Q (1549, [some (.inr (.inr (200, 0))), some (.inr (.inr (0, 0))), some (.inr (.inr (12, 0))), some (.inl x3)], [.inl (σ.2.2.2.2.2 ((x3 + (1 : Int32))).toNatClampNeg), .inr (.inr (0, 0))]) σ
        refine Wp.run (WpD.mono _) 3 (q := ((1553, [some (.inr (.inr (200, 0))), some (.inr (.inr (0, 0))), some (.inr (.inr (12, 0))), some (.inl x3)], [.inl (x3 + (2 : Int32)), .inr (.inr (200, 0)), .inl (σ.2.2.2.2.2 ((x3 + (1 : Int32))).toNatClampNeg), .inr (.inr (0, 0))]), σ)) rfl ?_
        obtain ⟨hc, h⟩ := ite_nn h
        refine Wp.X_ild6 (WpD.mono _) rfl rfl hc ?_
        show Wp (WpD (e + 96)) hcL_law Q (1554, [some (.inr (.inr (200, 0))), some (.inr (.inr (0, 0))), some (.inr (.inr (12, 0))), some (.inl x3)], [.inl (σ.2.2.2.2.2 ((x3 + (2 : Int32))).toNatClampNeg), .inl (σ.2.2.2.2.2 ((x3 + (1 : Int32))).toNatClampNeg), .inr (.inr (0, 0))]) σ
        refine Wp.run (WpD.mono _) 3 (q := ((1558, [some (.inr (.inr (200, 0))), some (.inr (.inr (0, 0))), some (.inr (.inr (12, 0))), some (.inl x3)], [.inl (x3 + (3 : Int32)), .inr (.inr (200, 0)), .inl (σ.2.2.2.2.2 ((x3 + (2 : Int32))).toNatClampNeg), .inl (σ.2.2.2.2.2 ((x3 + (1 : Int32))).toNatClampNeg), .inr (.inr (0, 0))]), σ)) rfl ?_
        obtain ⟨hc, h⟩ := ite_nn h
        refine Wp.X_ild6 (WpD.mono _) rfl rfl hc ?_
        show Wp (WpD (e + 96)) hcL_law Q (1559, [some (.inr (.inr (200, 0))), some (.inr (.inr (0, 0))), some (.inr (.inr (12, 0))), some (.inl x3)], [.inl (σ.2.2.2.2.2 ((x3 + (3 : Int32))).toNatClampNeg), .inl (σ.2.2.2.2.2 ((x3 + (2 : Int32))).toNatClampNeg), .inl (σ.2.2.2.2.2 ((x3 + (1 : Int32))).toNatClampNeg), .inr (.inr (0, 0))]) σ
        refine Wp.run (WpD.mono _) 3 (q := ((1563, [some (.inr (.inr (200, 0))), some (.inr (.inr (0, 0))), some (.inr (.inr (12, 0))), some (.inl x3)], [.inl (x3 + (4 : Int32)), .inr (.inr (200, 0)), .inl (σ.2.2.2.2.2 ((x3 + (3 : Int32))).toNatClampNeg), .inl (σ.2.2.2.2.2 ((x3 + (2 : Int32))).toNatClampNeg), .inl (σ.2.2.2.2.2 ((x3 + (1 : Int32))).toNatClampNeg), .inr (.inr (0, 0))]), σ)) rfl ?_
        obtain ⟨hc, h⟩ := ite_nn h
        refine Wp.X_ild6 (WpD.mono _) rfl rfl hc ?_
        show Wp (WpD (e + 96)) hcL_law Q (1564, [some (.inr (.inr (200, 0))), some (.inr (.inr (0, 0))), some (.inr (.inr (12, 0))), some (.inl x3)], [.inl (σ.2.2.2.2.2 ((x3 + (4 : Int32))).toNatClampNeg), .inl (σ.2.2.2.2.2 ((x3 + (3 : Int32))).toNatClampNeg), .inl (σ.2.2.2.2.2 ((x3 + (2 : Int32))).toNatClampNeg), .inl (σ.2.2.2.2.2 ((x3 + (1 : Int32))).toNatClampNeg), .inr (.inr (0, 0))]) σ
        refine Wp.run (WpD.mono _) 3 (q := ((1568, [some (.inr (.inr (200, 0))), some (.inr (.inr (0, 0))), some (.inr (.inr (12, 0))), some (.inl x3)], [.inl (x3 + (5 : Int32)), .inr (.inr (200, 0)), .inl (σ.2.2.2.2.2 ((x3 + (4 : Int32))).toNatClampNeg), .inl (σ.2.2.2.2.2 ((x3 + (3 : Int32))).toNatClampNeg), .inl (σ.2.2.2.2.2 ((x3 + (2 : Int32))).toNatClampNeg), .inl (σ.2.2.2.2.2 ((x3 + (1 : Int32))).toNatClampNeg), .inr (.inr (0, 0))]), σ)) rfl ?_
        obtain ⟨hc, h⟩ := ite_nn h
        refine Wp.X_ild6 (WpD.mono _) rfl rfl hc ?_
        show Wp (WpD (e + 96)) hcL_law Q (1569, [some (.inr (.inr (200, 0))), some (.inr (.inr (0, 0))), some (.inr (.inr (12, 0))), some (.inl x3)], [.inl (σ.2.2.2.2.2 ((x3 + (5 : Int32))).toNatClampNeg), .inl (σ.2.2.2.2.2 ((x3 + (4 : Int32))).toNatClampNeg), .inl (σ.2.2.2.2.2 ((x3 + (3 : Int32))).toNatClampNeg), .inl (σ.2.2.2.2.2 ((x3 + (2 : Int32))).toNatClampNeg), .inl (σ.2.2.2.2.2 ((x3 + (1 : Int32))).toNatClampNeg), .inr (.inr (0, 0))]) σ
        obtain ⟨q85, hb, h⟩ := bind_some h
        refine Wp.call (WpD.mono _) rfl (T_X11_copy (e + 93) N (σ.2.2.2.2.2 ((x3 + (1 : Int32))).toNatClampNeg) (σ.2.2.2.2.2 ((x3 + (2 : Int32))).toNatClampNeg) (σ.2.2.2.2.2 ((x3 + (3 : Int32))).toNatClampNeg) (σ.2.2.2.2.2 ((x3 + (4 : Int32))).toNatClampNeg) (σ.2.2.2.2.2 ((x3 + (5 : Int32))).toNatClampNeg) σ _ _ _ hb ?_)
        show Wp (WpD (e + 96)) hcL_law Q (1572, [some (.inr (.inr (200, 0))), some (.inr (.inr (0, 0))), some (.inr (.inr (12, 0))), some (.inl x3)], [.inl q85.1]) q85.2
        refine Wp.run (WpD.mono _) 4 (q := ((1577, [some (.inr (.inr (200, 0))), some (.inr (.inr (0, 0))), some (.inr (.inr (12, 0))), some (.inl x3)], [.inl (x3 + (1 : Int32)), .inr (.inr (200, 0)), .inr (.inr (12, 0)), .inl q85.1]), q85.2)) rfl ?_
        obtain ⟨hc, h⟩ := ite_nn h
        refine Wp.X_ild6 (WpD.mono _) rfl rfl hc ?_
        show Wp (WpD (e + 96)) hcL_law Q (1578, [some (.inr (.inr (200, 0))), some (.inr (.inr (0, 0))), some (.inr (.inr (12, 0))), some (.inl x3)], [.inl (q85.2.2.2.2.2.2 ((x3 + (1 : Int32))).toNatClampNeg), .inr (.inr (12, 0)), .inl q85.1]) q85.2
        refine Wp.run (WpD.mono _) 3 (q := ((1582, [some (.inr (.inr (200, 0))), some (.inr (.inr (0, 0))), some (.inr (.inr (12, 0))), some (.inl x3)], [.inl (x3 + (2 : Int32)), .inr (.inr (200, 0)), .inl (q85.2.2.2.2.2.2 ((x3 + (1 : Int32))).toNatClampNeg), .inr (.inr (12, 0)), .inl q85.1]), q85.2)) rfl ?_
        obtain ⟨hc, h⟩ := ite_nn h
        refine Wp.X_ild6 (WpD.mono _) rfl rfl hc ?_
        show Wp (WpD (e + 96)) hcL_law Q (1583, [some (.inr (.inr (200, 0))), some (.inr (.inr (0, 0))), some (.inr (.inr (12, 0))), some (.inl x3)], [.inl (q85.2.2.2.2.2.2 ((x3 + (2 : Int32))).toNatClampNeg), .inl (q85.2.2.2.2.2.2 ((x3 + (1 : Int32))).toNatClampNeg), .inr (.inr (12, 0)), .inl q85.1]) q85.2
        refine Wp.run (WpD.mono _) 3 (q := ((1587, [some (.inr (.inr (200, 0))), some (.inr (.inr (0, 0))), some (.inr (.inr (12, 0))), some (.inl x3)], [.inl (x3 + (3 : Int32)), .inr (.inr (200, 0)), .inl (q85.2.2.2.2.2.2 ((x3 + (2 : Int32))).toNatClampNeg), .inl (q85.2.2.2.2.2.2 ((x3 + (1 : Int32))).toNatClampNeg), .inr (.inr (12, 0)), .inl q85.1]), q85.2)) rfl ?_
        obtain ⟨hc, h⟩ := ite_nn h
        refine Wp.X_ild6 (WpD.mono _) rfl rfl hc ?_
        show Wp (WpD (e + 96)) hcL_law Q (1588, [some (.inr (.inr (200, 0))), some (.inr (.inr (0, 0))), some (.inr (.inr (12, 0))), some (.inl x3)], [.inl (q85.2.2.2.2.2.2 ((x3 + (3 : Int32))).toNatClampNeg), .inl (q85.2.2.2.2.2.2 ((x3 + (2 : Int32))).toNatClampNeg), .inl (q85.2.2.2.2.2.2 ((x3 + (1 : Int32))).toNatClampNeg), .inr (.inr (12, 0)), .inl q85.1]) q85.2
        refine Wp.run (WpD.mono _) 3 (q := ((1592, [some (.inr (.inr (200, 0))), some (.inr (.inr (0, 0))), some (.inr (.inr (12, 0))), some (.inl x3)], [.inl (x3 + (4 : Int32)), .inr (.inr (200, 0)), .inl (q85.2.2.2.2.2.2 ((x3 + (3 : Int32))).toNatClampNeg), .inl (q85.2.2.2.2.2.2 ((x3 + (2 : Int32))).toNatClampNeg), .inl (q85.2.2.2.2.2.2 ((x3 + (1 : Int32))).toNatClampNeg), .inr (.inr (12, 0)), .inl q85.1]), q85.2)) rfl ?_
        obtain ⟨hc, h⟩ := ite_nn h
        refine Wp.X_ild6 (WpD.mono _) rfl rfl hc ?_
        show Wp (WpD (e + 96)) hcL_law Q (1593, [some (.inr (.inr (200, 0))), some (.inr (.inr (0, 0))), some (.inr (.inr (12, 0))), some (.inl x3)], [.inl (q85.2.2.2.2.2.2 ((x3 + (4 : Int32))).toNatClampNeg), .inl (q85.2.2.2.2.2.2 ((x3 + (3 : Int32))).toNatClampNeg), .inl (q85.2.2.2.2.2.2 ((x3 + (2 : Int32))).toNatClampNeg), .inl (q85.2.2.2.2.2.2 ((x3 + (1 : Int32))).toNatClampNeg), .inr (.inr (12, 0)), .inl q85.1]) q85.2
        refine Wp.run (WpD.mono _) 3 (q := ((1597, [some (.inr (.inr (200, 0))), some (.inr (.inr (0, 0))), some (.inr (.inr (12, 0))), some (.inl x3)], [.inl (x3 + (5 : Int32)), .inr (.inr (200, 0)), .inl (q85.2.2.2.2.2.2 ((x3 + (4 : Int32))).toNatClampNeg), .inl (q85.2.2.2.2.2.2 ((x3 + (3 : Int32))).toNatClampNeg), .inl (q85.2.2.2.2.2.2 ((x3 + (2 : Int32))).toNatClampNeg), .inl (q85.2.2.2.2.2.2 ((x3 + (1 : Int32))).toNatClampNeg), .inr (.inr (12, 0)), .inl q85.1]), q85.2)) rfl ?_
        obtain ⟨hc, h⟩ := ite_nn h
        refine Wp.X_ild6 (WpD.mono _) rfl rfl hc ?_
        show Wp (WpD (e + 96)) hcL_law Q (1598, [some (.inr (.inr (200, 0))), some (.inr (.inr (0, 0))), some (.inr (.inr (12, 0))), some (.inl x3)], [.inl (q85.2.2.2.2.2.2 ((x3 + (5 : Int32))).toNatClampNeg), .inl (q85.2.2.2.2.2.2 ((x3 + (4 : Int32))).toNatClampNeg), .inl (q85.2.2.2.2.2.2 ((x3 + (3 : Int32))).toNatClampNeg), .inl (q85.2.2.2.2.2.2 ((x3 + (2 : Int32))).toNatClampNeg), .inl (q85.2.2.2.2.2.2 ((x3 + (1 : Int32))).toNatClampNeg), .inr (.inr (12, 0)), .inl q85.1]) q85.2
        obtain ⟨q86, hb, h⟩ := bind_some h
        refine Wp.call (WpD.mono _) rfl (T_X12_copy (e + 94) N (q85.2.2.2.2.2.2 ((x3 + (1 : Int32))).toNatClampNeg) (q85.2.2.2.2.2.2 ((x3 + (2 : Int32))).toNatClampNeg) (q85.2.2.2.2.2.2 ((x3 + (3 : Int32))).toNatClampNeg) (q85.2.2.2.2.2.2 ((x3 + (4 : Int32))).toNatClampNeg) (q85.2.2.2.2.2.2 ((x3 + (5 : Int32))).toNatClampNeg) q85.2 _ _ _ hb ?_)
        show Wp (WpD (e + 96)) hcL_law Q (1601, [some (.inr (.inr (200, 0))), some (.inr (.inr (0, 0))), some (.inr (.inr (12, 0))), some (.inl x3)], [.inl q86.1, .inl q85.1]) q86.2
        refine Wp.if2_eq (WpD.mono _) rfl rfl (fun hc => ?_) (fun hc => ?_)
        · have h := (if_pos hc).symm.trans h
          show Wp (WpD (e + 96)) hcL_law Q (1692, [some (.inr (.inr (200, 0))), some (.inr (.inr (0, 0))), some (.inr (.inr (12, 0))), some (.inl x3)], []) q86.2
          refine Wp.run (WpD.mono _) 1 (q := ((18, [some (.inr (.inr (200, 0))), some (.inr (.inr (0, 0))), some (.inr (.inr (12, 0))), some (.inl (x3 + (6 : Int32)))], []), q86.2)) rfl ?_
          exact Wp.jump (WpD.mono _) rfl (ih (x3 + (6 : Int32)) q86.2 h)
        · have h := (if_neg hc).symm.trans h
          show Wp (WpD (e + 96)) hcL_law Q (1604, [some (.inr (.inr (200, 0))), some (.inr (.inr (0, 0))), some (.inr (.inr (12, 0))), some (.inl x3)], []) q86.2
          refine Wp.run (WpD.mono _) 0 (q := ((1605, [some (.inr (.inr (200, 0))), some (.inr (.inr (0, 0))), some (.inr (.inr (12, 0))), some (.inl x3)], [.inl (0 : Int32)]), q86.2)) rfl ?_
          obtain ⟨rfl, rfl⟩ := ret_inj h
          exact Wp.ret (WpD.mono _) rfl hQ
      have h := (if_neg hs42).symm.trans h
      by_cases hs43 : ((σ.2.2.2.2.2 (x3).toNatClampNeg) &&& (63 : Int32)) = 43
      · have h := (if_pos hs43).symm.trans h
        refine Wp.swIn (WpD.mono _) (q := ((1606, [some (.inr (.inr (200, 0))), some (.inr (.inr (0, 0))), some (.inr (.inr (12, 0))), some (.inl x3)], []), σ)) hs43 rfl ?_
        refine Wp.run (WpD.mono _) 4 (q := ((1611, [some (.inr (.inr (200, 0))), some (.inr (.inr (0, 0))), some (.inr (.inr (12, 0))), some (.inl x3)], [.inl (x3 + (1 : Int32)), .inr (.inr (200, 0)), .inr (.inr (0, 0))]), σ)) rfl ?_
        obtain ⟨hc, h⟩ := ite_nn h
        refine Wp.X_ild6 (WpD.mono _) rfl rfl hc ?_
        show Wp (WpD (e + 96)) hcL_law Q (1612, [some (.inr (.inr (200, 0))), some (.inr (.inr (0, 0))), some (.inr (.inr (12, 0))), some (.inl x3)], [.inl (σ.2.2.2.2.2 ((x3 + (1 : Int32))).toNatClampNeg), .inr (.inr (0, 0))]) σ
        refine Wp.run (WpD.mono _) 3 (q := ((1616, [some (.inr (.inr (200, 0))), some (.inr (.inr (0, 0))), some (.inr (.inr (12, 0))), some (.inl x3)], [.inl (x3 + (2 : Int32)), .inr (.inr (200, 0)), .inl (σ.2.2.2.2.2 ((x3 + (1 : Int32))).toNatClampNeg), .inr (.inr (0, 0))]), σ)) rfl ?_
        obtain ⟨hc, h⟩ := ite_nn h
        refine Wp.X_ild6 (WpD.mono _) rfl rfl hc ?_
        show Wp (WpD (e + 96)) hcL_law Q (1617, [some (.inr (.inr (200, 0))), some (.inr (.inr (0, 0))), some (.inr (.inr (12, 0))), some (.inl x3)], [.inl (σ.2.2.2.2.2 ((x3 + (2 : Int32))).toNatClampNeg), .inl (σ.2.2.2.2.2 ((x3 + (1 : Int32))).toNatClampNeg), .inr (.inr (0, 0))]) σ
        refine Wp.run (WpD.mono _) 3 (q := ((1621, [some (.inr (.inr (200, 0))), some (.inr (.inr (0, 0))), some (.inr (.inr (12, 0))), some (.inl x3)], [.inl (x3 + (3 : Int32)), .inr (.inr (200, 0)), .inl (σ.2.2.2.2.2 ((x3 + (2 : Int32))).toNatClampNeg), .inl (σ.2.2.2.2.2 ((x3 + (1 : Int32))).toNatClampNeg), .inr (.inr (0, 0))]), σ)) rfl ?_
        obtain ⟨hc, h⟩ := ite_nn h
        refine Wp.X_ild6 (WpD.mono _) rfl rfl hc ?_
        show Wp (WpD (e + 96)) hcL_law Q (1622, [some (.inr (.inr (200, 0))), some (.inr (.inr (0, 0))), some (.inr (.inr (12, 0))), some (.inl x3)], [.inl (σ.2.2.2.2.2 ((x3 + (3 : Int32))).toNatClampNeg), .inl (σ.2.2.2.2.2 ((x3 + (2 : Int32))).toNatClampNeg), .inl (σ.2.2.2.2.2 ((x3 + (1 : Int32))).toNatClampNeg), .inr (.inr (0, 0))]) σ
        refine Wp.run (WpD.mono _) 3 (q := ((1626, [some (.inr (.inr (200, 0))), some (.inr (.inr (0, 0))), some (.inr (.inr (12, 0))), some (.inl x3)], [.inl (x3 + (4 : Int32)), .inr (.inr (200, 0)), .inl (σ.2.2.2.2.2 ((x3 + (3 : Int32))).toNatClampNeg), .inl (σ.2.2.2.2.2 ((x3 + (2 : Int32))).toNatClampNeg), .inl (σ.2.2.2.2.2 ((x3 + (1 : Int32))).toNatClampNeg), .inr (.inr (0, 0))]), σ)) rfl ?_
        obtain ⟨hc, h⟩ := ite_nn h
        refine Wp.X_ild6 (WpD.mono _) rfl rfl hc ?_
        show Wp (WpD (e + 96)) hcL_law Q (1627, [some (.inr (.inr (200, 0))), some (.inr (.inr (0, 0))), some (.inr (.inr (12, 0))), some (.inl x3)], [.inl (σ.2.2.2.2.2 ((x3 + (4 : Int32))).toNatClampNeg), .inl (σ.2.2.2.2.2 ((x3 + (3 : Int32))).toNatClampNeg), .inl (σ.2.2.2.2.2 ((x3 + (2 : Int32))).toNatClampNeg), .inl (σ.2.2.2.2.2 ((x3 + (1 : Int32))).toNatClampNeg), .inr (.inr (0, 0))]) σ
        obtain ⟨q87, hb, h⟩ := bind_some h
        refine Wp.call (WpD.mono _) rfl (T_X11_layersBy (e + 88) N (σ.2.2.2.2.2 ((x3 + (1 : Int32))).toNatClampNeg) (σ.2.2.2.2.2 ((x3 + (2 : Int32))).toNatClampNeg) (σ.2.2.2.2.2 ((x3 + (3 : Int32))).toNatClampNeg) (σ.2.2.2.2.2 ((x3 + (4 : Int32))).toNatClampNeg) σ _ _ _ hb ?_)
        show Wp (WpD (e + 96)) hcL_law Q (1630, [some (.inr (.inr (200, 0))), some (.inr (.inr (0, 0))), some (.inr (.inr (12, 0))), some (.inl x3)], [.inl q87.1]) q87.2
        refine Wp.run (WpD.mono _) 4 (q := ((1635, [some (.inr (.inr (200, 0))), some (.inr (.inr (0, 0))), some (.inr (.inr (12, 0))), some (.inl x3)], [.inl (x3 + (1 : Int32)), .inr (.inr (200, 0)), .inr (.inr (12, 0)), .inl q87.1]), q87.2)) rfl ?_
        obtain ⟨hc, h⟩ := ite_nn h
        refine Wp.X_ild6 (WpD.mono _) rfl rfl hc ?_
        show Wp (WpD (e + 96)) hcL_law Q (1636, [some (.inr (.inr (200, 0))), some (.inr (.inr (0, 0))), some (.inr (.inr (12, 0))), some (.inl x3)], [.inl (q87.2.2.2.2.2.2 ((x3 + (1 : Int32))).toNatClampNeg), .inr (.inr (12, 0)), .inl q87.1]) q87.2
        refine Wp.run (WpD.mono _) 3 (q := ((1640, [some (.inr (.inr (200, 0))), some (.inr (.inr (0, 0))), some (.inr (.inr (12, 0))), some (.inl x3)], [.inl (x3 + (2 : Int32)), .inr (.inr (200, 0)), .inl (q87.2.2.2.2.2.2 ((x3 + (1 : Int32))).toNatClampNeg), .inr (.inr (12, 0)), .inl q87.1]), q87.2)) rfl ?_
        obtain ⟨hc, h⟩ := ite_nn h
        refine Wp.X_ild6 (WpD.mono _) rfl rfl hc ?_
        show Wp (WpD (e + 96)) hcL_law Q (1641, [some (.inr (.inr (200, 0))), some (.inr (.inr (0, 0))), some (.inr (.inr (12, 0))), some (.inl x3)], [.inl (q87.2.2.2.2.2.2 ((x3 + (2 : Int32))).toNatClampNeg), .inl (q87.2.2.2.2.2.2 ((x3 + (1 : Int32))).toNatClampNeg), .inr (.inr (12, 0)), .inl q87.1]) q87.2
        refine Wp.run (WpD.mono _) 3 (q := ((1645, [some (.inr (.inr (200, 0))), some (.inr (.inr (0, 0))), some (.inr (.inr (12, 0))), some (.inl x3)], [.inl (x3 + (3 : Int32)), .inr (.inr (200, 0)), .inl (q87.2.2.2.2.2.2 ((x3 + (2 : Int32))).toNatClampNeg), .inl (q87.2.2.2.2.2.2 ((x3 + (1 : Int32))).toNatClampNeg), .inr (.inr (12, 0)), .inl q87.1]), q87.2)) rfl ?_
        obtain ⟨hc, h⟩ := ite_nn h
        refine Wp.X_ild6 (WpD.mono _) rfl rfl hc ?_
        show Wp (WpD (e + 96)) hcL_law Q (1646, [some (.inr (.inr (200, 0))), some (.inr (.inr (0, 0))), some (.inr (.inr (12, 0))), some (.inl x3)], [.inl (q87.2.2.2.2.2.2 ((x3 + (3 : Int32))).toNatClampNeg), .inl (q87.2.2.2.2.2.2 ((x3 + (2 : Int32))).toNatClampNeg), .inl (q87.2.2.2.2.2.2 ((x3 + (1 : Int32))).toNatClampNeg), .inr (.inr (12, 0)), .inl q87.1]) q87.2
        refine Wp.run (WpD.mono _) 3 (q := ((1650, [some (.inr (.inr (200, 0))), some (.inr (.inr (0, 0))), some (.inr (.inr (12, 0))), some (.inl x3)], [.inl (x3 + (4 : Int32)), .inr (.inr (200, 0)), .inl (q87.2.2.2.2.2.2 ((x3 + (3 : Int32))).toNatClampNeg), .inl (q87.2.2.2.2.2.2 ((x3 + (2 : Int32))).toNatClampNeg), .inl (q87.2.2.2.2.2.2 ((x3 + (1 : Int32))).toNatClampNeg), .inr (.inr (12, 0)), .inl q87.1]), q87.2)) rfl ?_
        obtain ⟨hc, h⟩ := ite_nn h
        refine Wp.X_ild6 (WpD.mono _) rfl rfl hc ?_
        show Wp (WpD (e + 96)) hcL_law Q (1651, [some (.inr (.inr (200, 0))), some (.inr (.inr (0, 0))), some (.inr (.inr (12, 0))), some (.inl x3)], [.inl (q87.2.2.2.2.2.2 ((x3 + (4 : Int32))).toNatClampNeg), .inl (q87.2.2.2.2.2.2 ((x3 + (3 : Int32))).toNatClampNeg), .inl (q87.2.2.2.2.2.2 ((x3 + (2 : Int32))).toNatClampNeg), .inl (q87.2.2.2.2.2.2 ((x3 + (1 : Int32))).toNatClampNeg), .inr (.inr (12, 0)), .inl q87.1]) q87.2
        obtain ⟨q88, hb, h⟩ := bind_some h
        refine Wp.call (WpD.mono _) rfl (T_X12_layersBy (e + 93) N (q87.2.2.2.2.2.2 ((x3 + (1 : Int32))).toNatClampNeg) (q87.2.2.2.2.2.2 ((x3 + (2 : Int32))).toNatClampNeg) (q87.2.2.2.2.2.2 ((x3 + (3 : Int32))).toNatClampNeg) (q87.2.2.2.2.2.2 ((x3 + (4 : Int32))).toNatClampNeg) q87.2 _ _ _ hb ?_)
        show Wp (WpD (e + 96)) hcL_law Q (1654, [some (.inr (.inr (200, 0))), some (.inr (.inr (0, 0))), some (.inr (.inr (12, 0))), some (.inl x3)], [.inl q88.1, .inl q87.1]) q88.2
        refine Wp.if2_eq (WpD.mono _) rfl rfl (fun hc => ?_) (fun hc => ?_)
        · have h := (if_pos hc).symm.trans h
          show Wp (WpD (e + 96)) hcL_law Q (1692, [some (.inr (.inr (200, 0))), some (.inr (.inr (0, 0))), some (.inr (.inr (12, 0))), some (.inl x3)], []) q88.2
          refine Wp.run (WpD.mono _) 1 (q := ((18, [some (.inr (.inr (200, 0))), some (.inr (.inr (0, 0))), some (.inr (.inr (12, 0))), some (.inl (x3 + (6 : Int32)))], []), q88.2)) rfl ?_
          exact Wp.jump (WpD.mono _) rfl (ih (x3 + (6 : Int32)) q88.2 h)
        · have h := (if_neg hc).symm.trans h
          show Wp (WpD (e + 96)) hcL_law Q (1657, [some (.inr (.inr (200, 0))), some (.inr (.inr (0, 0))), some (.inr (.inr (12, 0))), some (.inl x3)], []) q88.2
          refine Wp.run (WpD.mono _) 0 (q := ((1658, [some (.inr (.inr (200, 0))), some (.inr (.inr (0, 0))), some (.inr (.inr (12, 0))), some (.inl x3)], [.inl (0 : Int32)]), q88.2)) rfl ?_
          obtain ⟨rfl, rfl⟩ := ret_inj h
          exact Wp.ret (WpD.mono _) rfl hQ
      have h := (if_neg hs43).symm.trans h
      by_cases hs44 : ((σ.2.2.2.2.2 (x3).toNatClampNeg) &&& (63 : Int32)) = 44
      · have h := (if_pos hs44).symm.trans h
        refine Wp.swIn (WpD.mono _) (q := ((1659, [some (.inr (.inr (200, 0))), some (.inr (.inr (0, 0))), some (.inr (.inr (12, 0))), some (.inl x3)], []), σ)) hs44 rfl ?_
        refine Wp.run (WpD.mono _) 4 (q := ((1664, [some (.inr (.inr (200, 0))), some (.inr (.inr (0, 0))), some (.inr (.inr (12, 0))), some (.inl x3)], [.inl (x3 + (1 : Int32)), .inr (.inr (200, 0)), .inr (.inr (0, 0))]), σ)) rfl ?_
        obtain ⟨hc, h⟩ := ite_nn h
        refine Wp.X_ild6 (WpD.mono _) rfl rfl hc ?_
        show Wp (WpD (e + 96)) hcL_law Q (1665, [some (.inr (.inr (200, 0))), some (.inr (.inr (0, 0))), some (.inr (.inr (12, 0))), some (.inl x3)], [.inl (σ.2.2.2.2.2 ((x3 + (1 : Int32))).toNatClampNeg), .inr (.inr (0, 0))]) σ
        refine Wp.run (WpD.mono _) 3 (q := ((1669, [some (.inr (.inr (200, 0))), some (.inr (.inr (0, 0))), some (.inr (.inr (12, 0))), some (.inl x3)], [.inl (x3 + (2 : Int32)), .inr (.inr (200, 0)), .inl (σ.2.2.2.2.2 ((x3 + (1 : Int32))).toNatClampNeg), .inr (.inr (0, 0))]), σ)) rfl ?_
        obtain ⟨hc, h⟩ := ite_nn h
        refine Wp.X_ild6 (WpD.mono _) rfl rfl hc ?_
        show Wp (WpD (e + 96)) hcL_law Q (1670, [some (.inr (.inr (200, 0))), some (.inr (.inr (0, 0))), some (.inr (.inr (12, 0))), some (.inl x3)], [.inl (σ.2.2.2.2.2 ((x3 + (2 : Int32))).toNatClampNeg), .inl (σ.2.2.2.2.2 ((x3 + (1 : Int32))).toNatClampNeg), .inr (.inr (0, 0))]) σ
        obtain ⟨q89, hb, h⟩ := bind_some h
        refine Wp.call (WpD.mono _) rfl (T_X11_taken (e + 93) N (σ.2.2.2.2.2 ((x3 + (1 : Int32))).toNatClampNeg) (σ.2.2.2.2.2 ((x3 + (2 : Int32))).toNatClampNeg) σ _ _ _ hb ?_)
        show Wp (WpD (e + 96)) hcL_law Q (1673, [some (.inr (.inr (200, 0))), some (.inr (.inr (0, 0))), some (.inr (.inr (12, 0))), some (.inl x3)], [.inl q89.1]) q89.2
        refine Wp.run (WpD.mono _) 4 (q := ((1678, [some (.inr (.inr (200, 0))), some (.inr (.inr (0, 0))), some (.inr (.inr (12, 0))), some (.inl x3)], [.inl (x3 + (1 : Int32)), .inr (.inr (200, 0)), .inr (.inr (12, 0)), .inl q89.1]), q89.2)) rfl ?_
        obtain ⟨hc, h⟩ := ite_nn h
        refine Wp.X_ild6 (WpD.mono _) rfl rfl hc ?_
        show Wp (WpD (e + 96)) hcL_law Q (1679, [some (.inr (.inr (200, 0))), some (.inr (.inr (0, 0))), some (.inr (.inr (12, 0))), some (.inl x3)], [.inl (q89.2.2.2.2.2.2 ((x3 + (1 : Int32))).toNatClampNeg), .inr (.inr (12, 0)), .inl q89.1]) q89.2
        refine Wp.run (WpD.mono _) 3 (q := ((1683, [some (.inr (.inr (200, 0))), some (.inr (.inr (0, 0))), some (.inr (.inr (12, 0))), some (.inl x3)], [.inl (x3 + (2 : Int32)), .inr (.inr (200, 0)), .inl (q89.2.2.2.2.2.2 ((x3 + (1 : Int32))).toNatClampNeg), .inr (.inr (12, 0)), .inl q89.1]), q89.2)) rfl ?_
        obtain ⟨hc, h⟩ := ite_nn h
        refine Wp.X_ild6 (WpD.mono _) rfl rfl hc ?_
        show Wp (WpD (e + 96)) hcL_law Q (1684, [some (.inr (.inr (200, 0))), some (.inr (.inr (0, 0))), some (.inr (.inr (12, 0))), some (.inl x3)], [.inl (q89.2.2.2.2.2.2 ((x3 + (2 : Int32))).toNatClampNeg), .inl (q89.2.2.2.2.2.2 ((x3 + (1 : Int32))).toNatClampNeg), .inr (.inr (12, 0)), .inl q89.1]) q89.2
        obtain ⟨q90, hb, h⟩ := bind_some h
        refine Wp.call (WpD.mono _) rfl (T_X12_taken (e + 94) N (q89.2.2.2.2.2.2 ((x3 + (1 : Int32))).toNatClampNeg) (q89.2.2.2.2.2.2 ((x3 + (2 : Int32))).toNatClampNeg) q89.2 _ _ _ hb ?_)
        show Wp (WpD (e + 96)) hcL_law Q (1687, [some (.inr (.inr (200, 0))), some (.inr (.inr (0, 0))), some (.inr (.inr (12, 0))), some (.inl x3)], [.inl q90.1, .inl q89.1]) q90.2
        refine Wp.if2_eq (WpD.mono _) rfl rfl (fun hc => ?_) (fun hc => ?_)
        · have h := (if_pos hc).symm.trans h
          show Wp (WpD (e + 96)) hcL_law Q (1692, [some (.inr (.inr (200, 0))), some (.inr (.inr (0, 0))), some (.inr (.inr (12, 0))), some (.inl x3)], []) q90.2
          refine Wp.run (WpD.mono _) 1 (q := ((18, [some (.inr (.inr (200, 0))), some (.inr (.inr (0, 0))), some (.inr (.inr (12, 0))), some (.inl (x3 + (6 : Int32)))], []), q90.2)) rfl ?_
          exact Wp.jump (WpD.mono _) rfl (ih (x3 + (6 : Int32)) q90.2 h)
        · have h := (if_neg hc).symm.trans h
          show Wp (WpD (e + 96)) hcL_law Q (1690, [some (.inr (.inr (200, 0))), some (.inr (.inr (0, 0))), some (.inr (.inr (12, 0))), some (.inl x3)], []) q90.2
          refine Wp.run (WpD.mono _) 0 (q := ((1691, [some (.inr (.inr (200, 0))), some (.inr (.inr (0, 0))), some (.inr (.inr (12, 0))), some (.inl x3)], [.inl (0 : Int32)]), q90.2)) rfl ?_
          obtain ⟨rfl, rfl⟩ := ret_inj h
          exact Wp.ret (WpD.mono _) rfl hQ
      have h := (if_neg hs44).symm.trans h
      have ehs0 : ¬ (((σ.2.2.2.2.2 (x3).toNatClampNeg) &&& (63 : Int32))).toInt = 0 := fun z => hs0 (Int32.toInt_inj.mp z)
      have ehs1 : ¬ (((σ.2.2.2.2.2 (x3).toNatClampNeg) &&& (63 : Int32))).toInt = 1 := fun z => hs1 (Int32.toInt_inj.mp z)
      have ehs2 : ¬ (((σ.2.2.2.2.2 (x3).toNatClampNeg) &&& (63 : Int32))).toInt = 2 := fun z => hs2 (Int32.toInt_inj.mp z)
      have ehs3 : ¬ (((σ.2.2.2.2.2 (x3).toNatClampNeg) &&& (63 : Int32))).toInt = 3 := fun z => hs3 (Int32.toInt_inj.mp z)
      have ehs4 : ¬ (((σ.2.2.2.2.2 (x3).toNatClampNeg) &&& (63 : Int32))).toInt = 4 := fun z => hs4 (Int32.toInt_inj.mp z)
      have ehs5 : ¬ (((σ.2.2.2.2.2 (x3).toNatClampNeg) &&& (63 : Int32))).toInt = 5 := fun z => hs5 (Int32.toInt_inj.mp z)
      have ehs6 : ¬ (((σ.2.2.2.2.2 (x3).toNatClampNeg) &&& (63 : Int32))).toInt = 6 := fun z => hs6 (Int32.toInt_inj.mp z)
      have ehs7 : ¬ (((σ.2.2.2.2.2 (x3).toNatClampNeg) &&& (63 : Int32))).toInt = 7 := fun z => hs7 (Int32.toInt_inj.mp z)
      have ehs8 : ¬ (((σ.2.2.2.2.2 (x3).toNatClampNeg) &&& (63 : Int32))).toInt = 8 := fun z => hs8 (Int32.toInt_inj.mp z)
      have ehs9 : ¬ (((σ.2.2.2.2.2 (x3).toNatClampNeg) &&& (63 : Int32))).toInt = 9 := fun z => hs9 (Int32.toInt_inj.mp z)
      have ehs10 : ¬ (((σ.2.2.2.2.2 (x3).toNatClampNeg) &&& (63 : Int32))).toInt = 10 := fun z => hs10 (Int32.toInt_inj.mp z)
      have ehs11 : ¬ (((σ.2.2.2.2.2 (x3).toNatClampNeg) &&& (63 : Int32))).toInt = 11 := fun z => hs11 (Int32.toInt_inj.mp z)
      have ehs12 : ¬ (((σ.2.2.2.2.2 (x3).toNatClampNeg) &&& (63 : Int32))).toInt = 12 := fun z => hs12 (Int32.toInt_inj.mp z)
      have ehs13 : ¬ (((σ.2.2.2.2.2 (x3).toNatClampNeg) &&& (63 : Int32))).toInt = 13 := fun z => hs13 (Int32.toInt_inj.mp z)
      have ehs14 : ¬ (((σ.2.2.2.2.2 (x3).toNatClampNeg) &&& (63 : Int32))).toInt = 14 := fun z => hs14 (Int32.toInt_inj.mp z)
      have ehs15 : ¬ (((σ.2.2.2.2.2 (x3).toNatClampNeg) &&& (63 : Int32))).toInt = 15 := fun z => hs15 (Int32.toInt_inj.mp z)
      have ehs16 : ¬ (((σ.2.2.2.2.2 (x3).toNatClampNeg) &&& (63 : Int32))).toInt = 16 := fun z => hs16 (Int32.toInt_inj.mp z)
      have ehs17 : ¬ (((σ.2.2.2.2.2 (x3).toNatClampNeg) &&& (63 : Int32))).toInt = 17 := fun z => hs17 (Int32.toInt_inj.mp z)
      have ehs18 : ¬ (((σ.2.2.2.2.2 (x3).toNatClampNeg) &&& (63 : Int32))).toInt = 18 := fun z => hs18 (Int32.toInt_inj.mp z)
      have ehs19 : ¬ (((σ.2.2.2.2.2 (x3).toNatClampNeg) &&& (63 : Int32))).toInt = 19 := fun z => hs19 (Int32.toInt_inj.mp z)
      have ehs20 : ¬ (((σ.2.2.2.2.2 (x3).toNatClampNeg) &&& (63 : Int32))).toInt = 20 := fun z => hs20 (Int32.toInt_inj.mp z)
      have ehs21 : ¬ (((σ.2.2.2.2.2 (x3).toNatClampNeg) &&& (63 : Int32))).toInt = 21 := fun z => hs21 (Int32.toInt_inj.mp z)
      have ehs22 : ¬ (((σ.2.2.2.2.2 (x3).toNatClampNeg) &&& (63 : Int32))).toInt = 22 := fun z => hs22 (Int32.toInt_inj.mp z)
      have ehs23 : ¬ (((σ.2.2.2.2.2 (x3).toNatClampNeg) &&& (63 : Int32))).toInt = 23 := fun z => hs23 (Int32.toInt_inj.mp z)
      have ehs24 : ¬ (((σ.2.2.2.2.2 (x3).toNatClampNeg) &&& (63 : Int32))).toInt = 24 := fun z => hs24 (Int32.toInt_inj.mp z)
      have ehs25 : ¬ (((σ.2.2.2.2.2 (x3).toNatClampNeg) &&& (63 : Int32))).toInt = 25 := fun z => hs25 (Int32.toInt_inj.mp z)
      have ehs26 : ¬ (((σ.2.2.2.2.2 (x3).toNatClampNeg) &&& (63 : Int32))).toInt = 26 := fun z => hs26 (Int32.toInt_inj.mp z)
      have ehs27 : ¬ (((σ.2.2.2.2.2 (x3).toNatClampNeg) &&& (63 : Int32))).toInt = 27 := fun z => hs27 (Int32.toInt_inj.mp z)
      have ehs28 : ¬ (((σ.2.2.2.2.2 (x3).toNatClampNeg) &&& (63 : Int32))).toInt = 28 := fun z => hs28 (Int32.toInt_inj.mp z)
      have ehs29 : ¬ (((σ.2.2.2.2.2 (x3).toNatClampNeg) &&& (63 : Int32))).toInt = 29 := fun z => hs29 (Int32.toInt_inj.mp z)
      have ehs30 : ¬ (((σ.2.2.2.2.2 (x3).toNatClampNeg) &&& (63 : Int32))).toInt = 30 := fun z => hs30 (Int32.toInt_inj.mp z)
      have ehs31 : ¬ (((σ.2.2.2.2.2 (x3).toNatClampNeg) &&& (63 : Int32))).toInt = 31 := fun z => hs31 (Int32.toInt_inj.mp z)
      have ehs32 : ¬ (((σ.2.2.2.2.2 (x3).toNatClampNeg) &&& (63 : Int32))).toInt = 32 := fun z => hs32 (Int32.toInt_inj.mp z)
      have ehs33 : ¬ (((σ.2.2.2.2.2 (x3).toNatClampNeg) &&& (63 : Int32))).toInt = 33 := fun z => hs33 (Int32.toInt_inj.mp z)
      have ehs34 : ¬ (((σ.2.2.2.2.2 (x3).toNatClampNeg) &&& (63 : Int32))).toInt = 34 := fun z => hs34 (Int32.toInt_inj.mp z)
      have ehs35 : ¬ (((σ.2.2.2.2.2 (x3).toNatClampNeg) &&& (63 : Int32))).toInt = 35 := fun z => hs35 (Int32.toInt_inj.mp z)
      have ehs36 : ¬ (((σ.2.2.2.2.2 (x3).toNatClampNeg) &&& (63 : Int32))).toInt = 36 := fun z => hs36 (Int32.toInt_inj.mp z)
      have ehs37 : ¬ (((σ.2.2.2.2.2 (x3).toNatClampNeg) &&& (63 : Int32))).toInt = 37 := fun z => hs37 (Int32.toInt_inj.mp z)
      have ehs38 : ¬ (((σ.2.2.2.2.2 (x3).toNatClampNeg) &&& (63 : Int32))).toInt = 38 := fun z => hs38 (Int32.toInt_inj.mp z)
      have ehs39 : ¬ (((σ.2.2.2.2.2 (x3).toNatClampNeg) &&& (63 : Int32))).toInt = 39 := fun z => hs39 (Int32.toInt_inj.mp z)
      have ehs40 : ¬ (((σ.2.2.2.2.2 (x3).toNatClampNeg) &&& (63 : Int32))).toInt = 40 := fun z => hs40 (Int32.toInt_inj.mp z)
      have ehs41 : ¬ (((σ.2.2.2.2.2 (x3).toNatClampNeg) &&& (63 : Int32))).toInt = 41 := fun z => hs41 (Int32.toInt_inj.mp z)
      have ehs42 : ¬ (((σ.2.2.2.2.2 (x3).toNatClampNeg) &&& (63 : Int32))).toInt = 42 := fun z => hs42 (Int32.toInt_inj.mp z)
      have ehs43 : ¬ (((σ.2.2.2.2.2 (x3).toNatClampNeg) &&& (63 : Int32))).toInt = 43 := fun z => hs43 (Int32.toInt_inj.mp z)
      have ehs44 : ¬ (((σ.2.2.2.2.2 (x3).toNatClampNeg) &&& (63 : Int32))).toInt = 44 := fun z => hs44 (Int32.toInt_inj.mp z)
      refine Wp.swOut (WpD.mono _) (q := ((1692, [some (.inr (.inr (200, 0))), some (.inr (.inr (0, 0))), some (.inr (.inr (12, 0))), some (.inl x3)], []), σ)) (o := if (((σ.2.2.2.2.2 (x3).toNatClampNeg) &&& (63 : Int32))).toInt < 0 ∨ 44 < (((σ.2.2.2.2.2 (x3).toNatClampNeg) &&& (63 : Int32))).toInt then some (1659) else #[195, 238, 281, 314, 337, 400, 413, 436, 489, 512, 555, 588, 611, 644, 678, 702, 735, 769, 793, 816, 839, 852, 895, 928, 972, 995, 1028, 1062, 1095, 1129, 1152, 1186, 1209, 1242, 1275, 1308, 1332, 1345, 1398, 1411, 1424, 1467, 1510, 1573, 1626][((((σ.2.2.2.2.2 (x3).toNatClampNeg) &&& (63 : Int32))).toInt - 0).toNat]?) (o' := some (1659)) rfl (if_pos (by omega)) rfl ?_
      refine Wp.run (WpD.mono _) 1 (q := ((18, [some (.inr (.inr (200, 0))), some (.inr (.inr (0, 0))), some (.inr (.inr (12, 0))), some (.inl (x3 + (6 : Int32)))], []), σ)) rfl ?_
      exact Wp.jump (WpD.mono _) rfl (ih (x3 + (6 : Int32)) σ h)

set_option maxRecDepth 100000 in
set_option maxHeartbeats 4000000 in
theorem T_L_law (e N : Nat)   (σ : Mem) (r : Int32) (τ : Mem) (Q : Pst) (h : F_L_law N  σ = some (r, τ)) (hQ : Q (some (.inl r)) τ) : Wp (WpD (e + 96)) hcL_law Q (16, [some (.inr (.inr (200, 0))), some (.inr (.inr (0, 0))), some (.inr (.inr (12, 0))), none], []) σ := by
  unfold F_L_law at h
  refine Wp.run (WpD.mono _) 1 (q := ((18, [some (.inr (.inr (200, 0))), some (.inr (.inr (0, 0))), some (.inr (.inr (12, 0))), some (.inl (0 : Int32))], []), σ)) rfl ?_
  exact Wp.jump (WpD.mono _) rfl ((T_L_law_b18 e N  r τ Q hQ  N) (0 : Int32) σ h)

