-- ===== J7_fill_53178
noncomputable def J7_fill_53178_b5 (n : Nat) (K : Nat → Int32 → Int32 → Int32 → Sg → Option (Sg)) (a0 : Nat) (i1 : Int32) (i2 : Int32) (i3 : Int32) (σ : Sg) : Option (Sg) :=
  if i3 ≤ i2 then
  some σ
  else
  (xI a0 i2 i1 σ).bind fun s_2 =>
    (some (i2 + 1)).bind fun i2_3 =>
    K a0 i1 i2_3 i3 s_2
noncomputable def J7_fill_53178_run : Nat → Nat → Int32 → Int32 → Int32 → Sg → Option (Sg)
  | 0 => fun _ _ _ _ _ => none
  | n + 1 => fun a0 i1 i2 i3 σ => J7_fill_53178_b5 n (J7_fill_53178_run n) a0 i1 i2 i3 σ
noncomputable def J7_fill_53178_b0 (n : Nat) (K : Nat → Int32 → Int32 → Int32 → Sg → Option (Sg)) (a0 : Nat) (i1 : Int32) (σ : Sg) : Option (Sg) :=
  (al a0 σ).bind fun v_4 =>
  K a0 i1 0 v_4 σ
noncomputable def f_J7_fill_53178 (n : Nat) (a0 : Nat) (i1 : Int32) (σ : Sg) : Option (Sg) := J7_fill_53178_b0 n (J7_fill_53178_run n) a0 i1 σ
-- ===== X1_init
noncomputable def f_X1_init (n : Nat) (a0 : Nat) (σ : Sg) : Option (Sg) :=
  (nA 6 10 σ).bind fun w_1 =>
  (pR 1 a0 0 w_1.1 w_1.2).bind fun s_2 =>
  (nA 6 10 s_2).bind fun w_3 =>
  (pR 1 a0 1 w_3.1 w_3.2).bind fun s_4 =>
  (nA 6 10 s_4).bind fun w_5 =>
  (pR 1 a0 2 w_5.1 w_5.2).bind fun s_6 =>
  (nA 6 5 s_6).bind fun w_7 =>
  (xI w_7.1 0 8 w_7.2).bind fun s_8 =>
  (xI w_7.1 1 2 s_8).bind fun s_9 =>
  (xI w_7.1 2 1 s_9).bind fun s_10 =>
  (xI w_7.1 3 0 s_10).bind fun s_11 =>
  (xI w_7.1 4 30 s_11).bind fun s_12 =>
  (pR 1 a0 3 w_7.1 s_12).bind fun s_13 =>
  (nA 6 8 s_13).bind fun w_14 =>
  (pR 1 a0 4 w_14.1 w_14.2).bind fun s_15 =>
  (nA 6 8 s_15).bind fun w_16 =>
  (pR 1 a0 5 w_16.1 w_16.2).bind fun s_17 =>
  (nA 6 8 s_17).bind fun w_18 =>
  (pR 1 a0 6 w_18.1 w_18.2).bind fun s_19 =>
  (nA 6 10 s_19).bind fun w_20 =>
  (pR 1 a0 8 w_20.1 w_20.2).bind fun s_21 =>
  (nA 6 10 s_21).bind fun w_22 =>
  (pR 1 a0 9 w_22.1 w_22.2).bind fun s_23 =>
  (nA 6 10 s_23).bind fun w_24 =>
  (pR 1 a0 10 w_24.1 w_24.2).bind fun s_25 =>
  (gR 1 a0 0 s_25).bind fun q_26 =>
  (f_J7_fill_53178 n q_26 120 s_25).bind fun w_27 =>
  (gR 1 a0 2 w_27).bind fun q_28 =>
  (f_J7_fill_53178 n q_28 3 w_27).bind fun w_29 =>
  some w_29
-- ===== X3_init
noncomputable def f_X3_init (n : Nat) (a0 : Nat) (σ : Sg) : Option (Sg) :=
  (nA 6 40 σ).bind fun w_1 =>
  (pR 3 a0 0 w_1.1 w_1.2).bind fun s_2 =>
  some s_2
-- ===== X0_init
noncomputable def f_X0_init (n : Nat) (a0 : Nat) (σ : Sg) : Option (Sg) :=
  (nA 6 80 σ).bind fun w_1 =>
  (pR 0 a0 0 w_1.1 w_1.2).bind fun s_2 =>
  (nA 6 80 s_2).bind fun w_3 =>
  (pR 0 a0 1 w_3.1 w_3.2).bind fun s_4 =>
  (nA 6 80 s_4).bind fun w_5 =>
  (pR 0 a0 2 w_5.1 w_5.2).bind fun s_6 =>
  (nA 6 80 s_6).bind fun w_7 =>
  (pR 0 a0 3 w_7.1 w_7.2).bind fun s_8 =>
  (nA 6 80 s_8).bind fun w_9 =>
  (pR 0 a0 4 w_9.1 w_9.2).bind fun s_10 =>
  (nA 6 80 s_10).bind fun w_11 =>
  (pR 0 a0 5 w_11.1 w_11.2).bind fun s_12 =>
  (nA 6 80 s_12).bind fun w_13 =>
  (pR 0 a0 6 w_13.1 w_13.2).bind fun s_14 =>
  (nA 6 10 s_14).bind fun w_15 =>
  (pR 0 a0 7 w_15.1 w_15.2).bind fun s_16 =>
  (nA 7 10 s_16).bind fun w_17 =>
  (pR 0 a0 8 w_17.1 w_17.2).bind fun s_18 =>
  (nA 6 10 s_18).bind fun w_19 =>
  (pR 0 a0 9 w_19.1 w_19.2).bind fun s_20 =>
  (nA 6 8 s_20).bind fun w_21 =>
  (pR 0 a0 12 w_21.1 w_21.2).bind fun s_22 =>
  some s_22
-- ===== X2_init
noncomputable def f_X2_init (n : Nat) (a0 : Nat) (σ : Sg) : Option (Sg) :=
  (nA 6 10 σ).bind fun w_1 =>
  (pR 2 a0 0 w_1.1 w_1.2).bind fun s_2 =>
  (nA 6 10 s_2).bind fun w_3 =>
  (pR 2 a0 1 w_3.1 w_3.2).bind fun s_4 =>
  some s_4
-- ===== X4_init
noncomputable def f_X4_init (n : Nat) (a0 : Nat) (σ : Sg) : Option (Sg) :=
  (nO 1 σ).bind fun w_1 =>
  (f_X1_init n w_1.1  w_1.2).bind fun w_2 =>
  (pR 4 a0 0 w_1.1 w_2).bind fun s_3 =>
  (nO 3 s_3).bind fun w_4 =>
  (f_X3_init n w_4.1  w_4.2).bind fun w_5 =>
  (pR 4 a0 1 w_4.1 w_5).bind fun s_6 =>
  (nO 0 s_6).bind fun w_7 =>
  (f_X0_init n w_7.1  w_7.2).bind fun w_8 =>
  (pR 4 a0 2 w_7.1 w_8).bind fun s_9 =>
  (nO 0 s_9).bind fun w_10 =>
  (f_X0_init n w_10.1  w_10.2).bind fun w_11 =>
  (pR 4 a0 3 w_10.1 w_11).bind fun s_12 =>
  (nO 2 s_12).bind fun w_13 =>
  (f_X2_init n w_13.1  w_13.2).bind fun w_14 =>
  (pR 4 a0 4 w_13.1 w_14).bind fun s_15 =>
  (nO 2 s_15).bind fun w_16 =>
  (f_X2_init n w_16.1  w_16.2).bind fun w_17 =>
  (pR 4 a0 5 w_16.1 w_17).bind fun s_18 =>
  some s_18
-- ===== X5_init
noncomputable def X5_init_b229 (n : Nat) (K : Nat → Int32 → Sg → Option (Sg)) (a0 : Nat) (i1 : Int32) (σ : Sg) : Option (Sg) :=
  if 9 ≤ i1 then
  (gR 5 a0 7 σ).bind fun q_2 =>
    (xI q_2 0 8 σ).bind fun s_3 =>
    (gR 5 a0 7 s_3).bind fun q_4 =>
    (xI q_4 1 2 s_3).bind fun s_5 =>
    (gR 5 a0 7 s_5).bind fun q_6 =>
    (xI q_6 2 1 s_5).bind fun s_7 =>
    (gR 5 a0 7 s_7).bind fun q_8 =>
    (xI q_8 4 30 s_7).bind fun s_9 =>
    some s_9
  else
  (gR 5 a0 0 σ).bind fun q_10 =>
    (xI q_10 i1 120 σ).bind fun s_11 =>
    (gR 5 a0 2 s_11).bind fun q_12 =>
    (xI q_12 i1 3 s_11).bind fun s_13 =>
    (some (i1 + 1)).bind fun i1_14 =>
    K a0 i1_14 s_13
noncomputable def X5_init_run : Nat → Nat → Int32 → Sg → Option (Sg)
  | 0 => fun _ _ _ => none
  | n + 1 => fun a0 i1 σ => X5_init_b229 n (X5_init_run n) a0 i1 σ
noncomputable def X5_init_b0 (n : Nat) (K : Nat → Int32 → Sg → Option (Sg)) (a0 : Nat) (σ : Sg) : Option (Sg) :=
  (nA 6 9 σ).bind fun w_15 =>
  (pR 5 a0 0 w_15.1 w_15.2).bind fun s_16 =>
  (nA 6 9 s_16).bind fun w_17 =>
  (pR 5 a0 1 w_17.1 w_17.2).bind fun s_18 =>
  (nA 6 9 s_18).bind fun w_19 =>
  (pR 5 a0 2 w_19.1 w_19.2).bind fun s_20 =>
  (nA 6 8 s_20).bind fun w_21 =>
  (pR 5 a0 4 w_21.1 w_21.2).bind fun s_22 =>
  (nA 6 8 s_22).bind fun w_23 =>
  (pR 5 a0 5 w_23.1 w_23.2).bind fun s_24 =>
  (nA 6 8 s_24).bind fun w_25 =>
  (pR 5 a0 6 w_25.1 w_25.2).bind fun s_26 =>
  (nA 6 5 s_26).bind fun w_27 =>
  (pR 5 a0 7 w_27.1 w_27.2).bind fun s_28 =>
  (nA 6 11 s_28).bind fun w_29 =>
  (pR 5 a0 9 w_29.1 w_29.2).bind fun s_30 =>
  (nA 6 11 s_30).bind fun w_31 =>
  (pR 5 a0 10 w_31.1 w_31.2).bind fun s_32 =>
  (nA 6 11 s_32).bind fun w_33 =>
  (pR 5 a0 11 w_33.1 w_33.2).bind fun s_34 =>
  (nA 6 40 s_34).bind fun w_35 =>
  (pR 5 a0 13 w_35.1 w_35.2).bind fun s_36 =>
  (nA 6 10 s_36).bind fun w_37 =>
  (pR 5 a0 15 w_37.1 w_37.2).bind fun s_38 =>
  (nA 6 10 s_38).bind fun w_39 =>
  (pR 5 a0 16 w_39.1 w_39.2).bind fun s_40 =>
  (nA 6 80 s_40).bind fun w_41 =>
  (pR 5 a0 17 w_41.1 w_41.2).bind fun s_42 =>
  (nA 6 80 s_42).bind fun w_43 =>
  (pR 5 a0 18 w_43.1 w_43.2).bind fun s_44 =>
  (nA 6 80 s_44).bind fun w_45 =>
  (pR 5 a0 19 w_45.1 w_45.2).bind fun s_46 =>
  (nA 6 80 s_46).bind fun w_47 =>
  (pR 5 a0 20 w_47.1 w_47.2).bind fun s_48 =>
  (nA 6 80 s_48).bind fun w_49 =>
  (pR 5 a0 21 w_49.1 w_49.2).bind fun s_50 =>
  (nA 6 80 s_50).bind fun w_51 =>
  (pR 5 a0 22 w_51.1 w_51.2).bind fun s_52 =>
  (nA 6 80 s_52).bind fun w_53 =>
  (pR 5 a0 23 w_53.1 w_53.2).bind fun s_54 =>
  (nA 6 80 s_54).bind fun w_55 =>
  (pR 5 a0 24 w_55.1 w_55.2).bind fun s_56 =>
  (nA 6 9 s_56).bind fun w_57 =>
  (pR 5 a0 25 w_57.1 w_57.2).bind fun s_58 =>
  (nA 6 9 s_58).bind fun w_59 =>
  (pR 5 a0 26 w_59.1 w_59.2).bind fun s_60 =>
  (nA 6 9 s_60).bind fun w_61 =>
  (pR 5 a0 27 w_61.1 w_61.2).bind fun s_62 =>
  (nA 6 8 s_62).bind fun w_63 =>
  (pR 5 a0 28 w_63.1 w_63.2).bind fun s_64 =>
  (nA 6 8 s_64).bind fun w_65 =>
  (pR 5 a0 33 w_65.1 w_65.2).bind fun s_66 =>
  (nA 6 10 s_66).bind fun w_67 =>
  (pR 5 a0 35 w_67.1 w_67.2).bind fun s_68 =>
  (nA 6 10 s_68).bind fun w_69 =>
  (pR 5 a0 36 w_69.1 w_69.2).bind fun s_70 =>
  K a0 0 s_70
noncomputable def f_X5_init (n : Nat) (a0 : Nat) (σ : Sg) : Option (Sg) := X5_init_b0 n (X5_init_run n) a0 σ
-- ===== X4_isGoingStop
noncomputable def X4_isGoingStop_b14 (n : Nat) (σ : Sg) : Option (Int32 × Sg) :=
  rz 0 σ
noncomputable def f_X4_isGoingStop (n : Nat) (i0 : Int32) (σ : Sg) : Option (Int32 × Sg) :=
  if i0 < 0 then
  X4_isGoingStop_b14 n σ
  else
  if 9 ≤ i0 then
    X4_isGoingStop_b14 n σ
    else
    rz 1 σ
-- ===== X1_allowsAtStop
noncomputable def X1_allowsAtStop_b45 (n : Nat) (σ : Sg) : Option (Int32 × Sg) :=
  rz 0 σ
noncomputable def X1_allowsAtStop_b64 (n : Nat) (σ : Sg) : Option (Int32 × Sg) :=
  rz 1 σ
noncomputable def X1_allowsAtStop_b68 (n : Nat) (σ : Sg) : Option (Int32 × Sg) :=
  rz 0 σ
noncomputable def X1_allowsAtStop_b85 (n : Nat) (σ : Sg) : Option (Int32 × Sg) :=
  rz 0 σ
noncomputable def f_X1_allowsAtStop (n : Nat) (i0 : Int32) (i1 : Int32) (σ : Sg) : Option (Int32 × Sg) :=
  (some i0).bind fun x_1 =>
  if x_1 = 0 then
  if i1 < 10 then
    X1_allowsAtStop_b45 n σ
    else
    if 900 < i1 then
      X1_allowsAtStop_b45 n σ
      else
      rz 1 σ
  else
  if x_1 = 1 then
    if i1 = 0 then
      X1_allowsAtStop_b64 n σ
      else
      if i1 < 10 then
        X1_allowsAtStop_b68 n σ
        else
        if 900 < i1 then
          X1_allowsAtStop_b68 n σ
          else
          X1_allowsAtStop_b64 n σ
    else
    if x_1 = 2 then
      if i1 < 1 then
        X1_allowsAtStop_b85 n σ
        else
        if 9 < i1 then
          X1_allowsAtStop_b85 n σ
          else
          rz 1 σ
      else
      rz 0 σ
-- ===== X4_forgetCourse
noncomputable def f_X4_forgetCourse (n : Nat) (a0 : Nat) (σ : Sg) : Option (Sg) :=
  (pI 4 a0 6 0 σ).bind fun s_1 =>
  (pI 4 a0 7 0 s_1).bind fun s_2 =>
  some s_2
-- ===== X1_changeStop
noncomputable def X1_changeStop_b27 (n : Nat) (i1 : Int32) (i3 : Int32) (ta0 : Nat) (σ : Sg) : Option (Int32 × Sg) :=
  (aI ta0 i1 σ).bind fun v_1 =>
  (xI ta0 i1 i3 σ).bind fun s_2 =>
  some (v_1, s_2)
noncomputable def f_X1_changeStop (n : Nat) (a0 : Nat) (i1 : Int32) (i2 : Int32) (i3 : Int32) (σ : Sg) : Option (Int32 × Sg) :=
  if i2 = 0 then
  (gR 1 a0 0 σ).bind fun q_7 =>
    X1_changeStop_b27 n i1 i3 q_7 σ
  else
  if i2 = 1 then
    (gR 1 a0 1 σ).bind fun q_6 =>
      X1_changeStop_b27 n i1 i3 q_6 σ
    else
    (gR 1 a0 2 σ).bind fun q_5 =>
      X1_changeStop_b27 n i1 i3 q_5 σ
-- ===== X4_stop
noncomputable def f_X4_stop (n : Nat) (a0 : Nat) (i1 : Int32) (i2 : Int32) (i3 : Int32) (σ : Sg) : Option (Int32 × Sg) :=
  (f_X4_isGoingStop n i1 σ).bind fun w_1 =>
  if w_1.1 = 0 then
  some ((-1), w_1.2)
  else
  (f_X1_allowsAtStop n i2 i3 w_1.2).bind fun w_3 =>
    if w_3.1 = 0 then
    some ((-2), w_3.2)
    else
    (ck 4 a0 w_3.2).bind fun u_5 =>
      (f_X4_forgetCourse n a0  w_3.2).bind fun w_6 =>
      (gR 4 a0 0 w_6).bind fun q_7 =>
      (ck 1 q_7 w_6).bind fun u_8 =>
      (f_X1_changeStop n q_7 i1 i2 i3 w_6).bind fun w_9 =>
      some (w_9.1, w_9.2)
-- ===== X5_in
noncomputable def X5_in_b14 (n : Nat) (σ : Sg) : Option (Int32 × Sg) :=
  rz 0 σ
noncomputable def f_X5_in (n : Nat) (i0 : Int32) (i1 : Int32) (i2 : Int32) (σ : Sg) : Option (Int32 × Sg) :=
  if i0 < i1 then
  X5_in_b14 n σ
  else
  if i2 < i0 then
    X5_in_b14 n σ
    else
    rz 1 σ
-- ===== X5_isOn
noncomputable def f_X5_isOn (n : Nat) (i0 : Int32) (σ : Sg) : Option (Int32 × Sg) :=
  (f_X5_in n i0 0 8 σ).bind fun w_1 =>
  rz w_1.1 w_1.2
-- ===== X5_stop
noncomputable def X5_stop_b155 (n : Nat) (i5 : Int32) (σ : Sg) : Option (Int32 × Sg) :=
  some (i5, σ)
noncomputable def X5_stop_b117 (n : Nat) (a0 : Nat) (i1 : Int32) (i2 : Int32) (i3 : Int32) (ti0 : Int32) (σ : Sg) : Option (Int32 × Sg) :=
  if i2 = 0 then
  (gR 5 a0 0 σ).bind fun q_7 =>
    (xI q_7 i1 i3 σ).bind fun s_8 =>
    X5_stop_b155 n ti0 s_8
  else
  if i2 = 1 then
    (gR 5 a0 1 σ).bind fun q_5 =>
      (xI q_5 i1 i3 σ).bind fun s_6 =>
      X5_stop_b155 n ti0 s_6
    else
    (gR 5 a0 2 σ).bind fun q_3 =>
      (xI q_3 i1 i3 σ).bind fun s_4 =>
      X5_stop_b155 n ti0 s_4
noncomputable def X5_stop_b74 (n : Nat) (a0 : Nat) (i1 : Int32) (i2 : Int32) (i3 : Int32) (ti0 : Int32) (σ : Sg) : Option (Int32 × Sg) :=
  if ti0 = 0 then
  some ((-2), σ)
  else
  if i2 = 0 then
    (gR 5 a0 0 σ).bind fun q_16 =>
      (aI q_16 i1 σ).bind fun v_17 =>
      X5_stop_b117 n a0 i1 i2 i3 v_17 σ
    else
    if i2 = 1 then
      (gR 5 a0 1 σ).bind fun q_14 =>
        (aI q_14 i1 σ).bind fun v_15 =>
        X5_stop_b117 n a0 i1 i2 i3 v_15 σ
      else
      (gR 5 a0 2 σ).bind fun q_12 =>
        (aI q_12 i1 σ).bind fun v_13 =>
        X5_stop_b117 n a0 i1 i2 i3 v_13 σ
noncomputable def X5_stop_b46 (n : Nat) (a0 : Nat) (i1 : Int32) (i2 : Int32) (i3 : Int32) (σ : Sg) : Option (Int32 × Sg) :=
  X5_stop_b74 n a0 i1 i2 i3 1 σ
noncomputable def X5_stop_b73 (n : Nat) (a0 : Nat) (i1 : Int32) (i2 : Int32) (i3 : Int32) (σ : Sg) : Option (Int32 × Sg) :=
  X5_stop_b74 n a0 i1 i2 i3 0 σ
noncomputable def f_X5_stop (n : Nat) (a0 : Nat) (i1 : Int32) (i2 : Int32) (i3 : Int32) (σ : Sg) : Option (Int32 × Sg) :=
  (f_X5_isOn n i1 σ).bind fun w_18 =>
  if w_18.1 = 0 then
  some ((-1), w_18.2)
  else
  if i2 = 0 then
    (f_X5_in n i3 10 900 w_18.2).bind fun w_28 =>
      X5_stop_b74 n a0 i1 i2 i3 w_28.1 w_28.2
    else
    if i2 = 1 then
      if i3 = 0 then
        X5_stop_b46 n a0 i1 i2 i3 w_18.2
        else
        (f_X5_in n i3 10 900 w_18.2).bind fun w_26 =>
          if w_26.1 = 0 then
          X5_stop_b74 n a0 i1 i2 i3 0 w_26.2
          else
          X5_stop_b46 n a0 i1 i2 i3 w_26.2
      else
      if i2 = 2 then
        (f_X5_in n i3 1 9 w_18.2).bind fun w_23 =>
          if w_23.1 = 0 then
          X5_stop_b73 n a0 i1 i2 i3 w_23.2
          else
          X5_stop_b74 n a0 i1 i2 i3 1 w_23.2
        else
        X5_stop_b73 n a0 i1 i2 i3 w_18.2
-- ===== X1_earliestNewBus
noncomputable def f_X1_earliestNewBus (n : Nat) (a0 : Nat) (σ : Sg) : Option (Int32 × Sg) :=
  (gI 1 a0 7 σ).bind fun v_1 =>
  if v_1 ≤ 0 then
  some (0, σ)
  else
  (gR 1 a0 4 σ).bind fun q_3 =>
    (gI 1 a0 7 σ).bind fun v_4 =>
    (aI q_3 (v_4 - 1) σ).bind fun v_5 =>
    some (v_5, σ)
-- ===== X1_addBus
noncomputable def f_X1_addBus (n : Nat) (a0 : Nat) (i1 : Int32) (i2 : Int32) (σ : Sg) : Option (Int32 × Sg) :=
  (gR 1 a0 4 σ).bind fun q_1 =>
  (gI 1 a0 7 σ).bind fun v_2 =>
  (xI q_1 v_2 i1 σ).bind fun s_3 =>
  (gR 1 a0 5 s_3).bind fun q_4 =>
  (gI 1 a0 7 s_3).bind fun v_5 =>
  (xI q_4 v_5 i2 s_3).bind fun s_6 =>
  (gR 1 a0 6 s_6).bind fun q_7 =>
  (gI 1 a0 7 s_6).bind fun v_8 =>
  (xI q_7 v_8 9 s_6).bind fun s_9 =>
  (gI 1 a0 7 s_9).bind fun v_10 =>
  (pI 1 a0 7 (v_10 + 1) s_9).bind fun s_11 =>
  (gI 1 a0 7 s_11).bind fun v_12 =>
  some (v_12 - 1, s_11)
-- ===== X4_bus
noncomputable def X4_bus_b18 (n : Nat) (σ : Sg) : Option (Int32 × Sg) :=
  some ((-2), σ)
noncomputable def X4_bus_b32 (n : Nat) (σ : Sg) : Option (Int32 × Sg) :=
  some ((-2), σ)
noncomputable def f_X4_bus (n : Nat) (a0 : Nat) (i1 : Int32) (i2 : Int32) (σ : Sg) : Option (Int32 × Sg) :=
  (gR 4 a0 0 σ).bind fun q_1 =>
  (ck 1 q_1 σ).bind fun u_2 =>
  (f_X1_earliestNewBus n q_1  σ).bind fun w_3 =>
  if i1 < w_3.1 then
  X4_bus_b18 n w_3.2
  else
  if i1 ≤ 7200 then
    if i2 < 1 then
      X4_bus_b32 n w_3.2
      else
      if i2 ≤ 80 then
        (gR 4 a0 0 w_3.2).bind fun q_8 =>
          (gI 1 q_8 7 w_3.2).bind fun v_9 =>
          if v_9 < 8 then
          (ck 4 a0 w_3.2).bind fun u_11 =>
            (f_X4_forgetCourse n a0  w_3.2).bind fun w_12 =>
            (gR 4 a0 0 w_12).bind fun q_13 =>
            (ck 1 q_13 w_12).bind fun u_14 =>
            (f_X1_addBus n q_13 i1 i2 w_12).bind fun w_15 =>
            some (w_15.1, w_15.2)
          else
          some ((-4), w_3.2)
        else
        X4_bus_b32 n w_3.2
    else
    X4_bus_b18 n w_3.2
-- ===== X5_bus
noncomputable def X5_bus_b42 (n : Nat) (σ : Sg) : Option (Int32 × Sg) :=
  some ((-2), σ)
noncomputable def X5_bus_b23 (n : Nat) (a0 : Nat) (i1 : Int32) (i2 : Int32) (ti0 : Int32) (ti1 : Int32) (σ : Sg) : Option (Int32 × Sg) :=
  (f_X5_in n ti0 ti1 7200 σ).bind fun w_1 =>
  if w_1.1 = 0 then
  X5_bus_b42 n w_1.2
  else
  (f_X5_in n i2 1 80 w_1.2).bind fun w_3 =>
    if w_3.1 = 0 then
    X5_bus_b42 n w_3.2
    else
    (gI 5 a0 3 w_3.2).bind fun v_5 =>
      if v_5 = 8 then
      some ((-4), w_3.2)
      else
      (gR 5 a0 4 w_3.2).bind fun q_7 =>
        (gI 5 a0 3 w_3.2).bind fun v_8 =>
        (xI q_7 v_8 i1 w_3.2).bind fun s_9 =>
        (gR 5 a0 5 s_9).bind fun q_10 =>
        (gI 5 a0 3 s_9).bind fun v_11 =>
        (xI q_10 v_11 i2 s_9).bind fun s_12 =>
        (gR 5 a0 6 s_12).bind fun q_13 =>
        (gI 5 a0 3 s_12).bind fun v_14 =>
        (xI q_13 v_14 9 s_12).bind fun s_15 =>
        (gI 5 a0 3 s_15).bind fun v_16 =>
        (pI 5 a0 3 (v_16 + 1) s_15).bind fun s_17 =>
        (gI 5 a0 3 s_17).bind fun v_18 =>
        some (v_18 - 1, s_17)
noncomputable def f_X5_bus (n : Nat) (a0 : Nat) (i1 : Int32) (i2 : Int32) (σ : Sg) : Option (Int32 × Sg) :=
  (gI 5 a0 3 σ).bind fun v_19 =>
  if v_19 = 0 then
  X5_bus_b23 n a0 i1 i2 i1 0 σ
  else
  (gR 5 a0 4 σ).bind fun q_21 =>
    (gI 5 a0 3 σ).bind fun v_22 =>
    (aI q_21 (v_22 - 1) σ).bind fun v_23 =>
    X5_bus_b23 n a0 i1 i2 i1 v_23 σ
-- ===== X4_set
noncomputable def X4_set_b22 (n : Nat) (σ : Sg) : Option (Int32 × Sg) :=
  some ((-2), σ)
noncomputable def f_X4_set (n : Nat) (a0 : Nat) (i1 : Int32) (i2 : Int32) (σ : Sg) : Option (Int32 × Sg) :=
  if i1 < 0 then
  X4_set_b22 n σ
  else
  if 5 ≤ i1 then
    X4_set_b22 n σ
    else
    if i2 < 0 then
      X4_set_b22 n σ
      else
      (mo i1).bind fun v_4 =>
        if i2 ≤ v_4 then
        (ck 4 a0 σ).bind fun u_6 =>
          (f_X4_forgetCourse n a0  σ).bind fun w_7 =>
          (gR 4 a0 0 w_7).bind fun q_8 =>
          (gR 1 q_8 3 w_7).bind fun q_9 =>
          (aI q_9 i1 w_7).bind fun v_10 =>
          (gR 4 a0 0 w_7).bind fun q_11 =>
          (gR 1 q_11 3 w_7).bind fun q_12 =>
          (xI q_12 i1 i2 w_7).bind fun s_13 =>
          some (v_10, s_13)
        else
        X4_set_b22 n σ
-- ===== X5_set
noncomputable def X5_set_b45 (n : Nat) (a0 : Nat) (i1 : Int32) (i2 : Int32) (ti0 : Int32) (ti1 : Int32) (ti2 : Int32) (σ : Sg) : Option (Int32 × Sg) :=
  (f_X5_in n ti0 ti1 ti2 σ).bind fun w_1 =>
  if w_1.1 = 0 then
  some ((-2), w_1.2)
  else
  (gR 5 a0 7 w_1.2).bind fun q_3 =>
    (aI q_3 i1 w_1.2).bind fun v_4 =>
    (gR 5 a0 7 w_1.2).bind fun q_5 =>
    (xI q_5 i1 i2 w_1.2).bind fun s_6 =>
    some (v_4, s_6)
noncomputable def f_X5_set (n : Nat) (a0 : Nat) (i1 : Int32) (i2 : Int32) (σ : Sg) : Option (Int32 × Sg) :=
  (f_X5_in n i1 0 4 σ).bind fun w_7 =>
  if w_7.1 = 0 then
  some ((-2), w_7.2)
  else
  if i1 = 0 then
    X5_set_b45 n a0 i1 i2 i2 0 60 w_7.2
    else
    if 3 ≤ i1 then
      if i1 = 3 then
        X5_set_b45 n a0 i1 i2 i2 0 1 w_7.2
        else
        X5_set_b45 n a0 i1 i2 i2 0 600 w_7.2
      else
      X5_set_b45 n a0 i1 i2 i2 0 10 w_7.2
-- ===== X1_hasBus
noncomputable def X1_hasBus_b16 (n : Nat) (σ : Sg) : Option (Int32 × Sg) :=
  rz 0 σ
noncomputable def f_X1_hasBus (n : Nat) (a0 : Nat) (i1 : Int32) (σ : Sg) : Option (Int32 × Sg) :=
  if i1 < 0 then
  X1_hasBus_b16 n σ
  else
  (gI 1 a0 7 σ).bind fun v_2 =>
    if v_2 ≤ i1 then
    X1_hasBus_b16 n σ
    else
    rz 1 σ
-- ===== X1_addLateness
noncomputable def f_X1_addLateness (n : Nat) (a0 : Nat) (i1 : Int32) (i2 : Int32) (i3 : Int32) (σ : Sg) : Option (Int32 × Sg) :=
  (gR 1 a0 8 σ).bind fun q_1 =>
  (gI 1 a0 11 σ).bind fun v_2 =>
  (xI q_1 v_2 i1 σ).bind fun s_3 =>
  (gR 1 a0 9 s_3).bind fun q_4 =>
  (gI 1 a0 11 s_3).bind fun v_5 =>
  (xI q_4 v_5 i2 s_3).bind fun s_6 =>
  (gR 1 a0 10 s_6).bind fun q_7 =>
  (gI 1 a0 11 s_6).bind fun v_8 =>
  (xI q_7 v_8 i3 s_6).bind fun s_9 =>
  (gI 1 a0 11 s_9).bind fun v_10 =>
  (pI 1 a0 11 (v_10 + 1) s_9).bind fun s_11 =>
  (gI 1 a0 11 s_11).bind fun v_12 =>
  some (v_12 - 1, s_11)
-- ===== X4_late
noncomputable def X4_late_b18 (n : Nat) (σ : Sg) : Option (Int32 × Sg) :=
  some ((-1), σ)
noncomputable def X4_late_b32 (n : Nat) (σ : Sg) : Option (Int32 × Sg) :=
  some ((-2), σ)
noncomputable def f_X4_late (n : Nat) (a0 : Nat) (i1 : Int32) (i2 : Int32) (i3 : Int32) (σ : Sg) : Option (Int32 × Sg) :=
  (gR 4 a0 0 σ).bind fun q_1 =>
  (ck 1 q_1 σ).bind fun u_2 =>
  (f_X1_hasBus n q_1 i1 σ).bind fun w_3 =>
  if w_3.1 = 0 then
  X4_late_b18 n w_3.2
  else
  (f_X4_isGoingStop n i2 w_3.2).bind fun w_5 =>
    if w_5.1 = 0 then
    X4_late_b18 n w_5.2
    else
    if i3 < 1 then
      X4_late_b32 n w_5.2
      else
      if i3 ≤ 900 then
        (gR 4 a0 0 w_5.2).bind fun q_9 =>
          (gI 1 q_9 11 w_5.2).bind fun v_10 =>
          if v_10 < 10 then
          (ck 4 a0 w_5.2).bind fun u_12 =>
            (f_X4_forgetCourse n a0  w_5.2).bind fun w_13 =>
            (gR 4 a0 0 w_13).bind fun q_14 =>
            (ck 1 q_14 w_13).bind fun u_15 =>
            (f_X1_addLateness n q_14 i1 i2 i3 w_13).bind fun w_16 =>
            some (w_16.1, w_16.2)
          else
          some ((-4), w_5.2)
        else
        X4_late_b32 n w_5.2
-- ===== X5_isBus
noncomputable def f_X5_isBus (n : Nat) (a0 : Nat) (i1 : Int32) (σ : Sg) : Option (Int32 × Sg) :=
  (gI 5 a0 3 σ).bind fun v_1 =>
  (f_X5_in n i1 0 (v_1 - 1) σ).bind fun w_2 =>
  rz w_2.1 w_2.2
-- ===== X5_late
noncomputable def X5_late_b15 (n : Nat) (σ : Sg) : Option (Int32 × Sg) :=
  some ((-1), σ)
noncomputable def f_X5_late (n : Nat) (a0 : Nat) (i1 : Int32) (i2 : Int32) (i3 : Int32) (σ : Sg) : Option (Int32 × Sg) :=
  (ck 5 a0 σ).bind fun u_1 =>
  (f_X5_isBus n a0 i1 σ).bind fun w_2 =>
  if w_2.1 = 0 then
  X5_late_b15 n w_2.2
  else
  (f_X5_isOn n i2 w_2.2).bind fun w_4 =>
    if w_4.1 = 0 then
    X5_late_b15 n w_4.2
    else
    (f_X5_in n i3 1 900 w_4.2).bind fun w_6 =>
      if w_6.1 = 0 then
      some ((-2), w_6.2)
      else
      (gI 5 a0 8 w_6.2).bind fun v_8 =>
        if v_8 = 10 then
        some ((-4), w_6.2)
        else
        (gR 5 a0 9 w_6.2).bind fun q_10 =>
          (gI 5 a0 8 w_6.2).bind fun v_11 =>
          (xI q_10 v_11 i1 w_6.2).bind fun s_12 =>
          (gR 5 a0 10 s_12).bind fun q_13 =>
          (gI 5 a0 8 s_12).bind fun v_14 =>
          (xI q_13 v_14 i2 s_12).bind fun s_15 =>
          (gR 5 a0 11 s_15).bind fun q_16 =>
          (gI 5 a0 8 s_15).bind fun v_17 =>
          (xI q_16 v_17 i3 s_15).bind fun s_18 =>
          (gI 5 a0 8 s_18).bind fun v_19 =>
          (pI 5 a0 8 (v_19 + 1) s_18).bind fun s_20 =>
          (gI 5 a0 8 s_20).bind fun v_21 =>
          some (v_21 - 1, s_20)
-- ===== X4_mend
noncomputable def f_X4_mend (n : Nat) (a0 : Nat) (σ : Sg) : Option (Int32 × Sg) :=
  (gR 4 a0 0 σ).bind fun q_1 =>
  (gI 1 q_1 11 σ).bind fun v_2 =>
  if 1 ≤ v_2 then
  (ck 4 a0 σ).bind fun u_4 =>
    (f_X4_forgetCourse n a0  σ).bind fun w_5 =>
    (gR 4 a0 0 w_5).bind fun q_6 =>
    (gI 1 q_6 11 w_5).bind fun v_7 =>
    (pI 1 q_6 11 (v_7 - 1) w_5).bind fun s_8 =>
    (gR 4 a0 0 s_8).bind fun q_9 =>
    (gI 1 q_9 11 s_8).bind fun v_10 =>
    some (v_10, s_8)
  else
  some ((-5), σ)
-- ===== X5_mend
noncomputable def f_X5_mend (n : Nat) (a0 : Nat) (σ : Sg) : Option (Int32 × Sg) :=
  (gI 5 a0 8 σ).bind fun v_1 =>
  if v_1 = 0 then
  some ((-5), σ)
  else
  (gI 5 a0 8 σ).bind fun v_3 =>
    (pI 5 a0 8 (v_3 - 1) σ).bind fun s_4 =>
    (gI 5 a0 8 s_4).bind fun v_5 =>
    some (v_5, s_4)
-- ===== X4_turn
noncomputable def X4_turn_b24 (n : Nat) (σ : Sg) : Option (Int32 × Sg) :=
  some ((-2), σ)
noncomputable def f_X4_turn (n : Nat) (a0 : Nat) (i1 : Int32) (i2 : Int32) (σ : Sg) : Option (Int32 × Sg) :=
  (gR 4 a0 0 σ).bind fun q_1 =>
  (ck 1 q_1 σ).bind fun u_2 =>
  (f_X1_hasBus n q_1 i1 σ).bind fun w_3 =>
  if w_3.1 = 0 then
  some ((-1), w_3.2)
  else
  if i2 < 1 then
    X4_turn_b24 n w_3.2
    else
    if i2 ≤ 9 then
      (ck 4 a0 w_3.2).bind fun u_7 =>
        (f_X4_forgetCourse n a0  w_3.2).bind fun w_8 =>
        (gR 4 a0 0 w_8).bind fun q_9 =>
        (gR 1 q_9 6 w_8).bind fun q_10 =>
        (aI q_10 i1 w_8).bind fun v_11 =>
        (gR 4 a0 0 w_8).bind fun q_12 =>
        (gR 1 q_12 6 w_8).bind fun q_13 =>
        (xI q_13 i1 i2 w_8).bind fun s_14 =>
        some (v_11, s_14)
      else
      X4_turn_b24 n w_3.2
-- ===== X5_turn
noncomputable def f_X5_turn (n : Nat) (a0 : Nat) (i1 : Int32) (i2 : Int32) (σ : Sg) : Option (Int32 × Sg) :=
  (ck 5 a0 σ).bind fun u_1 =>
  (f_X5_isBus n a0 i1 σ).bind fun w_2 =>
  if w_2.1 = 0 then
  some ((-1), w_2.2)
  else
  (f_X5_in n i2 1 9 w_2.2).bind fun w_4 =>
    if w_4.1 = 0 then
    some ((-2), w_4.2)
    else
    (gR 5 a0 6 w_4.2).bind fun q_6 =>
      (aI q_6 i1 w_4.2).bind fun v_7 =>
      (gR 5 a0 6 w_4.2).bind fun q_8 =>
      (xI q_8 i1 i2 w_4.2).bind fun s_9 =>
      some (v_7, s_9)
-- ===== X4_isStop
noncomputable def X4_isStop_b14 (n : Nat) (σ : Sg) : Option (Int32 × Sg) :=
  rz 0 σ
noncomputable def f_X4_isStop (n : Nat) (i0 : Int32) (σ : Sg) : Option (Int32 × Sg) :=
  if i0 < 0 then
  X4_isStop_b14 n σ
  else
  if 10 ≤ i0 then
    X4_isStop_b14 n σ
    else
    rz 1 σ
-- ===== X1_comes
noncomputable def f_X1_comes (n : Nat) (a0 : Nat) (i1 : Int32) (i2 : Int32) (σ : Sg) : Option (Int32 × Sg) :=
  (gR 1 a0 6 σ).bind fun q_1 =>
  (aI q_1 i1 σ).bind fun v_2 =>
  if v_2 < i2 then
  rz 0 σ
  else
  rz 1 σ
-- ===== X4_cell
noncomputable def f_X4_cell (n : Nat) (i0 : Int32) (i1 : Int32) (σ : Sg) : Option (Int32 × Sg) :=
  some ((i0 * 10) + i1, σ)
-- ===== X0_layLatenesses
noncomputable def X0_layLatenesses_b52 (n : Nat) (K : Nat → Nat → Int32 → Int32 → Sg → Option (Sg)) (a0 : Nat) (a1 : Nat) (i2 : Int32) (i3 : Int32) (σ : Sg) : Option (Sg) :=
  (some (i3 + 1)).bind fun i3_1 =>
  K a0 a1 i2 i3_1 σ
noncomputable def X0_layLatenesses_b10 (n : Nat) (K : Nat → Nat → Int32 → Int32 → Sg → Option (Sg)) (a0 : Nat) (a1 : Nat) (i2 : Int32) (i3 : Int32) (σ : Sg) : Option (Sg) :=
  (gI 1 a1 11 σ).bind fun v_2 =>
  if v_2 ≤ i3 then
  some σ
  else
  if i3 = i2 then
    X0_layLatenesses_b52 n K a0 a1 i2 i3 σ
    else
    (gR 0 a0 6 σ).bind fun q_5 =>
      (gR 1 a1 8 σ).bind fun q_6 =>
      (aI q_6 i3 σ).bind fun v_7 =>
      (gR 1 a1 9 σ).bind fun q_8 =>
      (aI q_8 i3 σ).bind fun v_9 =>
      (f_X4_cell n v_7 v_9 σ).bind fun w_10 =>
      (aI q_5 w_10.1 w_10.2).bind fun v_11 =>
      (gR 1 a1 10 w_10.2).bind fun q_12 =>
      (aI q_12 i3 w_10.2).bind fun v_13 =>
      (xI q_5 w_10.1 (v_11 + v_13) w_10.2).bind fun s_14 =>
      X0_layLatenesses_b52 n K a0 a1 i2 i3 s_14
noncomputable def X0_layLatenesses_run : Nat → Nat → Nat → Int32 → Int32 → Sg → Option (Sg)
  | 0 => fun _ _ _ _ _ => none
  | n + 1 => fun a0 a1 i2 i3 σ => X0_layLatenesses_b10 n (X0_layLatenesses_run n) a0 a1 i2 i3 σ
noncomputable def X0_layLatenesses_b0 (n : Nat) (K : Nat → Nat → Int32 → Int32 → Sg → Option (Sg)) (a0 : Nat) (a1 : Nat) (i2 : Int32) (σ : Sg) : Option (Sg) :=
  (gR 0 a0 6 σ).bind fun q_15 =>
  (f_J7_fill_53178 n q_15 0 σ).bind fun w_16 =>
  K a0 a1 i2 0 w_16
noncomputable def f_X0_layLatenesses (n : Nat) (a0 : Nat) (a1 : Nat) (i2 : Int32) (σ : Sg) : Option (Sg) := X0_layLatenesses_b0 n (X0_layLatenesses_run n) a0 a1 i2 σ
-- ===== J7_fill_d0a16
noncomputable def J7_fill_d0a16_b6 (n : Nat) (K : Nat → Int64 → Int32 → Int32 → Sg → Option (Sg)) (a0 : Nat) (j1 : Int64) (i3 : Int32) (i4 : Int32) (σ : Sg) : Option (Sg) :=
  if i4 ≤ i3 then
  some σ
  else
  (xJ a0 i3 j1 σ).bind fun s_2 =>
    (some (i3 + 1)).bind fun i3_3 =>
    K a0 j1 i3_3 i4 s_2
noncomputable def J7_fill_d0a16_run : Nat → Nat → Int64 → Int32 → Int32 → Sg → Option (Sg)
  | 0 => fun _ _ _ _ _ => none
  | n + 1 => fun a0 j1 i3 i4 σ => J7_fill_d0a16_b6 n (J7_fill_d0a16_run n) a0 j1 i3 i4 σ
noncomputable def J7_fill_d0a16_b0 (n : Nat) (K : Nat → Int64 → Int32 → Int32 → Sg → Option (Sg)) (a0 : Nat) (j1 : Int64) (σ : Sg) : Option (Sg) :=
  (al a0 σ).bind fun v_4 =>
  K a0 j1 0 v_4 σ
noncomputable def f_J7_fill_d0a16 (n : Nat) (a0 : Nat) (j1 : Int64) (σ : Sg) : Option (Sg) := J7_fill_d0a16_b0 n (J7_fill_d0a16_run n) a0 j1 σ
-- ===== X0_putInOrder
noncomputable def X0_putInOrder_b56 (n : Nat) (K : Nat → Nat → Int32 → Int32 → Int32 → Sg → Option (Sg)) (a0 : Nat) (i3 : Int32) (i5 : Int32) (σ : Sg) : Option (Sg) :=
  (gR 0 a0 12 σ).bind fun q_1 =>
  (xI q_1 i5 i3 σ).bind fun s_2 =>
  some s_2
noncomputable def X0_putInOrder_b4 (n : Nat) (K : Nat → Nat → Int32 → Int32 → Int32 → Sg → Option (Sg)) (a0 : Nat) (a1 : Nat) (i2 : Int32) (i3 : Int32) (i5 : Int32) (σ : Sg) : Option (Sg) :=
  if i5 ≤ 0 then
  X0_putInOrder_b56 n K a0 i3 i5 σ
  else
  (gR 0 a0 12 σ).bind fun q_4 =>
    (aI q_4 (i5 - 1) σ).bind fun v_5 =>
    (f_X4_cell n v_5 i2 σ).bind fun w_6 =>
    (aI a1 w_6.1 w_6.2).bind fun v_7 =>
    (f_X4_cell n i3 i2 w_6.2).bind fun w_8 =>
    (aI a1 w_8.1 w_8.2).bind fun v_9 =>
    if v_7 ≤ v_9 then
    X0_putInOrder_b56 n K a0 i3 i5 w_8.2
    else
    (gR 0 a0 12 w_8.2).bind fun q_11 =>
      (gR 0 a0 12 w_8.2).bind fun q_12 =>
      (aI q_12 (i5 - 1) w_8.2).bind fun v_13 =>
      (xI q_11 i5 v_13 w_8.2).bind fun s_14 =>
      (some (i5 + (-1))).bind fun i5_15 =>
      K a0 a1 i2 i3 i5_15 s_14
noncomputable def X0_putInOrder_run : Nat → Nat → Nat → Int32 → Int32 → Int32 → Sg → Option (Sg)
  | 0 => fun _ _ _ _ _ _ => none
  | n + 1 => fun a0 a1 i2 i3 i5 σ => X0_putInOrder_b4 n (X0_putInOrder_run n) a0 a1 i2 i3 i5 σ
noncomputable def X0_putInOrder_b0 (n : Nat) (K : Nat → Nat → Int32 → Int32 → Int32 → Sg → Option (Sg)) (a0 : Nat) (a1 : Nat) (i2 : Int32) (i3 : Int32) (i4 : Int32) (σ : Sg) : Option (Sg) :=
  K a0 a1 i2 i3 i4 σ
noncomputable def f_X0_putInOrder (n : Nat) (a0 : Nat) (a1 : Nat) (i2 : Int32) (i3 : Int32) (i4 : Int32) (σ : Sg) : Option (Sg) := X0_putInOrder_b0 n (X0_putInOrder_run n) a0 a1 i2 i3 i4 σ
-- ===== X0_orderComing
noncomputable def X0_orderComing_b86 (n : Nat) (K : Nat → Nat → Int32 → Int32 → Int32 → Sg → Option (Int32 × Sg)) (a0 : Nat) (a1 : Nat) (i2 : Int32) (i3 : Int32) (i4 : Int32) (σ : Sg) : Option (Int32 × Sg) :=
  (some (i4 + 1)).bind fun i4_1 =>
  K a0 a1 i2 i3 i4_1 σ
noncomputable def X0_orderComing_b70 (n : Nat) (K : Nat → Nat → Int32 → Int32 → Int32 → Sg → Option (Int32 × Sg)) (a0 : Nat) (a1 : Nat) (i2 : Int32) (i3 : Int32) (i4 : Int32) (ta0 : Nat) (ti1 : Int32) (ti2 : Int32) (σ : Sg) : Option (Int32 × Sg) :=
  (xI ta0 ti1 ti2 σ).bind fun s_2 =>
  (gR 0 a0 0 s_2).bind fun q_3 =>
  (ck 0 a0 s_2).bind fun u_4 =>
  (f_X0_putInOrder n a0 q_3 i2 i4 i3 s_2).bind fun w_5 =>
  (some (i3 + 1)).bind fun i3_6 =>
  X0_orderComing_b86 n K a0 a1 i2 i3_6 i4 w_5
noncomputable def X0_orderComing_b5 (n : Nat) (K : Nat → Nat → Int32 → Int32 → Int32 → Sg → Option (Int32 × Sg)) (a0 : Nat) (a1 : Nat) (i2 : Int32) (i3 : Int32) (i4 : Int32) (σ : Sg) : Option (Int32 × Sg) :=
  (gI 1 a1 7 σ).bind fun v_7 =>
  if v_7 ≤ i4 then
  some (i3, σ)
  else
  (ck 1 a1 σ).bind fun u_9 =>
    (f_X1_comes n a1 i4 i2 σ).bind fun w_10 =>
    if w_10.1 = 0 then
    X0_orderComing_b86 n K a0 a1 i2 i3 i4 w_10.2
    else
    (f_X4_cell n i4 i2 w_10.2).bind fun w_12 =>
      (gR 0 a0 0 w_12.2).bind fun q_13 =>
      if i2 = 0 then
      (gR 1 a1 4 w_12.2).bind fun q_19 =>
        (aI q_19 i4 w_12.2).bind fun v_20 =>
        X0_orderComing_b70 n K a0 a1 i2 i3 i4 q_13 w_12.1 v_20 w_12.2
      else
      (gR 0 a0 1 w_12.2).bind fun q_15 =>
        (aI q_15 (w_12.1 - 1) w_12.2).bind fun v_16 =>
        (gR 1 a1 0 w_12.2).bind fun q_17 =>
        (aI q_17 (i2 - 1) w_12.2).bind fun v_18 =>
        X0_orderComing_b70 n K a0 a1 i2 i3 i4 q_13 w_12.1 (v_16 + v_18) w_12.2
noncomputable def X0_orderComing_run : Nat → Nat → Nat → Int32 → Int32 → Int32 → Sg → Option (Int32 × Sg)
  | 0 => fun _ _ _ _ _ _ => none
  | n + 1 => fun a0 a1 i2 i3 i4 σ => X0_orderComing_b5 n (X0_orderComing_run n) a0 a1 i2 i3 i4 σ
noncomputable def X0_orderComing_b0 (n : Nat) (K : Nat → Nat → Int32 → Int32 → Int32 → Sg → Option (Int32 × Sg)) (a0 : Nat) (a1 : Nat) (i2 : Int32) (σ : Sg) : Option (Int32 × Sg) :=
  K a0 a1 i2 0 0 σ
noncomputable def f_X0_orderComing (n : Nat) (a0 : Nat) (a1 : Nat) (i2 : Int32) (σ : Sg) : Option (Int32 × Sg) := X0_orderComing_b0 n (X0_orderComing_run n) a0 a1 i2 σ
-- ===== X1_goal
noncomputable def f_X1_goal (n : Nat) (a0 : Nat) (i1 : Int32) (σ : Sg) : Option (Int32 × Sg) :=
  (gR 1 a0 2 σ).bind fun q_1 =>
  (aI q_1 i1 σ).bind fun v_2 =>
  some (if 9 < (i1 + v_2) then 9 else (i1 + v_2), σ)
-- ===== X0_countAtGoal
noncomputable def X0_countAtGoal_b38 (n : Nat) (K : Nat → Nat → Int32 → Int32 → Int32 → Int32 → Sg → Option (Int32 × Sg)) (a0 : Nat) (a1 : Nat) (i2 : Int32) (i3 : Int32) (i4 : Int32) (i5 : Int32) (σ : Sg) : Option (Int32 × Sg) :=
  (some (i5 + 1)).bind fun i5_1 =>
  K a0 a1 i2 i3 i4 i5_1 σ
noncomputable def X0_countAtGoal_b6 (n : Nat) (K : Nat → Nat → Int32 → Int32 → Int32 → Int32 → Sg → Option (Int32 × Sg)) (a0 : Nat) (a1 : Nat) (i2 : Int32) (i3 : Int32) (i4 : Int32) (i5 : Int32) (σ : Sg) : Option (Int32 × Sg) :=
  if i3 ≤ i5 then
  some (i4, σ)
  else
  (ck 1 a1 σ).bind fun u_3 =>
    (f_X1_goal n a1 i5 σ).bind fun w_4 =>
    if w_4.1 = i3 then
    (gR 0 a0 2 w_4.2).bind fun q_6 =>
      (f_X4_cell n i2 i5 w_4.2).bind fun w_7 =>
      (aI q_6 w_7.1 w_7.2).bind fun v_8 =>
      (some (i4 + v_8)).bind fun i4_9 =>
      X0_countAtGoal_b38 n K a0 a1 i2 i3 i4_9 i5 w_7.2
    else
    X0_countAtGoal_b38 n K a0 a1 i2 i3 i4 i5 w_4.2
noncomputable def X0_countAtGoal_run : Nat → Nat → Nat → Int32 → Int32 → Int32 → Int32 → Sg → Option (Int32 × Sg)
  | 0 => fun _ _ _ _ _ _ _ => none
  | n + 1 => fun a0 a1 i2 i3 i4 i5 σ => X0_countAtGoal_b6 n (X0_countAtGoal_run n) a0 a1 i2 i3 i4 i5 σ
noncomputable def X0_countAtGoal_b0 (n : Nat) (K : Nat → Nat → Int32 → Int32 → Int32 → Int32 → Sg → Option (Int32 × Sg)) (a0 : Nat) (a1 : Nat) (i2 : Int32) (i3 : Int32) (σ : Sg) : Option (Int32 × Sg) :=
  K a0 a1 i2 i3 0 0 σ
noncomputable def f_X0_countAtGoal (n : Nat) (a0 : Nat) (a1 : Nat) (i2 : Int32) (i3 : Int32) (σ : Sg) : Option (Int32 × Sg) := X0_countAtGoal_b0 n (X0_countAtGoal_run n) a0 a1 i2 i3 σ
-- ===== X1_goesOn
noncomputable def f_X1_goesOn (n : Nat) (a0 : Nat) (i1 : Int32) (i2 : Int32) (σ : Sg) : Option (Int32 × Sg) :=
  (gR 1 a0 6 σ).bind fun q_1 =>
  (aI q_1 i1 σ).bind fun v_2 =>
  if v_2 ≤ i2 then
  rz 0 σ
  else
  rz 1 σ
-- ===== X1_come
noncomputable def f_X1_come (n : Nat) (a0 : Nat) (i1 : Int32) (i2 : Int32) (σ : Sg) : Option (Int32 × Sg) :=
  (gR 1 a0 1 σ).bind fun q_1 =>
  (aI q_1 i1 σ).bind fun v_2 =>
  if v_2 ≤ 0 then
  some (0, σ)
  else
  (gR 1 a0 1 σ).bind fun q_4 =>
    (aI q_4 i1 σ).bind fun v_5 =>
    (dv v_5).bind fun u_6 =>
    some (i2 / v_5, σ)
-- ===== X0_noteWaits
noncomputable def f_X0_noteWaits (n : Nat) (a0 : Nat) (i1 : Int32) (i2 : Int32) (i3 : Int32) (i4 : Int32) (σ : Sg) : Option (Sg) :=
  (gR 0 a0 7 σ).bind fun q_1 =>
  (aI q_1 i1 σ).bind fun v_2 =>
  (dvJ 2).bind fun u_3 =>
  (some ((i3.toInt64 * v_2.toInt64) + ((i3.toInt64 * ((i3 + 1).toInt64)) / 2))).bind fun j5_4 =>
  (gR 0 a0 8 σ).bind fun q_5 =>
  (aJ q_5 i1 σ).bind fun v_6 =>
  (xJ q_5 i1 (v_6 + ((i3.toInt64 * i2.toInt64) - (i4.toInt64 * j5_4))) σ).bind fun s_7 =>
  (gR 0 a0 7 s_7).bind fun q_8 =>
  (aI q_8 i1 s_7).bind fun v_9 =>
  (some (i2 - (i4 * (v_9 + 1)))).bind fun i7_10 =>
  (gR 0 a0 9 s_7).bind fun q_11 =>
  (aI q_11 i1 s_7).bind fun v_12 =>
  if i7_10 ≤ v_12 then
  some s_7
  else
  (gR 0 a0 9 s_7).bind fun q_14 =>
    (xI q_14 i1 i7_10 s_7).bind fun s_15 =>
    some s_15
-- ===== X0_pickUp
noncomputable def f_X0_pickUp (n : Nat) (a0 : Nat) (a1 : Nat) (i2 : Int32) (i3 : Int32) (i4 : Int32) (σ : Sg) : Option (Sg) :=
  (f_X4_cell n i2 i3 σ).bind fun w_1 =>
  (gR 0 a0 0 w_1.2).bind fun q_2 =>
  (aI q_2 w_1.1 w_1.2).bind fun v_3 =>
  (ck 1 a1 w_1.2).bind fun u_4 =>
  (f_X1_come n a1 i3 v_3 w_1.2).bind fun w_5 =>
  (gR 0 a0 7 w_5.2).bind fun q_6 =>
  (aI q_6 i3 w_5.2).bind fun v_7 =>
  (some (w_5.1 - v_7)).bind fun i6_8 =>
  (gR 1 a1 5 w_5.2).bind fun q_9 =>
  (aI q_9 i2 w_5.2).bind fun v_10 =>
  (some (if i6_8 < (v_10 - i4) then i6_8 else (v_10 - i4))).bind fun i7_11 =>
  (gR 0 a0 2 w_5.2).bind fun q_12 =>
  (xI q_12 w_1.1 i7_11 w_5.2).bind fun s_13 =>
  (gR 0 a0 5 s_13).bind fun q_14 =>
  (xI q_14 w_1.1 (i6_8 - i7_11) s_13).bind fun s_15 =>
  (gR 0 a0 4 s_15).bind fun q_16 =>
  (xI q_16 w_1.1 (i4 + i7_11) s_15).bind fun s_17 =>
  if i7_11 ≤ 0 then
  some s_17
  else
  (gR 0 a0 0 s_17).bind fun q_19 =>
    (aI q_19 w_1.1 s_17).bind fun v_20 =>
    (gR 1 a1 1 s_17).bind fun q_21 =>
    (aI q_21 i3 s_17).bind fun v_22 =>
    (ck 0 a0 s_17).bind fun u_23 =>
    (f_X0_noteWaits n a0 i3 v_20 i7_11 v_22 s_17).bind fun w_24 =>
    (gR 0 a0 7 w_24).bind fun q_25 =>
    (aI q_25 i3 w_24).bind fun v_26 =>
    (xI q_25 i3 (v_26 + i7_11) w_24).bind fun s_27 =>
    some s_27
-- ===== X0_stand
noncomputable def X0_stand_b20 (n : Nat) (a0 : Nat) (a1 : Nat) (i2 : Int32) (i3 : Int32) (σ : Sg) : Option (Int32 × Sg) :=
  (gR 1 a1 3 σ).bind fun q_1 =>
  (aI q_1 0 σ).bind fun v_2 =>
  (aI q_1 1 σ).bind fun v_3 =>
  (gR 0 a0 2 σ).bind fun q_4 =>
  (aI q_4 i2 σ).bind fun v_5 =>
  (aI q_1 2 σ).bind fun v_6 =>
  (gR 0 a0 6 σ).bind fun q_7 =>
  (aI q_7 i2 σ).bind fun v_8 =>
  some (((v_2 + (v_3 * v_5)) + (v_6 * i3)) + v_8, σ)
noncomputable def f_X0_stand (n : Nat) (a0 : Nat) (a1 : Nat) (i2 : Int32) (i3 : Int32) (σ : Sg) : Option (Int32 × Sg) :=
  (gR 0 a0 2 σ).bind fun q_9 =>
  (aI q_9 i2 σ).bind fun v_10 =>
  if v_10 = 0 then
  if i3 = 0 then
    (gR 0 a0 6 σ).bind fun q_13 =>
      (aI q_13 i2 σ).bind fun v_14 =>
      some (v_14, σ)
    else
    X0_stand_b20 n a0 a1 i2 i3 σ
  else
  X0_stand_b20 n a0 a1 i2 i3 σ
-- ===== X2_soonest
noncomputable def X2_soonest_b49 (n : Nat) (σ : Sg) : Option (Int32 × Sg) :=
  some (0, σ)
noncomputable def f_X2_soonest (n : Nat) (a0 : Nat) (i1 : Int32) (i2 : Int32) (i3 : Int32) (σ : Sg) : Option (Int32 × Sg) :=
  (gR 2 a0 0 σ).bind fun q_1 =>
  (aI q_1 i1 σ).bind fun v_2 =>
  if v_2 = 99 then
  (gR 2 a0 1 σ).bind fun q_10 =>
    (aI q_10 i1 σ).bind fun v_11 =>
    some (i2 + (10 * v_11), σ)
  else
  (gR 2 a0 0 σ).bind fun q_4 =>
    (aI q_4 i1 σ).bind fun v_5 =>
    if v_5 = 103 then
    if i3 = (-6) then
      X2_soonest_b49 n σ
      else
      (gR 2 a0 1 σ).bind fun q_8 =>
        (aI q_8 i1 σ).bind fun v_9 =>
        some (i3 + v_9, σ)
    else
    X2_soonest_b49 n σ
-- ===== X0_waitByRule
noncomputable def f_X0_waitByRule (n : Nat) (a0 : Nat) (a1 : Nat) (i2 : Int32) (i3 : Int32) (σ : Sg) : Option (Sg) :=
  (f_X4_cell n i2 i3 σ).bind fun w_1 =>
  (gR 0 a0 0 w_1.2).bind fun q_2 =>
  (f_X4_cell n i2 0 w_1.2).bind fun w_3 =>
  (aI q_2 w_3.1 w_3.2).bind fun v_4 =>
  (gI 0 a0 14 w_3.2).bind fun v_5 =>
  (ck 2 a1 w_3.2).bind fun u_6 =>
  (f_X2_soonest n a1 i3 v_4 v_5 w_3.2).bind fun w_7 =>
  (gR 0 a0 1 w_7.2).bind fun q_8 =>
  (gR 0 a0 1 w_7.2).bind fun q_9 =>
  (aI q_9 w_1.1 w_7.2).bind fun v_10 =>
  (xI q_8 w_1.1 (if v_10 < w_7.1 then w_7.1 else v_10) w_7.2).bind fun s_11 =>
  (gI 0 a0 14 s_11).bind fun v_12 =>
  (gR 0 a0 1 s_11).bind fun q_13 =>
  (aI q_13 w_1.1 s_11).bind fun v_14 =>
  (pI 0 a0 14 (if v_12 < v_14 then v_14 else v_12) s_11).bind fun s_15 =>
  some s_15
-- ===== X0_emptyOut
noncomputable def f_X0_emptyOut (n : Nat) (a0 : Nat) (a1 : Nat) (i2 : Int32) (i3 : Int32) (σ : Sg) : Option (Sg) :=
  (gR 0 a0 2 σ).bind fun q_1 =>
  (xI q_1 i3 0 σ).bind fun s_2 =>
  (gR 0 a0 4 s_2).bind fun q_3 =>
  (xI q_3 i3 0 s_2).bind fun s_4 =>
  (gR 0 a0 5 s_4).bind fun q_5 =>
  (gR 0 a0 0 s_4).bind fun q_6 =>
  (aI q_6 i3 s_4).bind fun v_7 =>
  (ck 1 a1 s_4).bind fun u_8 =>
  (f_X1_come n a1 i2 v_7 s_4).bind fun w_9 =>
  (gR 0 a0 7 w_9.2).bind fun q_10 =>
  (aI q_10 i2 w_9.2).bind fun v_11 =>
  (xI q_5 i3 (w_9.1 - v_11) w_9.2).bind fun s_12 =>
  some s_12
-- ===== X0_visit
noncomputable def X0_visit_b223 (n : Nat) (a0 : Nat) (i5 : Int32) (σ : Sg) : Option (Sg) :=
  (gI 0 a0 13 σ).bind fun v_1 =>
  (gR 0 a0 1 σ).bind fun q_2 =>
  (aI q_2 i5 σ).bind fun v_3 =>
  (pI 0 a0 13 (if v_1 < v_3 then v_3 else v_1) σ).bind fun s_4 =>
  some s_4
noncomputable def X0_visit_b88 (n : Nat) (a0 : Nat) (a1 : Nat) (a2 : Nat) (i3 : Int32) (i4 : Int32) (i5 : Int32) (i6 : Int32) (σ : Sg) : Option (Sg) :=
  (gR 0 a0 3 σ).bind fun q_5 =>
  (ck 0 a0 σ).bind fun u_6 =>
  (f_X0_countAtGoal n a0 a1 i3 i4 σ).bind fun w_7 =>
  (xI q_5 i5 w_7.1 w_7.2).bind fun s_8 =>
  (ck 1 a1 s_8).bind fun u_9 =>
  (f_X1_goesOn n a1 i3 i4 s_8).bind fun w_10 =>
  if w_10.1 = 0 then
  (gI 0 a0 11 w_10.2).bind fun v_12 =>
    (gR 0 a0 3 w_10.2).bind fun q_13 =>
    (aI q_13 i5 w_10.2).bind fun v_14 =>
    (pI 0 a0 11 (v_12 + (i6 - v_14)) w_10.2).bind fun s_15 =>
    (ck 0 a0 s_15).bind fun u_16 =>
    (f_X0_emptyOut n a0 a1 i4 i5 s_15).bind fun w_17 =>
    (gR 0 a0 1 w_17).bind fun q_18 =>
    (gR 0 a0 0 w_17).bind fun q_19 =>
    (aI q_19 i5 w_17).bind fun v_20 =>
    (ck 0 a0 w_17).bind fun u_21 =>
    (f_X0_stand n a0 a1 i5 i6 w_17).bind fun w_22 =>
    (xI q_18 i5 (v_20 + w_22.1) w_22.2).bind fun s_23 =>
    X0_visit_b223 n a0 i5 s_23
  else
  (gR 0 a0 3 w_10.2).bind fun q_24 =>
    (aI q_24 i5 w_10.2).bind fun v_25 =>
    (ck 0 a0 w_10.2).bind fun u_26 =>
    (f_X0_pickUp n a0 a1 i3 i4 (i6 - v_25) w_10.2).bind fun w_27 =>
    (gR 0 a0 1 w_27).bind fun q_28 =>
    (gR 0 a0 0 w_27).bind fun q_29 =>
    (aI q_29 i5 w_27).bind fun v_30 =>
    (gR 0 a0 3 w_27).bind fun q_31 =>
    (aI q_31 i5 w_27).bind fun v_32 =>
    (ck 0 a0 w_27).bind fun u_33 =>
    (f_X0_stand n a0 a1 i5 v_32 w_27).bind fun w_34 =>
    (xI q_28 i5 (v_30 + w_34.1) w_34.2).bind fun s_35 =>
    (ck 0 a0 s_35).bind fun u_36 =>
    (f_X0_waitByRule n a0 a2 i3 i4 s_35).bind fun w_37 =>
    X0_visit_b223 n a0 i5 w_37
noncomputable def X0_visit_b38 (n : Nat) (a0 : Nat) (a1 : Nat) (a2 : Nat) (i3 : Int32) (i4 : Int32) (i5 : Int32) (σ : Sg) : Option (Sg) :=
  if i4 ≤ 0 then
  X0_visit_b88 n a0 a1 a2 i3 i4 i5 0 σ
  else
  (gR 0 a0 4 σ).bind fun q_39 =>
    (aI q_39 (i5 - 1) σ).bind fun v_40 =>
    (gJ 0 a0 10 σ).bind fun v_41 =>
    (gR 0 a0 0 σ).bind fun q_42 =>
    (aI q_42 i5 σ).bind fun v_43 =>
    (gR 0 a0 0 σ).bind fun q_44 =>
    (aI q_44 (i5 - 1) σ).bind fun v_45 =>
    (pJ 0 a0 10 (v_41 + (v_40.toInt64 * ((v_43 - v_45).toInt64))) σ).bind fun s_46 =>
    X0_visit_b88 n a0 a1 a2 i3 i4 i5 v_40 s_46
noncomputable def f_X0_visit (n : Nat) (a0 : Nat) (a1 : Nat) (a2 : Nat) (i3 : Int32) (i4 : Int32) (σ : Sg) : Option (Sg) :=
  (f_X4_cell n i3 i4 σ).bind fun w_47 =>
  (gR 1 a1 3 w_47.2).bind fun q_48 =>
  (aI q_48 3 w_47.2).bind fun v_49 =>
  if v_49 = 0 then
  (gR 0 a0 0 w_47.2).bind fun q_51 =>
    (gR 0 a0 0 w_47.2).bind fun q_52 =>
    (aI q_52 w_47.1 w_47.2).bind fun v_53 =>
    (gI 0 a0 13 w_47.2).bind fun v_54 =>
    (xI q_51 w_47.1 (if v_53 < v_54 then v_54 else v_53) w_47.2).bind fun s_55 =>
    X0_visit_b38 n a0 a1 a2 i3 i4 w_47.1 s_55
  else
  X0_visit_b38 n a0 a1 a2 i3 i4 w_47.1 w_47.2
-- ===== X0_playStop
noncomputable def X0_playStop_b22 (n : Nat) (K : Nat → Nat → Nat → Int32 → Int32 → Int32 → Sg → Option (Sg)) (a0 : Nat) (a1 : Nat) (a2 : Nat) (i3 : Int32) (i4 : Int32) (i5 : Int32) (σ : Sg) : Option (Sg) :=
  if i4 ≤ i5 then
  some σ
  else
  (gR 0 a0 12 σ).bind fun q_2 =>
    (aI q_2 i5 σ).bind fun v_3 =>
    (ck 0 a0 σ).bind fun u_4 =>
    (f_X0_visit n a0 a1 a2 v_3 i3 σ).bind fun w_5 =>
    (some (i5 + 1)).bind fun i5_6 =>
    K a0 a1 a2 i3 i4 i5_6 w_5
noncomputable def X0_playStop_run : Nat → Nat → Nat → Nat → Int32 → Int32 → Int32 → Sg → Option (Sg)
  | 0 => fun _ _ _ _ _ _ _ => none
  | n + 1 => fun a0 a1 a2 i3 i4 i5 σ => X0_playStop_b22 n (X0_playStop_run n) a0 a1 a2 i3 i4 i5 σ
noncomputable def X0_playStop_b0 (n : Nat) (K : Nat → Nat → Nat → Int32 → Int32 → Int32 → Sg → Option (Sg)) (a0 : Nat) (a1 : Nat) (a2 : Nat) (i3 : Int32) (σ : Sg) : Option (Sg) :=
  (pI 0 a0 13 0 σ).bind fun s_7 =>
  (pI 0 a0 14 (-6) s_7).bind fun s_8 =>
  (ck 0 a0 s_8).bind fun u_9 =>
  (f_X0_orderComing n a0 a1 i3 s_8).bind fun w_10 =>
  K a0 a1 a2 i3 w_10.1 0 w_10.2
noncomputable def f_X0_playStop (n : Nat) (a0 : Nat) (a1 : Nat) (a2 : Nat) (i3 : Int32) (σ : Sg) : Option (Sg) := X0_playStop_b0 n (X0_playStop_run n) a0 a1 a2 i3 σ
-- ===== X0_play
noncomputable def X0_play_b36 (n : Nat) (K : Nat → Nat → Nat → Int32 → Sg → Option (Sg)) (a0 : Nat) (a1 : Nat) (a2 : Nat) (i3 : Int32) (σ : Sg) : Option (Sg) :=
  if 10 ≤ i3 then
  some σ
  else
  (ck 0 a0 σ).bind fun u_2 =>
    (f_X0_playStop n a0 a1 a2 i3 σ).bind fun w_3 =>
    (some (i3 + 1)).bind fun i3_4 =>
    K a0 a1 a2 i3_4 w_3
noncomputable def X0_play_run : Nat → Nat → Nat → Nat → Int32 → Sg → Option (Sg)
  | 0 => fun _ _ _ _ _ => none
  | n + 1 => fun a0 a1 a2 i3 σ => X0_play_b36 n (X0_play_run n) a0 a1 a2 i3 σ
noncomputable def X0_play_b0 (n : Nat) (K : Nat → Nat → Nat → Int32 → Sg → Option (Sg)) (a0 : Nat) (a1 : Nat) (a2 : Nat) (σ : Sg) : Option (Sg) :=
  (gR 0 a0 7 σ).bind fun q_5 =>
  (f_J7_fill_53178 n q_5 0 σ).bind fun w_6 =>
  (gR 0 a0 8 w_6).bind fun q_7 =>
  (f_J7_fill_d0a16 n q_7 0 w_6).bind fun w_8 =>
  (gR 0 a0 9 w_8).bind fun q_9 =>
  (f_J7_fill_53178 n q_9 0 w_8).bind fun w_10 =>
  (pJ 0 a0 10 0 w_10).bind fun s_11 =>
  (pI 0 a0 11 0 s_11).bind fun s_12 =>
  K a0 a1 a2 0 s_12
noncomputable def f_X0_play (n : Nat) (a0 : Nat) (a1 : Nat) (a2 : Nat) (σ : Sg) : Option (Sg) := X0_play_b0 n (X0_play_run n) a0 a1 a2 σ
-- ===== X4_presentCourse
noncomputable def X4_presentCourse_b40 (n : Nat) (a0 : Nat) (σ : Sg) : Option (Nat × Sg) :=
  (gR 4 a0 2 σ).bind fun q_1 =>
  some (q_1, σ)
noncomputable def f_X4_presentCourse (n : Nat) (a0 : Nat) (σ : Sg) : Option (Nat × Sg) :=
  (gI 4 a0 6 σ).bind fun v_2 =>
  if v_2 = 0 then
  (gR 4 a0 2 σ).bind fun q_4 =>
    (gR 4 a0 0 σ).bind fun q_5 =>
    (ck 0 q_4 σ).bind fun u_6 =>
    (f_X0_layLatenesses n q_4 q_5 (-6) σ).bind fun w_7 =>
    (gR 4 a0 2 w_7).bind fun q_8 =>
    (gR 4 a0 0 w_7).bind fun q_9 =>
    (gR 4 a0 4 w_7).bind fun q_10 =>
    (ck 0 q_8 w_7).bind fun u_11 =>
    (f_X0_play n q_8 q_9 q_10 w_7).bind fun w_12 =>
    (pI 4 a0 6 1 w_12).bind fun s_13 =>
    X4_presentCourse_b40 n a0 s_13
  else
  X4_presentCourse_b40 n a0 σ
-- ===== X0_tellVisit
noncomputable def f_X0_tellVisit (n : Nat) (a0 : Nat) (i1 : Int32) (i2 : Int32) (σ : Sg) : Option (Int32 × Sg) :=
  (some i2).bind fun x_1 =>
  if x_1 = 0 then
  (gR 0 a0 0 σ).bind fun q_2 =>
    (aI q_2 i1 σ).bind fun v_3 =>
    some (v_3, σ)
  else
  if x_1 = 1 then
    (gR 0 a0 1 σ).bind fun q_5 =>
      (aI q_5 i1 σ).bind fun v_6 =>
      some (v_6, σ)
    else
    if x_1 = 2 then
      (gR 0 a0 2 σ).bind fun q_8 =>
        (aI q_8 i1 σ).bind fun v_9 =>
        some (v_9, σ)
      else
      if x_1 = 3 then
        (gR 0 a0 3 σ).bind fun q_11 =>
          (aI q_11 i1 σ).bind fun v_12 =>
          some (v_12, σ)
        else
        if x_1 = 4 then
          (gR 0 a0 4 σ).bind fun q_14 =>
            (aI q_14 i1 σ).bind fun v_15 =>
            some (v_15, σ)
          else
          (gR 0 a0 5 σ).bind fun q_17 =>
            (aI q_17 i1 σ).bind fun v_18 =>
            some (v_18, σ)
-- ===== X4_at
noncomputable def X4_at_b18 (n : Nat) (σ : Sg) : Option (Int32 × Sg) :=
  some ((-1), σ)
noncomputable def X4_at_b29 (n : Nat) (σ : Sg) : Option (Int32 × Sg) :=
  some ((-2), σ)
noncomputable def f_X4_at (n : Nat) (a0 : Nat) (i1 : Int32) (i2 : Int32) (i3 : Int32) (σ : Sg) : Option (Int32 × Sg) :=
  (gR 4 a0 0 σ).bind fun q_1 =>
  (ck 1 q_1 σ).bind fun u_2 =>
  (f_X1_hasBus n q_1 i1 σ).bind fun w_3 =>
  if w_3.1 = 0 then
  X4_at_b18 n w_3.2
  else
  (f_X4_isStop n i2 w_3.2).bind fun w_5 =>
    if w_5.1 = 0 then
    X4_at_b18 n w_5.2
    else
    if i3 < 0 then
      X4_at_b29 n w_5.2
      else
      if i3 ≤ 5 then
        (gR 4 a0 0 w_5.2).bind fun q_9 =>
          (ck 1 q_9 w_5.2).bind fun u_10 =>
          (f_X1_comes n q_9 i1 i2 w_5.2).bind fun w_11 =>
          if w_11.1 = 0 then
          some ((-6), w_11.2)
          else
          (ck 4 a0 w_11.2).bind fun u_13 =>
            (f_X4_presentCourse n a0  w_11.2).bind fun w_14 =>
            (f_X4_cell n i1 i2 w_14.2).bind fun w_15 =>
            (ck 0 w_14.1 w_15.2).bind fun u_16 =>
            (f_X0_tellVisit n w_14.1 w_15.1 i3 w_15.2).bind fun w_17 =>
            some (w_17.1, w_17.2)
        else
        X4_at_b29 n w_5.2
-- ===== X5_layOrder
noncomputable def X5_layOrder_b188 (n : Nat) (K : Nat → Nat → Int32 → Int32 → Int32 → Int32 → Int32 → Sg → Option (Int32 × Sg)) (a0 : Nat) (i1 : Int32) (i2 : Int32) (i3 : Int32) (σ : Sg) : Option (Int32 × Sg) :=
  (some (i3 + 1)).bind fun i3_1 =>
  K 4 a0 i1 i2 i3_1 0 0 σ
noncomputable def X5_layOrder_b102 (n : Nat) (K : Nat → Nat → Int32 → Int32 → Int32 → Int32 → Int32 → Sg → Option (Int32 × Sg)) (a0 : Nat) (i1 : Int32) (i2 : Int32) (i3 : Int32) (i4 : Int32) (i5 : Int32) (ta0 : Nat) (ti1 : Int32) (ti2 : Int32) (σ : Sg) : Option (Int32 × Sg) :=
  (xI ta0 ti1 ti2 σ).bind fun s_2 =>
  if i5 = 0 then
  X5_layOrder_b188 n K a0 i1 i2 i3 s_2
  else
  K 111 a0 i1 i2 i3 i4 i2 s_2
noncomputable def X5_layOrder_b53 (n : Nat) (K : Nat → Nat → Int32 → Int32 → Int32 → Int32 → Int32 → Sg → Option (Int32 × Sg)) (a0 : Nat) (i1 : Int32) (i2 : Int32) (i3 : Int32) (i4 : Int32) (ti0 : Int32) (σ : Sg) : Option (Int32 × Sg) :=
  (gR 5 a0 17 σ).bind fun q_4 =>
  if ti0 = 0 then
  X5_layOrder_b102 n K a0 i1 i2 i3 i4 ti0 q_4 i4 (-6) σ
  else
  if i1 = 0 then
    (gR 5 a0 4 σ).bind fun q_11 =>
      (aI q_11 i3 σ).bind fun v_12 =>
      X5_layOrder_b102 n K a0 i1 i2 i3 i4 ti0 q_4 i4 v_12 σ
    else
    (gR 5 a0 18 σ).bind fun q_7 =>
      (aI q_7 (i4 - 1) σ).bind fun v_8 =>
      (gR 5 a0 0 σ).bind fun q_9 =>
      (aI q_9 (i1 - 1) σ).bind fun v_10 =>
      X5_layOrder_b102 n K a0 i1 i2 i3 i4 ti0 q_4 i4 (v_8 + v_10) σ
noncomputable def X5_layOrder_b48 (n : Nat) (K : Nat → Nat → Int32 → Int32 → Int32 → Int32 → Int32 → Sg → Option (Int32 × Sg)) (a0 : Nat) (i1 : Int32) (i2 : Int32) (i3 : Int32) (i4 : Int32) (σ : Sg) : Option (Int32 × Sg) :=
  X5_layOrder_b53 n K a0 i1 i2 i3 i4 1 σ
noncomputable def X5_layOrder_b52 (n : Nat) (K : Nat → Nat → Int32 → Int32 → Int32 → Int32 → Int32 → Sg → Option (Int32 × Sg)) (a0 : Nat) (i1 : Int32) (i2 : Int32) (i3 : Int32) (i4 : Int32) (σ : Sg) : Option (Int32 × Sg) :=
  X5_layOrder_b53 n K a0 i1 i2 i3 i4 0 σ
noncomputable def X5_layOrder_b4 (n : Nat) (K : Nat → Nat → Int32 → Int32 → Int32 → Int32 → Int32 → Sg → Option (Int32 × Sg)) (a0 : Nat) (i1 : Int32) (i2 : Int32) (i3 : Int32) (σ : Sg) : Option (Int32 × Sg) :=
  (gI 5 a0 3 σ).bind fun v_13 =>
  if v_13 ≤ i3 then
  some (i2, σ)
  else
  (some ((10 * i3) + i1)).bind fun i4_15 =>
    if i1 = 0 then
    X5_layOrder_b48 n K a0 i1 i2 i3 i4_15 σ
    else
    (gR 5 a0 17 σ).bind fun q_17 =>
      (aI q_17 (i4_15 - 1) σ).bind fun v_18 =>
      if v_18 < 0 then
      X5_layOrder_b52 n K a0 i1 i2 i3 i4_15 σ
      else
      (gR 5 a0 6 σ).bind fun q_20 =>
        (aI q_20 i3 σ).bind fun v_21 =>
        if v_21 ≤ (i1 - 1) then
        X5_layOrder_b52 n K a0 i1 i2 i3 i4_15 σ
        else
        X5_layOrder_b48 n K a0 i1 i2 i3 i4_15 σ
noncomputable def X5_layOrder_b177 (n : Nat) (K : Nat → Nat → Int32 → Int32 → Int32 → Int32 → Int32 → Sg → Option (Int32 × Sg)) (a0 : Nat) (i1 : Int32) (i2 : Int32) (i3 : Int32) (i6 : Int32) (σ : Sg) : Option (Int32 × Sg) :=
  (gR 5 a0 28 σ).bind fun q_23 =>
  (xI q_23 i6 i3 σ).bind fun s_24 =>
  (some (i2 + 1)).bind fun i2_25 =>
  X5_layOrder_b188 n K a0 i1 i2_25 i3 s_24
noncomputable def X5_layOrder_b111 (n : Nat) (K : Nat → Nat → Int32 → Int32 → Int32 → Int32 → Int32 → Sg → Option (Int32 × Sg)) (a0 : Nat) (i1 : Int32) (i2 : Int32) (i3 : Int32) (i4 : Int32) (i6 : Int32) (σ : Sg) : Option (Int32 × Sg) :=
  (gR 5 a0 7 σ).bind fun q_26 =>
  (aI q_26 3 σ).bind fun v_27 =>
  if v_27 = 1 then
  if i6 ≤ 0 then
    X5_layOrder_b177 n K a0 i1 i2 i3 i6 σ
    else
    (gR 5 a0 17 σ).bind fun q_30 =>
      (gR 5 a0 28 σ).bind fun q_31 =>
      (aI q_31 (i6 - 1) σ).bind fun v_32 =>
      (aI q_30 ((10 * v_32) + i1) σ).bind fun v_33 =>
      (gR 5 a0 17 σ).bind fun q_34 =>
      (aI q_34 i4 σ).bind fun v_35 =>
      if v_33 ≤ v_35 then
      X5_layOrder_b177 n K a0 i1 i2 i3 i6 σ
      else
      (gR 5 a0 28 σ).bind fun q_37 =>
        (gR 5 a0 28 σ).bind fun q_38 =>
        (aI q_38 (i6 - 1) σ).bind fun v_39 =>
        (xI q_37 i6 v_39 σ).bind fun s_40 =>
        (some (i6 + (-1))).bind fun i6_41 =>
        K 111 a0 i1 i2 i3 i4 i6_41 s_40
  else
  X5_layOrder_b177 n K a0 i1 i2 i3 i6 σ
noncomputable def X5_layOrder_run : Nat → Nat → Nat → Int32 → Int32 → Int32 → Int32 → Int32 → Sg → Option (Int32 × Sg)
  | 0 => fun _ _ _ _ _ _ _ _ => none
  | n + 1 => fun hd a0 i1 i2 i3 i4 i6 σ => if hd = 4 then X5_layOrder_b4 n (X5_layOrder_run n) a0 i1 i2 i3 σ else X5_layOrder_b111 n (X5_layOrder_run n) a0 i1 i2 i3 i4 i6 σ
noncomputable def X5_layOrder_b0 (n : Nat) (K : Nat → Nat → Int32 → Int32 → Int32 → Int32 → Int32 → Sg → Option (Int32 × Sg)) (a0 : Nat) (i1 : Int32) (σ : Sg) : Option (Int32 × Sg) :=
  K 4 a0 i1 0 0 0 0 σ
noncomputable def f_X5_layOrder (n : Nat) (a0 : Nat) (i1 : Int32) (σ : Sg) : Option (Int32 × Sg) := X5_layOrder_b0 n (X5_layOrder_run n) a0 i1 σ
-- ===== X5_getOff
noncomputable def X5_getOff_b140 (n : Nat) (K : Nat → Int32 → Int32 → Int32 → Int32 → Int32 → Int32 → Sg → Option (Int32 × Sg)) (a0 : Nat) (i1 : Int32) (i2 : Int32) (i3 : Int32) (i4 : Int32) (i5 : Int32) (i6 : Int32) (σ : Sg) : Option (Int32 × Sg) :=
  (some (i6 + 1)).bind fun i6_1 =>
  K a0 i1 i2 i3 i4 i5 i6_1 σ
noncomputable def X5_getOff_b120 (n : Nat) (K : Nat → Int32 → Int32 → Int32 → Int32 → Int32 → Int32 → Sg → Option (Int32 × Sg)) (a0 : Nat) (i1 : Int32) (i2 : Int32) (i3 : Int32) (i4 : Int32) (i5 : Int32) (i6 : Int32) (i7 : Int32) (ta0 : Nat) (ti1 : Int32) (ti2 : Int32) (σ : Sg) : Option (Int32 × Sg) :=
  (pI 5 ta0 30 (ti1 + ti2) σ).bind fun s_2 =>
  (gR 5 a0 23 s_2).bind fun q_3 =>
  (xI q_3 i7 0 s_2).bind fun s_4 =>
  (gR 5 a0 24 s_4).bind fun q_5 =>
  (xI q_5 i7 0 s_4).bind fun s_6 =>
  X5_getOff_b140 n K a0 i1 i2 i3 i4 i5 i6 s_6
noncomputable def X5_getOff_b54 (n : Nat) (K : Nat → Int32 → Int32 → Int32 → Int32 → Int32 → Int32 → Sg → Option (Int32 × Sg)) (a0 : Nat) (i1 : Int32) (i2 : Int32) (i3 : Int32) (i4 : Int32) (i5 : Int32) (i6 : Int32) (i7 : Int32) (σ : Sg) : Option (Int32 × Sg) :=
  (gR 5 a0 23 σ).bind fun q_7 =>
  (aI q_7 i7 σ).bind fun v_8 =>
  (some (i5 + v_8)).bind fun i5_9 =>
  (gI 5 a0 29 σ).bind fun v_10 =>
  (gR 5 a0 23 σ).bind fun q_11 =>
  (aI q_11 i7 σ).bind fun v_12 =>
  (gR 5 a0 17 σ).bind fun q_13 =>
  (aI q_13 i4 σ).bind fun v_14 =>
  (gR 5 a0 24 σ).bind fun q_15 =>
  (aI q_15 i7 σ).bind fun v_16 =>
  (pI 5 a0 29 (v_10 + ((v_12 * v_14) - v_16)) σ).bind fun s_17 =>
  (gI 5 a0 30 s_17).bind fun v_18 =>
  if i6 = i2 then
  X5_getOff_b120 n K a0 i1 i2 i3 i4 i5_9 i6 i7 a0 v_18 0 s_17
  else
  (gR 5 a0 23 s_17).bind fun q_20 =>
    (aI q_20 i7 s_17).bind fun v_21 =>
    X5_getOff_b120 n K a0 i1 i2 i3 i4 i5_9 i6 i7 a0 v_18 v_21 s_17
noncomputable def X5_getOff_b28 (n : Nat) (K : Nat → Int32 → Int32 → Int32 → Int32 → Int32 → Int32 → Sg → Option (Int32 × Sg)) (a0 : Nat) (i1 : Int32) (i2 : Int32) (i3 : Int32) (i4 : Int32) (i5 : Int32) (i6 : Int32) (σ : Sg) : Option (Int32 × Sg) :=
  if 10 ≤ i6 then
  some (i5, σ)
  else
  (some ((10 * i1) + i6)).bind fun i7_23 =>
    if i6 = i2 then
    X5_getOff_b54 n K a0 i1 i2 i3 i4 i5 i6 i7_23 σ
    else
    if i3 = 0 then
      X5_getOff_b140 n K a0 i1 i2 i3 i4 i5 i6 σ
      else
      X5_getOff_b54 n K a0 i1 i2 i3 i4 i5 i6 i7_23 σ
noncomputable def X5_getOff_run : Nat → Nat → Int32 → Int32 → Int32 → Int32 → Int32 → Int32 → Sg → Option (Int32 × Sg)
  | 0 => fun _ _ _ _ _ _ _ _ => none
  | n + 1 => fun a0 i1 i2 i3 i4 i5 i6 σ => X5_getOff_b28 n (X5_getOff_run n) a0 i1 i2 i3 i4 i5 i6 σ
noncomputable def X5_getOff_b0 (n : Nat) (K : Nat → Int32 → Int32 → Int32 → Int32 → Int32 → Int32 → Sg → Option (Int32 × Sg)) (a0 : Nat) (i1 : Int32) (i2 : Int32) (i3 : Int32) (σ : Sg) : Option (Int32 × Sg) :=
  (some ((10 * i1) + i2)).bind fun i4_26 =>
  (gR 5 a0 20 σ).bind fun q_27 =>
  (gR 5 a0 23 σ).bind fun q_28 =>
  (aI q_28 i4_26 σ).bind fun v_29 =>
  (xI q_27 i4_26 v_29 σ).bind fun s_30 =>
  K a0 i1 i2 i3 i4_26 0 i2 s_30
noncomputable def f_X5_getOff (n : Nat) (a0 : Nat) (i1 : Int32) (i2 : Int32) (i3 : Int32) (σ : Sg) : Option (Int32 × Sg) := X5_getOff_b0 n (X5_getOff_run n) a0 i1 i2 i3 σ
-- ===== X5_getOn
noncomputable def X5_getOn_b303 (n : Nat) (i6 : Int32) (σ : Sg) : Option (Int32 × Sg) :=
  some (i6, σ)
noncomputable def X5_getOn_b291 (n : Nat) (a0 : Nat) (i6 : Int32) (ta0 : Nat) (ti1 : Int32) (ti2 : Int32) (σ : Sg) : Option (Int32 × Sg) :=
  (xI ta0 ti1 ti2 σ).bind fun s_1 =>
  (gI 5 a0 31 s_1).bind fun v_2 =>
  (pI 5 a0 31 (v_2 + i6) s_1).bind fun s_3 =>
  X5_getOn_b303 n i6 s_3
noncomputable def X5_getOn_b138 (n : Nat) (a0 : Nat) (i1 : Int32) (i2 : Int32) (i4 : Int32) (i6 : Int32) (ti0 : Int32) (σ : Sg) : Option (Int32 × Sg) :=
  (gR 5 a0 23 σ).bind fun q_4 =>
  (aI q_4 ((10 * i1) + ti0) σ).bind fun v_5 =>
  (xI q_4 ((10 * i1) + ti0) (v_5 + i6) σ).bind fun s_6 =>
  (gR 5 a0 24 s_6).bind fun q_7 =>
  (aI q_7 ((10 * i1) + ti0) s_6).bind fun v_8 =>
  (gR 5 a0 17 s_6).bind fun q_9 =>
  (aI q_9 i4 s_6).bind fun v_10 =>
  (xI q_7 ((10 * i1) + ti0) (v_8 + (i6 * v_10)) s_6).bind fun s_11 =>
  (gR 5 a0 17 s_11).bind fun q_12 =>
  (aI q_12 i4 s_11).bind fun v_13 =>
  (gR 5 a0 1 s_11).bind fun q_14 =>
  (aI q_14 i2 s_11).bind fun v_15 =>
  (gI 5 a0 31 s_11).bind fun v_16 =>
  (dv 2).bind fun u_17 =>
  (some ((i6 * v_13) - (v_15 * ((i6 * v_16) + ((i6 * (i6 + 1)) / 2))))).bind fun i8_18 =>
  (gR 5 a0 25 s_11).bind fun q_19 =>
  (aI q_19 i2 s_11).bind fun v_20 =>
  (xI q_19 i2 (v_20 + i6) s_11).bind fun s_21 =>
  (gR 5 a0 26 s_21).bind fun q_22 =>
  (aI q_22 i2 s_21).bind fun v_23 =>
  (xI q_22 i2 (v_23 + i8_18) s_21).bind fun s_24 =>
  (gR 5 a0 17 s_24).bind fun q_25 =>
  (aI q_25 i4 s_24).bind fun v_26 =>
  (gR 5 a0 1 s_24).bind fun q_27 =>
  (aI q_27 i2 s_24).bind fun v_28 =>
  (gI 5 a0 31 s_24).bind fun v_29 =>
  (some (v_26 - (v_28 * (v_29 + 1)))).bind fun i9_30 =>
  (gR 5 a0 27 s_24).bind fun q_31 =>
  (gR 5 a0 27 s_24).bind fun q_32 =>
  (aI q_32 i2 s_24).bind fun v_33 =>
  if i9_30 ≤ v_33 then
  (gR 5 a0 27 s_24).bind fun q_35 =>
    (aI q_35 i2 s_24).bind fun v_36 =>
    X5_getOn_b291 n a0 i6 q_31 i2 v_36 s_24
  else
  X5_getOn_b291 n a0 i6 q_31 i2 i9_30 s_24
noncomputable def X5_getOn_b84 (n : Nat) (a0 : Nat) (i1 : Int32) (i2 : Int32) (i4 : Int32) (i5 : Int32) (ti0 : Int32) (σ : Sg) : Option (Int32 × Sg) :=
  (gR 5 a0 22 σ).bind fun q_37 =>
  (xI q_37 i4 (i5 - ti0) σ).bind fun s_38 =>
  (gR 5 a0 19 s_38).bind fun q_39 =>
  (xI q_39 i4 ti0 s_38).bind fun s_40 =>
  if ti0 ≤ 0 then
  X5_getOn_b303 n ti0 s_40
  else
  (gR 5 a0 2 s_40).bind fun q_42 =>
    (aI q_42 i2 s_40).bind fun v_43 =>
    if (i2 + v_43) ≤ 9 then
    (gR 5 a0 2 s_40).bind fun q_45 =>
      (aI q_45 i2 s_40).bind fun v_46 =>
      X5_getOn_b138 n a0 i1 i2 i4 ti0 (i2 + v_46) s_40
    else
    X5_getOn_b138 n a0 i1 i2 i4 ti0 9 s_40
noncomputable def X5_getOn_b78 (n : Nat) (a0 : Nat) (i1 : Int32) (i2 : Int32) (i4 : Int32) (i5 : Int32) (σ : Sg) : Option (Int32 × Sg) :=
  X5_getOn_b84 n a0 i1 i2 i4 i5 0 σ
noncomputable def X5_getOn_b60 (n : Nat) (a0 : Nat) (i1 : Int32) (i2 : Int32) (i4 : Int32) (i5 : Int32) (ti0 : Int32) (σ : Sg) : Option (Int32 × Sg) :=
  (gR 5 a0 6 σ).bind fun q_47 =>
  (aI q_47 i1 σ).bind fun v_48 =>
  if v_48 = i2 then
  X5_getOn_b78 n a0 i1 i2 i4 i5 σ
  else
  if i2 = 9 then
    X5_getOn_b78 n a0 i1 i2 i4 i5 σ
    else
    X5_getOn_b84 n a0 i1 i2 i4 i5 ti0 σ
noncomputable def X5_getOn_b46 (n : Nat) (a0 : Nat) (i1 : Int32) (i2 : Int32) (i3 : Int32) (i4 : Int32) (ti0 : Int32) (σ : Sg) : Option (Int32 × Sg) :=
  if i3 ≤ ti0 then
  X5_getOn_b60 n a0 i1 i2 i4 ti0 i3 σ
  else
  X5_getOn_b60 n a0 i1 i2 i4 ti0 ti0 σ
noncomputable def X5_getOn_b23 (n : Nat) (a0 : Nat) (i1 : Int32) (i2 : Int32) (i3 : Int32) (i4 : Int32) (σ : Sg) : Option (Int32 × Sg) :=
  X5_getOn_b46 n a0 i1 i2 i3 i4 0 σ
noncomputable def f_X5_getOn (n : Nat) (a0 : Nat) (i1 : Int32) (i2 : Int32) (i3 : Int32) (σ : Sg) : Option (Int32 × Sg) :=
  (some ((10 * i1) + i2)).bind fun i4_52 =>
  if i2 = 9 then
  X5_getOn_b23 n a0 i1 i2 i3 i4_52 σ
  else
  (gR 5 a0 1 σ).bind fun q_54 =>
    (aI q_54 i2 σ).bind fun v_55 =>
    if v_55 = 0 then
    X5_getOn_b23 n a0 i1 i2 i3 i4_52 σ
    else
    (gR 5 a0 17 σ).bind fun q_57 =>
      (aI q_57 i4_52 σ).bind fun v_58 =>
      (gR 5 a0 1 σ).bind fun q_59 =>
      (aI q_59 i2 σ).bind fun v_60 =>
      (dv v_60).bind fun u_61 =>
      (gI 5 a0 31 σ).bind fun v_62 =>
      X5_getOn_b46 n a0 i1 i2 i3 i4_52 ((v_58 / v_60) - v_62) σ
-- ===== X5_lateAt
noncomputable def X5_lateAt_b56 (n : Nat) (K : Nat → Int32 → Int32 → Int32 → Int32 → Int32 → Sg → Option (Int32 × Sg)) (a0 : Nat) (i1 : Int32) (i2 : Int32) (i3 : Int32) (i5 : Int32) (ti0 : Int32) (ti1 : Int32) (σ : Sg) : Option (Int32 × Sg) :=
  (some (ti0 + ti1)).bind fun i4_1 =>
  (some (i5 + 1)).bind fun i5_2 =>
  K a0 i1 i2 i3 i4_1 i5_2 σ
noncomputable def X5_lateAt_b55 (n : Nat) (K : Nat → Int32 → Int32 → Int32 → Int32 → Int32 → Sg → Option (Int32 × Sg)) (a0 : Nat) (i1 : Int32) (i2 : Int32) (i3 : Int32) (i5 : Int32) (ti0 : Int32) (σ : Sg) : Option (Int32 × Sg) :=
  X5_lateAt_b56 n K a0 i1 i2 i3 i5 ti0 0 σ
noncomputable def X5_lateAt_b6 (n : Nat) (K : Nat → Int32 → Int32 → Int32 → Int32 → Int32 → Sg → Option (Int32 × Sg)) (a0 : Nat) (i1 : Int32) (i2 : Int32) (i3 : Int32) (i4 : Int32) (i5 : Int32) (σ : Sg) : Option (Int32 × Sg) :=
  (gI 5 a0 8 σ).bind fun v_3 =>
  if v_3 ≤ i5 then
  some (i4, σ)
  else
  if i5 = i3 then
    X5_lateAt_b55 n K a0 i1 i2 i3 i5 i4 σ
    else
    (gR 5 a0 9 σ).bind fun q_6 =>
      (aI q_6 i5 σ).bind fun v_7 =>
      if v_7 = i1 then
      (gR 5 a0 10 σ).bind fun q_9 =>
        (aI q_9 i5 σ).bind fun v_10 =>
        if v_10 = i2 then
        (gR 5 a0 11 σ).bind fun q_12 =>
          (aI q_12 i5 σ).bind fun v_13 =>
          X5_lateAt_b56 n K a0 i1 i2 i3 i5 i4 v_13 σ
        else
        X5_lateAt_b55 n K a0 i1 i2 i3 i5 i4 σ
      else
      X5_lateAt_b55 n K a0 i1 i2 i3 i5 i4 σ
noncomputable def X5_lateAt_run : Nat → Nat → Int32 → Int32 → Int32 → Int32 → Int32 → Sg → Option (Int32 × Sg)
  | 0 => fun _ _ _ _ _ _ _ => none
  | n + 1 => fun a0 i1 i2 i3 i4 i5 σ => X5_lateAt_b6 n (X5_lateAt_run n) a0 i1 i2 i3 i4 i5 σ
noncomputable def X5_lateAt_b0 (n : Nat) (K : Nat → Int32 → Int32 → Int32 → Int32 → Int32 → Sg → Option (Int32 × Sg)) (a0 : Nat) (i1 : Int32) (i2 : Int32) (i3 : Int32) (σ : Sg) : Option (Int32 × Sg) :=
  K a0 i1 i2 i3 0 0 σ
noncomputable def f_X5_lateAt (n : Nat) (a0 : Nat) (i1 : Int32) (i2 : Int32) (i3 : Int32) (σ : Sg) : Option (Int32 × Sg) := X5_lateAt_b0 n (X5_lateAt_run n) a0 i1 i2 i3 σ
-- ===== X5_atStop
noncomputable def X5_atStop_b109 (n : Nat) (K : Nat → Nat → Int32 → Int32 → Int32 → Int32 → Int32 → Int32 → Int32 → Int32 → Int32 → Int32 → Int32 → Int32 → Sg → Option (Sg)) (a0 : Nat) (i1 : Int32) (i2 : Int32) (i3 : Int32) (i4 : Int32) (i5 : Int32) (i6 : Int32) (i7 : Int32) (i8 : Int32) (i9 : Int32) (ta0 : Nat) (ti1 : Int32) (ti2 : Int32) (σ : Sg) : Option (Sg) :=
  (xI ta0 ti1 ti2 σ).bind fun s_1 =>
  (ck 5 a0 s_1).bind fun u_2 =>
  (f_X5_getOff n a0 i7 i1 i9 s_1).bind fun w_3 =>
  (some (i1 + 1)).bind fun i12_4 =>
  K 129 a0 i1 i2 i3 i4 i5 i6 i7 i8 i9 w_3.1 0 i12_4 w_3.2
noncomputable def X5_atStop_b102 (n : Nat) (K : Nat → Nat → Int32 → Int32 → Int32 → Int32 → Int32 → Int32 → Int32 → Int32 → Int32 → Int32 → Int32 → Int32 → Sg → Option (Sg)) (a0 : Nat) (i1 : Int32) (i2 : Int32) (i3 : Int32) (i4 : Int32) (i5 : Int32) (i6 : Int32) (i7 : Int32) (i8 : Int32) (i9 : Int32) (ta0 : Nat) (ti1 : Int32) (σ : Sg) : Option (Sg) :=
  (gR 5 a0 17 σ).bind fun q_5 =>
  (aI q_5 i8 σ).bind fun v_6 =>
  X5_atStop_b109 n K a0 i1 i2 i3 i4 i5 i6 i7 i8 i9 ta0 ti1 v_6 σ
noncomputable def X5_atStop_b68 (n : Nat) (K : Nat → Nat → Int32 → Int32 → Int32 → Int32 → Int32 → Int32 → Int32 → Int32 → Int32 → Int32 → Int32 → Int32 → Sg → Option (Sg)) (a0 : Nat) (i1 : Int32) (i2 : Int32) (i3 : Int32) (i4 : Int32) (i5 : Int32) (i6 : Int32) (i7 : Int32) (i8 : Int32) (ti0 : Int32) (σ : Sg) : Option (Sg) :=
  (gR 5 a0 17 σ).bind fun q_7 =>
  (gR 5 a0 7 σ).bind fun q_8 =>
  (aI q_8 3 σ).bind fun v_9 =>
  if v_9 = 0 then
  (gR 5 a0 17 σ).bind fun q_11 =>
    (aI q_11 i8 σ).bind fun v_12 =>
    if i5 ≤ v_12 then
    X5_atStop_b102 n K a0 i1 i2 i3 i4 i5 i6 i7 i8 ti0 q_7 i8 σ
    else
    X5_atStop_b109 n K a0 i1 i2 i3 i4 i5 i6 i7 i8 ti0 q_7 i8 i5 σ
  else
  X5_atStop_b102 n K a0 i1 i2 i3 i4 i5 i6 i7 i8 ti0 q_7 i8 σ
noncomputable def X5_atStop_b63 (n : Nat) (K : Nat → Nat → Int32 → Int32 → Int32 → Int32 → Int32 → Int32 → Int32 → Int32 → Int32 → Int32 → Int32 → Int32 → Sg → Option (Sg)) (a0 : Nat) (i1 : Int32) (i2 : Int32) (i3 : Int32) (i4 : Int32) (i5 : Int32) (i6 : Int32) (i7 : Int32) (i8 : Int32) (σ : Sg) : Option (Sg) :=
  X5_atStop_b68 n K a0 i1 i2 i3 i4 i5 i6 i7 i8 1 σ
noncomputable def X5_atStop_b22 (n : Nat) (K : Nat → Nat → Int32 → Int32 → Int32 → Int32 → Int32 → Int32 → Int32 → Int32 → Int32 → Int32 → Int32 → Int32 → Sg → Option (Sg)) (a0 : Nat) (i1 : Int32) (i2 : Int32) (i3 : Int32) (i4 : Int32) (i5 : Int32) (i6 : Int32) (σ : Sg) : Option (Sg) :=
  if i3 ≤ i6 then
  some σ
  else
  (gR 5 a0 28 σ).bind fun q_15 =>
    (aI q_15 i6 σ).bind fun v_16 =>
    (some ((10 * v_16) + i1)).bind fun i8_17 =>
    if i1 = 9 then
    X5_atStop_b63 n K a0 i1 i2 i3 i4 i5 i6 v_16 i8_17 σ
    else
    (gR 5 a0 6 σ).bind fun q_19 =>
      (aI q_19 v_16 σ).bind fun v_20 =>
      if v_20 = i1 then
      X5_atStop_b63 n K a0 i1 i2 i3 i4 i5 i6 v_16 i8_17 σ
      else
      X5_atStop_b68 n K a0 i1 i2 i3 i4 i5 i6 v_16 i8_17 0 σ
noncomputable def X5_atStop_b405 (n : Nat) (K : Nat → Nat → Int32 → Int32 → Int32 → Int32 → Int32 → Int32 → Int32 → Int32 → Int32 → Int32 → Int32 → Int32 → Sg → Option (Sg)) (a0 : Nat) (i1 : Int32) (i2 : Int32) (i3 : Int32) (i5 : Int32) (i6 : Int32) (ti0 : Int32) (σ : Sg) : Option (Sg) :=
  (some (i6 + 1)).bind fun i6_22 =>
  K 22 a0 i1 i2 i3 ti0 i5 i6_22 0 0 0 0 0 0 σ
noncomputable def X5_atStop_b403 (n : Nat) (K : Nat → Nat → Int32 → Int32 → Int32 → Int32 → Int32 → Int32 → Int32 → Int32 → Int32 → Int32 → Int32 → Int32 → Sg → Option (Sg)) (a0 : Nat) (i1 : Int32) (i2 : Int32) (i3 : Int32) (i4 : Int32) (i5 : Int32) (i6 : Int32) (σ : Sg) : Option (Sg) :=
  X5_atStop_b405 n K a0 i1 i2 i3 i5 i6 i4 σ
noncomputable def X5_atStop_b384 (n : Nat) (K : Nat → Nat → Int32 → Int32 → Int32 → Int32 → Int32 → Int32 → Int32 → Int32 → Int32 → Int32 → Int32 → Int32 → Sg → Option (Sg)) (a0 : Nat) (i1 : Int32) (i2 : Int32) (i3 : Int32) (i4 : Int32) (i6 : Int32) (i9 : Int32) (i13 : Int32) (ti0 : Int32) (σ : Sg) : Option (Sg) :=
  if i9 = 0 then
  if i13 ≤ i4 then
    X5_atStop_b403 n K a0 i1 i2 i3 i4 ti0 i6 σ
    else
    X5_atStop_b405 n K a0 i1 i2 i3 ti0 i6 i13 σ
  else
  X5_atStop_b403 n K a0 i1 i2 i3 i4 ti0 i6 σ
noncomputable def X5_atStop_b361 (n : Nat) (K : Nat → Nat → Int32 → Int32 → Int32 → Int32 → Int32 → Int32 → Int32 → Int32 → Int32 → Int32 → Int32 → Int32 → Sg → Option (Sg)) (a0 : Nat) (i1 : Int32) (i2 : Int32) (i3 : Int32) (i4 : Int32) (i5 : Int32) (i6 : Int32) (i8 : Int32) (i9 : Int32) (i13 : Int32) (σ : Sg) : Option (Sg) :=
  (gR 5 a0 18 σ).bind fun q_25 =>
  (xI q_25 i8 i13 σ).bind fun s_26 =>
  if i13 ≤ i5 then
  X5_atStop_b384 n K a0 i1 i2 i3 i4 i6 i9 i13 i5 s_26
  else
  X5_atStop_b384 n K a0 i1 i2 i3 i4 i6 i9 i13 i13 s_26
noncomputable def X5_atStop_b359 (n : Nat) (K : Nat → Nat → Int32 → Int32 → Int32 → Int32 → Int32 → Int32 → Int32 → Int32 → Int32 → Int32 → Int32 → Int32 → Sg → Option (Sg)) (a0 : Nat) (i1 : Int32) (i2 : Int32) (i3 : Int32) (i4 : Int32) (i5 : Int32) (i6 : Int32) (i8 : Int32) (i9 : Int32) (ti0 : Int32) (σ : Sg) : Option (Sg) :=
  X5_atStop_b361 n K a0 i1 i2 i3 i4 i5 i6 i8 i9 ti0 σ
noncomputable def X5_atStop_b311 (n : Nat) (K : Nat → Nat → Int32 → Int32 → Int32 → Int32 → Int32 → Int32 → Int32 → Int32 → Int32 → Int32 → Int32 → Int32 → Sg → Option (Sg)) (a0 : Nat) (i1 : Int32) (i2 : Int32) (i3 : Int32) (i4 : Int32) (i5 : Int32) (i6 : Int32) (i8 : Int32) (i9 : Int32) (i13 : Int32) (σ : Sg) : Option (Sg) :=
  if i9 = 0 then
  (gR 5 a0 15 σ).bind fun q_29 =>
    (aI q_29 i1 σ).bind fun v_30 =>
    if v_30 = 2 then
    if i4 < 0 then
      X5_atStop_b361 n K a0 i1 i2 i3 i4 i5 i6 i8 i9 i13 σ
      else
      (gR 5 a0 16 σ).bind fun q_33 =>
        (aI q_33 i1 σ).bind fun v_34 =>
        if (i4 + v_34) ≤ i13 then
        X5_atStop_b359 n K a0 i1 i2 i3 i4 i5 i6 i8 i9 i13 σ
        else
        (gR 5 a0 16 σ).bind fun q_36 =>
          (aI q_36 i1 σ).bind fun v_37 =>
          X5_atStop_b359 n K a0 i1 i2 i3 i4 i5 i6 i8 i9 (i4 + v_37) σ
    else
    X5_atStop_b361 n K a0 i1 i2 i3 i4 i5 i6 i8 i9 i13 σ
  else
  X5_atStop_b361 n K a0 i1 i2 i3 i4 i5 i6 i8 i9 i13 σ
noncomputable def X5_atStop_b309 (n : Nat) (K : Nat → Nat → Int32 → Int32 → Int32 → Int32 → Int32 → Int32 → Int32 → Int32 → Int32 → Int32 → Int32 → Int32 → Sg → Option (Sg)) (a0 : Nat) (i1 : Int32) (i2 : Int32) (i3 : Int32) (i4 : Int32) (i5 : Int32) (i6 : Int32) (i8 : Int32) (i9 : Int32) (ti0 : Int32) (σ : Sg) : Option (Sg) :=
  X5_atStop_b311 n K a0 i1 i2 i3 i4 i5 i6 i8 i9 ti0 σ
noncomputable def X5_atStop_b255 (n : Nat) (K : Nat → Nat → Int32 → Int32 → Int32 → Int32 → Int32 → Int32 → Int32 → Int32 → Int32 → Int32 → Int32 → Int32 → Sg → Option (Sg)) (a0 : Nat) (i1 : Int32) (i2 : Int32) (i3 : Int32) (i4 : Int32) (i5 : Int32) (i6 : Int32) (i7 : Int32) (i8 : Int32) (i9 : Int32) (ti0 : Int32) (ti1 : Int32) (σ : Sg) : Option (Sg) :=
  (some (ti0 + ti1)).bind fun i13_38 =>
  if i9 = 0 then
  (gR 5 a0 15 σ).bind fun q_40 =>
    (aI q_40 i1 σ).bind fun v_41 =>
    if v_41 = 1 then
    (gR 5 a0 17 σ).bind fun q_43 =>
      (aI q_43 (10 * i7) σ).bind fun v_44 =>
      (gR 5 a0 16 σ).bind fun q_45 =>
      (aI q_45 i1 σ).bind fun v_46 =>
      (some (v_44 + (10 * v_46))).bind fun i14_47 =>
      if i14_47 ≤ i13_38 then
      X5_atStop_b309 n K a0 i1 i2 i3 i4 i5 i6 i8 i9 i13_38 σ
      else
      X5_atStop_b309 n K a0 i1 i2 i3 i4 i5 i6 i8 i9 i14_47 σ
    else
    X5_atStop_b311 n K a0 i1 i2 i3 i4 i5 i6 i8 i9 i13_38 σ
  else
  X5_atStop_b311 n K a0 i1 i2 i3 i4 i5 i6 i8 i9 i13_38 σ
noncomputable def X5_atStop_b236 (n : Nat) (K : Nat → Nat → Int32 → Int32 → Int32 → Int32 → Int32 → Int32 → Int32 → Int32 → Int32 → Int32 → Int32 → Int32 → Sg → Option (Sg)) (a0 : Nat) (i1 : Int32) (i2 : Int32) (i3 : Int32) (i4 : Int32) (i5 : Int32) (i6 : Int32) (i7 : Int32) (i8 : Int32) (i9 : Int32) (ti0 : Int32) (ti1 : Int32) (σ : Sg) : Option (Sg) :=
  if i1 = 9 then
  X5_atStop_b255 n K a0 i1 i2 i3 i4 i5 i6 i7 i8 i9 (ti0 + ti1) 0 σ
  else
  (ck 5 a0 σ).bind fun u_50 =>
    (f_X5_lateAt n a0 i7 i1 i2 σ).bind fun w_51 =>
    X5_atStop_b255 n K a0 i1 i2 i3 i4 i5 i6 i7 i8 i9 (ti0 + ti1) w_51.1 w_51.2
noncomputable def X5_atStop_b129 (n : Nat) (K : Nat → Nat → Int32 → Int32 → Int32 → Int32 → Int32 → Int32 → Int32 → Int32 → Int32 → Int32 → Int32 → Int32 → Sg → Option (Sg)) (a0 : Nat) (i1 : Int32) (i2 : Int32) (i3 : Int32) (i4 : Int32) (i5 : Int32) (i6 : Int32) (i7 : Int32) (i8 : Int32) (i9 : Int32) (i10 : Int32) (i11 : Int32) (i12 : Int32) (σ : Sg) : Option (Sg) :=
  if 10 ≤ i12 then
  (gR 5 a0 5 σ).bind fun q_53 =>
    (aI q_53 i7 σ).bind fun v_54 =>
    (ck 5 a0 σ).bind fun u_55 =>
    (f_X5_getOn n a0 i7 i1 (v_54 - i11) σ).bind fun w_56 =>
    (gR 5 a0 21 w_56.2).bind fun q_57 =>
    (xI q_57 i8 (i11 + w_56.1) w_56.2).bind fun s_58 =>
    (gR 5 a0 17 s_58).bind fun q_59 =>
    (aI q_59 i8 s_58).bind fun v_60 =>
    if (i10 + w_56.1) ≤ 0 then
    X5_atStop_b236 n K a0 i1 i2 i3 i4 i5 i6 i7 i8 i9 v_60 0 s_58
    else
    (gR 5 a0 7 s_58).bind fun q_62 =>
      (aI q_62 0 s_58).bind fun v_63 =>
      (gR 5 a0 7 s_58).bind fun q_64 =>
      (aI q_64 1 s_58).bind fun v_65 =>
      (gR 5 a0 7 s_58).bind fun q_66 =>
      (aI q_66 2 s_58).bind fun v_67 =>
      X5_atStop_b236 n K a0 i1 i2 i3 i4 i5 i6 i7 i8 i9 v_60 ((v_63 + (v_65 * w_56.1)) + (v_67 * i10)) s_58
  else
  (gR 5 a0 23 σ).bind fun q_68 =>
    (aI q_68 ((10 * i7) + i12) σ).bind fun v_69 =>
    (some (i11 + v_69)).bind fun i11_70 =>
    (some (i12 + 1)).bind fun i12_71 =>
    K 129 a0 i1 i2 i3 i4 i5 i6 i7 i8 i9 i10 i11_70 i12_71 σ
noncomputable def X5_atStop_run : Nat → Nat → Nat → Int32 → Int32 → Int32 → Int32 → Int32 → Int32 → Int32 → Int32 → Int32 → Int32 → Int32 → Int32 → Sg → Option (Sg)
  | 0 => fun _ _ _ _ _ _ _ _ _ _ _ _ _ _ _ => none
  | n + 1 => fun hd a0 i1 i2 i3 i4 i5 i6 i7 i8 i9 i10 i11 i12 σ => if hd = 22 then X5_atStop_b22 n (X5_atStop_run n) a0 i1 i2 i3 i4 i5 i6 σ else X5_atStop_b129 n (X5_atStop_run n) a0 i1 i2 i3 i4 i5 i6 i7 i8 i9 i10 i11 i12 σ
noncomputable def X5_atStop_b0 (n : Nat) (K : Nat → Nat → Int32 → Int32 → Int32 → Int32 → Int32 → Int32 → Int32 → Int32 → Int32 → Int32 → Int32 → Int32 → Sg → Option (Sg)) (a0 : Nat) (i1 : Int32) (i2 : Int32) (σ : Sg) : Option (Sg) :=
  (ck 5 a0 σ).bind fun u_72 =>
  (f_X5_layOrder n a0 i1 σ).bind fun w_73 =>
  (pI 5 a0 31 0 w_73.2).bind fun s_74 =>
  K 22 a0 i1 i2 w_73.1 (-6) (-6) 0 0 0 0 0 0 0 s_74
noncomputable def f_X5_atStop (n : Nat) (a0 : Nat) (i1 : Int32) (i2 : Int32) (σ : Sg) : Option (Sg) := X5_atStop_b0 n (X5_atStop_run n) a0 i1 i2 σ
-- ===== X5_lay
noncomputable def X5_lay_b12 (n : Nat) (K : Nat → Nat → Int32 → Int32 → Sg → Option (Sg)) (a0 : Nat) (i1 : Int32) (i2 : Int32) (σ : Sg) : Option (Sg) :=
  if 80 ≤ i2 then
  K 56 a0 i1 0 σ
  else
  (gR 5 a0 17 σ).bind fun q_2 =>
    (xI q_2 i2 (-6) σ).bind fun s_3 =>
    (gR 5 a0 18 s_3).bind fun q_4 =>
    (xI q_4 i2 (-6) s_3).bind fun s_5 =>
    (gR 5 a0 23 s_5).bind fun q_6 =>
    (xI q_6 i2 0 s_5).bind fun s_7 =>
    (gR 5 a0 24 s_7).bind fun q_8 =>
    (xI q_8 i2 0 s_7).bind fun s_9 =>
    (some (i2 + 1)).bind fun i2_10 =>
    K 12 a0 i1 i2_10 s_9
noncomputable def X5_lay_b56 (n : Nat) (K : Nat → Nat → Int32 → Int32 → Sg → Option (Sg)) (a0 : Nat) (i1 : Int32) (i2 : Int32) (σ : Sg) : Option (Sg) :=
  if 9 ≤ i2 then
  K 91 a0 i1 0 σ
  else
  (gR 5 a0 25 σ).bind fun q_12 =>
    (xI q_12 i2 0 σ).bind fun s_13 =>
    (gR 5 a0 26 s_13).bind fun q_14 =>
    (xI q_14 i2 0 s_13).bind fun s_15 =>
    (gR 5 a0 27 s_15).bind fun q_16 =>
    (xI q_16 i2 0 s_15).bind fun s_17 =>
    (some (i2 + 1)).bind fun i2_18 =>
    K 56 a0 i1 i2_18 s_17
noncomputable def X5_lay_b91 (n : Nat) (K : Nat → Nat → Int32 → Int32 → Sg → Option (Sg)) (a0 : Nat) (i1 : Int32) (i2 : Int32) (σ : Sg) : Option (Sg) :=
  if 10 ≤ i2 then
  some σ
  else
  (ck 5 a0 σ).bind fun u_20 =>
    (f_X5_atStop n a0 i2 i1 σ).bind fun w_21 =>
    (some (i2 + 1)).bind fun i2_22 =>
    K 91 a0 i1 i2_22 w_21
noncomputable def X5_lay_run : Nat → Nat → Nat → Int32 → Int32 → Sg → Option (Sg)
  | 0 => fun _ _ _ _ _ => none
  | n + 1 => fun hd a0 i1 i2 σ => if hd = 12 then X5_lay_b12 n (X5_lay_run n) a0 i1 i2 σ else if hd = 56 then X5_lay_b56 n (X5_lay_run n) a0 i1 i2 σ else X5_lay_b91 n (X5_lay_run n) a0 i1 i2 σ
noncomputable def X5_lay_b0 (n : Nat) (K : Nat → Nat → Int32 → Int32 → Sg → Option (Sg)) (a0 : Nat) (i1 : Int32) (σ : Sg) : Option (Sg) :=
  (pI 5 a0 29 0 σ).bind fun s_23 =>
  (pI 5 a0 30 0 s_23).bind fun s_24 =>
  K 12 a0 i1 0 s_24
noncomputable def f_X5_lay (n : Nat) (a0 : Nat) (i1 : Int32) (σ : Sg) : Option (Sg) := X5_lay_b0 n (X5_lay_run n) a0 i1 σ
-- ===== X5_at
noncomputable def X5_at_b18 (n : Nat) (σ : Sg) : Option (Int32 × Sg) :=
  some ((-1), σ)
noncomputable def f_X5_at (n : Nat) (a0 : Nat) (i1 : Int32) (i2 : Int32) (i3 : Int32) (σ : Sg) : Option (Int32 × Sg) :=
  (ck 5 a0 σ).bind fun u_1 =>
  (f_X5_isBus n a0 i1 σ).bind fun w_2 =>
  if w_2.1 = 0 then
  X5_at_b18 n w_2.2
  else
  (f_X5_in n i2 0 9 w_2.2).bind fun w_4 =>
    if w_4.1 = 0 then
    X5_at_b18 n w_4.2
    else
    (f_X5_in n i3 0 5 w_4.2).bind fun w_6 =>
      if w_6.1 = 0 then
      some ((-2), w_6.2)
      else
      (ck 5 a0 w_6.2).bind fun u_8 =>
        (f_X5_lay n a0 (-6) w_6.2).bind fun w_9 =>
        (some ((10 * i1) + i2)).bind fun i4_10 =>
        (gR 5 a0 17 w_9).bind fun q_11 =>
        (aI q_11 i4_10 w_9).bind fun v_12 =>
        if 0 ≤ v_12 then
        if i3 = 0 then
          (gR 5 a0 17 w_9).bind fun q_29 =>
            (aI q_29 i4_10 w_9).bind fun v_30 =>
            some (v_30, w_9)
          else
          if i3 = 1 then
            (gR 5 a0 18 w_9).bind fun q_27 =>
              (aI q_27 i4_10 w_9).bind fun v_28 =>
              some (v_28, w_9)
            else
            if i3 = 2 then
              (gR 5 a0 19 w_9).bind fun q_25 =>
                (aI q_25 i4_10 w_9).bind fun v_26 =>
                some (v_26, w_9)
              else
              if i3 = 3 then
                (gR 5 a0 20 w_9).bind fun q_23 =>
                  (aI q_23 i4_10 w_9).bind fun v_24 =>
                  some (v_24, w_9)
                else
                if i3 = 4 then
                  (gR 5 a0 21 w_9).bind fun q_21 =>
                    (aI q_21 i4_10 w_9).bind fun v_22 =>
                    some (v_22, w_9)
                  else
                  (gR 5 a0 22 w_9).bind fun q_19 =>
                    (aI q_19 i4_10 w_9).bind fun v_20 =>
                    some (v_20, w_9)
        else
        some ((-6), w_9)
-- ===== X3_add
noncomputable def f_X3_add (n : Nat) (a0 : Nat) (i1 : Int32) (σ : Sg) : Option (Int32 × Sg) :=
  (gR 3 a0 0 σ).bind fun q_1 =>
  (gI 3 a0 1 σ).bind fun v_2 =>
  (xI q_1 v_2 i1 σ).bind fun s_3 =>
  (gI 3 a0 1 s_3).bind fun v_4 =>
  (pI 3 a0 1 (v_4 + 1) s_3).bind fun s_5 =>
  (gI 3 a0 1 s_5).bind fun v_6 =>
  some (v_6, s_5)
-- ===== X4_say
noncomputable def X4_say_b12 (n : Nat) (σ : Sg) : Option (Int32 × Sg) :=
  some ((-2), σ)
noncomputable def f_X4_say (n : Nat) (a0 : Nat) (i1 : Int32) (σ : Sg) : Option (Int32 × Sg) :=
  if i1 < 33 then
  X4_say_b12 n σ
  else
  if i1 ≤ 126 then
    (gR 4 a0 1 σ).bind fun q_3 =>
      (gI 3 q_3 1 σ).bind fun v_4 =>
      if v_4 < 40 then
      (gR 4 a0 1 σ).bind fun q_6 =>
        (ck 3 q_6 σ).bind fun u_7 =>
        (f_X3_add n q_6 i1 σ).bind fun w_8 =>
        some (w_8.1, w_8.2)
      else
      some ((-4), σ)
    else
    X4_say_b12 n σ
-- ===== X5_say
noncomputable def f_X5_say (n : Nat) (a0 : Nat) (i1 : Int32) (σ : Sg) : Option (Int32 × Sg) :=
  (f_X5_in n i1 33 126 σ).bind fun w_1 =>
  if w_1.1 = 0 then
  some ((-2), w_1.2)
  else
  (gI 5 a0 12 w_1.2).bind fun v_3 =>
    if v_3 = 40 then
    some ((-4), w_1.2)
    else
    (gR 5 a0 13 w_1.2).bind fun q_5 =>
      (gI 5 a0 12 w_1.2).bind fun v_6 =>
      (xI q_5 v_6 i1 w_1.2).bind fun s_7 =>
      (gI 5 a0 12 s_7).bind fun v_8 =>
      (pI 5 a0 12 (v_8 + 1) s_7).bind fun s_9 =>
      (gI 5 a0 12 s_9).bind fun v_10 =>
      some (v_10, s_9)
-- ===== X4_wipe
noncomputable def f_X4_wipe (n : Nat) (a0 : Nat) (σ : Sg) : Option (Int32 × Sg) :=
  (gR 4 a0 1 σ).bind fun q_1 =>
  (gI 3 q_1 1 σ).bind fun v_2 =>
  (gR 4 a0 1 σ).bind fun q_3 =>
  (pI 3 q_3 1 0 σ).bind fun s_4 =>
  some (v_2, s_4)
-- ===== X5_wipe
noncomputable def f_X5_wipe (n : Nat) (a0 : Nat) (σ : Sg) : Option (Int32 × Sg) :=
  (gI 5 a0 12 σ).bind fun v_1 =>
  (pI 5 a0 12 0 σ).bind fun s_2 =>
  some (v_1, s_2)
-- ===== X2_clear
noncomputable def f_X2_clear (n : Nat) (a0 : Nat) (σ : Sg) : Option (Sg) :=
  (gR 2 a0 0 σ).bind fun q_1 =>
  (f_J7_fill_53178 n q_1 0 σ).bind fun w_2 =>
  (gR 2 a0 1 w_2).bind fun q_3 =>
  (f_J7_fill_53178 n q_3 0 w_2).bind fun w_4 =>
  (pI 2 a0 2 0 w_4).bind fun s_5 =>
  some s_5
-- ===== X3_isDigit
noncomputable def X3_isDigit_b16 (n : Nat) (σ : Sg) : Option (Int32 × Sg) :=
  rz 0 σ
noncomputable def f_X3_isDigit (n : Nat) (i0 : Int32) (σ : Sg) : Option (Int32 × Sg) :=
  if i0 < 48 then
  X3_isDigit_b16 n σ
  else
  if 57 < i0 then
    X3_isDigit_b16 n σ
    else
    rz 1 σ
-- ===== X3_readsStop
noncomputable def X3_readsStop_b19 (n : Nat) (σ : Sg) : Option (Int32 × Sg) :=
  rz 0 σ
noncomputable def f_X3_readsStop (n : Nat) (a0 : Nat) (i1 : Int32) (a2 : Nat) (σ : Sg) : Option (Int32 × Sg) :=
  (f_X3_isDigit n i1 σ).bind fun w_1 =>
  if w_1.1 = 0 then
  X3_readsStop_b19 n w_1.2
  else
  (gR 2 a2 0 w_1.2).bind fun q_3 =>
    (aI q_3 (i1 - 48) w_1.2).bind fun v_4 =>
    if v_4 = 0 then
    (pI 3 a0 3 (i1 - 48) w_1.2).bind fun s_6 =>
      (pI 3 a0 2 (-1) s_6).bind fun s_7 =>
      rz 1 s_7
    else
    X3_readsStop_b19 n w_1.2
-- ===== X3_readsLetter
noncomputable def X3_readsLetter_b14 (n : Nat) (a0 : Nat) (i1 : Int32) (a2 : Nat) (σ : Sg) : Option (Int32 × Sg) :=
  (gR 2 a2 0 σ).bind fun q_1 =>
  (gI 3 a0 3 σ).bind fun v_2 =>
  (xI q_1 v_2 i1 σ).bind fun s_3 =>
  (gI 2 a2 2 s_3).bind fun v_4 =>
  (pI 2 a2 2 (v_4 + 1) s_3).bind fun s_5 =>
  (pI 3 a0 2 0 s_5).bind fun s_6 =>
  rz 1 s_6
noncomputable def f_X3_readsLetter (n : Nat) (a0 : Nat) (i1 : Int32) (a2 : Nat) (σ : Sg) : Option (Int32 × Sg) :=
  if i1 = 99 then
  X3_readsLetter_b14 n a0 i1 a2 σ
  else
  if i1 = 103 then
    X3_readsLetter_b14 n a0 i1 a2 σ
    else
    rz 0 σ
-- ===== X3_readsBetween
noncomputable def X3_readsBetween_b17 (n : Nat) (σ : Sg) : Option (Int32 × Sg) :=
  rz 0 σ
noncomputable def f_X3_readsBetween (n : Nat) (a0 : Nat) (a1 : Nat) (σ : Sg) : Option (Int32 × Sg) :=
  (gI 3 a0 2 σ).bind fun v_1 =>
  if v_1 < 1 then
  X3_readsBetween_b17 n σ
  else
  (gI 2 a1 2 σ).bind fun v_3 =>
    if v_3 < 10 then
    (pI 3 a0 2 (-2) σ).bind fun s_5 =>
      rz 1 s_5
    else
    X3_readsBetween_b17 n σ
-- ===== X3_readsDigit
noncomputable def X3_readsDigit_b15 (n : Nat) (σ : Sg) : Option (Int32 × Sg) :=
  rz 0 σ
noncomputable def f_X3_readsDigit (n : Nat) (a0 : Nat) (i1 : Int32) (a2 : Nat) (σ : Sg) : Option (Int32 × Sg) :=
  (f_X3_isDigit n i1 σ).bind fun w_1 =>
  if w_1.1 = 0 then
  X3_readsDigit_b15 n w_1.2
  else
  (gI 3 a0 2 w_1.2).bind fun v_3 =>
    if v_3 < 3 then
    (gR 2 a2 1 w_1.2).bind fun q_5 =>
      (gI 3 a0 3 w_1.2).bind fun v_6 =>
      (gR 2 a2 1 w_1.2).bind fun q_7 =>
      (gI 3 a0 3 w_1.2).bind fun v_8 =>
      (aI q_7 v_8 w_1.2).bind fun v_9 =>
      (xI q_5 v_6 (((v_9 * 10) + i1) - 48) w_1.2).bind fun s_10 =>
      (gI 3 a0 2 s_10).bind fun v_11 =>
      (pI 3 a0 2 (v_11 + 1) s_10).bind fun s_12 =>
      rz 1 s_12
    else
    X3_readsDigit_b15 n w_1.2
-- ===== X3_reads
noncomputable def f_X3_reads (n : Nat) (a0 : Nat) (i1 : Int32) (a2 : Nat) (σ : Sg) : Option (Int32 × Sg) :=
  (gI 3 a0 2 σ).bind fun v_1 =>
  if v_1 = (-2) then
  (ck 3 a0 σ).bind fun u_12 =>
    (f_X3_readsStop n a0 i1 a2 σ).bind fun w_13 =>
    rz w_13.1 w_13.2
  else
  (gI 3 a0 2 σ).bind fun v_3 =>
    if v_3 = (-1) then
    (ck 3 a0 σ).bind fun u_10 =>
      (f_X3_readsLetter n a0 i1 a2 σ).bind fun w_11 =>
      rz w_11.1 w_11.2
    else
    if i1 = 59 then
      (ck 3 a0 σ).bind fun u_8 =>
        (f_X3_readsBetween n a0 a2 σ).bind fun w_9 =>
        rz w_9.1 w_9.2
      else
      (ck 3 a0 σ).bind fun u_6 =>
        (f_X3_readsDigit n a0 i1 a2 σ).bind fun w_7 =>
        rz w_7.1 w_7.2
-- ===== X3_readInto
noncomputable def X3_readInto_b17 (n : Nat) (K : Nat → Nat → Int32 → Sg → Option (Int32 × Sg)) (a0 : Nat) (a1 : Nat) (i2 : Int32) (σ : Sg) : Option (Int32 × Sg) :=
  (gI 3 a0 1 σ).bind fun v_1 =>
  if v_1 ≤ i2 then
  (gI 3 a0 2 σ).bind fun v_3 =>
    if 1 ≤ v_3 then
    some ((-6), σ)
    else
    (gI 3 a0 1 σ).bind fun v_5 =>
      some (v_5, σ)
  else
  (gR 3 a0 0 σ).bind fun q_6 =>
    (aI q_6 i2 σ).bind fun v_7 =>
    (ck 3 a0 σ).bind fun u_8 =>
    (f_X3_reads n a0 v_7 a1 σ).bind fun w_9 =>
    if w_9.1 = 0 then
    some (i2, w_9.2)
    else
    (some (i2 + 1)).bind fun i2_11 =>
      K a0 a1 i2_11 w_9.2
noncomputable def X3_readInto_run : Nat → Nat → Nat → Int32 → Sg → Option (Int32 × Sg)
  | 0 => fun _ _ _ _ => none
  | n + 1 => fun a0 a1 i2 σ => X3_readInto_b17 n (X3_readInto_run n) a0 a1 i2 σ
noncomputable def X3_readInto_b0 (n : Nat) (K : Nat → Nat → Int32 → Sg → Option (Int32 × Sg)) (a0 : Nat) (a1 : Nat) (σ : Sg) : Option (Int32 × Sg) :=
  (ck 2 a1 σ).bind fun u_12 =>
  (f_X2_clear n a1  σ).bind fun w_13 =>
  (pI 3 a0 2 (-2) w_13).bind fun s_14 =>
  (pI 3 a0 3 0 s_14).bind fun s_15 =>
  K a0 a1 0 s_15
noncomputable def f_X3_readInto (n : Nat) (a0 : Nat) (a1 : Nat) (σ : Sg) : Option (Int32 × Sg) := X3_readInto_b0 n (X3_readInto_run n) a0 a1 σ
-- ===== X4_fault
noncomputable def f_X4_fault (n : Nat) (a0 : Nat) (σ : Sg) : Option (Int32 × Sg) :=
  (gR 4 a0 1 σ).bind fun q_1 =>
  (gR 4 a0 5 σ).bind fun q_2 =>
  (ck 3 q_1 σ).bind fun u_3 =>
  (f_X3_readInto n q_1 q_2 σ).bind fun w_4 =>
  some (w_4.1, w_4.2)
-- ===== X5_faultOf
noncomputable def X5_faultOf_b143 (n : Nat) (K : Nat → Int32 → Int32 → Int32 → Sg → Option (Int32 × Sg)) (a0 : Nat) (i2 : Int32) (i3 : Int32) (i6 : Int32) (σ : Sg) : Option (Int32 × Sg) :=
  if 0 ≤ i6 then
  (some (i3 + 1)).bind fun i3_2 =>
    K a0 i6 i2 i3_2 σ
  else
  some (i3, σ)
noncomputable def X5_faultOf_b93 (n : Nat) (K : Nat → Int32 → Int32 → Int32 → Sg → Option (Int32 × Sg)) (a0 : Nat) (i2 : Int32) (i3 : Int32) (σ : Sg) : Option (Int32 × Sg) :=
  X5_faultOf_b143 n K a0 i2 i3 2 σ
noncomputable def X5_faultOf_b121 (n : Nat) (K : Nat → Int32 → Int32 → Int32 → Sg → Option (Int32 × Sg)) (a0 : Nat) (i1 : Int32) (i2 : Int32) (i3 : Int32) (i4 : Int32) (i6 : Int32) (σ : Sg) : Option (Int32 × Sg) :=
  if i1 ≤ 2 then
  X5_faultOf_b143 n K a0 i2 i3 i6 σ
  else
  if i4 = 59 then
    if i2 = 1023 then
      X5_faultOf_b143 n K a0 i2 i3 i6 σ
      else
      X5_faultOf_b143 n K a0 i2 i3 0 σ
    else
    X5_faultOf_b143 n K a0 i2 i3 i6 σ
noncomputable def X5_faultOf_b99 (n : Nat) (K : Nat → Int32 → Int32 → Int32 → Sg → Option (Int32 × Sg)) (a0 : Nat) (i1 : Int32) (i2 : Int32) (i3 : Int32) (i4 : Int32) (i5 : Int32) (i6 : Int32) (σ : Sg) : Option (Int32 × Sg) :=
  (f_X5_in n i1 2 4 σ).bind fun w_6 =>
  if w_6.1 = 0 then
  X5_faultOf_b121 n K a0 i1 i2 i3 i4 i6 w_6.2
  else
  if i5 = 0 then
    X5_faultOf_b121 n K a0 i1 i2 i3 i4 i6 w_6.2
    else
    (some (i1 + 1)).bind fun i6_9 =>
      X5_faultOf_b143 n K a0 i2 i3 i6_9 w_6.2
noncomputable def X5_faultOf_b74 (n : Nat) (K : Nat → Int32 → Int32 → Int32 → Sg → Option (Int32 × Sg)) (a0 : Nat) (i1 : Int32) (i2 : Int32) (i3 : Int32) (i4 : Int32) (i5 : Int32) (i6 : Int32) (σ : Sg) : Option (Int32 × Sg) :=
  if i1 = 1 then
  if i4 = 99 then
    X5_faultOf_b93 n K a0 i2 i3 σ
    else
    if i4 = 103 then
      X5_faultOf_b93 n K a0 i2 i3 σ
      else
      X5_faultOf_b99 n K a0 i1 i2 i3 i4 i5 i6 σ
  else
  X5_faultOf_b99 n K a0 i1 i2 i3 i4 i5 i6 σ
noncomputable def X5_faultOf_b6 (n : Nat) (K : Nat → Int32 → Int32 → Int32 → Sg → Option (Int32 × Sg)) (a0 : Nat) (i1 : Int32) (i2 : Int32) (i3 : Int32) (σ : Sg) : Option (Int32 × Sg) :=
  (gI 5 a0 12 σ).bind fun v_13 =>
  if v_13 ≤ i3 then
  if i1 ≤ 2 then
    (gI 5 a0 12 σ).bind fun v_16 =>
      some (v_16, σ)
    else
    some ((-6), σ)
  else
  (gR 5 a0 13 σ).bind fun q_17 =>
    (aI q_17 i3 σ).bind fun v_18 =>
    (f_X5_in n v_18 48 57 σ).bind fun w_19 =>
    if i1 = 0 then
    if w_19.1 = 0 then
      X5_faultOf_b74 n K a0 i1 i2 i3 v_18 w_19.1 (-6) w_19.2
      else
      if ((i2 >>> ((v_18 - 48) &&& 31)) &&& 1) = 0 then
        (some (i2 ||| (1 <<< ((v_18 - 48) &&& 31)))).bind fun i2_23 =>
          X5_faultOf_b143 n K a0 i2_23 i3 1 w_19.2
        else
        X5_faultOf_b74 n K a0 i1 i2 i3 v_18 w_19.1 (-6) w_19.2
    else
    X5_faultOf_b74 n K a0 i1 i2 i3 v_18 w_19.1 (-6) w_19.2
noncomputable def X5_faultOf_run : Nat → Nat → Int32 → Int32 → Int32 → Sg → Option (Int32 × Sg)
  | 0 => fun _ _ _ _ _ => none
  | n + 1 => fun a0 i1 i2 i3 σ => X5_faultOf_b6 n (X5_faultOf_run n) a0 i1 i2 i3 σ
noncomputable def X5_faultOf_b0 (n : Nat) (K : Nat → Int32 → Int32 → Int32 → Sg → Option (Int32 × Sg)) (a0 : Nat) (σ : Sg) : Option (Int32 × Sg) :=
  K a0 0 0 0 σ
noncomputable def f_X5_faultOf (n : Nat) (a0 : Nat) (σ : Sg) : Option (Int32 × Sg) := X5_faultOf_b0 n (X5_faultOf_run n) a0 σ
-- ===== X5_fault
noncomputable def f_X5_fault (n : Nat) (a0 : Nat) (σ : Sg) : Option (Int32 × Sg) :=
  (ck 5 a0 σ).bind fun u_1 =>
  (f_X5_faultOf n a0  σ).bind fun w_2 =>
  some (w_2.1, w_2.2)
-- ===== X4_rule
noncomputable def f_X4_rule (n : Nat) (a0 : Nat) (σ : Sg) : Option (Int32 × Sg) :=
  (gR 4 a0 1 σ).bind fun q_1 =>
  (gR 4 a0 5 σ).bind fun q_2 =>
  (ck 3 q_1 σ).bind fun u_3 =>
  (f_X3_readInto n q_1 q_2 σ).bind fun w_4 =>
  if w_4.1 = (-6) then
  (ck 4 a0 w_4.2).bind fun u_6 =>
    (f_X4_forgetCourse n a0  w_4.2).bind fun w_7 =>
    (gR 4 a0 4 w_7).bind fun q_8 =>
    (gR 4 a0 5 w_7).bind fun q_9 =>
    (pR 4 a0 4 q_9 w_7).bind fun s_10 =>
    (pR 4 a0 5 q_8 s_10).bind fun s_11 =>
    (gR 4 a0 1 s_11).bind fun q_12 =>
    (pI 3 q_12 1 0 s_11).bind fun s_13 =>
    (gR 4 a0 4 s_13).bind fun q_14 =>
    (gI 2 q_14 2 s_13).bind fun v_15 =>
    some (v_15, s_13)
  else
  some ((-5), w_4.2)
-- ===== X5_clearRule
noncomputable def X5_clearRule_b7 (n : Nat) (K : Nat → Int32 → Sg → Option (Sg)) (a0 : Nat) (i1 : Int32) (σ : Sg) : Option (Sg) :=
  if 10 ≤ i1 then
  some σ
  else
  (gR 5 a0 15 σ).bind fun q_2 =>
    (xI q_2 i1 0 σ).bind fun s_3 =>
    (gR 5 a0 16 s_3).bind fun q_4 =>
    (xI q_4 i1 0 s_3).bind fun s_5 =>
    (some (i1 + 1)).bind fun i1_6 =>
    K a0 i1_6 s_5
noncomputable def X5_clearRule_run : Nat → Nat → Int32 → Sg → Option (Sg)
  | 0 => fun _ _ _ => none
  | n + 1 => fun a0 i1 σ => X5_clearRule_b7 n (X5_clearRule_run n) a0 i1 σ
noncomputable def X5_clearRule_b0 (n : Nat) (K : Nat → Int32 → Sg → Option (Sg)) (a0 : Nat) (σ : Sg) : Option (Sg) :=
  (pI 5 a0 14 0 σ).bind fun s_7 =>
  K a0 0 s_7
noncomputable def f_X5_clearRule (n : Nat) (a0 : Nat) (σ : Sg) : Option (Sg) := X5_clearRule_b0 n (X5_clearRule_run n) a0 σ
-- ===== X5_rule
noncomputable def X5_rule_b57 (n : Nat) (K : Nat → Nat → Int32 → Int32 → Sg → Option (Int32 × Sg)) (a0 : Nat) (i1 : Int32) (i2 : Int32) (ta0 : Nat) (ti1 : Int32) (ti2 : Int32) (σ : Sg) : Option (Int32 × Sg) :=
  (xI ta0 ti1 ti2 σ).bind fun s_1 =>
  (some (i1 + 2)).bind fun i1_2 =>
  K 61 a0 i1_2 i2 s_1
noncomputable def X5_rule_b16 (n : Nat) (K : Nat → Nat → Int32 → Int32 → Sg → Option (Int32 × Sg)) (a0 : Nat) (i1 : Int32) (σ : Sg) : Option (Int32 × Sg) :=
  (gI 5 a0 12 σ).bind fun v_3 =>
  if v_3 ≤ i1 then
  (pI 5 a0 12 0 σ).bind fun s_5 =>
    (gI 5 a0 14 s_5).bind fun v_6 =>
    some (v_6, s_5)
  else
  (gR 5 a0 13 σ).bind fun q_7 =>
    (aI q_7 i1 σ).bind fun v_8 =>
    (some (v_8 - 48)).bind fun i2_9 =>
    (gR 5 a0 15 σ).bind fun q_10 =>
    (gR 5 a0 13 σ).bind fun q_11 =>
    (aI q_11 (i1 + 1) σ).bind fun v_12 =>
    if v_12 = 99 then
    X5_rule_b57 n K a0 i1 i2_9 q_10 i2_9 1 σ
    else
    X5_rule_b57 n K a0 i1 i2_9 q_10 i2_9 2 σ
noncomputable def X5_rule_b111 (n : Nat) (K : Nat → Nat → Int32 → Int32 → Sg → Option (Int32 × Sg)) (a0 : Nat) (i1 : Int32) (σ : Sg) : Option (Int32 × Sg) :=
  (some (i1 + 1)).bind fun i1_14 =>
  (gI 5 a0 14 σ).bind fun v_15 =>
  (pI 5 a0 14 (v_15 + 1) σ).bind fun s_16 =>
  K 16 a0 i1_14 0 s_16
noncomputable def X5_rule_b61 (n : Nat) (K : Nat → Nat → Int32 → Int32 → Sg → Option (Int32 × Sg)) (a0 : Nat) (i1 : Int32) (i2 : Int32) (σ : Sg) : Option (Int32 × Sg) :=
  (gI 5 a0 12 σ).bind fun v_17 =>
  if v_17 ≤ i1 then
  X5_rule_b111 n K a0 i1 σ
  else
  (gR 5 a0 13 σ).bind fun q_19 =>
    (aI q_19 i1 σ).bind fun v_20 =>
    if v_20 = 59 then
    X5_rule_b111 n K a0 i1 σ
    else
    (gR 5 a0 16 σ).bind fun q_22 =>
      (gR 5 a0 16 σ).bind fun q_23 =>
      (aI q_23 i2 σ).bind fun v_24 =>
      (gR 5 a0 13 σ).bind fun q_25 =>
      (aI q_25 i1 σ).bind fun v_26 =>
      (xI q_22 i2 (((10 * v_24) + v_26) - 48) σ).bind fun s_27 =>
      (some (i1 + 1)).bind fun i1_28 =>
      K 61 a0 i1_28 i2 s_27
noncomputable def X5_rule_run : Nat → Nat → Nat → Int32 → Int32 → Sg → Option (Int32 × Sg)
  | 0 => fun _ _ _ _ _ => none
  | n + 1 => fun hd a0 i1 i2 σ => if hd = 16 then X5_rule_b16 n (X5_rule_run n) a0 i1 σ else X5_rule_b61 n (X5_rule_run n) a0 i1 i2 σ
noncomputable def X5_rule_b0 (n : Nat) (K : Nat → Nat → Int32 → Int32 → Sg → Option (Int32 × Sg)) (a0 : Nat) (σ : Sg) : Option (Int32 × Sg) :=
  (ck 5 a0 σ).bind fun u_29 =>
  (f_X5_faultOf n a0  σ).bind fun w_30 =>
  if w_30.1 < 0 then
  (ck 5 a0 w_30.2).bind fun u_32 =>
    (f_X5_clearRule n a0  w_30.2).bind fun w_33 =>
    K 16 a0 0 0 w_33
  else
  some ((-5), w_30.2)
noncomputable def f_X5_rule (n : Nat) (a0 : Nat) (σ : Sg) : Option (Int32 × Sg) := X5_rule_b0 n (X5_rule_run n) a0 σ
-- ===== X4_free
noncomputable def f_X4_free (n : Nat) (a0 : Nat) (σ : Sg) : Option (Int32 × Sg) :=
  (ck 4 a0 σ).bind fun u_1 =>
  (f_X4_forgetCourse n a0  σ).bind fun w_2 =>
  (gR 4 a0 4 w_2).bind fun q_3 =>
  (gI 2 q_3 2 w_2).bind fun v_4 =>
  (gR 4 a0 4 w_2).bind fun q_5 =>
  (ck 2 q_5 w_2).bind fun u_6 =>
  (f_X2_clear n q_5  w_2).bind fun w_7 =>
  some (v_4, w_7)
-- ===== X5_free
noncomputable def f_X5_free (n : Nat) (a0 : Nat) (σ : Sg) : Option (Int32 × Sg) :=
  (gI 5 a0 14 σ).bind fun v_1 =>
  (ck 5 a0 σ).bind fun u_2 =>
  (f_X5_clearRule n a0  σ).bind fun w_3 =>
  some (v_1, w_3)
-- ===== X0_orderLeaving
noncomputable def X0_orderLeaving_b39 (n : Nat) (K : Nat → Nat → Int32 → Int32 → Int32 → Sg → Option (Int32 × Sg)) (a0 : Nat) (a1 : Nat) (i2 : Int32) (i3 : Int32) (i4 : Int32) (σ : Sg) : Option (Int32 × Sg) :=
  (some (i4 + 1)).bind fun i4_1 =>
  K a0 a1 i2 i3 i4_1 σ
noncomputable def X0_orderLeaving_b5 (n : Nat) (K : Nat → Nat → Int32 → Int32 → Int32 → Sg → Option (Int32 × Sg)) (a0 : Nat) (a1 : Nat) (i2 : Int32) (i3 : Int32) (i4 : Int32) (σ : Sg) : Option (Int32 × Sg) :=
  (gI 1 a1 7 σ).bind fun v_2 =>
  if v_2 ≤ i4 then
  some (i3, σ)
  else
  (ck 1 a1 σ).bind fun u_4 =>
    (f_X1_goesOn n a1 i4 i2 σ).bind fun w_5 =>
    if w_5.1 = 0 then
    X0_orderLeaving_b39 n K a0 a1 i2 i3 i4 w_5.2
    else
    (gR 0 a0 1 w_5.2).bind fun q_7 =>
      (ck 0 a0 w_5.2).bind fun u_8 =>
      (f_X0_putInOrder n a0 q_7 i2 i4 i3 w_5.2).bind fun w_9 =>
      (some (i3 + 1)).bind fun i3_10 =>
      X0_orderLeaving_b39 n K a0 a1 i2 i3_10 i4 w_9
noncomputable def X0_orderLeaving_run : Nat → Nat → Nat → Int32 → Int32 → Int32 → Sg → Option (Int32 × Sg)
  | 0 => fun _ _ _ _ _ _ => none
  | n + 1 => fun a0 a1 i2 i3 i4 σ => X0_orderLeaving_b5 n (X0_orderLeaving_run n) a0 a1 i2 i3 i4 σ
noncomputable def X0_orderLeaving_b0 (n : Nat) (K : Nat → Nat → Int32 → Int32 → Int32 → Sg → Option (Int32 × Sg)) (a0 : Nat) (a1 : Nat) (i2 : Int32) (σ : Sg) : Option (Int32 × Sg) :=
  K a0 a1 i2 0 0 σ
noncomputable def f_X0_orderLeaving (n : Nat) (a0 : Nat) (a1 : Nat) (i2 : Int32) (σ : Sg) : Option (Int32 × Sg) := X0_orderLeaving_b0 n (X0_orderLeaving_run n) a0 a1 i2 σ
-- ===== X0_gapAhead
noncomputable def f_X0_gapAhead (n : Nat) (a0 : Nat) (i1 : Int32) (i2 : Int32) (σ : Sg) : Option (Int32 × Sg) :=
  (gR 0 a0 1 σ).bind fun q_1 =>
  (gR 0 a0 12 σ).bind fun q_2 =>
  (aI q_2 i2 σ).bind fun v_3 =>
  (f_X4_cell n v_3 i1 σ).bind fun w_4 =>
  (aI q_1 w_4.1 w_4.2).bind fun v_5 =>
  (gR 0 a0 1 w_4.2).bind fun q_6 =>
  (gR 0 a0 12 w_4.2).bind fun q_7 =>
  (aI q_7 (i2 - 1) w_4.2).bind fun v_8 =>
  (f_X4_cell n v_8 i1 w_4.2).bind fun w_9 =>
  (aI q_6 w_9.1 w_9.2).bind fun v_10 =>
  some (v_5 - v_10, w_9.2)
-- ===== X4_follow
noncomputable def X4_follow_b48 (n : Nat) (σ : Sg) : Option (Int32 × Sg) :=
  some ((-6), σ)
noncomputable def f_X4_follow (n : Nat) (a0 : Nat) (i1 : Int32) (i2 : Int32) (σ : Sg) : Option (Int32 × Sg) :=
  (f_X4_isGoingStop n i1 σ).bind fun w_1 =>
  if w_1.1 = 0 then
  some ((-1), w_1.2)
  else
  (ck 4 a0 w_1.2).bind fun u_3 =>
    (f_X4_presentCourse n a0  w_1.2).bind fun w_4 =>
    (gR 4 a0 0 w_4.2).bind fun q_5 =>
    (ck 0 w_4.1 w_4.2).bind fun u_6 =>
    (f_X0_orderLeaving n w_4.1 q_5 i1 w_4.2).bind fun w_7 =>
    (some (w_7.1 - 1)).bind fun i4_8 =>
    if i2 = 0 then
    some (if i4_8 < 0 then 0 else i4_8, w_7.2)
    else
    if i2 < 0 then
      X4_follow_b48 n w_7.2
      else
      if i2 ≤ i4_8 then
        (ck 0 w_4.1 w_7.2).bind fun u_12 =>
          (f_X0_gapAhead n w_4.1 i1 i2 w_7.2).bind fun w_13 =>
          some (w_13.1, w_13.2)
        else
        X4_follow_b48 n w_7.2
-- ===== X5_layGoing
noncomputable def X5_layGoing_b117 (n : Nat) (K : Nat → Nat → Int32 → Int32 → Int32 → Sg → Option (Sg)) (a0 : Nat) (i1 : Int32) (i2 : Int32) (σ : Sg) : Option (Sg) :=
  (some (i2 + 1)).bind fun i2_1 =>
  K 7 a0 i1 i2_1 0 σ
noncomputable def X5_layGoing_b7 (n : Nat) (K : Nat → Nat → Int32 → Int32 → Int32 → Sg → Option (Sg)) (a0 : Nat) (i1 : Int32) (i2 : Int32) (σ : Sg) : Option (Sg) :=
  (gI 5 a0 3 σ).bind fun v_2 =>
  if v_2 ≤ i2 then
  some σ
  else
  (gR 5 a0 17 σ).bind fun q_4 =>
    (aI q_4 ((10 * i2) + i1) σ).bind fun v_5 =>
    if v_5 < 0 then
    X5_layGoing_b117 n K a0 i1 i2 σ
    else
    (gR 5 a0 6 σ).bind fun q_7 =>
      (aI q_7 i2 σ).bind fun v_8 =>
      if v_8 = i1 then
      X5_layGoing_b117 n K a0 i1 i2 σ
      else
      (gI 5 a0 32 σ).bind fun v_10 =>
        K 44 a0 i1 i2 v_10 σ
noncomputable def X5_layGoing_b100 (n : Nat) (K : Nat → Nat → Int32 → Int32 → Int32 → Sg → Option (Sg)) (a0 : Nat) (i1 : Int32) (i2 : Int32) (i3 : Int32) (σ : Sg) : Option (Sg) :=
  (gR 5 a0 33 σ).bind fun q_11 =>
  (xI q_11 i3 i2 σ).bind fun s_12 =>
  (gI 5 a0 32 s_12).bind fun v_13 =>
  (pI 5 a0 32 (v_13 + 1) s_12).bind fun s_14 =>
  X5_layGoing_b117 n K a0 i1 i2 s_14
noncomputable def X5_layGoing_b44 (n : Nat) (K : Nat → Nat → Int32 → Int32 → Int32 → Sg → Option (Sg)) (a0 : Nat) (i1 : Int32) (i2 : Int32) (i3 : Int32) (σ : Sg) : Option (Sg) :=
  if i3 ≤ 0 then
  X5_layGoing_b100 n K a0 i1 i2 i3 σ
  else
  (gR 5 a0 18 σ).bind fun q_16 =>
    (gR 5 a0 33 σ).bind fun q_17 =>
    (aI q_17 (i3 - 1) σ).bind fun v_18 =>
    (aI q_16 ((10 * v_18) + i1) σ).bind fun v_19 =>
    (gR 5 a0 18 σ).bind fun q_20 =>
    (aI q_20 ((10 * i2) + i1) σ).bind fun v_21 =>
    if v_19 ≤ v_21 then
    X5_layGoing_b100 n K a0 i1 i2 i3 σ
    else
    (gR 5 a0 33 σ).bind fun q_23 =>
      (gR 5 a0 33 σ).bind fun q_24 =>
      (aI q_24 (i3 - 1) σ).bind fun v_25 =>
      (xI q_23 i3 v_25 σ).bind fun s_26 =>
      (some (i3 + (-1))).bind fun i3_27 =>
      K 44 a0 i1 i2 i3_27 s_26
noncomputable def X5_layGoing_run : Nat → Nat → Nat → Int32 → Int32 → Int32 → Sg → Option (Sg)
  | 0 => fun _ _ _ _ _ _ => none
  | n + 1 => fun hd a0 i1 i2 i3 σ => if hd = 7 then X5_layGoing_b7 n (X5_layGoing_run n) a0 i1 i2 σ else X5_layGoing_b44 n (X5_layGoing_run n) a0 i1 i2 i3 σ
noncomputable def X5_layGoing_b0 (n : Nat) (K : Nat → Nat → Int32 → Int32 → Int32 → Sg → Option (Sg)) (a0 : Nat) (i1 : Int32) (σ : Sg) : Option (Sg) :=
  (pI 5 a0 32 0 σ).bind fun s_28 =>
  K 7 a0 i1 0 0 s_28
noncomputable def f_X5_layGoing (n : Nat) (a0 : Nat) (i1 : Int32) (σ : Sg) : Option (Sg) := X5_layGoing_b0 n (X5_layGoing_run n) a0 i1 σ
-- ===== X5_followOf
noncomputable def f_X5_followOf (n : Nat) (a0 : Nat) (i1 : Int32) (i2 : Int32) (σ : Sg) : Option (Int32 × Sg) :=
  (gR 5 a0 18 σ).bind fun q_1 =>
  (gR 5 a0 33 σ).bind fun q_2 =>
  (aI q_2 i2 σ).bind fun v_3 =>
  (aI q_1 ((10 * v_3) + i1) σ).bind fun v_4 =>
  (gR 5 a0 18 σ).bind fun q_5 =>
  (gR 5 a0 33 σ).bind fun q_6 =>
  (aI q_6 (i2 - 1) σ).bind fun v_7 =>
  (aI q_5 ((10 * v_7) + i1) σ).bind fun v_8 =>
  some (v_4 - v_8, σ)
-- ===== X5_follow
noncomputable def X5_follow_b37 (n : Nat) (a0 : Nat) (i1 : Int32) (i2 : Int32) (ti0 : Int32) (σ : Sg) : Option (Int32 × Sg) :=
  if i2 = 0 then
  some (ti0, σ)
  else
  (f_X5_in n i2 1 ti0 σ).bind fun w_2 =>
    if w_2.1 = 0 then
    some ((-6), w_2.2)
    else
    (ck 5 a0 w_2.2).bind fun u_4 =>
      (f_X5_followOf n a0 i1 i2 w_2.2).bind fun w_5 =>
      some (w_5.1, w_5.2)
noncomputable def f_X5_follow (n : Nat) (a0 : Nat) (i1 : Int32) (i2 : Int32) (σ : Sg) : Option (Int32 × Sg) :=
  (f_X5_isOn n i1 σ).bind fun w_6 =>
  if w_6.1 = 0 then
  some ((-1), w_6.2)
  else
  (ck 5 a0 w_6.2).bind fun u_8 =>
    (f_X5_lay n a0 (-6) w_6.2).bind fun w_9 =>
    (ck 5 a0 w_9).bind fun u_10 =>
    (f_X5_layGoing n a0 i1 w_9).bind fun w_11 =>
    (gI 5 a0 32 w_11).bind fun v_12 =>
    if v_12 = 0 then
    X5_follow_b37 n a0 i1 i2 0 w_11
    else
    (gI 5 a0 32 w_11).bind fun v_14 =>
      X5_follow_b37 n a0 i1 i2 (v_14 - 1) w_11
-- ===== X0_firstCloseBus
noncomputable def X0_firstCloseBus_b10 (n : Nat) (K : Nat → Nat → Int32 → Int32 → Int32 → Sg → Option (Int32 × Sg)) (a0 : Nat) (a1 : Nat) (i2 : Int32) (i3 : Int32) (i4 : Int32) (σ : Sg) : Option (Int32 × Sg) :=
  if i3 ≤ i4 then
  some ((-6), σ)
  else
  (ck 0 a0 σ).bind fun u_2 =>
    (f_X0_gapAhead n a0 i2 i4 σ).bind fun w_3 =>
    (gR 1 a1 3 w_3.2).bind fun q_4 =>
    (aI q_4 4 w_3.2).bind fun v_5 =>
    if v_5 < w_3.1 then
    (some (i4 + 1)).bind fun i4_7 =>
      K a0 a1 i2 i3 i4_7 w_3.2
    else
    (gR 0 a0 12 w_3.2).bind fun q_8 =>
      (aI q_8 i4 w_3.2).bind fun v_9 =>
      some (v_9, w_3.2)
noncomputable def X0_firstCloseBus_run : Nat → Nat → Nat → Int32 → Int32 → Int32 → Sg → Option (Int32 × Sg)
  | 0 => fun _ _ _ _ _ _ => none
  | n + 1 => fun a0 a1 i2 i3 i4 σ => X0_firstCloseBus_b10 n (X0_firstCloseBus_run n) a0 a1 i2 i3 i4 σ
noncomputable def X0_firstCloseBus_b0 (n : Nat) (K : Nat → Nat → Int32 → Int32 → Int32 → Sg → Option (Int32 × Sg)) (a0 : Nat) (a1 : Nat) (i2 : Int32) (σ : Sg) : Option (Int32 × Sg) :=
  (ck 0 a0 σ).bind fun u_10 =>
  (f_X0_orderLeaving n a0 a1 i2 σ).bind fun w_11 =>
  K a0 a1 i2 w_11.1 1 w_11.2
noncomputable def f_X0_firstCloseBus (n : Nat) (a0 : Nat) (a1 : Nat) (i2 : Int32) (σ : Sg) : Option (Int32 × Sg) := X0_firstCloseBus_b0 n (X0_firstCloseBus_run n) a0 a1 i2 σ
-- ===== X0_firstCloseStop
noncomputable def X0_firstCloseStop_b2 (n : Nat) (K : Nat → Nat → Int32 → Sg → Option (Int32 × Sg)) (a0 : Nat) (a1 : Nat) (i2 : Int32) (σ : Sg) : Option (Int32 × Sg) :=
  if 9 ≤ i2 then
  some ((-6), σ)
  else
  (ck 0 a0 σ).bind fun u_2 =>
    (f_X0_firstCloseBus n a0 a1 i2 σ).bind fun w_3 =>
    if w_3.1 = (-6) then
    (some (i2 + 1)).bind fun i2_5 =>
      K a0 a1 i2_5 w_3.2
    else
    some (i2, w_3.2)
noncomputable def X0_firstCloseStop_run : Nat → Nat → Nat → Int32 → Sg → Option (Int32 × Sg)
  | 0 => fun _ _ _ _ => none
  | n + 1 => fun a0 a1 i2 σ => X0_firstCloseStop_b2 n (X0_firstCloseStop_run n) a0 a1 i2 σ
noncomputable def X0_firstCloseStop_b0 (n : Nat) (K : Nat → Nat → Int32 → Sg → Option (Int32 × Sg)) (a0 : Nat) (a1 : Nat) (σ : Sg) : Option (Int32 × Sg) :=
  K a0 a1 0 σ
noncomputable def f_X0_firstCloseStop (n : Nat) (a0 : Nat) (a1 : Nat) (σ : Sg) : Option (Int32 × Sg) := X0_firstCloseStop_b0 n (X0_firstCloseStop_run n) a0 a1 σ
-- ===== X4_one
noncomputable def X4_one_b9 (n : Nat) (σ : Sg) : Option (Int32 × Sg) :=
  some ((-2), σ)
noncomputable def X4_one_b36 (n : Nat) (i3 : Int32) (σ : Sg) : Option (Int32 × Sg) :=
  some (i3, σ)
noncomputable def f_X4_one (n : Nat) (a0 : Nat) (i1 : Int32) (σ : Sg) : Option (Int32 × Sg) :=
  if i1 < 0 then
  X4_one_b9 n σ
  else
  if i1 ≤ 1 then
    (ck 4 a0 σ).bind fun u_3 =>
      (f_X4_presentCourse n a0  σ).bind fun w_4 =>
      (gR 4 a0 0 w_4.2).bind fun q_5 =>
      (ck 0 w_4.1 w_4.2).bind fun u_6 =>
      (f_X0_firstCloseStop n w_4.1 q_5 w_4.2).bind fun w_7 =>
      if i1 = 0 then
      X4_one_b36 n w_7.1 w_7.2
      else
      if w_7.1 = (-6) then
        X4_one_b36 n w_7.1 w_7.2
        else
        (gR 4 a0 0 w_7.2).bind fun q_10 =>
          (ck 0 w_4.1 w_7.2).bind fun u_11 =>
          (f_X0_firstCloseBus n w_4.1 q_10 w_7.1 w_7.2).bind fun w_12 =>
          some (w_12.1, w_12.2)
    else
    X4_one_b9 n σ
-- ===== X5_oneOf
noncomputable def X5_oneOf_b2 (n : Nat) (K : Nat → Nat → Int32 → Int32 → Sg → Option (Int32 × Sg)) (a0 : Nat) (i1 : Int32) (σ : Sg) : Option (Int32 × Sg) :=
  if 9 ≤ i1 then
  (pI 5 a0 34 (-6) σ).bind fun s_2 =>
    some ((-6), s_2)
  else
  (ck 5 a0 σ).bind fun u_3 =>
    (f_X5_layGoing n a0 i1 σ).bind fun w_4 =>
    K 15 a0 i1 1 w_4
noncomputable def X5_oneOf_b15 (n : Nat) (K : Nat → Nat → Int32 → Int32 → Sg → Option (Int32 × Sg)) (a0 : Nat) (i1 : Int32) (i2 : Int32) (σ : Sg) : Option (Int32 × Sg) :=
  (gI 5 a0 32 σ).bind fun v_5 =>
  if v_5 ≤ i2 then
  (some (i1 + 1)).bind fun i1_7 =>
    K 2 a0 i1_7 0 σ
  else
  (ck 5 a0 σ).bind fun u_8 =>
    (f_X5_followOf n a0 i1 i2 σ).bind fun w_9 =>
    (gR 5 a0 7 w_9.2).bind fun q_10 =>
    (aI q_10 4 w_9.2).bind fun v_11 =>
    if v_11 < w_9.1 then
    (some (i2 + 1)).bind fun i2_13 =>
      K 15 a0 i1 i2_13 w_9.2
    else
    (gR 5 a0 33 w_9.2).bind fun q_14 =>
      (aI q_14 i2 w_9.2).bind fun v_15 =>
      (pI 5 a0 34 v_15 w_9.2).bind fun s_16 =>
      some (i1, s_16)
noncomputable def X5_oneOf_run : Nat → Nat → Nat → Int32 → Int32 → Sg → Option (Int32 × Sg)
  | 0 => fun _ _ _ _ _ => none
  | n + 1 => fun hd a0 i1 i2 σ => if hd = 2 then X5_oneOf_b2 n (X5_oneOf_run n) a0 i1 σ else X5_oneOf_b15 n (X5_oneOf_run n) a0 i1 i2 σ
noncomputable def X5_oneOf_b0 (n : Nat) (K : Nat → Nat → Int32 → Int32 → Sg → Option (Int32 × Sg)) (a0 : Nat) (σ : Sg) : Option (Int32 × Sg) :=
  K 2 a0 0 0 σ
noncomputable def f_X5_oneOf (n : Nat) (a0 : Nat) (σ : Sg) : Option (Int32 × Sg) := X5_oneOf_b0 n (X5_oneOf_run n) a0 σ
-- ===== X5_one
noncomputable def f_X5_one (n : Nat) (a0 : Nat) (i1 : Int32) (σ : Sg) : Option (Int32 × Sg) :=
  (f_X5_in n i1 0 1 σ).bind fun w_1 =>
  if w_1.1 = 0 then
  some ((-2), w_1.2)
  else
  (ck 5 a0 w_1.2).bind fun u_3 =>
    (f_X5_lay n a0 (-6) w_1.2).bind fun w_4 =>
    (ck 5 a0 w_4).bind fun u_5 =>
    (f_X5_oneOf n a0  w_4).bind fun w_6 =>
    if i1 = 0 then
    some (w_6.1, w_6.2)
    else
    (gI 5 a0 34 w_6.2).bind fun v_8 =>
      some (v_8, w_6.2)
-- ===== X4_began
noncomputable def X4_began_b82 (n : Nat) (K : Nat → Int32 → Int32 → Sg → Option (Int32 × Sg)) (a0 : Nat) (i1 : Int32) (i2 : Int32) (σ : Sg) : Option (Int32 × Sg) :=
  (some (i2 + 1)).bind fun i2_1 =>
  K a0 i1 i2_1 σ
noncomputable def X4_began_b22 (n : Nat) (K : Nat → Int32 → Int32 → Sg → Option (Int32 × Sg)) (a0 : Nat) (i1 : Int32) (i2 : Int32) (σ : Sg) : Option (Int32 × Sg) :=
  (gR 4 a0 0 σ).bind fun q_2 =>
  (gI 1 q_2 11 σ).bind fun v_3 =>
  if v_3 ≤ i2 then
  some (i1, σ)
  else
  (gR 4 a0 3 σ).bind fun q_5 =>
    (gR 4 a0 0 σ).bind fun q_6 =>
    (ck 0 q_5 σ).bind fun u_7 =>
    (f_X0_layLatenesses n q_5 q_6 i2 σ).bind fun w_8 =>
    (gR 4 a0 3 w_8).bind fun q_9 =>
    (gR 4 a0 0 w_8).bind fun q_10 =>
    (gR 4 a0 4 w_8).bind fun q_11 =>
    (ck 0 q_9 w_8).bind fun u_12 =>
    (f_X0_play n q_9 q_10 q_11 w_8).bind fun w_13 =>
    (gR 4 a0 3 w_13).bind fun q_14 =>
    (gR 4 a0 0 w_13).bind fun q_15 =>
    (ck 0 q_14 w_13).bind fun u_16 =>
    (f_X0_firstCloseStop n q_14 q_15 w_13).bind fun w_17 =>
    if w_17.1 = (-6) then
    (some (i1 ||| (1 <<< (i2 &&& 31)))).bind fun i1_19 =>
      X4_began_b82 n K a0 i1_19 i2 w_17.2
    else
    X4_began_b82 n K a0 i1 i2 w_17.2
noncomputable def X4_began_run : Nat → Nat → Int32 → Int32 → Sg → Option (Int32 × Sg)
  | 0 => fun _ _ _ _ => none
  | n + 1 => fun a0 i1 i2 σ => X4_began_b22 n (X4_began_run n) a0 i1 i2 σ
noncomputable def X4_began_b0 (n : Nat) (K : Nat → Int32 → Int32 → Sg → Option (Int32 × Sg)) (a0 : Nat) (σ : Sg) : Option (Int32 × Sg) :=
  (ck 4 a0 σ).bind fun u_20 =>
  (f_X4_presentCourse n a0  σ).bind fun w_21 =>
  (gR 4 a0 0 w_21.2).bind fun q_22 =>
  (ck 0 w_21.1 w_21.2).bind fun u_23 =>
  (f_X0_firstCloseStop n w_21.1 q_22 w_21.2).bind fun w_24 =>
  if w_24.1 = (-6) then
  some (0, w_24.2)
  else
  K a0 0 0 w_24.2
noncomputable def f_X4_began (n : Nat) (a0 : Nat) (σ : Sg) : Option (Int32 × Sg) := X4_began_b0 n (X4_began_run n) a0 σ
-- ===== X5_began
noncomputable def X5_began_b47 (n : Nat) (K : Nat → Int32 → Int32 → Sg → Option (Int32 × Sg)) (a0 : Nat) (i2 : Int32) (ti0 : Int32) (ti1 : Int32) (σ : Sg) : Option (Int32 × Sg) :=
  (some (ti0 ||| ti1)).bind fun i1_1 =>
  (some (i2 + 1)).bind fun i2_2 =>
  K a0 i1_1 i2_2 σ
noncomputable def X5_began_b19 (n : Nat) (K : Nat → Int32 → Int32 → Sg → Option (Int32 × Sg)) (a0 : Nat) (i1 : Int32) (i2 : Int32) (σ : Sg) : Option (Int32 × Sg) :=
  (gI 5 a0 8 σ).bind fun v_3 =>
  if v_3 ≤ i2 then
  some (i1, σ)
  else
  (ck 5 a0 σ).bind fun u_5 =>
    (f_X5_lay n a0 i2 σ).bind fun w_6 =>
    (ck 5 a0 w_6).bind fun u_7 =>
    (f_X5_oneOf n a0  w_6).bind fun w_8 =>
    if 0 ≤ w_8.1 then
    X5_began_b47 n K a0 i2 i1 0 w_8.2
    else
    X5_began_b47 n K a0 i2 i1 (1 <<< (i2 &&& 31)) w_8.2
noncomputable def X5_began_run : Nat → Nat → Int32 → Int32 → Sg → Option (Int32 × Sg)
  | 0 => fun _ _ _ _ => none
  | n + 1 => fun a0 i1 i2 σ => X5_began_b19 n (X5_began_run n) a0 i1 i2 σ
noncomputable def X5_began_b0 (n : Nat) (K : Nat → Int32 → Int32 → Sg → Option (Int32 × Sg)) (a0 : Nat) (σ : Sg) : Option (Int32 × Sg) :=
  (ck 5 a0 σ).bind fun u_10 =>
  (f_X5_lay n a0 (-6) σ).bind fun w_11 =>
  (ck 5 a0 w_11).bind fun u_12 =>
  (f_X5_oneOf n a0  w_11).bind fun w_13 =>
  if 0 ≤ w_13.1 then
  K a0 0 0 w_13.2
  else
  some (0, w_13.2)
noncomputable def f_X5_began (n : Nat) (a0 : Nat) (σ : Sg) : Option (Int32 × Sg) := X5_began_b0 n (X5_began_run n) a0 σ
-- ===== X0_spreadOfGaps
noncomputable def X0_spreadOfGaps_b30 (n : Nat) (K : Nat → Int32 → Int32 → Int32 → Int32 → Int32 → Sg → Option (Int32 × Sg)) (a0 : Nat) (i2 : Int32) (i3 : Int32) (i4 : Int32) (i5 : Int32) (i6 : Int32) (σ : Sg) : Option (Int32 × Sg) :=
  if i3 ≤ i6 then
  some (i4 - i5, σ)
  else
  (ck 0 a0 σ).bind fun u_2 =>
    (f_X0_gapAhead n a0 i2 i6 σ).bind fun w_3 =>
    (some (if i4 < w_3.1 then w_3.1 else i4)).bind fun i4_4 =>
    (some (if w_3.1 < i5 then w_3.1 else i5)).bind fun i5_5 =>
    (some (i6 + 1)).bind fun i6_6 =>
    K a0 i2 i3 i4_4 i5_5 i6_6 w_3.2
noncomputable def X0_spreadOfGaps_run : Nat → Nat → Int32 → Int32 → Int32 → Int32 → Int32 → Sg → Option (Int32 × Sg)
  | 0 => fun _ _ _ _ _ _ _ => none
  | n + 1 => fun a0 i2 i3 i4 i5 i6 σ => X0_spreadOfGaps_b30 n (X0_spreadOfGaps_run n) a0 i2 i3 i4 i5 i6 σ
noncomputable def X0_spreadOfGaps_b0 (n : Nat) (K : Nat → Int32 → Int32 → Int32 → Int32 → Int32 → Sg → Option (Int32 × Sg)) (a0 : Nat) (a1 : Nat) (i2 : Int32) (σ : Sg) : Option (Int32 × Sg) :=
  (ck 0 a0 σ).bind fun u_7 =>
  (f_X0_orderLeaving n a0 a1 i2 σ).bind fun w_8 =>
  if 2 ≤ w_8.1 then
  (ck 0 a0 w_8.2).bind fun u_10 =>
    (f_X0_gapAhead n a0 i2 1 w_8.2).bind fun w_11 =>
    K a0 i2 w_8.1 w_11.1 w_11.1 2 w_11.2
  else
  some ((-6), w_8.2)
noncomputable def f_X0_spreadOfGaps (n : Nat) (a0 : Nat) (a1 : Nat) (i2 : Int32) (σ : Sg) : Option (Int32 × Sg) := X0_spreadOfGaps_b0 n (X0_spreadOfGaps_run n) a0 a1 i2 σ
-- ===== X4_spread
noncomputable def f_X4_spread (n : Nat) (a0 : Nat) (i1 : Int32) (σ : Sg) : Option (Int32 × Sg) :=
  (f_X4_isGoingStop n i1 σ).bind fun w_1 =>
  if w_1.1 = 0 then
  some ((-1), w_1.2)
  else
  (ck 4 a0 w_1.2).bind fun u_3 =>
    (f_X4_presentCourse n a0  w_1.2).bind fun w_4 =>
    (gR 4 a0 0 w_4.2).bind fun q_5 =>
    (ck 0 w_4.1 w_4.2).bind fun u_6 =>
    (f_X0_spreadOfGaps n w_4.1 q_5 i1 w_4.2).bind fun w_7 =>
    some (w_7.1, w_7.2)
-- ===== X5_spread
noncomputable def X5_spread_b86 (n : Nat) (K : Nat → Int32 → Int32 → Int32 → Int32 → Sg → Option (Int32 × Sg)) (a0 : Nat) (i1 : Int32) (i2 : Int32) (i4 : Int32) (ti0 : Int32) (σ : Sg) : Option (Int32 × Sg) :=
  (some (i4 + 1)).bind fun i4_1 =>
  K a0 i1 i2 ti0 i4_1 σ
noncomputable def X5_spread_b73 (n : Nat) (K : Nat → Int32 → Int32 → Int32 → Int32 → Sg → Option (Int32 × Sg)) (a0 : Nat) (i1 : Int32) (i3 : Int32) (i4 : Int32) (i5 : Int32) (ti0 : Int32) (σ : Sg) : Option (Int32 × Sg) :=
  if i5 ≤ i3 then
  X5_spread_b86 n K a0 i1 ti0 i4 i3 σ
  else
  X5_spread_b86 n K a0 i1 ti0 i4 i5 σ
noncomputable def X5_spread_b43 (n : Nat) (K : Nat → Int32 → Int32 → Int32 → Int32 → Sg → Option (Int32 × Sg)) (a0 : Nat) (i1 : Int32) (i2 : Int32) (i3 : Int32) (i4 : Int32) (σ : Sg) : Option (Int32 × Sg) :=
  (gI 5 a0 32 σ).bind fun v_3 =>
  if v_3 ≤ i4 then
  some (i3 - i2, σ)
  else
  (ck 5 a0 σ).bind fun u_5 =>
    (f_X5_followOf n a0 i1 i4 σ).bind fun w_6 =>
    if i2 ≤ w_6.1 then
    X5_spread_b73 n K a0 i1 i3 i4 w_6.1 i2 w_6.2
    else
    X5_spread_b73 n K a0 i1 i3 i4 w_6.1 w_6.1 w_6.2
noncomputable def X5_spread_run : Nat → Nat → Int32 → Int32 → Int32 → Int32 → Sg → Option (Int32 × Sg)
  | 0 => fun _ _ _ _ _ _ => none
  | n + 1 => fun a0 i1 i2 i3 i4 σ => X5_spread_b43 n (X5_spread_run n) a0 i1 i2 i3 i4 σ
noncomputable def X5_spread_b0 (n : Nat) (K : Nat → Int32 → Int32 → Int32 → Int32 → Sg → Option (Int32 × Sg)) (a0 : Nat) (i1 : Int32) (σ : Sg) : Option (Int32 × Sg) :=
  (f_X5_isOn n i1 σ).bind fun w_8 =>
  if w_8.1 = 0 then
  some ((-1), w_8.2)
  else
  (ck 5 a0 w_8.2).bind fun u_10 =>
    (f_X5_lay n a0 (-6) w_8.2).bind fun w_11 =>
    (ck 5 a0 w_11).bind fun u_12 =>
    (f_X5_layGoing n a0 i1 w_11).bind fun w_13 =>
    (gI 5 a0 32 w_13).bind fun v_14 =>
    if 2 ≤ v_14 then
    (ck 5 a0 w_13).bind fun u_16 =>
      (f_X5_followOf n a0 i1 1 w_13).bind fun w_17 =>
      K a0 i1 w_17.1 w_17.1 2 w_17.2
    else
    some ((-6), w_13)
noncomputable def f_X5_spread (n : Nat) (a0 : Nat) (i1 : Int32) (σ : Sg) : Option (Int32 × Sg) := X5_spread_b0 n (X5_spread_run n) a0 i1 σ
-- ===== X0_tellWaits
noncomputable def f_X0_tellWaits (n : Nat) (a0 : Nat) (i1 : Int32) (i2 : Int32) (σ : Sg) : Option (Int32 × Sg) :=
  (some i2).bind fun x_1 =>
  if x_1 = 0 then
  (gR 0 a0 7 σ).bind fun q_2 =>
    (aI q_2 i1 σ).bind fun v_3 =>
    some (v_3, σ)
  else
  if x_1 = 1 then
    (gR 0 a0 8 σ).bind fun q_5 =>
      (aJ q_5 i1 σ).bind fun v_6 =>
      some (v_6.toInt32, σ)
    else
    (gR 0 a0 9 σ).bind fun q_8 =>
      (aI q_8 i1 σ).bind fun v_9 =>
      some (v_9, σ)
-- ===== X4_waited
noncomputable def X4_waited_b18 (n : Nat) (σ : Sg) : Option (Int32 × Sg) :=
  some ((-2), σ)
noncomputable def f_X4_waited (n : Nat) (a0 : Nat) (i1 : Int32) (i2 : Int32) (σ : Sg) : Option (Int32 × Sg) :=
  (f_X4_isGoingStop n i1 σ).bind fun w_1 =>
  if w_1.1 = 0 then
  some ((-1), w_1.2)
  else
  if i2 < 0 then
    X4_waited_b18 n w_1.2
    else
    if i2 ≤ 2 then
      (ck 4 a0 w_1.2).bind fun u_5 =>
        (f_X4_presentCourse n a0  w_1.2).bind fun w_6 =>
        (ck 0 w_6.1 w_6.2).bind fun u_7 =>
        (f_X0_tellWaits n w_6.1 i1 i2 w_6.2).bind fun w_8 =>
        some (w_8.1, w_8.2)
      else
      X4_waited_b18 n w_1.2
-- ===== X5_waited
noncomputable def f_X5_waited (n : Nat) (a0 : Nat) (i1 : Int32) (i2 : Int32) (σ : Sg) : Option (Int32 × Sg) :=
  (f_X5_isOn n i1 σ).bind fun w_1 =>
  if w_1.1 = 0 then
  some ((-1), w_1.2)
  else
  (f_X5_in n i2 0 2 w_1.2).bind fun w_3 =>
    if w_3.1 = 0 then
    some ((-2), w_3.2)
    else
    (ck 5 a0 w_3.2).bind fun u_5 =>
      (f_X5_lay n a0 (-6) w_3.2).bind fun w_6 =>
      if i2 = 0 then
      (gR 5 a0 25 w_6).bind fun q_13 =>
        (aI q_13 i1 w_6).bind fun v_14 =>
        some (v_14, w_6)
      else
      if i2 = 1 then
        (gR 5 a0 26 w_6).bind fun q_11 =>
          (aI q_11 i1 w_6).bind fun v_12 =>
          some (v_12, w_6)
        else
        (gR 5 a0 27 w_6).bind fun q_9 =>
          (aI q_9 i1 w_6).bind fun v_10 =>
          some (v_10, w_6)
-- ===== X4_commonDivisor
noncomputable def X4_commonDivisor_b44 (n : Nat) (K : Int64 → Int64 → Int32 → Sg → Option (Int64 × Sg)) (j4 : Int64) (σ : Sg) : Option (Int64 × Sg) :=
  some (j4, σ)
noncomputable def X4_commonDivisor_b9 (n : Nat) (K : Int64 → Int64 → Int32 → Sg → Option (Int64 × Sg)) (j4 : Int64) (j6 : Int64) (i8 : Int32) (σ : Sg) : Option (Int64 × Sg) :=
  if 100 ≤ i8 then
  X4_commonDivisor_b44 n K j4 σ
  else
  if (lg_cmp j6 0) = 0 then
    X4_commonDivisor_b44 n K j4 σ
    else
    (dvJ j6).bind fun u_3 =>
      (some (j4 - j4 / j6 * j6)).bind fun j9_4 =>
      (some (i8 + 1)).bind fun i8_5 =>
      K j6 j9_4 i8_5 σ
noncomputable def X4_commonDivisor_run : Nat → Int64 → Int64 → Int32 → Sg → Option (Int64 × Sg)
  | 0 => fun _ _ _ _ => none
  | n + 1 => fun j4 j6 i8 σ => X4_commonDivisor_b9 n (X4_commonDivisor_run n) j4 j6 i8 σ
noncomputable def X4_commonDivisor_b0 (n : Nat) (K : Int64 → Int64 → Int32 → Sg → Option (Int64 × Sg)) (j0 : Int64) (j2 : Int64) (σ : Sg) : Option (Int64 × Sg) :=
  K j0 j2 0 σ
noncomputable def f_X4_commonDivisor (n : Nat) (j0 : Int64) (j2 : Int64) (σ : Sg) : Option (Int64 × Sg) := X4_commonDivisor_b0 n (X4_commonDivisor_run n) j0 j2 σ
-- ===== X4_partOfFraction
noncomputable def X4_partOfFraction_b45 (n : Nat) (j5 : Int64) (tj0 : Int64) (σ : Sg) : Option (Int64 × Sg) :=
  (dvJ j5).bind fun u_1 =>
  some (tj0 / j5, σ)
noncomputable def X4_partOfFraction_b15 (n : Nat) (j0 : Int64) (j2 : Int64) (i4 : Int32) (tj0 : Int64) (σ : Sg) : Option (Int64 × Sg) :=
  if 0 < (lg_cmp tj0 0) then
  if i4 = 0 then
    X4_partOfFraction_b45 n tj0 j0 σ
    else
    X4_partOfFraction_b45 n tj0 j2 σ
  else
  if i4 = 0 then
    some (0, σ)
    else
    some (1, σ)
noncomputable def f_X4_partOfFraction (n : Nat) (j0 : Int64) (j2 : Int64) (i4 : Int32) (σ : Sg) : Option (Int64 × Sg) :=
  if (lg_cmp j2 0) ≤ 0 then
  X4_partOfFraction_b15 n j0 j2 i4 0 σ
  else
  (f_X4_commonDivisor n j0 j2 σ).bind fun w_6 =>
    X4_partOfFraction_b15 n j0 j2 i4 w_6.1 w_6.2
-- ===== X0_sumOfGaps
noncomputable def X0_sumOfGaps_b5 (n : Nat) (K : Nat → Int32 → Int32 → Int32 → Int32 → Sg → Option (Int32 × Sg)) (a0 : Nat) (i1 : Int32) (i2 : Int32) (i3 : Int32) (i4 : Int32) (σ : Sg) : Option (Int32 × Sg) :=
  if i2 ≤ i4 then
  some (i3, σ)
  else
  (ck 0 a0 σ).bind fun u_2 =>
    (f_X0_gapAhead n a0 i1 i4 σ).bind fun w_3 =>
    (some (i3 + w_3.1)).bind fun i3_4 =>
    (some (i4 + 1)).bind fun i4_5 =>
    K a0 i1 i2 i3_4 i4_5 w_3.2
noncomputable def X0_sumOfGaps_run : Nat → Nat → Int32 → Int32 → Int32 → Int32 → Sg → Option (Int32 × Sg)
  | 0 => fun _ _ _ _ _ _ => none
  | n + 1 => fun a0 i1 i2 i3 i4 σ => X0_sumOfGaps_b5 n (X0_sumOfGaps_run n) a0 i1 i2 i3 i4 σ
noncomputable def X0_sumOfGaps_b0 (n : Nat) (K : Nat → Int32 → Int32 → Int32 → Int32 → Sg → Option (Int32 × Sg)) (a0 : Nat) (i1 : Int32) (i2 : Int32) (σ : Sg) : Option (Int32 × Sg) :=
  K a0 i1 i2 0 1 σ
noncomputable def f_X0_sumOfGaps (n : Nat) (a0 : Nat) (i1 : Int32) (i2 : Int32) (σ : Sg) : Option (Int32 × Sg) := X0_sumOfGaps_b0 n (X0_sumOfGaps_run n) a0 i1 i2 σ
-- ===== X4_mean
noncomputable def X4_mean_b29 (n : Nat) (σ : Sg) : Option (Int64 × Sg) :=
  some ((-1000000000000000002), σ)
noncomputable def f_X4_mean (n : Nat) (a0 : Nat) (i1 : Int32) (i2 : Int32) (i3 : Int32) (σ : Sg) : Option (Int64 × Sg) :=
  (f_X4_isGoingStop n i1 σ).bind fun w_1 =>
  if w_1.1 = 0 then
  some ((-1000000000000000001), w_1.2)
  else
  if i2 < 0 then
    X4_mean_b29 n w_1.2
    else
    if 1 < i2 then
      X4_mean_b29 n w_1.2
      else
      if i3 < 0 then
        X4_mean_b29 n w_1.2
        else
        if i3 ≤ 1 then
          (ck 4 a0 w_1.2).bind fun u_7 =>
            (f_X4_presentCourse n a0  w_1.2).bind fun w_8 =>
            if i2 = 0 then
            (gR 0 w_8.1 8 w_8.2).bind fun q_16 =>
              (aJ q_16 i1 w_8.2).bind fun v_17 =>
              (gR 0 w_8.1 7 w_8.2).bind fun q_18 =>
              (aI q_18 i1 w_8.2).bind fun v_19 =>
              (f_X4_partOfFraction n v_17 v_19.toInt64 i3 w_8.2).bind fun w_20 =>
              some (w_20.1, w_20.2)
            else
            (gR 4 a0 0 w_8.2).bind fun q_10 =>
              (ck 0 w_8.1 w_8.2).bind fun u_11 =>
              (f_X0_orderLeaving n w_8.1 q_10 i1 w_8.2).bind fun w_12 =>
              (ck 0 w_8.1 w_12.2).bind fun u_13 =>
              (f_X0_sumOfGaps n w_8.1 i1 w_12.1 w_12.2).bind fun w_14 =>
              (f_X4_partOfFraction n w_14.1.toInt64 (2 * ((w_12.1 - 1).toInt64)) i3 w_14.2).bind fun w_15 =>
              some (w_15.1, w_15.2)
          else
          X4_mean_b29 n w_1.2
-- ===== X5_term
noncomputable def X5_term_b16 (n : Nat) (K : Int64 → Int64 → Int32 → Int64 → Int64 → Sg → Option (Int64 × Sg)) (j0 : Int64) (j2 : Int64) (i4 : Int32) (j5 : Int64) (j7 : Int64) (σ : Sg) : Option (Int64 × Sg) :=
  if (lg_cmp j7 0) = 0 then
  if i4 = 0 then
    (dvJ j5).bind fun u_4 =>
      some (j0 / j5, σ)
    else
    (dvJ j5).bind fun u_3 =>
      some (j2 / j5, σ)
  else
  (dvJ j7).bind fun u_5 =>
    (some (j5 - j5 / j7 * j7)).bind fun j9_6 =>
    K j0 j2 i4 j7 j9_6 σ
noncomputable def X5_term_run : Nat → Int64 → Int64 → Int32 → Int64 → Int64 → Sg → Option (Int64 × Sg)
  | 0 => fun _ _ _ _ _ _ => none
  | n + 1 => fun j0 j2 i4 j5 j7 σ => X5_term_b16 n (X5_term_run n) j0 j2 i4 j5 j7 σ
noncomputable def X5_term_b0 (n : Nat) (K : Int64 → Int64 → Int32 → Int64 → Int64 → Sg → Option (Int64 × Sg)) (j0 : Int64) (j2 : Int64) (i4 : Int32) (σ : Sg) : Option (Int64 × Sg) :=
  if (lg_cmp j2 0) = 0 then
  some (i4.toInt64, σ)
  else
  K j0 j2 i4 j0 j2 σ
noncomputable def f_X5_term (n : Nat) (j0 : Int64) (j2 : Int64) (i4 : Int32) (σ : Sg) : Option (Int64 × Sg) := X5_term_b0 n (X5_term_run n) j0 j2 i4 σ
-- ===== X5_mean
noncomputable def X5_mean_b29 (n : Nat) (σ : Sg) : Option (Int64 × Sg) :=
  some ((-1000000000000000002), σ)
noncomputable def f_X5_mean (n : Nat) (a0 : Nat) (i1 : Int32) (i2 : Int32) (i3 : Int32) (σ : Sg) : Option (Int64 × Sg) :=
  (f_X5_isOn n i1 σ).bind fun w_1 =>
  if w_1.1 = 0 then
  some ((-1000000000000000001), w_1.2)
  else
  (f_X5_in n i2 0 1 w_1.2).bind fun w_3 =>
    if w_3.1 = 0 then
    X5_mean_b29 n w_3.2
    else
    (f_X5_in n i3 0 1 w_3.2).bind fun w_5 =>
      if w_5.1 = 0 then
      X5_mean_b29 n w_5.2
      else
      (ck 5 a0 w_5.2).bind fun u_7 =>
        (f_X5_lay n a0 (-6) w_5.2).bind fun w_8 =>
        if i2 = 0 then
        (gR 5 a0 26 w_8).bind fun q_26 =>
          (aI q_26 i1 w_8).bind fun v_27 =>
          (gR 5 a0 25 w_8).bind fun q_28 =>
          (aI q_28 i1 w_8).bind fun v_29 =>
          (f_X5_term n v_27.toInt64 v_29.toInt64 i3 w_8).bind fun w_30 =>
          some (w_30.1, w_30.2)
        else
        (ck 5 a0 w_8).bind fun u_10 =>
          (f_X5_layGoing n a0 i1 w_8).bind fun w_11 =>
          (gI 5 a0 32 w_11).bind fun v_12 =>
          if 2 ≤ v_12 then
          (gR 5 a0 18 w_11).bind fun q_14 =>
            (gR 5 a0 33 w_11).bind fun q_15 =>
            (gI 5 a0 32 w_11).bind fun v_16 =>
            (aI q_15 (v_16 - 1) w_11).bind fun v_17 =>
            (aI q_14 ((10 * v_17) + i1) w_11).bind fun v_18 =>
            (gR 5 a0 18 w_11).bind fun q_19 =>
            (gR 5 a0 33 w_11).bind fun q_20 =>
            (aI q_20 0 w_11).bind fun v_21 =>
            (aI q_19 ((10 * v_21) + i1) w_11).bind fun v_22 =>
            (some ((v_18 - v_22).toInt64)).bind fun j4_23 =>
            (gI 5 a0 32 w_11).bind fun v_24 =>
            (f_X5_term n j4_23 (2 * ((v_24 - 1).toInt64)) i3 w_11).bind fun w_25 =>
            some (w_25.1, w_25.2)
          else
          some (i3.toInt64, w_11)
-- ===== X0_sumOfWaits
noncomputable def X0_sumOfWaits_b4 (n : Nat) (K : Nat → Int64 → Int32 → Sg → Option (Int64 × Sg)) (a0 : Nat) (j1 : Int64) (i3 : Int32) (σ : Sg) : Option (Int64 × Sg) :=
  if 10 ≤ i3 then
  some (j1, σ)
  else
  (gR 0 a0 8 σ).bind fun q_2 =>
    (aJ q_2 i3 σ).bind fun v_3 =>
    (some (j1 + v_3)).bind fun j1_4 =>
    (some (i3 + 1)).bind fun i3_5 =>
    K a0 j1_4 i3_5 σ
noncomputable def X0_sumOfWaits_run : Nat → Nat → Int64 → Int32 → Sg → Option (Int64 × Sg)
  | 0 => fun _ _ _ _ => none
  | n + 1 => fun a0 j1 i3 σ => X0_sumOfWaits_b4 n (X0_sumOfWaits_run n) a0 j1 i3 σ
noncomputable def X0_sumOfWaits_b0 (n : Nat) (K : Nat → Int64 → Int32 → Sg → Option (Int64 × Sg)) (a0 : Nat) (σ : Sg) : Option (Int64 × Sg) :=
  K a0 0 0 σ
noncomputable def f_X0_sumOfWaits (n : Nat) (a0 : Nat) (σ : Sg) : Option (Int64 × Sg) := X0_sumOfWaits_b0 n (X0_sumOfWaits_run n) a0 σ
-- ===== X4_all
noncomputable def X4_all_b9 (n : Nat) (σ : Sg) : Option (Int32 × Sg) :=
  some ((-2), σ)
noncomputable def f_X4_all (n : Nat) (a0 : Nat) (i1 : Int32) (σ : Sg) : Option (Int32 × Sg) :=
  if i1 < 0 then
  X4_all_b9 n σ
  else
  if i1 ≤ 2 then
    (ck 4 a0 σ).bind fun u_3 =>
      (f_X4_presentCourse n a0  σ).bind fun w_4 =>
      (some i1).bind fun x_5 =>
      if x_5 = 0 then
      (ck 0 w_4.1 w_4.2).bind fun u_6 =>
        (f_X0_sumOfWaits n w_4.1  w_4.2).bind fun w_7 =>
        some (w_7.1.toInt32, w_7.2)
      else
      if x_5 = 1 then
        (gJ 0 w_4.1 10 w_4.2).bind fun v_9 =>
          some (v_9.toInt32, w_4.2)
        else
        (gI 0 w_4.1 11 w_4.2).bind fun v_11 =>
          some (v_11, w_4.2)
    else
    X4_all_b9 n σ
-- ===== X5_allWaited
noncomputable def X5_allWaited_b4 (n : Nat) (K : Nat → Int32 → Int32 → Sg → Option (Int32 × Sg)) (a0 : Nat) (i1 : Int32) (i2 : Int32) (σ : Sg) : Option (Int32 × Sg) :=
  if 9 ≤ i2 then
  some (i1, σ)
  else
  (gR 5 a0 26 σ).bind fun q_2 =>
    (aI q_2 i2 σ).bind fun v_3 =>
    (some (i1 + v_3)).bind fun i1_4 =>
    (some (i2 + 1)).bind fun i2_5 =>
    K a0 i1_4 i2_5 σ
noncomputable def X5_allWaited_run : Nat → Nat → Int32 → Int32 → Sg → Option (Int32 × Sg)
  | 0 => fun _ _ _ _ => none
  | n + 1 => fun a0 i1 i2 σ => X5_allWaited_b4 n (X5_allWaited_run n) a0 i1 i2 σ
noncomputable def X5_allWaited_b0 (n : Nat) (K : Nat → Int32 → Int32 → Sg → Option (Int32 × Sg)) (a0 : Nat) (σ : Sg) : Option (Int32 × Sg) :=
  K a0 0 0 σ
noncomputable def f_X5_allWaited (n : Nat) (a0 : Nat) (σ : Sg) : Option (Int32 × Sg) := X5_allWaited_b0 n (X5_allWaited_run n) a0 σ
-- ===== X5_all
noncomputable def f_X5_all (n : Nat) (a0 : Nat) (i1 : Int32) (σ : Sg) : Option (Int32 × Sg) :=
  (f_X5_in n i1 0 2 σ).bind fun w_1 =>
  if w_1.1 = 0 then
  some ((-2), w_1.2)
  else
  (ck 5 a0 w_1.2).bind fun u_3 =>
    (f_X5_lay n a0 (-6) w_1.2).bind fun w_4 =>
    if i1 = 0 then
    (ck 5 a0 w_4).bind fun u_9 =>
      (f_X5_allWaited n a0  w_4).bind fun w_10 =>
      some (w_10.1, w_10.2)
    else
    if i1 = 1 then
      (gI 5 a0 29 w_4).bind fun v_8 =>
        some (v_8, w_4)
      else
      (gI 5 a0 30 w_4).bind fun v_7 =>
        some (v_7, w_4)
-- ===== X4_held
noncomputable def X4_held_b30 (n : Nat) (σ : Sg) : Option (Int32 × Sg) :=
  some ((-2000000000), σ)
noncomputable def X4_held_b45 (n : Nat) (σ : Sg) : Option (Int32 × Sg) :=
  some ((-2000000000), σ)
noncomputable def f_X4_held (n : Nat) (a0 : Nat) (i1 : Int32) (i2 : Int32) (i3 : Int32) (σ : Sg) : Option (Int32 × Sg) :=
  (gR 4 a0 0 σ).bind fun q_1 =>
  (ck 1 q_1 σ).bind fun u_2 =>
  (f_X1_hasBus n q_1 i1 σ).bind fun w_3 =>
  if w_3.1 = 0 then
  X4_held_b30 n w_3.2
  else
  (f_X4_isGoingStop n i2 w_3.2).bind fun w_5 =>
    if w_5.1 = 0 then
    X4_held_b30 n w_5.2
    else
    (gR 4 a0 0 w_5.2).bind fun q_7 =>
      (ck 1 q_7 w_5.2).bind fun u_8 =>
      (f_X1_comes n q_7 i1 i2 w_5.2).bind fun w_9 =>
      if w_9.1 = 0 then
      X4_held_b30 n w_9.2
      else
      if i3 < 1 then
        X4_held_b45 n w_9.2
        else
        if i3 ≤ 900 then
          (gR 4 a0 3 w_9.2).bind fun q_13 =>
            (gR 4 a0 0 w_9.2).bind fun q_14 =>
            (ck 0 q_13 w_9.2).bind fun u_15 =>
            (f_X0_layLatenesses n q_13 q_14 (-6) w_9.2).bind fun w_16 =>
            (gR 4 a0 3 w_16).bind fun q_17 =>
            (gR 0 q_17 6 w_16).bind fun q_18 =>
            (f_X4_cell n i1 i2 w_16).bind fun w_19 =>
            (aI q_18 w_19.1 w_19.2).bind fun v_20 =>
            (xI q_18 w_19.1 (v_20 + i3) w_19.2).bind fun s_21 =>
            (gR 4 a0 3 s_21).bind fun q_22 =>
            (gR 4 a0 0 s_21).bind fun q_23 =>
            (gR 4 a0 4 s_21).bind fun q_24 =>
            (ck 0 q_22 s_21).bind fun u_25 =>
            (f_X0_play n q_22 q_23 q_24 s_21).bind fun w_26 =>
            (ck 4 a0 w_26).bind fun u_27 =>
            (f_X4_presentCourse n a0  w_26).bind fun w_28 =>
            (gR 4 a0 3 w_28.2).bind fun q_29 =>
            (ck 0 q_29 w_28.2).bind fun u_30 =>
            (f_X0_sumOfWaits n q_29  w_28.2).bind fun w_31 =>
            (gR 4 a0 3 w_31.2).bind fun q_32 =>
            (gJ 0 q_32 10 w_31.2).bind fun v_33 =>
            (ck 0 w_28.1 w_31.2).bind fun u_34 =>
            (f_X0_sumOfWaits n w_28.1  w_31.2).bind fun w_35 =>
            (gJ 0 w_28.1 10 w_35.2).bind fun v_36 =>
            some ((((w_31.1 + v_33) - w_35.1) - v_36).toInt32, w_35.2)
          else
          X4_held_b45 n w_9.2
-- ===== X5_held
noncomputable def X5_held_b26 (n : Nat) (σ : Sg) : Option (Int32 × Sg) :=
  some ((-2000000000), σ)
noncomputable def f_X5_held (n : Nat) (a0 : Nat) (i1 : Int32) (i2 : Int32) (i3 : Int32) (σ : Sg) : Option (Int32 × Sg) :=
  (ck 5 a0 σ).bind fun u_1 =>
  (f_X5_isBus n a0 i1 σ).bind fun w_2 =>
  if w_2.1 = 0 then
  X5_held_b26 n w_2.2
  else
  (f_X5_isOn n i2 w_2.2).bind fun w_4 =>
    if w_4.1 = 0 then
    X5_held_b26 n w_4.2
    else
    (f_X5_in n i3 1 900 w_4.2).bind fun w_6 =>
      if w_6.1 = 0 then
      X5_held_b26 n w_6.2
      else
      (ck 5 a0 w_6.2).bind fun u_8 =>
        (f_X5_lay n a0 (-6) w_6.2).bind fun w_9 =>
        (gR 5 a0 17 w_9).bind fun q_10 =>
        (aI q_10 ((10 * i1) + i2) w_9).bind fun v_11 =>
        if 0 ≤ v_11 then
        (ck 5 a0 w_9).bind fun u_13 =>
          (f_X5_allWaited n a0  w_9).bind fun w_14 =>
          (gI 5 a0 29 w_14.2).bind fun v_15 =>
          (some (w_14.1 + v_15)).bind fun i4_16 =>
          (gR 5 a0 9 w_14.2).bind fun q_17 =>
          (gI 5 a0 8 w_14.2).bind fun v_18 =>
          (xI q_17 v_18 i1 w_14.2).bind fun s_19 =>
          (gR 5 a0 10 s_19).bind fun q_20 =>
          (gI 5 a0 8 s_19).bind fun v_21 =>
          (xI q_20 v_21 i2 s_19).bind fun s_22 =>
          (gR 5 a0 11 s_22).bind fun q_23 =>
          (gI 5 a0 8 s_22).bind fun v_24 =>
          (xI q_23 v_24 i3 s_22).bind fun s_25 =>
          (gI 5 a0 8 s_25).bind fun v_26 =>
          (pI 5 a0 8 (v_26 + 1) s_25).bind fun s_27 =>
          (ck 5 a0 s_27).bind fun u_28 =>
          (f_X5_lay n a0 (-6) s_27).bind fun w_29 =>
          (gI 5 a0 8 w_29).bind fun v_30 =>
          (pI 5 a0 8 (v_30 - 1) w_29).bind fun s_31 =>
          (ck 5 a0 s_31).bind fun u_32 =>
          (f_X5_allWaited n a0  s_31).bind fun w_33 =>
          (gI 5 a0 29 w_33.2).bind fun v_34 =>
          some ((w_33.1 + v_34) - i4_16, w_33.2)
        else
        some ((-2000000000), w_9)
-- ===== X0_stopsLeft
noncomputable def X0_stopsLeft_b30 (n : Nat) (K : Nat → Int32 → Int32 → Int32 → Int32 → Sg → Option (Int32 × Sg)) (i4 : Int32) (σ : Sg) : Option (Int32 × Sg) :=
  some (i4, σ)
noncomputable def X0_stopsLeft_b3 (n : Nat) (K : Nat → Int32 → Int32 → Int32 → Int32 → Sg → Option (Int32 × Sg)) (a0 : Nat) (i1 : Int32) (i2 : Int32) (i3 : Int32) (i4 : Int32) (σ : Sg) : Option (Int32 × Sg) :=
  if i2 ≤ i4 then
  X0_stopsLeft_b30 n K i4 σ
  else
  (gR 0 a0 1 σ).bind fun q_2 =>
    (f_X4_cell n i1 i4 σ).bind fun w_3 =>
    (aI q_2 w_3.1 w_3.2).bind fun v_4 =>
    if i3 < v_4 then
    X0_stopsLeft_b30 n K i4 w_3.2
    else
    (some (i4 + 1)).bind fun i4_6 =>
      K a0 i1 i2 i3 i4_6 w_3.2
noncomputable def X0_stopsLeft_run : Nat → Nat → Int32 → Int32 → Int32 → Int32 → Sg → Option (Int32 × Sg)
  | 0 => fun _ _ _ _ _ _ => none
  | n + 1 => fun a0 i1 i2 i3 i4 σ => X0_stopsLeft_b3 n (X0_stopsLeft_run n) a0 i1 i2 i3 i4 σ
noncomputable def X0_stopsLeft_b0 (n : Nat) (K : Nat → Int32 → Int32 → Int32 → Int32 → Sg → Option (Int32 × Sg)) (a0 : Nat) (i1 : Int32) (i2 : Int32) (i3 : Int32) (σ : Sg) : Option (Int32 × Sg) :=
  K a0 i1 i2 i3 0 σ
noncomputable def f_X0_stopsLeft (n : Nat) (a0 : Nat) (i1 : Int32) (i2 : Int32) (i3 : Int32) (σ : Sg) : Option (Int32 × Sg) := X0_stopsLeft_b0 n (X0_stopsLeft_run n) a0 i1 i2 i3 σ
-- ===== X0_nearestBus
noncomputable def X0_nearestBus_b69 (n : Nat) (K : Nat → Nat → Int32 → Int32 → Int32 → Int32 → Int32 → Sg → Option (Int32 × Sg)) (a0 : Nat) (a1 : Nat) (i2 : Int32) (i3 : Int32) (i4 : Int32) (i5 : Int32) (i6 : Int32) (σ : Sg) : Option (Int32 × Sg) :=
  (some (i6 + 1)).bind fun i6_1 =>
  K a0 a1 i2 i3 i4 i5 i6_1 σ
noncomputable def X0_nearestBus_b10 (n : Nat) (K : Nat → Nat → Int32 → Int32 → Int32 → Int32 → Int32 → Sg → Option (Int32 × Sg)) (a0 : Nat) (a1 : Nat) (i2 : Int32) (i3 : Int32) (i4 : Int32) (i5 : Int32) (i6 : Int32) (σ : Sg) : Option (Int32 × Sg) :=
  (gI 1 a1 7 σ).bind fun v_2 =>
  if v_2 ≤ i6 then
  some (i4, σ)
  else
  (ck 1 a1 σ).bind fun u_4 =>
    (f_X1_comes n a1 i6 i2 σ).bind fun w_5 =>
    if w_5.1 = 0 then
    X0_nearestBus_b69 n K a0 a1 i2 i3 i4 i5 i6 w_5.2
    else
    (gR 0 a0 0 w_5.2).bind fun q_7 =>
      (f_X4_cell n i6 i2 w_5.2).bind fun w_8 =>
      (aI q_7 w_8.1 w_8.2).bind fun v_9 =>
      if v_9 ≤ i3 then
      X0_nearestBus_b69 n K a0 a1 i2 i3 i4 i5 i6 w_8.2
      else
      (ck 0 a0 w_8.2).bind fun u_11 =>
        (f_X0_stopsLeft n a0 i6 i2 i3 w_8.2).bind fun w_12 =>
        if w_12.1 ≤ i5 then
        X0_nearestBus_b69 n K a0 a1 i2 i3 i4 i5 i6 w_12.2
        else
        X0_nearestBus_b69 n K a0 a1 i2 i3 i6 w_12.1 i6 w_12.2
noncomputable def X0_nearestBus_run : Nat → Nat → Nat → Int32 → Int32 → Int32 → Int32 → Int32 → Sg → Option (Int32 × Sg)
  | 0 => fun _ _ _ _ _ _ _ _ => none
  | n + 1 => fun a0 a1 i2 i3 i4 i5 i6 σ => X0_nearestBus_b10 n (X0_nearestBus_run n) a0 a1 i2 i3 i4 i5 i6 σ
noncomputable def X0_nearestBus_b0 (n : Nat) (K : Nat → Nat → Int32 → Int32 → Int32 → Int32 → Int32 → Sg → Option (Int32 × Sg)) (a0 : Nat) (a1 : Nat) (i2 : Int32) (i3 : Int32) (σ : Sg) : Option (Int32 × Sg) :=
  K a0 a1 i2 i3 (-6) 0 0 σ
noncomputable def f_X0_nearestBus (n : Nat) (a0 : Nat) (a1 : Nat) (i2 : Int32) (i3 : Int32) (σ : Sg) : Option (Int32 × Sg) := X0_nearestBus_b0 n (X0_nearestBus_run n) a0 a1 i2 i3 σ
-- ===== X0_shownSeconds
noncomputable def X0_shownSeconds_b36 (n : Nat) (K : Nat → Int32 → Int32 → Int32 → Int32 → Sg → Option (Int32 × Sg)) (a1 : Nat) (i3 : Int32) (i4 : Int32) (i6 : Int32) (i7 : Int32) (σ : Sg) : Option (Int32 × Sg) :=
  if i3 ≤ i7 then
  some (if (i6 - i4) < 0 then 0 else (i6 - i4), σ)
  else
  (gR 1 a1 0 σ).bind fun q_2 =>
    (aI q_2 i7 σ).bind fun v_3 =>
    (some (i6 + v_3)).bind fun i6_4 =>
    (some (i7 + 1)).bind fun i7_5 =>
    K a1 i3 i4 i6_4 i7_5 σ
noncomputable def X0_shownSeconds_run : Nat → Nat → Int32 → Int32 → Int32 → Int32 → Sg → Option (Int32 × Sg)
  | 0 => fun _ _ _ _ _ _ => none
  | n + 1 => fun a1 i3 i4 i6 i7 σ => X0_shownSeconds_b36 n (X0_shownSeconds_run n) a1 i3 i4 i6 i7 σ
noncomputable def X0_shownSeconds_b0 (n : Nat) (K : Nat → Int32 → Int32 → Int32 → Int32 → Sg → Option (Int32 × Sg)) (a0 : Nat) (a1 : Nat) (i2 : Int32) (i3 : Int32) (i4 : Int32) (σ : Sg) : Option (Int32 × Sg) :=
  (ck 0 a0 σ).bind fun u_6 =>
  (f_X0_stopsLeft n a0 i2 i3 i4 σ).bind fun w_7 =>
  (some (w_7.1 - 1)).bind fun i5_8 =>
  if 0 ≤ i5_8 then
  (gR 0 a0 1 w_7.2).bind fun q_10 =>
    (f_X4_cell n i2 i5_8 w_7.2).bind fun w_11 =>
    (aI q_10 w_11.1 w_11.2).bind fun v_12 =>
    K a1 i3 i4 v_12 i5_8 w_11.2
  else
  some (0, w_7.2)
noncomputable def f_X0_shownSeconds (n : Nat) (a0 : Nat) (a1 : Nat) (i2 : Int32) (i3 : Int32) (i4 : Int32) (σ : Sg) : Option (Int32 × Sg) := X0_shownSeconds_b0 n (X0_shownSeconds_run n) a0 a1 i2 i3 i4 σ
-- ===== X4_board
noncomputable def X4_board_b11 (n : Nat) (σ : Sg) : Option (Int32 × Sg) :=
  some ((-1), σ)
noncomputable def X4_board_b33 (n : Nat) (σ : Sg) : Option (Int32 × Sg) :=
  some ((-2), σ)
noncomputable def f_X4_board (n : Nat) (a0 : Nat) (i1 : Int32) (i2 : Int32) (i3 : Int32) (σ : Sg) : Option (Int32 × Sg) :=
  if i1 < 1 then
  X4_board_b11 n σ
  else
  if i1 ≤ 9 then
    if i2 < 0 then
      X4_board_b33 n σ
      else
      if 20000 < i2 then
        X4_board_b33 n σ
        else
        if i3 < 0 then
          X4_board_b33 n σ
          else
          if i3 ≤ 2 then
            (ck 4 a0 σ).bind fun u_7 =>
              (f_X4_presentCourse n a0  σ).bind fun w_8 =>
              (gR 4 a0 0 w_8.2).bind fun q_9 =>
              (ck 0 w_8.1 w_8.2).bind fun u_10 =>
              (f_X0_nearestBus n w_8.1 q_9 i1 i2 w_8.2).bind fun w_11 =>
              if w_11.1 = (-6) then
              if i3 = 2 then
                some ((-2000000000), w_11.2)
                else
                some ((-6), w_11.2)
              else
              if i3 = 1 then
                some (w_11.1, w_11.2)
                else
                (gR 4 a0 0 w_11.2).bind fun q_14 =>
                  (ck 0 w_8.1 w_11.2).bind fun u_15 =>
                  (f_X0_shownSeconds n w_8.1 q_14 w_11.1 i1 i2 w_11.2).bind fun w_16 =>
                  if i3 = 0 then
                  some (w_16.1, w_16.2)
                  else
                  (gR 0 w_8.1 0 w_16.2).bind fun q_18 =>
                    (f_X4_cell n w_11.1 i1 w_16.2).bind fun w_19 =>
                    (aI q_18 w_19.1 w_19.2).bind fun v_20 =>
                    some ((v_20 - i2) - w_16.1, w_19.2)
            else
            X4_board_b33 n σ
    else
    X4_board_b11 n σ
-- ===== X5_board
noncomputable def X5_board_b51 (n : Nat) (K : Nat → Nat → Int32 → Int32 → Int32 → Int32 → Int32 → Int32 → Int32 → Int32 → Sg → Option (Int32 × Sg)) (a0 : Nat) (i1 : Int32) (i2 : Int32) (i3 : Int32) (i4 : Int32) (i5 : Int32) (i6 : Int32) (σ : Sg) : Option (Int32 × Sg) :=
  (gI 5 a0 3 σ).bind fun v_1 =>
  if v_1 ≤ i6 then
  if 0 ≤ i4 then
    (gR 5 a0 18 σ).bind fun q_4 =>
      (aI q_4 (((10 * i4) + i5) - 1) σ).bind fun v_5 =>
      (some (v_5 - i2)).bind fun i6_6 =>
      (some (i5 - 1)).bind fun i7_7 =>
      K 201 a0 i1 i2 i3 i4 0 i6_6 i7_7 0 σ
    else
    if i3 = 2 then
      some ((-2000000000), σ)
      else
      some ((-6), σ)
  else
  K 66 a0 i1 i2 i3 i4 i5 i6 0 0 σ
noncomputable def X5_board_b112 (n : Nat) (K : Nat → Nat → Int32 → Int32 → Int32 → Int32 → Int32 → Int32 → Int32 → Int32 → Sg → Option (Int32 × Sg)) (a0 : Nat) (i1 : Int32) (i2 : Int32) (i3 : Int32) (i4 : Int32) (i5 : Int32) (i6 : Int32) (i8 : Int32) (ti0 : Int32) (ti1 : Int32) (σ : Sg) : Option (Int32 × Sg) :=
  (some (ti0 + ti1)).bind fun i7_9 =>
  (some (i8 + 1)).bind fun i8_10 =>
  K 66 a0 i1 i2 i3 i4 i5 i6 i7_9 i8_10 σ
noncomputable def X5_board_b111 (n : Nat) (K : Nat → Nat → Int32 → Int32 → Int32 → Int32 → Int32 → Int32 → Int32 → Int32 → Sg → Option (Int32 × Sg)) (a0 : Nat) (i1 : Int32) (i2 : Int32) (i3 : Int32) (i4 : Int32) (i5 : Int32) (i6 : Int32) (i8 : Int32) (ti0 : Int32) (σ : Sg) : Option (Int32 × Sg) :=
  X5_board_b112 n K a0 i1 i2 i3 i4 i5 i6 i8 ti0 0 σ
noncomputable def X5_board_b152 (n : Nat) (K : Nat → Nat → Int32 → Int32 → Int32 → Int32 → Int32 → Int32 → Int32 → Int32 → Sg → Option (Int32 × Sg)) (a0 : Nat) (i1 : Int32) (i2 : Int32) (i3 : Int32) (i4 : Int32) (i5 : Int32) (i6 : Int32) (σ : Sg) : Option (Int32 × Sg) :=
  (some (i6 + 1)).bind fun i6_11 =>
  K 51 a0 i1 i2 i3 i4 i5 i6_11 0 0 σ
noncomputable def X5_board_b66 (n : Nat) (K : Nat → Nat → Int32 → Int32 → Int32 → Int32 → Int32 → Int32 → Int32 → Int32 → Sg → Option (Int32 × Sg)) (a0 : Nat) (i1 : Int32) (i2 : Int32) (i3 : Int32) (i4 : Int32) (i5 : Int32) (i6 : Int32) (i7 : Int32) (i8 : Int32) (σ : Sg) : Option (Int32 × Sg) :=
  if i1 ≤ i8 then
  (gR 5 a0 17 σ).bind fun q_13 =>
    (aI q_13 ((10 * i6) + i1) σ).bind fun v_14 =>
    if v_14 ≤ i2 then
    X5_board_b152 n K a0 i1 i2 i3 i4 i5 i6 σ
    else
    if i7 ≤ i5 then
      X5_board_b152 n K a0 i1 i2 i3 i4 i5 i6 σ
      else
      X5_board_b152 n K a0 i1 i2 i3 i6 i7 i6 σ
  else
  (gR 5 a0 18 σ).bind fun q_17 =>
    (aI q_17 ((10 * i6) + i8) σ).bind fun v_18 =>
    if v_18 < 0 then
    X5_board_b111 n K a0 i1 i2 i3 i4 i5 i6 i8 i7 σ
    else
    (gR 5 a0 18 σ).bind fun q_20 =>
      (aI q_20 ((10 * i6) + i8) σ).bind fun v_21 =>
      if i2 < v_21 then
      X5_board_b111 n K a0 i1 i2 i3 i4 i5 i6 i8 i7 σ
      else
      X5_board_b112 n K a0 i1 i2 i3 i4 i5 i6 i8 i7 1 σ
noncomputable def X5_board_b236 (n : Nat) (K : Nat → Nat → Int32 → Int32 → Int32 → Int32 → Int32 → Int32 → Int32 → Int32 → Sg → Option (Int32 × Sg)) (a0 : Nat) (i1 : Int32) (i2 : Int32) (i3 : Int32) (i4 : Int32) (ti0 : Int32) (σ : Sg) : Option (Int32 × Sg) :=
  if i3 = 0 then
  some (ti0, σ)
  else
  if i3 = 1 then
    some (i4, σ)
    else
    (gR 5 a0 17 σ).bind fun q_25 =>
      (aI q_25 ((10 * i4) + i1) σ).bind fun v_26 =>
      some ((v_26 - i2) - ti0, σ)
noncomputable def X5_board_b201 (n : Nat) (K : Nat → Nat → Int32 → Int32 → Int32 → Int32 → Int32 → Int32 → Int32 → Int32 → Sg → Option (Int32 × Sg)) (a0 : Nat) (i1 : Int32) (i2 : Int32) (i3 : Int32) (i4 : Int32) (i6 : Int32) (i7 : Int32) (σ : Sg) : Option (Int32 × Sg) :=
  if i1 ≤ i7 then
  if 0 ≤ i6 then
    X5_board_b236 n K a0 i1 i2 i3 i4 i6 σ
    else
    X5_board_b236 n K a0 i1 i2 i3 i4 0 σ
  else
  (gR 5 a0 0 σ).bind fun q_29 =>
    (aI q_29 i7 σ).bind fun v_30 =>
    (some (i6 + v_30)).bind fun i6_31 =>
    (some (i7 + 1)).bind fun i7_32 =>
    K 201 a0 i1 i2 i3 i4 0 i6_31 i7_32 0 σ
noncomputable def X5_board_b32 (n : Nat) (K : Nat → Nat → Int32 → Int32 → Int32 → Int32 → Int32 → Int32 → Int32 → Int32 → Sg → Option (Int32 × Sg)) (σ : Sg) : Option (Int32 × Sg) :=
  some ((-2), σ)
noncomputable def X5_board_run : Nat → Nat → Nat → Int32 → Int32 → Int32 → Int32 → Int32 → Int32 → Int32 → Int32 → Sg → Option (Int32 × Sg)
  | 0 => fun _ _ _ _ _ _ _ _ _ _ _ => none
  | n + 1 => fun hd a0 i1 i2 i3 i4 i5 i6 i7 i8 σ => if hd = 51 then X5_board_b51 n (X5_board_run n) a0 i1 i2 i3 i4 i5 i6 σ else if hd = 66 then X5_board_b66 n (X5_board_run n) a0 i1 i2 i3 i4 i5 i6 i7 i8 σ else X5_board_b201 n (X5_board_run n) a0 i1 i2 i3 i4 i6 i7 σ
noncomputable def X5_board_b0 (n : Nat) (K : Nat → Nat → Int32 → Int32 → Int32 → Int32 → Int32 → Int32 → Int32 → Int32 → Sg → Option (Int32 × Sg)) (a0 : Nat) (i1 : Int32) (i2 : Int32) (i3 : Int32) (σ : Sg) : Option (Int32 × Sg) :=
  (f_X5_in n i1 1 9 σ).bind fun w_33 =>
  if w_33.1 = 0 then
  some ((-1), w_33.2)
  else
  (f_X5_in n i2 0 20000 w_33.2).bind fun w_35 =>
    if w_35.1 = 0 then
    X5_board_b32 n K w_35.2
    else
    (f_X5_in n i3 0 2 w_35.2).bind fun w_37 =>
      if w_37.1 = 0 then
      X5_board_b32 n K w_37.2
      else
      (ck 5 a0 w_37.2).bind fun u_39 =>
        (f_X5_lay n a0 (-6) w_37.2).bind fun w_40 =>
        K 51 a0 i1 i2 i3 (-6) 0 0 0 0 w_40
noncomputable def f_X5_board (n : Nat) (a0 : Nat) (i1 : Int32) (i2 : Int32) (i3 : Int32) (σ : Sg) : Option (Int32 × Sg) := X5_board_b0 n (X5_board_run n) a0 i1 i2 i3 σ
-- ===== X2_keepOnlyGap
noncomputable def f_X2_keepOnlyGap (n : Nat) (a0 : Nat) (i1 : Int32) (i2 : Int32) (σ : Sg) : Option (Sg) :=
  (ck 2 a0 σ).bind fun u_1 =>
  (f_X2_clear n a0  σ).bind fun w_2 =>
  (gR 2 a0 0 w_2).bind fun q_3 =>
  (xI q_3 i1 103 w_2).bind fun s_4 =>
  (gR 2 a0 1 s_4).bind fun q_5 =>
  (xI q_5 i1 i2 s_4).bind fun s_6 =>
  (pI 2 a0 2 1 s_6).bind fun s_7 =>
  some s_7
-- ===== X4_findBest
noncomputable def X4_findBest_b17 (n : Nat) (K : Nat → Nat → Int64 → Int32 → Int32 → Sg → Option (Sg)) (a0 : Nat) (j1 : Int64) (i3 : Int32) (σ : Sg) : Option (Sg) :=
  if 9 ≤ i3 then
  some σ
  else
  K 26 a0 j1 i3 0 σ
noncomputable def X4_findBest_b131 (n : Nat) (K : Nat → Nat → Int64 → Int32 → Int32 → Sg → Option (Sg)) (a0 : Nat) (j1 : Int64) (i3 : Int32) (i4 : Int32) (σ : Sg) : Option (Sg) :=
  (some (i4 + 60)).bind fun i4_2 =>
  K 26 a0 j1 i3 i4_2 σ
noncomputable def X4_findBest_b117 (n : Nat) (K : Nat → Nat → Int64 → Int32 → Int32 → Sg → Option (Sg)) (a0 : Nat) (i3 : Int32) (i4 : Int32) (j5 : Int64) (σ : Sg) : Option (Sg) :=
  (pI 4 a0 8 i3 σ).bind fun s_3 =>
  (pI 4 a0 9 i4 s_3).bind fun s_4 =>
  X4_findBest_b131 n K a0 j5 i3 i4 s_4
noncomputable def X4_findBest_b103 (n : Nat) (K : Nat → Nat → Int64 → Int32 → Int32 → Sg → Option (Sg)) (a0 : Nat) (j1 : Int64) (i3 : Int32) (i4 : Int32) (j5 : Int64) (ti0 : Int32) (σ : Sg) : Option (Sg) :=
  if ti0 = 0 then
  if 0 ≤ (lg_cmp j5 j1) then
    X4_findBest_b131 n K a0 j1 i3 i4 σ
    else
    X4_findBest_b117 n K a0 i3 i4 j5 σ
  else
  X4_findBest_b117 n K a0 i3 i4 j5 σ
noncomputable def X4_findBest_b102 (n : Nat) (K : Nat → Nat → Int64 → Int32 → Int32 → Sg → Option (Sg)) (a0 : Nat) (j1 : Int64) (i3 : Int32) (i4 : Int32) (j5 : Int64) (σ : Sg) : Option (Sg) :=
  X4_findBest_b103 n K a0 j1 i3 i4 j5 0 σ
noncomputable def X4_findBest_b26 (n : Nat) (K : Nat → Nat → Int64 → Int32 → Int32 → Sg → Option (Sg)) (a0 : Nat) (j1 : Int64) (i3 : Int32) (i4 : Int32) (σ : Sg) : Option (Sg) :=
  if 600 < i4 then
  (some (i3 + 1)).bind fun i3_8 =>
    K 17 a0 j1 i3_8 0 σ
  else
  (gR 4 a0 5 σ).bind fun q_9 =>
    (ck 2 q_9 σ).bind fun u_10 =>
    (f_X2_keepOnlyGap n q_9 i3 i4 σ).bind fun w_11 =>
    (gR 4 a0 3 w_11).bind fun q_12 =>
    (gR 4 a0 0 w_11).bind fun q_13 =>
    (gR 4 a0 5 w_11).bind fun q_14 =>
    (ck 0 q_12 w_11).bind fun u_15 =>
    (f_X0_play n q_12 q_13 q_14 w_11).bind fun w_16 =>
    (gR 4 a0 3 w_16).bind fun q_17 =>
    (ck 0 q_17 w_16).bind fun u_18 =>
    (f_X0_sumOfWaits n q_17  w_16).bind fun w_19 =>
    (gR 4 a0 3 w_19.2).bind fun q_20 =>
    (gJ 0 q_20 10 w_19.2).bind fun v_21 =>
    (gR 4 a0 3 w_19.2).bind fun q_22 =>
    (gI 0 q_22 11 w_19.2).bind fun v_23 =>
    (some ((w_19.1 + v_21) + (1000 * v_23.toInt64))).bind fun j5_24 =>
    if i3 = 0 then
    if i4 = 0 then
      X4_findBest_b103 n K a0 j1 i3 i4 j5_24 1 w_19.2
      else
      X4_findBest_b102 n K a0 j1 i3 i4 j5_24 w_19.2
    else
    X4_findBest_b102 n K a0 j1 i3 i4 j5_24 w_19.2
noncomputable def X4_findBest_run : Nat → Nat → Nat → Int64 → Int32 → Int32 → Sg → Option (Sg)
  | 0 => fun _ _ _ _ _ _ => none
  | n + 1 => fun hd a0 j1 i3 i4 σ => if hd = 17 then X4_findBest_b17 n (X4_findBest_run n) a0 j1 i3 σ else X4_findBest_b26 n (X4_findBest_run n) a0 j1 i3 i4 σ
noncomputable def X4_findBest_b0 (n : Nat) (K : Nat → Nat → Int64 → Int32 → Int32 → Sg → Option (Sg)) (a0 : Nat) (σ : Sg) : Option (Sg) :=
  (gR 4 a0 3 σ).bind fun q_27 =>
  (gR 4 a0 0 σ).bind fun q_28 =>
  (ck 0 q_27 σ).bind fun u_29 =>
  (f_X0_layLatenesses n q_27 q_28 (-6) σ).bind fun w_30 =>
  K 17 a0 0 0 0 w_30
noncomputable def f_X4_findBest (n : Nat) (a0 : Nat) (σ : Sg) : Option (Sg) := X4_findBest_b0 n (X4_findBest_run n) a0 σ
-- ===== X4_best
noncomputable def X4_best_b9 (n : Nat) (σ : Sg) : Option (Int32 × Sg) :=
  some ((-2), σ)
noncomputable def X4_best_b42 (n : Nat) (a0 : Nat) (i1 : Int32) (σ : Sg) : Option (Int32 × Sg) :=
  if i1 = 0 then
  (gI 4 a0 8 σ).bind fun v_3 =>
    some (v_3, σ)
  else
  (gI 4 a0 9 σ).bind fun v_2 =>
    some (v_2, σ)
noncomputable def f_X4_best (n : Nat) (a0 : Nat) (i1 : Int32) (σ : Sg) : Option (Int32 × Sg) :=
  if i1 < 0 then
  X4_best_b9 n σ
  else
  if i1 ≤ 1 then
    (gR 4 a0 0 σ).bind fun q_6 =>
      (gI 1 q_6 7 σ).bind fun v_7 =>
      if 1 ≤ v_7 then
      (gI 4 a0 7 σ).bind fun v_9 =>
        if v_9 = 0 then
        (ck 4 a0 σ).bind fun u_11 =>
          (f_X4_findBest n a0  σ).bind fun w_12 =>
          (pI 4 a0 7 1 w_12).bind fun s_13 =>
          X4_best_b42 n a0 i1 s_13
        else
        X4_best_b42 n a0 i1 σ
      else
      some ((-3), σ)
    else
    X4_best_b9 n σ
-- ===== X5_best
noncomputable def X5_best_b24 (n : Nat) (K : Nat → Nat → Int32 → Int32 → Int32 → Int32 → Int32 → Sg → Option (Int32 × Sg)) (a0 : Nat) (i1 : Int32) (i2 : Int32) (σ : Sg) : Option (Int32 × Sg) :=
  if 10 ≤ i2 then
  K 75 a0 i1 (-6) 0 0 0 σ
  else
  (gR 5 a0 35 σ).bind fun q_2 =>
    (gR 5 a0 15 σ).bind fun q_3 =>
    (aI q_3 i2 σ).bind fun v_4 =>
    (xI q_2 i2 v_4 σ).bind fun s_5 =>
    (gR 5 a0 36 s_5).bind fun q_6 =>
    (gR 5 a0 16 s_5).bind fun q_7 =>
    (aI q_7 i2 s_5).bind fun v_8 =>
    (xI q_6 i2 v_8 s_5).bind fun s_9 =>
    (gR 5 a0 15 s_9).bind fun q_10 =>
    (xI q_10 i2 0 s_9).bind fun s_11 =>
    (some (i2 + 1)).bind fun i2_12 =>
    K 24 a0 i1 i2_12 0 0 0 s_11
noncomputable def X5_best_b75 (n : Nat) (K : Nat → Nat → Int32 → Int32 → Int32 → Int32 → Int32 → Sg → Option (Int32 × Sg)) (a0 : Nat) (i1 : Int32) (i2 : Int32) (i3 : Int32) (i4 : Int32) (σ : Sg) : Option (Int32 × Sg) :=
  if 9 ≤ i4 then
  K 182 a0 i1 i2 0 0 0 σ
  else
  K 85 a0 i1 i2 i3 i4 0 σ
noncomputable def X5_best_b159 (n : Nat) (K : Nat → Nat → Int32 → Int32 → Int32 → Int32 → Int32 → Sg → Option (Int32 × Sg)) (a0 : Nat) (i1 : Int32) (i2 : Int32) (i3 : Int32) (i4 : Int32) (i5 : Int32) (σ : Sg) : Option (Int32 × Sg) :=
  (some (i5 + 60)).bind fun i5_14 =>
  K 85 a0 i1 i2 i3 i4 i5_14 σ
noncomputable def X5_best_b146 (n : Nat) (K : Nat → Nat → Int32 → Int32 → Int32 → Int32 → Int32 → Sg → Option (Int32 × Sg)) (a0 : Nat) (i1 : Int32) (i4 : Int32) (i5 : Int32) (i6 : Int32) (σ : Sg) : Option (Int32 × Sg) :=
  (some ((1000 * i4) + i5)).bind fun i2_15 =>
  X5_best_b159 n K a0 i1 i2_15 i6 i4 i5 σ
noncomputable def X5_best_b85 (n : Nat) (K : Nat → Nat → Int32 → Int32 → Int32 → Int32 → Int32 → Sg → Option (Int32 × Sg)) (a0 : Nat) (i1 : Int32) (i2 : Int32) (i3 : Int32) (i4 : Int32) (i5 : Int32) (σ : Sg) : Option (Int32 × Sg) :=
  if 600 < i5 then
  (gR 5 a0 15 σ).bind fun q_17 =>
    (xI q_17 i4 0 σ).bind fun s_18 =>
    (some (i4 + 1)).bind fun i4_19 =>
    K 75 a0 i1 i2 i3 i4_19 0 s_18
  else
  (gR 5 a0 15 σ).bind fun q_20 =>
    (xI q_20 i4 2 σ).bind fun s_21 =>
    (gR 5 a0 16 s_21).bind fun q_22 =>
    (xI q_22 i4 i5 s_21).bind fun s_23 =>
    (ck 5 a0 s_23).bind fun u_24 =>
    (f_X5_lay n a0 (-6) s_23).bind fun w_25 =>
    (ck 5 a0 w_25).bind fun u_26 =>
    (f_X5_allWaited n a0  w_25).bind fun w_27 =>
    (gI 5 a0 29 w_27.2).bind fun v_28 =>
    (gI 5 a0 30 w_27.2).bind fun v_29 =>
    (some ((w_27.1 + v_28) + (1000 * v_29))).bind fun i6_30 =>
    if i2 < 0 then
    X5_best_b146 n K a0 i1 i4 i5 i6_30 w_27.2
    else
    if i3 ≤ i6_30 then
      X5_best_b159 n K a0 i1 i2 i3 i4 i5 w_27.2
      else
      X5_best_b146 n K a0 i1 i4 i5 i6_30 w_27.2
noncomputable def X5_best_b182 (n : Nat) (K : Nat → Nat → Int32 → Int32 → Int32 → Int32 → Int32 → Sg → Option (Int32 × Sg)) (a0 : Nat) (i1 : Int32) (i2 : Int32) (i4 : Int32) (σ : Sg) : Option (Int32 × Sg) :=
  if 10 ≤ i4 then
  if i1 = 0 then
    (dv 1000).bind fun u_36 =>
      some (i2 / 1000, σ)
    else
    (dv 1000).bind fun u_35 =>
      some (i2 - i2 / 1000 * 1000, σ)
  else
  (gR 5 a0 15 σ).bind fun q_37 =>
    (gR 5 a0 35 σ).bind fun q_38 =>
    (aI q_38 i4 σ).bind fun v_39 =>
    (xI q_37 i4 v_39 σ).bind fun s_40 =>
    (gR 5 a0 16 s_40).bind fun q_41 =>
    (gR 5 a0 36 s_40).bind fun q_42 =>
    (aI q_42 i4 s_40).bind fun v_43 =>
    (xI q_41 i4 v_43 s_40).bind fun s_44 =>
    (some (i4 + 1)).bind fun i4_45 =>
    K 182 a0 i1 i2 0 i4_45 0 s_44
noncomputable def X5_best_run : Nat → Nat → Nat → Int32 → Int32 → Int32 → Int32 → Int32 → Sg → Option (Int32 × Sg)
  | 0 => fun _ _ _ _ _ _ _ _ => none
  | n + 1 => fun hd a0 i1 i2 i3 i4 i5 σ => if hd = 24 then X5_best_b24 n (X5_best_run n) a0 i1 i2 σ else if hd = 75 then X5_best_b75 n (X5_best_run n) a0 i1 i2 i3 i4 σ else if hd = 85 then X5_best_b85 n (X5_best_run n) a0 i1 i2 i3 i4 i5 σ else X5_best_b182 n (X5_best_run n) a0 i1 i2 i4 σ
noncomputable def X5_best_b0 (n : Nat) (K : Nat → Nat → Int32 → Int32 → Int32 → Int32 → Int32 → Sg → Option (Int32 × Sg)) (a0 : Nat) (i1 : Int32) (σ : Sg) : Option (Int32 × Sg) :=
  (f_X5_in n i1 0 1 σ).bind fun w_46 =>
  if w_46.1 = 0 then
  some ((-2), w_46.2)
  else
  (gI 5 a0 3 w_46.2).bind fun v_48 =>
    if v_48 = 0 then
    some ((-3), w_46.2)
    else
    K 24 a0 i1 0 0 0 0 w_46.2
noncomputable def f_X5_best (n : Nat) (a0 : Nat) (i1 : Int32) (σ : Sg) : Option (Int32 × Sg) := X5_best_b0 n (X5_best_run n) a0 i1 σ
-- ===== X4_told
noncomputable def X4_told_b89 (n : Nat) (σ : Sg) : Option (Int32 × Sg) :=
  some ((-2), σ)
noncomputable def f_X4_told (n : Nat) (a0 : Nat) (i1 : Int32) (σ : Sg) : Option (Int32 × Sg) :=
  (some i1).bind fun x_1 =>
  if x_1 = 0 then
  (gR 4 a0 0 σ).bind fun q_2 =>
    (gI 1 q_2 7 σ).bind fun v_3 =>
    some (v_3, σ)
  else
  if x_1 = 1 then
    (gR 4 a0 0 σ).bind fun q_5 =>
      (gI 1 q_5 11 σ).bind fun v_6 =>
      some (v_6, σ)
    else
    if x_1 = 2 then
      (gR 4 a0 1 σ).bind fun q_8 =>
        (gI 3 q_8 1 σ).bind fun v_9 =>
        some (v_9, σ)
      else
      if x_1 = 3 then
        (gR 4 a0 4 σ).bind fun q_11 =>
          (gI 2 q_11 2 σ).bind fun v_12 =>
          some (v_12, σ)
        else
        if i1 < 4 then
          X4_told_b89 n σ
          else
          if 9 ≤ i1 then
            X4_told_b89 n σ
            else
            (gR 4 a0 0 σ).bind fun q_16 =>
              (gR 1 q_16 3 σ).bind fun q_17 =>
              (aI q_17 (i1 - 4) σ).bind fun v_18 =>
              some (v_18, σ)
-- ===== X5_told
noncomputable def f_X5_told (n : Nat) (a0 : Nat) (i1 : Int32) (σ : Sg) : Option (Int32 × Sg) :=
  if i1 = 0 then
  (gI 5 a0 3 σ).bind fun v_12 =>
    some (v_12, σ)
  else
  if i1 = 1 then
    (gI 5 a0 8 σ).bind fun v_11 =>
      some (v_11, σ)
    else
    if i1 = 2 then
      (gI 5 a0 12 σ).bind fun v_10 =>
        some (v_10, σ)
      else
      if i1 = 3 then
        (gI 5 a0 14 σ).bind fun v_9 =>
          some (v_9, σ)
        else
        (f_X5_in n i1 4 8 σ).bind fun w_5 =>
          if w_5.1 = 0 then
          some ((-2), w_5.2)
          else
          (gR 5 a0 7 w_5.2).bind fun q_7 =>
            (aI q_7 (i1 - 4) w_5.2).bind fun v_8 =>
            some (v_8, w_5.2)
-- ===== L_law
noncomputable def L_law_b780 (n : Nat) (L : Nat) (xs : Nat → Int32) (K : Nat → Nat → Int32 → Sg → Option (Unit)) (a1 : Nat) (a2 : Nat) (i3 : Int32) (σ : Sg) : Option (Unit) :=
  (some (i3 + 4)).bind fun i3_1 =>
  K a1 a2 i3_1 σ
noncomputable def L_law_b18 (n : Nat) (L : Nat) (xs : Nat → Int32) (K : Nat → Nat → Int32 → Sg → Option (Unit)) (a1 : Nat) (a2 : Nat) (i3 : Int32) (σ : Sg) : Option (Unit) :=
  if ((Int32.ofNat L) - 4) < i3 then
  some ()
  else
  (sx L xs i3).bind fun v_3 =>
    (some (v_3 &&& 31)).bind fun x_4 =>
    if x_4 = 0 then
    (sx L xs (i3 + 1)).bind fun v_5 =>
      (sx L xs (i3 + 2)).bind fun v_6 =>
      (sx L xs (i3 + 3)).bind fun v_7 =>
      (ck 4 a1 σ).bind fun u_8 =>
      (f_X4_stop n a1 v_5 v_6 v_7 σ).bind fun w_9 =>
      (sx L xs (i3 + 1)).bind fun v_10 =>
      (sx L xs (i3 + 2)).bind fun v_11 =>
      (sx L xs (i3 + 3)).bind fun v_12 =>
      (ck 5 a2 w_9.2).bind fun u_13 =>
      (f_X5_stop n a2 v_10 v_11 v_12 w_9.2).bind fun w_14 =>
      if w_9.1 = w_14.1 then
      L_law_b780 n L xs K a1 a2 i3 w_14.2
      else
      none
    else
    if x_4 = 1 then
      (sx L xs (i3 + 1)).bind fun v_17 =>
        (sx L xs (i3 + 2)).bind fun v_18 =>
        (ck 4 a1 σ).bind fun u_19 =>
        (f_X4_bus n a1 v_17 v_18 σ).bind fun w_20 =>
        (sx L xs (i3 + 1)).bind fun v_21 =>
        (sx L xs (i3 + 2)).bind fun v_22 =>
        (ck 5 a2 w_20.2).bind fun u_23 =>
        (f_X5_bus n a2 v_21 v_22 w_20.2).bind fun w_24 =>
        if w_20.1 = w_24.1 then
        L_law_b780 n L xs K a1 a2 i3 w_24.2
        else
        none
      else
      if x_4 = 2 then
        (sx L xs (i3 + 1)).bind fun v_27 =>
          (sx L xs (i3 + 2)).bind fun v_28 =>
          (ck 4 a1 σ).bind fun u_29 =>
          (f_X4_set n a1 v_27 v_28 σ).bind fun w_30 =>
          (sx L xs (i3 + 1)).bind fun v_31 =>
          (sx L xs (i3 + 2)).bind fun v_32 =>
          (ck 5 a2 w_30.2).bind fun u_33 =>
          (f_X5_set n a2 v_31 v_32 w_30.2).bind fun w_34 =>
          if w_30.1 = w_34.1 then
          L_law_b780 n L xs K a1 a2 i3 w_34.2
          else
          none
        else
        if x_4 = 3 then
          (sx L xs (i3 + 1)).bind fun v_37 =>
            (sx L xs (i3 + 2)).bind fun v_38 =>
            (sx L xs (i3 + 3)).bind fun v_39 =>
            (ck 4 a1 σ).bind fun u_40 =>
            (f_X4_late n a1 v_37 v_38 v_39 σ).bind fun w_41 =>
            (sx L xs (i3 + 1)).bind fun v_42 =>
            (sx L xs (i3 + 2)).bind fun v_43 =>
            (sx L xs (i3 + 3)).bind fun v_44 =>
            (ck 5 a2 w_41.2).bind fun u_45 =>
            (f_X5_late n a2 v_42 v_43 v_44 w_41.2).bind fun w_46 =>
            if w_41.1 = w_46.1 then
            L_law_b780 n L xs K a1 a2 i3 w_46.2
            else
            none
          else
          if x_4 = 4 then
            (ck 4 a1 σ).bind fun u_49 =>
              (f_X4_mend n a1  σ).bind fun w_50 =>
              (ck 5 a2 w_50.2).bind fun u_51 =>
              (f_X5_mend n a2  w_50.2).bind fun w_52 =>
              if w_50.1 = w_52.1 then
              L_law_b780 n L xs K a1 a2 i3 w_52.2
              else
              none
            else
            if x_4 = 5 then
              (sx L xs (i3 + 1)).bind fun v_55 =>
                (sx L xs (i3 + 2)).bind fun v_56 =>
                (ck 4 a1 σ).bind fun u_57 =>
                (f_X4_turn n a1 v_55 v_56 σ).bind fun w_58 =>
                (sx L xs (i3 + 1)).bind fun v_59 =>
                (sx L xs (i3 + 2)).bind fun v_60 =>
                (ck 5 a2 w_58.2).bind fun u_61 =>
                (f_X5_turn n a2 v_59 v_60 w_58.2).bind fun w_62 =>
                if w_58.1 = w_62.1 then
                L_law_b780 n L xs K a1 a2 i3 w_62.2
                else
                none
              else
              if x_4 = 6 then
                (sx L xs (i3 + 1)).bind fun v_65 =>
                  (sx L xs (i3 + 2)).bind fun v_66 =>
                  (sx L xs (i3 + 3)).bind fun v_67 =>
                  (ck 4 a1 σ).bind fun u_68 =>
                  (f_X4_at n a1 v_65 v_66 v_67 σ).bind fun w_69 =>
                  (sx L xs (i3 + 1)).bind fun v_70 =>
                  (sx L xs (i3 + 2)).bind fun v_71 =>
                  (sx L xs (i3 + 3)).bind fun v_72 =>
                  (ck 5 a2 w_69.2).bind fun u_73 =>
                  (f_X5_at n a2 v_70 v_71 v_72 w_69.2).bind fun w_74 =>
                  if w_69.1 = w_74.1 then
                  L_law_b780 n L xs K a1 a2 i3 w_74.2
                  else
                  none
                else
                if x_4 = 7 then
                  (sx L xs (i3 + 1)).bind fun v_77 =>
                    (ck 4 a1 σ).bind fun u_78 =>
                    (f_X4_say n a1 v_77 σ).bind fun w_79 =>
                    (sx L xs (i3 + 1)).bind fun v_80 =>
                    (ck 5 a2 w_79.2).bind fun u_81 =>
                    (f_X5_say n a2 v_80 w_79.2).bind fun w_82 =>
                    if w_79.1 = w_82.1 then
                    L_law_b780 n L xs K a1 a2 i3 w_82.2
                    else
                    none
                  else
                  if x_4 = 8 then
                    (ck 4 a1 σ).bind fun u_85 =>
                      (f_X4_wipe n a1  σ).bind fun w_86 =>
                      (ck 5 a2 w_86.2).bind fun u_87 =>
                      (f_X5_wipe n a2  w_86.2).bind fun w_88 =>
                      if w_86.1 = w_88.1 then
                      L_law_b780 n L xs K a1 a2 i3 w_88.2
                      else
                      none
                    else
                    if x_4 = 9 then
                      (ck 4 a1 σ).bind fun u_91 =>
                        (f_X4_fault n a1  σ).bind fun w_92 =>
                        (ck 5 a2 w_92.2).bind fun u_93 =>
                        (f_X5_fault n a2  w_92.2).bind fun w_94 =>
                        if w_92.1 = w_94.1 then
                        L_law_b780 n L xs K a1 a2 i3 w_94.2
                        else
                        none
                      else
                      if x_4 = 10 then
                        (ck 4 a1 σ).bind fun u_97 =>
                          (f_X4_rule n a1  σ).bind fun w_98 =>
                          (ck 5 a2 w_98.2).bind fun u_99 =>
                          (f_X5_rule n a2  w_98.2).bind fun w_100 =>
                          if w_98.1 = w_100.1 then
                          L_law_b780 n L xs K a1 a2 i3 w_100.2
                          else
                          none
                        else
                        if x_4 = 11 then
                          (ck 4 a1 σ).bind fun u_103 =>
                            (f_X4_free n a1  σ).bind fun w_104 =>
                            (ck 5 a2 w_104.2).bind fun u_105 =>
                            (f_X5_free n a2  w_104.2).bind fun w_106 =>
                            if w_104.1 = w_106.1 then
                            L_law_b780 n L xs K a1 a2 i3 w_106.2
                            else
                            none
                          else
                          if x_4 = 12 then
                            (sx L xs (i3 + 1)).bind fun v_109 =>
                              (sx L xs (i3 + 2)).bind fun v_110 =>
                              (ck 4 a1 σ).bind fun u_111 =>
                              (f_X4_follow n a1 v_109 v_110 σ).bind fun w_112 =>
                              (sx L xs (i3 + 1)).bind fun v_113 =>
                              (sx L xs (i3 + 2)).bind fun v_114 =>
                              (ck 5 a2 w_112.2).bind fun u_115 =>
                              (f_X5_follow n a2 v_113 v_114 w_112.2).bind fun w_116 =>
                              if w_112.1 = w_116.1 then
                              L_law_b780 n L xs K a1 a2 i3 w_116.2
                              else
                              none
                            else
                            if x_4 = 13 then
                              (sx L xs (i3 + 1)).bind fun v_119 =>
                                (ck 4 a1 σ).bind fun u_120 =>
                                (f_X4_one n a1 v_119 σ).bind fun w_121 =>
                                (sx L xs (i3 + 1)).bind fun v_122 =>
                                (ck 5 a2 w_121.2).bind fun u_123 =>
                                (f_X5_one n a2 v_122 w_121.2).bind fun w_124 =>
                                if w_121.1 = w_124.1 then
                                L_law_b780 n L xs K a1 a2 i3 w_124.2
                                else
                                none
                              else
                              if x_4 = 14 then
                                (ck 4 a1 σ).bind fun u_127 =>
                                  (f_X4_began n a1  σ).bind fun w_128 =>
                                  (ck 5 a2 w_128.2).bind fun u_129 =>
                                  (f_X5_began n a2  w_128.2).bind fun w_130 =>
                                  if w_128.1 = w_130.1 then
                                  L_law_b780 n L xs K a1 a2 i3 w_130.2
                                  else
                                  none
                                else
                                if x_4 = 15 then
                                  (sx L xs (i3 + 1)).bind fun v_133 =>
                                    (ck 4 a1 σ).bind fun u_134 =>
                                    (f_X4_spread n a1 v_133 σ).bind fun w_135 =>
                                    (sx L xs (i3 + 1)).bind fun v_136 =>
                                    (ck 5 a2 w_135.2).bind fun u_137 =>
                                    (f_X5_spread n a2 v_136 w_135.2).bind fun w_138 =>
                                    if w_135.1 = w_138.1 then
                                    L_law_b780 n L xs K a1 a2 i3 w_138.2
                                    else
                                    none
                                  else
                                  if x_4 = 16 then
                                    (sx L xs (i3 + 1)).bind fun v_141 =>
                                      (sx L xs (i3 + 2)).bind fun v_142 =>
                                      (ck 4 a1 σ).bind fun u_143 =>
                                      (f_X4_waited n a1 v_141 v_142 σ).bind fun w_144 =>
                                      (sx L xs (i3 + 1)).bind fun v_145 =>
                                      (sx L xs (i3 + 2)).bind fun v_146 =>
                                      (ck 5 a2 w_144.2).bind fun u_147 =>
                                      (f_X5_waited n a2 v_145 v_146 w_144.2).bind fun w_148 =>
                                      if w_144.1 = w_148.1 then
                                      L_law_b780 n L xs K a1 a2 i3 w_148.2
                                      else
                                      none
                                    else
                                    if x_4 = 17 then
                                      (sx L xs (i3 + 1)).bind fun v_151 =>
                                        (sx L xs (i3 + 2)).bind fun v_152 =>
                                        (sx L xs (i3 + 3)).bind fun v_153 =>
                                        (ck 4 a1 σ).bind fun u_154 =>
                                        (f_X4_mean n a1 v_151 v_152 v_153 σ).bind fun w_155 =>
                                        (sx L xs (i3 + 1)).bind fun v_156 =>
                                        (sx L xs (i3 + 2)).bind fun v_157 =>
                                        (sx L xs (i3 + 3)).bind fun v_158 =>
                                        (ck 5 a2 w_155.2).bind fun u_159 =>
                                        (f_X5_mean n a2 v_156 v_157 v_158 w_155.2).bind fun w_160 =>
                                        if (lg_cmp w_155.1 w_160.1) = 0 then
                                        L_law_b780 n L xs K a1 a2 i3 w_160.2
                                        else
                                        none
                                      else
                                      if x_4 = 18 then
                                        (sx L xs (i3 + 1)).bind fun v_163 =>
                                          (ck 4 a1 σ).bind fun u_164 =>
                                          (f_X4_all n a1 v_163 σ).bind fun w_165 =>
                                          (sx L xs (i3 + 1)).bind fun v_166 =>
                                          (ck 5 a2 w_165.2).bind fun u_167 =>
                                          (f_X5_all n a2 v_166 w_165.2).bind fun w_168 =>
                                          if w_165.1 = w_168.1 then
                                          L_law_b780 n L xs K a1 a2 i3 w_168.2
                                          else
                                          none
                                        else
                                        if x_4 = 19 then
                                          (sx L xs (i3 + 1)).bind fun v_171 =>
                                            (sx L xs (i3 + 2)).bind fun v_172 =>
                                            (sx L xs (i3 + 3)).bind fun v_173 =>
                                            (ck 4 a1 σ).bind fun u_174 =>
                                            (f_X4_held n a1 v_171 v_172 v_173 σ).bind fun w_175 =>
                                            (sx L xs (i3 + 1)).bind fun v_176 =>
                                            (sx L xs (i3 + 2)).bind fun v_177 =>
                                            (sx L xs (i3 + 3)).bind fun v_178 =>
                                            (ck 5 a2 w_175.2).bind fun u_179 =>
                                            (f_X5_held n a2 v_176 v_177 v_178 w_175.2).bind fun w_180 =>
                                            if w_175.1 = w_180.1 then
                                            L_law_b780 n L xs K a1 a2 i3 w_180.2
                                            else
                                            none
                                          else
                                          if x_4 = 20 then
                                            (sx L xs (i3 + 1)).bind fun v_183 =>
                                              (sx L xs (i3 + 2)).bind fun v_184 =>
                                              (sx L xs (i3 + 3)).bind fun v_185 =>
                                              (ck 4 a1 σ).bind fun u_186 =>
                                              (f_X4_board n a1 v_183 v_184 v_185 σ).bind fun w_187 =>
                                              (sx L xs (i3 + 1)).bind fun v_188 =>
                                              (sx L xs (i3 + 2)).bind fun v_189 =>
                                              (sx L xs (i3 + 3)).bind fun v_190 =>
                                              (ck 5 a2 w_187.2).bind fun u_191 =>
                                              (f_X5_board n a2 v_188 v_189 v_190 w_187.2).bind fun w_192 =>
                                              if w_187.1 = w_192.1 then
                                              L_law_b780 n L xs K a1 a2 i3 w_192.2
                                              else
                                              none
                                            else
                                            if x_4 = 21 then
                                              (sx L xs (i3 + 1)).bind fun v_195 =>
                                                (ck 4 a1 σ).bind fun u_196 =>
                                                (f_X4_best n a1 v_195 σ).bind fun w_197 =>
                                                (sx L xs (i3 + 1)).bind fun v_198 =>
                                                (ck 5 a2 w_197.2).bind fun u_199 =>
                                                (f_X5_best n a2 v_198 w_197.2).bind fun w_200 =>
                                                if w_197.1 = w_200.1 then
                                                L_law_b780 n L xs K a1 a2 i3 w_200.2
                                                else
                                                none
                                              else
                                              if x_4 = 22 then
                                                (sx L xs (i3 + 1)).bind fun v_203 =>
                                                  (ck 4 a1 σ).bind fun u_204 =>
                                                  (f_X4_told n a1 v_203 σ).bind fun w_205 =>
                                                  (sx L xs (i3 + 1)).bind fun v_206 =>
                                                  (ck 5 a2 w_205.2).bind fun u_207 =>
                                                  (f_X5_told n a2 v_206 w_205.2).bind fun w_208 =>
                                                  if w_205.1 = w_208.1 then
                                                  L_law_b780 n L xs K a1 a2 i3 w_208.2
                                                  else
                                                  none
                                                else
                                                L_law_b780 n L xs K a1 a2 i3 σ
noncomputable def L_law_run : Nat → Nat → (Nat → Int32) → Nat → Nat → Int32 → Sg → Option (Unit)
  | 0 => fun _ _ _ _ _ _ => none
  | n + 1 => fun L xs a1 a2 i3 σ => L_law_b18 n L xs (L_law_run n L xs) a1 a2 i3 σ
noncomputable def L_law_b0 (n : Nat) (L : Nat) (xs : Nat → Int32) (K : Nat → Nat → Int32 → Sg → Option (Unit)) (σ : Sg) : Option (Unit) :=
  (nO 4 σ).bind fun w_211 =>
  (f_X4_init n w_211.1  w_211.2).bind fun w_212 =>
  (nO 5 w_212).bind fun w_213 =>
  (f_X5_init n w_213.1  w_213.2).bind fun w_214 =>
  K w_211.1 w_213.1 0 w_214
noncomputable def f_L_law (n : Nat) (L : Nat) (xs : Nat → Int32) (σ : Sg) : Option (Unit) := L_law_b0 n L xs (L_law_run n L xs) σ
