noncomputable def X0_freezes_f (v_kind : Int) (v_figure : Int) (v_cold : Int) : Option (Int) :=
  if v_kind = 1 then
    some (jdiv v_cold 2)
  else
  if v_kind = 3 then
    some (w32 (v_cold + v_figure))
  else
  if v_kind = 4 then
    some (imax 0 (w32 ((w32 (v_cold + v_figure)) - 2)))
  else
    some v_cold
def X0_freezes_v (v_kind : Int) (v_figure : Int) (v_cold : Int) : Int :=
  if v_kind = 1 then
    (jdiv v_cold 2)
  else
  if v_kind = 3 then
    (w32 (v_cold + v_figure))
  else
  if v_kind = 4 then
    (imax 0 (w32 ((w32 (v_cold + v_figure)) - 2)))
  else
    v_cold
theorem X0_freezes_ok (v_kind : Int) (v_figure : Int) (v_cold : Int) : Ok (X0_freezes_f v_kind v_figure v_cold) (fun x => x = X0_freezes_v v_kind v_figure v_cold) := by
  unfold X0_freezes_f X0_freezes_v
  refine Ok_ite_i (fun c => ?_) (fun c => ?_)
  · exact ⟨_, rfl, rfl⟩
  · refine Ok_ite_i (fun c => ?_) (fun c => ?_)
    · exact ⟨_, rfl, rfl⟩
    · refine Ok_ite_i (fun c => ?_) (fun c => ?_)
      · exact ⟨_, rfl, rfl⟩
      · exact ⟨_, rfl, rfl⟩
noncomputable def X0_melts_f (v_kind : Int) (v_figure : Int) (v_noon : Int) : Option (Int) :=
  if v_kind = 1 then
    some (w32 (2 * v_noon))
  else
  if v_kind = 2 then
    some (imax 0 (w32 (v_noon - (jdiv v_figure 2))))
  else
  if v_kind = 5 then
    some (jdiv (imax 0 (w32 (v_noon - (jdiv v_figure 2)))) 2)
  else
  if v_kind = 4 then
    some (w32 (v_noon + 1))
  else
    some v_noon
def X0_melts_v (v_kind : Int) (v_figure : Int) (v_noon : Int) : Int :=
  if v_kind = 1 then
    (w32 (2 * v_noon))
  else
  if v_kind = 2 then
    (imax 0 (w32 (v_noon - (jdiv v_figure 2))))
  else
  if v_kind = 5 then
    (jdiv (imax 0 (w32 (v_noon - (jdiv v_figure 2)))) 2)
  else
  if v_kind = 4 then
    (w32 (v_noon + 1))
  else
    v_noon
theorem X0_melts_ok (v_kind : Int) (v_figure : Int) (v_noon : Int) : Ok (X0_melts_f v_kind v_figure v_noon) (fun x => x = X0_melts_v v_kind v_figure v_noon) := by
  unfold X0_melts_f X0_melts_v
  refine Ok_ite_i (fun c => ?_) (fun c => ?_)
  · exact ⟨_, rfl, rfl⟩
  · refine Ok_ite_i (fun c => ?_) (fun c => ?_)
    · exact ⟨_, rfl, rfl⟩
    · refine Ok_ite_i (fun c => ?_) (fun c => ?_)
      · exact ⟨_, rfl, rfl⟩
      · refine Ok_ite_i (fun c => ?_) (fun c => ?_)
        · exact ⟨_, rfl, rfl⟩
        · exact ⟨_, rfl, rfl⟩
noncomputable def X0_wants_f (v_kind : Int) (v_figure : Int) (v_weight : Int) : Option (Int) :=
  if v_kind = 1 then
    some (w32 (v_weight + (jdiv v_weight 2)))
  else
  if v_kind = 2 then
    some (w32 (v_weight + v_figure))
  else
  if v_kind = 5 then
    some (w32 (v_weight + v_figure))
  else
  if v_kind = 3 then
    some (jdiv v_weight 2)
  else
  if v_kind = 4 then
    some (jdiv v_weight 2)
  else
    some v_weight
def X0_wants_v (v_kind : Int) (v_figure : Int) (v_weight : Int) : Int :=
  if v_kind = 1 then
    (w32 (v_weight + (jdiv v_weight 2)))
  else
  if v_kind = 2 then
    (w32 (v_weight + v_figure))
  else
  if v_kind = 5 then
    (w32 (v_weight + v_figure))
  else
  if v_kind = 3 then
    (jdiv v_weight 2)
  else
  if v_kind = 4 then
    (jdiv v_weight 2)
  else
    v_weight
theorem X0_wants_ok (v_kind : Int) (v_figure : Int) (v_weight : Int) : Ok (X0_wants_f v_kind v_figure v_weight) (fun x => x = X0_wants_v v_kind v_figure v_weight) := by
  unfold X0_wants_f X0_wants_v
  refine Ok_ite_i (fun c => ?_) (fun c => ?_)
  · exact ⟨_, rfl, rfl⟩
  · refine Ok_ite_i (fun c => ?_) (fun c => ?_)
    · exact ⟨_, rfl, rfl⟩
    · refine Ok_ite_i (fun c => ?_) (fun c => ?_)
      · exact ⟨_, rfl, rfl⟩
      · refine Ok_ite_i (fun c => ?_) (fun c => ?_)
        · exact ⟨_, rfl, rfl⟩
        · refine Ok_ite_i (fun c => ?_) (fun c => ?_)
          · exact ⟨_, rfl, rfl⟩
          · exact ⟨_, rfl, rfl⟩
noncomputable def X1_add (L0 : LT) (v_letter : Int) : Option (LT) :=
  if (L0 0 1) < 96 then
    grd (gd (L0 0 1) 96) <|
    lt (lw L0 1 (L0 0 1) v_letter : LT) fun L5 =>
    lt (lw L5 0 1 (w32 ((L5 0 1) + 1)) : LT) fun L8 =>
    some L8
  else
    some L0
noncomputable def X1_digitsBehind_f (v_letter : Int) : Option (Int) :=
  if v_letter = 110 then
    some 2
  else
  if v_letter = 99 then
    some 2
  else
  if v_letter = 104 then
    some 2
  else
  if v_letter = 119 then
    some 3
  else
  if v_letter = 116 then
    some 4
  else
  if v_letter = 121 then
    some 6
  else
    some 0
def X1_digitsBehind_v (v_letter : Int) : Int :=
  if v_letter = 110 then
    2
  else
  if v_letter = 99 then
    2
  else
  if v_letter = 104 then
    2
  else
  if v_letter = 119 then
    3
  else
  if v_letter = 116 then
    4
  else
  if v_letter = 121 then
    6
  else
    0
theorem X1_digitsBehind_ok (v_letter : Int) : Ok (X1_digitsBehind_f v_letter) (fun x => x = X1_digitsBehind_v v_letter) := by
  unfold X1_digitsBehind_f X1_digitsBehind_v
  refine Ok_ite_i (fun c => ?_) (fun c => ?_)
  · exact ⟨_, rfl, rfl⟩
  · refine Ok_ite_i (fun c => ?_) (fun c => ?_)
    · exact ⟨_, rfl, rfl⟩
    · refine Ok_ite_i (fun c => ?_) (fun c => ?_)
      · exact ⟨_, rfl, rfl⟩
      · refine Ok_ite_i (fun c => ?_) (fun c => ?_)
        · exact ⟨_, rfl, rfl⟩
        · refine Ok_ite_i (fun c => ?_) (fun c => ?_)
          · exact ⟨_, rfl, rfl⟩
          · refine Ok_ite_i (fun c => ?_) (fun c => ?_)
            · exact ⟨_, rfl, rfl⟩
            · exact ⟨_, rfl, rfl⟩
noncomputable def X1_isDigit_f (v_letter : Int) : Option (Int) :=
  some (if (48 ≤ v_letter) ∧ (v_letter ≤ 57) then 1 else 0)
def X1_isDigit_v (v_letter : Int) : Int :=
  (if (48 ≤ v_letter) ∧ (v_letter ≤ 57) then 1 else 0)
theorem X1_isDigit_ok (v_letter : Int) : Ok (X1_isDigit_f v_letter) (fun x => x = X1_isDigit_v v_letter) := by
  unfold X1_isDigit_f X1_isDigit_v
  exact ⟨_, rfl, rfl⟩
noncomputable def X1_letterAt_f (L0 : LT) (v_place : Int) : Option (Int) :=
  grd (((0 ≤ v_place) ∧ (v_place < (L0 0 1))) → (gd v_place 96)) <|
  some (if (0 ≤ v_place) ∧ (v_place < (L0 0 1)) then L0 1 v_place else (-1))
def X1_letterAt_v (L0 : LT) (v_place : Int) : Int :=
  (if (0 ≤ v_place) ∧ (v_place < (L0 0 1)) then L0 1 v_place else (-1))
def X1_letterAt_c (L0 : LT) (v_place : Int) : Prop := (((0 ≤ v_place) ∧ (v_place < (L0 0 1))) → (gd v_place 96))
theorem X1_letterAt_ok (L0 : LT) (v_place : Int) (h : X1_letterAt_c L0 v_place) : Ok (X1_letterAt_f L0 v_place) (fun x => x = X1_letterAt_v L0 v_place) := by
  unfold X1_letterAt_c at h
  unfold X1_letterAt_f X1_letterAt_v
  refine Ok_grd_i h ?_
  exact ⟨_, rfl, rfl⟩
noncomputable def X1_brokenStatementAt_s1 (L0 : LT) (x8 : Int) (s14 : Int) : Option ((Int) ⊕ (((Int) ⊕ (Int)))) :=
    if s14 < x8 then
      grd (X1_letterAt_c L0 s14) <|
      if (X1_isDigit_v (X1_letterAt_v L0 s14)) = 0 then
        some (.inr (.inr (s14)))
      else
        some (.inl (w32 (s14 + 1)))
    else
      some (.inr (.inl s14))
noncomputable def X1_brokenStatementAt (L0 : LT) (v_start : Int) : Option (Int) :=
  grd (X1_letterAt_c L0 v_start) <|
  lt (X1_digitsBehind_v (X1_letterAt_v L0 v_start) : Int) fun x4 =>
  if x4 = 0 then
    some v_start
  else
    lt (w32 ((w32 (v_start + 1)) + x4) : Int) fun x8 =>
    lt (w32 (v_start + 1) : Int) fun x11 =>
    Option.bind (lp (X1_brokenStatementAt_s1 L0 x8) x11) fun o => match o with
    | .inl z18 =>
      grd (X1_letterAt_c L0 x8) <|
      some (if (X1_letterAt_v L0 x8) = 59 then (-1) else x8)
    | .inr y => some (y)
noncomputable def X1_lengthAt_f (L0 : LT) (v_place : Int) : Option (Int) :=
  grd (X1_letterAt_c L0 v_place) <|
  some (w32 ((X1_digitsBehind_v (X1_letterAt_v L0 v_place)) + 2))
def X1_lengthAt_v (L0 : LT) (v_place : Int) : Int :=
  (w32 ((X1_digitsBehind_v (X1_letterAt_v L0 v_place)) + 2))
def X1_lengthAt_c (L0 : LT) (v_place : Int) : Prop := (X1_letterAt_c L0 v_place)
theorem X1_lengthAt_ok (L0 : LT) (v_place : Int) (h : X1_lengthAt_c L0 v_place) : Ok (X1_lengthAt_f L0 v_place) (fun x => x = X1_lengthAt_v L0 v_place) := by
  unfold X1_lengthAt_c at h
  unfold X1_lengthAt_f X1_lengthAt_v
  refine Ok_grd_i h ?_
  exact ⟨_, rfl, rfl⟩
noncomputable def X1_brokenAt_s1 (L0 : LT) (s1 : Int × Int) : Option ((Int × Int) ⊕ (((Int × Int) ⊕ (Int)))) :=
    if s1.2 < 24 then
      Option.bind (X1_brokenStatementAt L0 s1.1) fun z10 =>
      if 0 ≤ z10 then
        some (.inr (.inr (z10)))
      else
        grd (X1_lengthAt_c L0 s1.1) <|
        lt (w32 (s1.1 + (X1_lengthAt_v L0 s1.1)) : Int) fun x14 =>
        if (L0 0 1) ≤ x14 then
          some (.inr (.inr ((-1))))
        else
          some (.inl (x14, w32 (s1.2 + 1)))
    else
      some (.inr (.inl (s1.1, s1.2)))
noncomputable def X1_brokenAt (L0 : LT) : Option (Int) :=
  Option.bind (lp (X1_brokenAt_s1 L0) (0, 0)) fun o => match o with
  | .inl z5 =>
    some z5.1
  | .inr y => some (y)
noncomputable def X1_number_s1 (L0 : LT) (v_digits : Int) (v_place : Int) (s1 : Int × Int) : Option ((Int × Int) ⊕ (Int × Int)) :=
    if s1.2 < (w32 (v_place + v_digits)) then
      grd (X1_letterAt_c L0 s1.2) <|
      lt (w32 ((w32 ((w32 (10 * s1.1)) + (X1_letterAt_v L0 s1.2))) - 48) : Int) fun x11 =>
      some (.inl (x11, w32 (s1.2 + 1)))
    else
      some (.inr (s1.1, s1.2))
noncomputable def X1_number (L0 : LT) (v_place : Int) (v_digits : Int) : Option (Int) :=
  Option.bind (lp (X1_number_s1 L0 v_digits v_place) (0, v_place)) fun z5 =>
  some z5.1
noncomputable def X2_addTrain (L0 : LT) (v_newWeight : Int) (v_newWarmth : Int) (v_newPace : Int) : Option (Int × LT) :=
  if (((((v_newWeight < 1) ∨ (60 < v_newWeight)) ∨ (9 < v_newWarmth)) ∨ (v_newPace < 1)) ∨ (3 < v_newPace)) ∨ (5 ≤ (L0 0 4)) then
    some (0, L0)
  else
    grd (gd (L0 0 4) 5) <|
    lt (lw L0 9 (L0 0 4) v_newWeight : LT) fun L11 =>
    grd (gd (L11 0 4) 5) <|
    lt (lw L11 10 (L11 0 4) v_newWarmth : LT) fun L15 =>
    grd (gd (L15 0 4) 5) <|
    lt (lw L15 11 (L15 0 4) v_newPace : LT) fun L19 =>
    grd (gd (L19 0 4) 5) <|
    lt (lw L19 12 (L19 0 4) (-1) : LT) fun L23 =>
    grd (gd (L23 0 4) 5) <|
    lt (lw L23 13 (L23 0 4) 0 : LT) fun L27 =>
    grd (gd (L27 0 4) 5) <|
    lt (lw L27 14 (L27 0 4) 0 : LT) fun L31 =>
    grd (gd (L31 0 4) 5) <|
    lt (lw L31 16 (L31 0 4) (-9) : LT) fun L35 =>
    lt (lw L35 0 4 (w32 ((L35 0 4) + 1)) : LT) fun L38 =>
    some (1, L38)
noncomputable def X2_bears_f (L0 : LT) (v_yard : Int) (v_load : Int) : Option (Int) :=
  grd (gd v_yard 16) <|
  some (if (X0_wants_v (L0 6 v_yard) (L0 7 v_yard) v_load) ≤ (L0 8 v_yard) then 1 else 0)
def X2_bears_v (L0 : LT) (v_yard : Int) (v_load : Int) : Int :=
  (if (X0_wants_v (L0 6 v_yard) (L0 7 v_yard) v_load) ≤ (L0 8 v_yard) then 1 else 0)
def X2_bears_c (L0 : LT) (v_yard : Int) (v_load : Int) : Prop := (gd v_yard 16)
theorem X2_bears_ok (L0 : LT) (v_yard : Int) (v_load : Int) (h : X2_bears_c L0 v_yard v_load) : Ok (X2_bears_f L0 v_yard v_load) (fun x => x = X2_bears_v L0 v_yard v_load) := by
  unfold X2_bears_c at h
  unfold X2_bears_f X2_bears_v
  refine Ok_grd_i h ?_
  exact ⟨_, rfl, rfl⟩
noncomputable def X2_allBear_s1 (L0 : LT) (v_load : Int) (s1 : Int) : Option ((Int) ⊕ (((Int) ⊕ (Int)))) :=
    if s1 < (L0 0 0) then
      grd (X2_bears_c L0 s1 v_load) <|
      if (X2_bears_v L0 s1 v_load) = 0 then
        some (.inr (.inr (0)))
      else
        some (.inl (w32 (s1 + 1)))
    else
      some (.inr (.inl s1))
noncomputable def X2_allBear (L0 : LT) (v_load : Int) : Option (Int) :=
  Option.bind (lp (X2_allBear_s1 L0 v_load) 0) fun o => match o with
  | .inl z5 =>
    some 1
  | .inr y => some (y)
noncomputable def X2_allFrost_s1 (L0 : LT) (s1 : Int × Int) : Option ((Int × Int) ⊕ (Int × Int)) :=
    if s1.2 < (L0 0 0) then
      grd (gd s1.2 16) <|
      lt (w32 (s1.1 + (L0 8 s1.2)) : Int) fun x12 =>
      some (.inl (x12, w32 (s1.2 + 1)))
    else
      some (.inr (s1.1, s1.2))
noncomputable def X2_allFrost (L0 : LT) : Option (Int) :=
  Option.bind (lp (X2_allFrost_s1 L0) (0, 0)) fun z5 =>
  some z5.1
noncomputable def X2_takeTrain (L0 : LT) (v_train : Int) (O : LT) (v_theirs : Int) : Option (LT) :=
  grd (gd v_theirs 5) <|
  grd (gd v_train 5) <|
  lt (lw L0 9 v_train (O 9 v_theirs) : LT) fun L4 =>
  lt (lw L4 10 v_train (O 10 v_theirs) : LT) fun L7 =>
  lt (lw L7 11 v_train (O 11 v_theirs) : LT) fun L10 =>
  lt (lw L10 12 v_train (O 12 v_theirs) : LT) fun L13 =>
  lt (lw L13 13 v_train (O 13 v_theirs) : LT) fun L16 =>
  lt (lw L16 14 v_train (O 14 v_theirs) : LT) fun L19 =>
  some L19
noncomputable def X2_become_s1 (O : LT) (s24 : Int × LT) : Option ((Int × LT) ⊕ (Int × LT)) :=
    if s24.1 < (s24.2 0 4) then
      Option.bind (X2_takeTrain s24.2 s24.1 O s24.1) fun z33 =>
      grd (gd s24.1 5) <|
      lt (lw z33 16 s24.1 (-9) : LT) fun L35 =>
      some (.inl (w32 (s24.1 + 1), L35))
    else
      some (.inr (s24.1, s24.2))
noncomputable def X2_become (L0 : LT) (O : LT) : Option (LT) :=
  lt (lw L0 0 0 (O 0 0) : LT) fun L2 =>
  lt (lw L2 0 1 (O 0 1) : LT) fun L5 =>
  lt (lw L5 0 2 (O 0 2) : LT) fun L8 =>
  lt (lw L8 0 3 (O 0 3) : LT) fun L11 =>
  lt (lw L11 0 4 (O 0 4) : LT) fun L14 =>
  lt (lcp L14 6 O 6 16 : LT) fun L16 =>
  lt (lcp L16 7 O 7 16 : LT) fun L18 =>
  lt (lcp L18 8 O 8 16 : LT) fun L20 =>
  lt (lw L20 0 14 0 : LT) fun L22 =>
  Option.bind (lp (X2_become_s1 O) (0, L22)) fun z28 =>
  some z28.2
noncomputable def X2_becomeMany_s1 (L0 : LT) (v_n : Int) (s4 : Int) : Option ((Int) ⊕ (((Int) ⊕ (Int × LT)))) :=
    if s4 < (L0 0 4) then
      grd (gd s4 5) <|
      if ((L0 14 s4) = 0) ∧ (v_n ≤ (L0 12 s4)) then
        some (.inr (.inr ((0, L0))))
      else
        some (.inl (w32 (s4 + 1)))
    else
      some (.inr (.inl s4))
noncomputable def X2_becomeMany (L0 : LT) (v_n : Int) : Option (Int × LT) :=
  if (v_n < 2) ∨ (16 < v_n) then
    some (0, L0)
  else
    Option.bind (lp (X2_becomeMany_s1 L0 v_n) 0) fun o => match o with
    | .inl z8 =>
      lt (lw L0 0 0 v_n : LT) fun L19 =>
      some (1, L19)
    | .inr y => some (y)
noncomputable def X2_becomeYard (L0 : LT) (v_yard : Int) (v_newKind : Int) (v_newFigure : Int) (v_newFrost : Int) : Option (Int × LT) :=
  if (((v_yard < 0) ∨ ((L0 0 0) ≤ v_yard)) ∨ (v_newKind < 0)) ∨ (5 < v_newKind) then
    some (0, L0)
  else
    grd (gd v_yard 16) <|
    lt (lw L0 6 v_yard v_newKind : LT) fun L8 =>
    lt (lw L8 7 v_yard v_newFigure : LT) fun L10 =>
    lt (lw L10 8 v_yard v_newFrost : LT) fun L12 =>
    some (1, L12)
noncomputable def X2_besideNeighbours_f (L0 : LT) (v_yard : Int) : Option (Int) :=
  lt (if 0 < v_yard then w32 (v_yard - 1) else w32 (v_yard + 1) : Int) fun x3 =>
  lt (if v_yard < (w32 ((L0 0 0) - 1)) then w32 (v_yard + 1) else w32 (v_yard - 1) : Int) fun x9 =>
  grd (gd v_yard 16) <|
  grd (gd x3 16) <|
  grd (gd x9 16) <|
  some (w32 ((L0 8 v_yard) - (jdiv (w32 ((L0 8 x3) + (L0 8 x9))) 2)))
def X2_besideNeighbours_v (L0 : LT) (v_yard : Int) : Int :=
  let x3 := if 0 < v_yard then w32 (v_yard - 1) else w32 (v_yard + 1)
  let x9 := if v_yard < (w32 ((L0 0 0) - 1)) then w32 (v_yard + 1) else w32 (v_yard - 1)
  (w32 ((L0 8 v_yard) - (jdiv (w32 ((L0 8 x3) + (L0 8 x9))) 2)))
def X2_besideNeighbours_c (L0 : LT) (v_yard : Int) : Prop := (let x3 := if 0 < v_yard then w32 (v_yard - 1) else w32 (v_yard + 1); (let x9 := if v_yard < (w32 ((L0 0 0) - 1)) then w32 (v_yard + 1) else w32 (v_yard - 1); ((gd v_yard 16) ∧ ((gd x3 16) ∧ (gd x9 16)))))
theorem X2_besideNeighbours_ok (L0 : LT) (v_yard : Int) (h : X2_besideNeighbours_c L0 v_yard) : Ok (X2_besideNeighbours_f L0 v_yard) (fun x => x = X2_besideNeighbours_v L0 v_yard) := by
  unfold X2_besideNeighbours_c at h
  unfold X2_besideNeighbours_f X2_besideNeighbours_v
  refine Ok_let_i ?_
  refine Ok_let_i ?_
  refine Ok_grd_i (h).1 ?_
  refine Ok_grd_i ((h).2).1 ?_
  refine Ok_grd_i ((h).2).2 ?_
  exact ⟨_, rfl, rfl⟩
noncomputable def X2_feelWeather_s1 (s1 : Int × LT) : Option ((Int × LT) ⊕ (Int × LT)) :=
    if s1.1 < (s1.2 0 0) then
      grd (gd s1.1 16) <|
      lt (lw s1.2 17 s1.1 (X0_freezes_v (s1.2 6 s1.1) (s1.2 7 s1.1) (s1.2 0 2)) : LT) fun L14 =>
      lt (lw L14 18 s1.1 (X0_melts_v (L14 6 s1.1) (L14 7 s1.1) (L14 0 3)) : LT) fun L20 =>
      some (.inl (w32 (s1.1 + 1), L20))
    else
      some (.inr (s1.1, s1.2))
noncomputable def X2_feelWeather (L0 : LT) : Option (LT) :=
  Option.bind (lp (X2_feelWeather_s1) (0, L0)) fun z5 =>
  some z5.2
noncomputable def X2_freezeAll_s1 (s1 : Int × LT) : Option ((Int × LT) ⊕ (Int × LT)) :=
    if s1.1 < (s1.2 0 0) then
      grd (gd s1.1 16) <|
      lt (lw s1.2 8 s1.1 (imin 99 (w32 ((s1.2 8 s1.1) + (s1.2 17 s1.1)))) : LT) fun L12 =>
      some (.inl (w32 (s1.1 + 1), L12))
    else
      some (.inr (s1.1, s1.2))
noncomputable def X2_freezeAll (L0 : LT) : Option (LT) :=
  Option.bind (lp (X2_freezeAll_s1) (0, L0)) fun z5 =>
  some z5.2
noncomputable def X2_meltAll_s1 (s1 : Int × LT) : Option ((Int × LT) ⊕ (Int × LT)) :=
    if s1.1 < (s1.2 0 0) then
      grd (gd s1.1 16) <|
      lt (lw s1.2 8 s1.1 (imax 0 (w32 ((s1.2 8 s1.1) - (s1.2 18 s1.1)))) : LT) fun L12 =>
      some (.inl (w32 (s1.1 + 1), L12))
    else
      some (.inr (s1.1, s1.2))
noncomputable def X2_meltAll (L0 : LT) : Option (LT) :=
  Option.bind (lp (X2_meltAll_s1) (0, L0)) fun z5 =>
  some z5.2
noncomputable def X2_isTaken_s1 (L0 : LT) (v_yard : Int) (s7 : Int) : Option ((Int) ⊕ (((Int) ⊕ (Int)))) :=
    if s7 < (L0 0 4) then
      grd (gd s7 5) <|
      if ((L0 14 s7) = 0) ∧ ((L0 12 s7) = v_yard) then
        some (.inr (.inr (1)))
      else
        some (.inl (w32 (s7 + 1)))
    else
      some (.inr (.inl s7))
noncomputable def X2_isTaken (L0 : LT) (v_yard : Int) : Option (Int) :=
  grd (gd v_yard 16) <|
  if ((L0 6 v_yard) = 3) ∨ ((L0 6 v_yard) = 4) then
    some 0
  else
    Option.bind (lp (X2_isTaken_s1 L0 v_yard) 0) fun o => match o with
    | .inl z11 =>
      some 0
    | .inr y => some (y)
noncomputable def X2_moveTrain_s1 (v_train : Int) (s4 : Int × LT) : Option ((Int × LT) ⊕ (((Int × LT) ⊕ (LT)))) :=
    if s4.1 < (s4.2 11 v_train) then
      lt (w32 ((s4.2 12 v_train) + 1) : Int) fun x13 =>
      if (s4.2 0 0) ≤ x13 then
        lt (lw s4.2 14 v_train 1 : LT) fun L34 =>
        lt (lw L34 16 v_train (L34 0 14) : LT) fun L37 =>
        some (.inr (.inr (L37)))
      else
        grd (gd x13 16) <|
        if (s4.2 8 x13) < (X0_wants_v (s4.2 6 x13) (s4.2 7 x13) (s4.2 9 v_train)) then
          some (.inr (.inr (s4.2)))
        else
          Option.bind (X2_isTaken s4.2 x13) fun z26 =>
          if ¬ z26 = 0 then
            some (.inr (.inr (s4.2)))
          else
            lt (lw s4.2 12 v_train x13 : LT) fun L28 =>
            lt (lw L28 8 x13 (imax 0 (w32 ((L28 8 x13) - (L28 10 v_train)))) : LT) fun L32 =>
            some (.inl (w32 (s4.1 + 1), L32))
    else
      some (.inr (.inl (s4.1, s4.2)))
noncomputable def X2_moveTrain (L0 : LT) (v_train : Int) : Option (LT) :=
  grd (gd v_train 5) <|
  if 0 < (L0 13 v_train) then
    lt (lw L0 13 v_train (w32 ((L0 13 v_train) - 1)) : LT) fun L41 =>
    some L41
  else
    Option.bind (lp (X2_moveTrain_s1 v_train) (0, L0)) fun o => match o with
    | .inl z8 =>
      some z8.2
    | .inr y => some (y)
noncomputable def X2_sinkTrains_s1 (s1 : Int × LT) : Option ((Int × LT) ⊕ (Int × LT)) :=
    if s1.1 < (s1.2 0 4) then
      grd (gd s1.1 5) <|
      lt (s1.2 12 s1.1 : Int) fun x11 =>
      grd ((((s1.2 14 s1.1) = 0) ∧ (¬ x11 = (-1))) → (gd x11 16)) <|
      if (((s1.2 14 s1.1) = 0) ∧ (¬ x11 = (-1))) ∧ ((s1.2 8 x11) < (jdiv (X0_wants_v (s1.2 6 x11) (s1.2 7 x11) (s1.2 9 s1.1)) 2)) then
        lt (lw s1.2 14 s1.1 2 : LT) fun L25 =>
        lt (lw L25 16 s1.1 (L25 0 14) : LT) fun L28 =>
        some (.inl (w32 (s1.1 + 1), L28))
      else
        some (.inl (w32 (s1.1 + 1), s1.2))
    else
      some (.inr (s1.1, s1.2))
noncomputable def X2_sinkTrains (L0 : LT) : Option (LT) :=
  Option.bind (lp (X2_sinkTrains_s1) (0, L0)) fun z5 =>
  some z5.2
noncomputable def X2_passHour_s1 (s22 : Int × LT) : Option ((Int × LT) ⊕ (Int × LT)) :=
    if s22.1 < (s22.2 0 4) then
      grd (gd s22.1 5) <|
      if (s22.2 14 s22.1) = 0 then
        Option.bind (X2_moveTrain s22.2 s22.1) fun z34 =>
        some (.inl (w32 (s22.1 + 1), z34))
      else
        some (.inl (w32 (s22.1 + 1), s22.2))
    else
      some (.inr (s22.1, s22.2))
noncomputable def X2_passHour (L0 : LT) : Option (LT) :=
  lt (lw L0 0 14 (w32 ((L0 0 14) + 1)) : LT) fun L2 =>
  lt (jrem (L2 0 1) 24 : Int) fun x5 =>
  Option.bind (
    if (18 ≤ x5) ∨ (x5 ≤ 5) then
      Option.bind (X2_freezeAll L2) fun z16 =>
      some (z16)
    else
    if (10 ≤ x5) ∧ (x5 ≤ 15) then
      Option.bind (X2_meltAll L2) fun z21 =>
      some (z21)
    else
      some (L2)) fun z8 =>
  Option.bind (lp (X2_passHour_s1) (0, z8)) fun z26 =>
  Option.bind (X2_sinkTrains z26.2) fun z37 =>
  lt (lw z37 0 1 (w32 ((z37 0 1) + 1)) : LT) fun L39 =>
  some L39
noncomputable def X2_go_s1 (v_n : Int) (s3 : Int × LT) : Option ((Int × LT) ⊕ (Int × LT)) :=
    if s3.1 < v_n then
      Option.bind (X2_passHour s3.2) fun z11 =>
      some (.inl (w32 (s3.1 + 1), z11))
    else
      some (.inr (s3.1, s3.2))
noncomputable def X2_go (L0 : LT) (v_n : Int) : Option (LT) :=
  Option.bind (X2_feelWeather L0) fun z2 =>
  Option.bind (lp (X2_go_s1 v_n) (0, z2)) fun z7 =>
  some z7.2
noncomputable def X2_howMany_s1 (L0 : LT) (v_state : Int) (s1 : Int × Int) : Option ((Int × Int) ⊕ (Int × Int)) :=
    if s1.2 < (L0 0 4) then
      grd (gd s1.2 5) <|
      if (L0 14 s1.2) = v_state then
        some (.inl (w32 (s1.1 + 1), w32 (s1.2 + 1)))
      else
        some (.inl (s1.1, w32 (s1.2 + 1)))
    else
      some (.inr (s1.1, s1.2))
noncomputable def X2_howMany (L0 : LT) (v_state : Int) : Option (Int) :=
  Option.bind (lp (X2_howMany_s1 L0 v_state) (0, 0)) fun z5 =>
  some z5.1
noncomputable def X2_goWhileAnyGoes_s1 (v_n : Int) (s3 : Int × LT) : Option ((Int × LT) ⊕ (Int × LT)) :=
    if s3.1 < v_n then
      Option.bind (X2_howMany s3.2 0) fun z11 =>
      if 0 < z11 then
        Option.bind (X2_passHour s3.2) fun z14 =>
        some (.inl (w32 (s3.1 + 1), z14))
      else
        some (.inr (s3.1, s3.2))
    else
      some (.inr (s3.1, s3.2))
noncomputable def X2_goWhileAnyGoes (L0 : LT) (v_n : Int) : Option (LT) :=
  Option.bind (X2_feelWeather L0) fun z2 =>
  Option.bind (lp (X2_goWhileAnyGoes_s1 v_n) (0, z2)) fun z7 =>
  some z7.2
noncomputable def X2_goWhileOnItsWay_s1 (v_n : Int) (v_train : Int) (s3 : Int × LT) : Option ((Int × LT) ⊕ (Int × LT)) :=
    grd ((s3.1 < v_n) → (gd v_train 5)) <|
    if (s3.1 < v_n) ∧ ((s3.2 14 v_train) = 0) then
      Option.bind (X2_passHour s3.2) fun z15 =>
      some (.inl (w32 (s3.1 + 1), z15))
    else
      some (.inr (s3.1, s3.2))
noncomputable def X2_goWhileOnItsWay (L0 : LT) (v_train : Int) (v_n : Int) : Option (LT) :=
  Option.bind (X2_feelWeather L0) fun z2 =>
  Option.bind (lp (X2_goWhileOnItsWay_s1 v_n v_train) (0, z2)) fun z7 =>
  some z7.2
noncomputable def X2_greatestFrost_s1 (L0 : LT) (s1 : Int × Int) : Option ((Int × Int) ⊕ (Int × Int)) :=
    if s1.2 < (L0 0 0) then
      grd (gd s1.2 16) <|
      lt (imax s1.1 (L0 8 s1.2) : Int) fun x12 =>
      some (.inl (x12, w32 (s1.2 + 1)))
    else
      some (.inr (s1.1, s1.2))
noncomputable def X2_greatestFrost (L0 : LT) : Option (Int) :=
  Option.bind (lp (X2_greatestFrost_s1 L0) (0, 0)) fun z5 =>
  some z5.1
noncomputable def X2_isAhead_f (L0 : LT) (v_train : Int) : Option (Int) :=
  grd (gd v_train 5) <|
  some (if ((L0 14 v_train) = 0) ∧ ((L0 12 v_train) = (-1)) then 1 else 0)
def X2_isAhead_v (L0 : LT) (v_train : Int) : Int :=
  (if ((L0 14 v_train) = 0) ∧ ((L0 12 v_train) = (-1)) then 1 else 0)
def X2_isAhead_c (L0 : LT) (v_train : Int) : Prop := (gd v_train 5)
theorem X2_isAhead_ok (L0 : LT) (v_train : Int) (h : X2_isAhead_c L0 v_train) : Ok (X2_isAhead_f L0 v_train) (fun x => x = X2_isAhead_v L0 v_train) := by
  unfold X2_isAhead_c at h
  unfold X2_isAhead_f X2_isAhead_v
  refine Ok_grd_i h ?_
  exact ⟨_, rfl, rfl⟩
noncomputable def X2_letWait (L0 : LT) (v_train : Int) (v_wait : Int) : Option (Int × LT) :=
  if (((v_train < 0) ∨ ((L0 0 4) ≤ v_train)) ∨ (v_wait < 0)) ∨ (48 < v_wait) then
    some (0, L0)
  else
    grd (gd v_train 5) <|
    if ¬ (L0 14 v_train) = 0 then
      some (0, L0)
    else
      lt (lw L0 13 v_train v_wait : LT) fun L10 =>
      some (1, L10)
noncomputable def X2_nearestHalt_s1 (L0 : LT) (v_from : Int) (s1 : Int × Int) : Option ((Int × Int) ⊕ (Int × Int)) :=
    if s1.2 < (L0 0 0) then
      grd (gd s1.2 16) <|
      if ((L0 6 s1.2) = 4) ∧ ((s1.1 = (-9)) ∨ ((iabs (w32 (s1.2 - v_from))) < (iabs (w32 (s1.1 - v_from))))) then
        some (.inl (s1.2, w32 (s1.2 + 1)))
      else
        some (.inl (s1.1, w32 (s1.2 + 1)))
    else
      some (.inr (s1.1, s1.2))
noncomputable def X2_nearestHalt (L0 : LT) (v_from : Int) : Option (Int) :=
  Option.bind (lp (X2_nearestHalt_s1 L0 v_from) ((-9), 0)) fun z5 =>
  some z5.1
noncomputable def X2_noneBears_s1 (L0 : LT) (v_load : Int) (s1 : Int) : Option ((Int) ⊕ (((Int) ⊕ (Int)))) :=
    if s1 < (L0 0 0) then
      grd (X2_bears_c L0 s1 v_load) <|
      if ¬ (X2_bears_v L0 s1 v_load) = 0 then
        some (.inr (.inr (0)))
      else
        some (.inl (w32 (s1 + 1)))
    else
      some (.inr (.inl s1))
noncomputable def X2_noneBears (L0 : LT) (v_load : Int) : Option (Int) :=
  Option.bind (lp (X2_noneBears_s1 L0 v_load) 0) fun o => match o with
  | .inl z5 =>
    some 1
  | .inr y => some (y)
noncomputable def X2_pour (L0 : LT) (v_yard : Int) : Option (LT) :=
  grd (gd v_yard 16) <|
  lt (lw L0 8 v_yard (imin 99 (w32 ((L0 8 v_yard) + 10))) : LT) fun L3 =>
  some L3
noncomputable def X2_weakest_s1 (L0 : LT) (s1 : Int × Int) : Option ((Int × Int) ⊕ (Int × Int)) :=
    if s1.2 < (L0 0 0) then
      grd (gd s1.2 16) <|
      grd (gd s1.1 16) <|
      if (L0 8 s1.2) < (L0 8 s1.1) then
        some (.inl (s1.2, w32 (s1.2 + 1)))
      else
        some (.inl (s1.1, w32 (s1.2 + 1)))
    else
      some (.inr (s1.1, s1.2))
noncomputable def X2_weakest (L0 : LT) : Option (Int) :=
  Option.bind (lp (X2_weakest_s1 L0) (0, 1)) fun z5 =>
  some z5.1
noncomputable def X3_dropOldest_s1 (s3 : Int × GG) : Option ((Int × GG) ⊕ (Int × GG)) :=
    if s3.1 < 8 then
      grd (gd s3.1 8) <|
      grd (gd (s3.2 3 0 1 s3.1) 11) <|
      grd (gd (w32 (s3.1 - 1)) 8) <|
      lt (hw s3.2 (3, 0, 1) (w32 (s3.1 - 1)) (s3.2 3 0 1 s3.1) : GG) fun C13 =>
      some (.inl (w32 (s3.1 + 1), C13))
    else
      some (.inr (s3.1, s3.2))
noncomputable def X3_dropOldest (C0 : GG) : Option (GG) :=
  grd (gd 0 8) <|
  grd (gd (C0 3 0 1 0) 11) <|
  Option.bind (lp (X3_dropOldest_s1) (1, C0)) fun z7 =>
  grd (gd 7 8) <|
  lt (hw z7.2 (3, 0, 1) 7 (C0 3 0 1 0) : GG) fun C17 =>
  lt (hw C17 (3, 0, 0) 1 (w32 ((C17 3 0 0 1) - 1)) : GG) fun C20 =>
  some C20
noncomputable def X3_forget (C0 : GG) : Option (GG) :=
  lt (hw C0 (3, 0, 0) 1 0 : GG) fun C1 =>
  some C1
noncomputable def X3_keep (C0 : GG) (v_line : Nat) : Option (GG) :=
  Option.bind (
    if (C0 3 0 0 1) = 8 then
      Option.bind (X3_dropOldest C0) fun z8 =>
      some (z8)
    else
      some (C0)) fun z1 =>
  grd (gd (z1 3 0 0 1) 8) <|
  grd (gd (z1 3 0 1 (z1 3 0 0 1)) 11) <|
  grd (¬ v_line = ((z1 3 0 1 (z1 3 0 0 1)).toNat)) <|
  Option.bind (X2_become (z1 1 ((z1 3 0 1 (z1 3 0 0 1)).toNat)) (z1 1 v_line)) fun z14 =>
  lt (gs z1 1 ((z1 3 0 1 (z1 3 0 0 1)).toNat) z14 : GG) fun C15 =>
  lt (hw C15 (3, 0, 0) 1 (w32 ((C15 3 0 0 1) + 1)) : GG) fun C18 =>
  some C18
noncomputable def X3_takeBack (C0 : GG) (v_line : Nat) : Option (GG) :=
  if 0 < (C0 3 0 0 1) then
    lt (hw C0 (3, 0, 0) 1 (w32 ((C0 3 0 0 1) - 1)) : GG) fun C4 =>
    grd (gd (C4 3 0 0 1) 8) <|
    grd (gd (C4 3 0 1 (C4 3 0 0 1)) 11) <|
    grd (¬ ((C4 3 0 1 (C4 3 0 0 1)).toNat) = v_line) <|
    Option.bind (X2_become (C4 1 v_line) (C4 1 ((C4 3 0 1 (C4 3 0 0 1)).toNat))) fun z11 =>
    lt (gs C4 1 v_line z11 : GG) fun C12 =>
    some C12
  else
    some C0
noncomputable def X4_refuse (C0 : GG) (v_number : Int) : Option (Int × GG) :=
  if (v_number ≤ (-1)) ∧ ((-6) ≤ v_number) then
    grd (gd (w32 (-v_number)) 7) <|
    lt (hw C0 (0, 0, 9) (w32 (-v_number)) (w32 ((C0 0 0 9 (w32 (-v_number))) + 1)) : GG) fun C6 =>
    some (v_number, C6)
  else
    some (v_number, C0)
noncomputable def X4_back (C0 : GG) : Option (Int × GG) :=
  if (C0 3 0 0 1) = 0 then
    Option.bind (X4_refuse C0 (-3)) fun z7 =>
    some (z7.1, z7.2)
  else
    Option.bind (X3_takeBack C0 0) fun z4 =>
    some (z4 3 0 0 1, z4)
noncomputable def X4_getsThrough (C0 : GG) (v_train : Int) : Option (Int × GG) :=
  Option.bind (X2_goWhileOnItsWay (C0 1 1) v_train 72) fun z2 =>
  lt (gs C0 1 1 z2 : GG) fun C3 =>
  grd (gd v_train 5) <|
  some (if (C3 1 1 14 v_train) = 1 then 1 else 0, C3)
noncomputable def X4_neither_f (v_what : Int) : Option (Int) :=
  some (if (¬ v_what = 0) ∧ (¬ v_what = 1) then 1 else 0)
def X4_neither_v (v_what : Int) : Int :=
  (if (¬ v_what = 0) ∧ (¬ v_what = 1) then 1 else 0)
theorem X4_neither_ok (v_what : Int) : Ok (X4_neither_f v_what) (fun x => x = X4_neither_v v_what) := by
  unfold X4_neither_f X4_neither_v
  exact ⟨_, rfl, rfl⟩
noncomputable def X4_noTrain_f (C0 : GG) (v_train : Int) : Option (Int) :=
  some (if (v_train < 0) ∨ ((C0 1 0 0 4) ≤ v_train) then 1 else 0)
def X4_noTrain_v (C0 : GG) (v_train : Int) : Int :=
  (if (v_train < 0) ∨ ((C0 1 0 0 4) ≤ v_train) then 1 else 0)
theorem X4_noTrain_ok (C0 : GG) (v_train : Int) : Ok (X4_noTrain_f C0 v_train) (fun x => x = X4_noTrain_v C0 v_train) := by
  unfold X4_noTrain_f X4_noTrain_v
  exact ⟨_, rfl, rfl⟩
noncomputable def X4_notAhead_f (C0 : GG) (v_train : Int) : Option (Int) :=
  if ¬ (X4_noTrain_v C0 v_train) = 0 then
    some (-1)
  else
    grd (X2_isAhead_c (C0 1 0) v_train) <|
    some (if ¬ (X2_isAhead_v (C0 1 0) v_train) = 0 then 0 else (-3))
def X4_notAhead_v (C0 : GG) (v_train : Int) : Int :=
  if ¬ (X4_noTrain_v C0 v_train) = 0 then
    (-1)
  else
    (if ¬ (X2_isAhead_v (C0 1 0) v_train) = 0 then 0 else (-3))
def X4_notAhead_c (C0 : GG) (v_train : Int) : Prop := (¬ (¬ (X4_noTrain_v C0 v_train) = 0) → (X2_isAhead_c (C0 1 0) v_train))
theorem X4_notAhead_ok (C0 : GG) (v_train : Int) (h : X4_notAhead_c C0 v_train) : Ok (X4_notAhead_f C0 v_train) (fun x => x = X4_notAhead_v C0 v_train) := by
  unfold X4_notAhead_c at h
  unfold X4_notAhead_f X4_notAhead_v
  refine Ok_ite_i (fun c => ?_) (fun c => ?_)
  · exact ⟨_, rfl, rfl⟩
  · refine Ok_grd_i (h c) ?_
    exact ⟨_, rfl, rfl⟩
noncomputable def X4_bestWait_s1 (v_train : Int) (s11 : Int × Int × Int × GG) : Option ((Int × Int × Int × GG) ⊕ (Int × Int × Int × GG)) :=
    if s11.2.2.1 ≤ 48 then
      Option.bind (X2_become (s11.2.2.2 1 1) (s11.2.2.2 1 0)) fun z21 =>
      lt (gs s11.2.2.2 1 1 z21 : GG) fun C22 =>
      grd (gd v_train 5) <|
      lt (hw C22 (1, 1, 13) v_train s11.2.2.1 : GG) fun C25 =>
      Option.bind (X4_getsThrough C25 v_train) fun z28 =>
      if ¬ z28.1 = 0 then
        if (s11.1 = (-9)) ∨ ((z28.2 1 1 16 v_train) < s11.2.1) then
          lt (z28.2 1 1 16 v_train : Int) fun x35 =>
          some (.inl (s11.2.2.1, x35, w32 (s11.2.2.1 + 1), z28.2))
        else
          some (.inl (s11.1, s11.2.1, w32 (s11.2.2.1 + 1), z28.2))
      else
        some (.inl (s11.1, s11.2.1, w32 (s11.2.2.1 + 1), z28.2))
    else
      some (.inr (s11.1, s11.2.1, s11.2.2.1, s11.2.2.2))
noncomputable def X4_bestWait (C0 : GG) (v_train : Int) (v_what : Int) : Option (Int × GG) :=
  if ¬ (X4_noTrain_v C0 v_train) = 0 then
    Option.bind (X4_refuse C0 (-1)) fun z48 =>
    some (z48.1, z48.2)
  else
  if ¬ (X4_neither_v v_what) = 0 then
    Option.bind (X4_refuse C0 (-2)) fun z46 =>
    some (z46.1, z46.2)
  else
    grd (X4_notAhead_c C0 v_train) <|
    lt (X4_notAhead_v C0 v_train : Int) fun x7 =>
    if ¬ x7 = 0 then
      Option.bind (X4_refuse C0 x7) fun z44 =>
      some (z44.1, z44.2)
    else
      Option.bind (lp (X4_bestWait_s1 v_train) ((-9), (-9), 0, C0)) fun z15 =>
      some (if v_what = 0 then z15.1 else z15.2.1, z15.2.2.2)
noncomputable def X4_throughInMind (C0 : GG) : Option (Int × GG) :=
  Option.bind (X2_goWhileAnyGoes (C0 1 1) 72) fun z2 =>
  lt (gs C0 1 1 z2 : GG) fun C3 =>
  Option.bind (X2_howMany (C3 1 1) 1) fun z6 =>
  some (z6, C3)
noncomputable def X4_othersThroughNow (C0 : GG) (v_train : Int) : Option (Int × GG) :=
  Option.bind (X2_become (C0 1 1) (C0 1 0)) fun z2 =>
  lt (gs C0 1 1 z2 : GG) fun C3 =>
  Option.bind (X4_throughInMind C3) fun z6 =>
  grd (gd v_train 5) <|
  some (if (z6.2 1 1 14 v_train) = 1 then w32 (z6.1 - 1) else z6.1, z6.2)
noncomputable def X4_othersThroughWithout (C0 : GG) (v_train : Int) : Option (Int × GG) :=
  Option.bind (X2_become (C0 1 1) (C0 1 0)) fun z2 =>
  lt (gs C0 1 1 z2 : GG) fun C3 =>
  grd (gd v_train 5) <|
  lt (hw C3 (1, 1, 14) v_train 3 : GG) fun C6 =>
  Option.bind (X4_throughInMind C6) fun z9 =>
  some (z9.1, z9.2)
noncomputable def X4_blocker_s1 (s1 : Int × Int × Int × GG) : Option ((Int × Int × Int × GG) ⊕ (Int × Int × Int × GG)) :=
    if s1.2.2.1 < (s1.2.2.2 1 0 0 4) then
      grd (gd s1.2.2.1 5) <|
      if (s1.2.2.2 1 0 14 s1.2.2.1) = 0 then
        Option.bind (X4_othersThroughNow s1.2.2.2 s1.2.2.1) fun z15 =>
        Option.bind (X4_othersThroughWithout z15.2 s1.2.2.1) fun z17 =>
        if (z15.1 < z17.1) ∧ (s1.1 < z17.1) then
          some (.inl (z17.1, s1.2.2.1, w32 (s1.2.2.1 + 1), z17.2))
        else
          some (.inl (s1.1, s1.2.1, w32 (s1.2.2.1 + 1), z17.2))
      else
        some (.inl (s1.1, s1.2.1, w32 (s1.2.2.1 + 1), s1.2.2.2))
    else
      some (.inr (s1.1, s1.2.1, s1.2.2.1, s1.2.2.2))
noncomputable def X4_blocker (C0 : GG) : Option (Int × GG) :=
  Option.bind (lp (X4_blocker_s1) ((-9), (-9), 0, C0)) fun z5 =>
  some (z5.2.1, z5.2.2.2)
noncomputable def X4_canBeSaid_s1 (C0 : GG) (v_warmth : Int) (s1 : Int) : Option ((Int) ⊕ (((Int) ⊕ (Int)))) :=
    if s1 < (C0 0 0 0 7) then
      grd (gd s1 16) <|
      if (¬ (C0 0 0 7 s1) = 99) ∧ (¬ (C0 0 0 7 s1) = v_warmth) then
        some (.inr (.inr (0)))
      else
        some (.inl (w32 (s1 + 1)))
    else
      some (.inr (.inl s1))
noncomputable def X4_canBeSaid (C0 : GG) (v_warmth : Int) : Option (Int) :=
  Option.bind (lp (X4_canBeSaid_s1 C0 v_warmth) 0) fun o => match o with
  | .inl z5 =>
    some 1
  | .inr y => some (y)
noncomputable def X4_clear (C0 : GG) : Option (Int × GG) :=
  lt (C0 0 0 0 7 : Int) fun x2 =>
  lt (hw C0 (0, 0, 0) 7 0 : GG) fun C5 =>
  some (x2, C5)
noncomputable def X4_commonDivisor_s1 (v_above : Int) (v_below : Int) (s1 : Int) : Option ((Int) ⊕ (((Int) ⊕ (Int)))) :=
    if 1 < s1 then
      grd (¬ s1 = 0) <|
      if ((jrem v_above s1) = 0) ∧ ((jrem v_below s1) = 0) then
        some (.inr (.inr (s1)))
      else
        some (.inl (w32 (s1 + (-1))))
    else
      some (.inr (.inl s1))
noncomputable def X4_commonDivisor (v_above : Int) (v_below : Int) : Option (Int) :=
  Option.bind (lp (X4_commonDivisor_s1 v_above v_below) v_below) fun o => match o with
  | .inl z5 =>
    some 1
  | .inr y => some (y)
noncomputable def X4_count (C0 : GG) (v_what : Int) : Option (Int) :=
  if (11 ≤ v_what) ∧ (v_what ≤ 16) then
    grd (gd (w32 (v_what - 10)) 7) <|
    some (C0 0 0 9 (w32 (v_what - 10)))
  else
  if v_what = 0 then
    some (C0 1 0 0 0)
  else
  if v_what = 1 then
    some (C0 1 0 0 4)
  else
  if v_what = 2 then
    some (C0 1 0 0 1)
  else
  if v_what = 3 then
    some (C0 1 0 0 2)
  else
  if v_what = 4 then
    some (C0 1 0 0 3)
  else
  if v_what = 5 then
    Option.bind (X2_allFrost (C0 1 0)) fun z18 =>
    some z18
  else
  if v_what = 6 then
    some (C0 2 0 0 1)
  else
  if v_what = 7 then
    some (C0 0 0 0 7)
  else
  if v_what = 8 then
    some (C0 3 0 0 1)
  else
    some (-9)
noncomputable def X4_day (C0 : GG) : Option (Int × GG) :=
  Option.bind (X2_become (C0 1 1) (C0 1 0)) fun z2 =>
  lt (gs C0 1 1 z2 : GG) fun C3 =>
  lt (hw C3 (1, 1, 0) 4 0 : GG) fun C5 =>
  Option.bind (X2_go (C5 1 1) 24) fun z8 =>
  lt (gs C5 1 1 z8 : GG) fun C9 =>
  Option.bind (X2_allFrost (C9 1 1)) fun z12 =>
  Option.bind (X2_allFrost (C9 1 0)) fun z14 =>
  some (w32 (z12 - z14), C9)
noncomputable def X4_drawn_f (v_z : Int) (v_below : Int) : Option (Int) :=
  grd (¬ (imax 1 v_below) = 0) <|
  some (jrem (jdiv (b_and v_z 2147483647) 65536) (imax 1 v_below))
def X4_drawn_v (v_z : Int) (v_below : Int) : Int :=
  (jrem (jdiv (b_and v_z 2147483647) 65536) (imax 1 v_below))
def X4_drawn_c (v_z : Int) (v_below : Int) : Prop := (¬ (imax 1 v_below) = 0)
theorem X4_drawn_ok (v_z : Int) (v_below : Int) (h : X4_drawn_c v_z v_below) : Ok (X4_drawn_f v_z v_below) (fun x => x = X4_drawn_v v_z v_below) := by
  unfold X4_drawn_c at h
  unfold X4_drawn_f X4_drawn_v
  refine Ok_grd_i h ?_
  exact ⟨_, rfl, rfl⟩
noncomputable def X4_outside_f (v_v : Int) (v_least : Int) (v_greatest : Int) : Option (Int) :=
  if v_v < v_least then
    some (-4)
  else
    some (if v_greatest < v_v then (-6) else 0)
def X4_outside_v (v_v : Int) (v_least : Int) (v_greatest : Int) : Int :=
  if v_v < v_least then
    (-4)
  else
    (if v_greatest < v_v then (-6) else 0)
theorem X4_outside_ok (v_v : Int) (v_least : Int) (v_greatest : Int) : Ok (X4_outside_f v_v v_least v_greatest) (fun x => x = X4_outside_v v_v v_least v_greatest) := by
  unfold X4_outside_f X4_outside_v
  refine Ok_ite_i (fun c => ?_) (fun c => ?_)
  · exact ⟨_, rfl, rfl⟩
  · exact ⟨_, rfl, rfl⟩
noncomputable def X4_feed (C0 : GG) (v_letter : Int) : Option (Int × GG) :=
  lt (X4_outside_v v_letter 0 255 : Int) fun x2 =>
  if ¬ x2 = 0 then
    Option.bind (X4_refuse C0 x2) fun z16 =>
    some (z16.1, z16.2)
  else
  if 96 ≤ (C0 2 0 0 1) then
    Option.bind (X4_refuse C0 (-6)) fun z14 =>
    some (z14.1, z14.2)
  else
    Option.bind (X1_add (C0 2 0) v_letter) fun z9 =>
    lt (gs C0 2 0 z9 : GG) fun C10 =>
    some (C10 2 0 0 1, C10)
noncomputable def X4_noYard_f (C0 : GG) (v_yard : Int) : Option (Int) :=
  some (if (v_yard < 0) ∨ ((C0 1 0 0 0) ≤ v_yard) then 1 else 0)
def X4_noYard_v (C0 : GG) (v_yard : Int) : Int :=
  (if (v_yard < 0) ∨ ((C0 1 0 0 0) ≤ v_yard) then 1 else 0)
theorem X4_noYard_ok (C0 : GG) (v_yard : Int) : Ok (X4_noYard_f C0 v_yard) (fun x => x = X4_noYard_v C0 v_yard) := by
  unfold X4_noYard_f X4_noYard_v
  exact ⟨_, rfl, rfl⟩
noncomputable def X4_frost (C0 : GG) (v_yard : Int) (v_v : Int) : Option (Int × GG) :=
  if ¬ (X4_noYard_v C0 v_yard) = 0 then
    Option.bind (X4_refuse C0 (-1)) fun z20 =>
    some (z20.1, z20.2)
  else
    lt (X4_outside_v v_v 0 99 : Int) fun x4 =>
    if ¬ x4 = 0 then
      Option.bind (X4_refuse C0 x4) fun z18 =>
      some (z18.1, z18.2)
    else
      Option.bind (X3_keep C0 0) fun z9 =>
      grd (gd v_yard 16) <|
      lt (z9 1 0 8 v_yard : Int) fun x12 =>
      lt (hw z9 (1, 0, 8) v_yard v_v : GG) fun C15 =>
      some (x12, C15)
noncomputable def X4_goInMind (C0 : GG) (v_n : Int) : Option (GG) :=
  Option.bind (X2_become (C0 1 1) (C0 1 0)) fun z2 =>
  lt (gs C0 1 1 z2 : GG) fun C3 =>
  Option.bind (X2_go (C3 1 1) v_n) fun z6 =>
  lt (gs C3 1 1 z6 : GG) fun C7 =>
  some C7
noncomputable def X4_frostIn (C0 : GG) (v_yard : Int) (v_n : Int) : Option (Int × GG) :=
  if ¬ (X4_noYard_v C0 v_yard) = 0 then
    Option.bind (X4_refuse C0 (-1)) fun z15 =>
    some (z15.1, z15.2)
  else
    lt (X4_outside_v v_n 0 72 : Int) fun x4 =>
    if ¬ x4 = 0 then
      Option.bind (X4_refuse C0 x4) fun z13 =>
      some (z13.1, z13.2)
    else
      Option.bind (X4_goInMind C0 v_n) fun z9 =>
      grd (gd v_yard 16) <|
      some (z9 1 1 8 v_yard, z9)
noncomputable def X4_getsThroughAtNoon (C0 : GG) (v_train : Int) (v_noon : Int) : Option (Int × GG) :=
  Option.bind (X2_become (C0 1 1) (C0 1 0)) fun z2 =>
  lt (gs C0 1 1 z2 : GG) fun C3 =>
  lt (hw C3 (1, 1, 0) 3 v_noon : GG) fun C5 =>
  Option.bind (X4_getsThrough C5 v_train) fun z8 =>
  some (z8.1, z8.2)
noncomputable def X4_greatestWarmth_s1 (v_train : Int) (s1 : Int × GG) : Option ((Int × GG) ⊕ (((Int × GG) ⊕ (Int × GG)))) :=
    if 0 ≤ s1.1 then
      Option.bind (X2_become (s1.2 1 1) (s1.2 1 0)) fun z9 =>
      lt (gs s1.2 1 1 z9 : GG) fun C10 =>
      grd (gd v_train 5) <|
      lt (hw C10 (1, 1, 10) v_train s1.1 : GG) fun C13 =>
      Option.bind (X4_getsThrough C13 v_train) fun z16 =>
      if ¬ z16.1 = 0 then
        some (.inr (.inr ((s1.1, z16.2))))
      else
        some (.inl (w32 (s1.1 + (-1)), z16.2))
    else
      some (.inr (.inl (s1.1, s1.2)))
noncomputable def X4_greatestWarmth (C0 : GG) (v_train : Int) : Option (Int × GG) :=
  Option.bind (lp (X4_greatestWarmth_s1 v_train) (9, C0)) fun o => match o with
  | .inl z5 =>
    some ((-9), z5.2)
  | .inr y => some (y)
noncomputable def X4_greatestWeight_s1 (v_train : Int) (s1 : Int × GG) : Option ((Int × GG) ⊕ (((Int × GG) ⊕ (Int × GG)))) :=
    if 1 ≤ s1.1 then
      Option.bind (X2_become (s1.2 1 1) (s1.2 1 0)) fun z9 =>
      lt (gs s1.2 1 1 z9 : GG) fun C10 =>
      grd (gd v_train 5) <|
      lt (hw C10 (1, 1, 9) v_train s1.1 : GG) fun C13 =>
      Option.bind (X4_getsThrough C13 v_train) fun z16 =>
      if ¬ z16.1 = 0 then
        some (.inr (.inr ((s1.1, z16.2))))
      else
        some (.inl (w32 (s1.1 + (-1)), z16.2))
    else
      some (.inr (.inl (s1.1, s1.2)))
noncomputable def X4_greatestWeight (C0 : GG) (v_train : Int) : Option (Int × GG) :=
  Option.bind (lp (X4_greatestWeight_s1 v_train) (60, C0)) fun o => match o with
  | .inl z5 =>
    some ((-9), z5.2)
  | .inr y => some (y)
noncomputable def X4_soonestPace_s1 (v_train : Int) (s1 : Int × Int × Int × GG) : Option ((Int × Int × Int × GG) ⊕ (Int × Int × Int × GG)) :=
    if s1.2.2.1 ≤ 3 then
      Option.bind (X2_become (s1.2.2.2 1 1) (s1.2.2.2 1 0)) fun z11 =>
      lt (gs s1.2.2.2 1 1 z11 : GG) fun C12 =>
      grd (gd v_train 5) <|
      lt (hw C12 (1, 1, 11) v_train s1.2.2.1 : GG) fun C15 =>
      Option.bind (X4_getsThrough C15 v_train) fun z18 =>
      if ¬ z18.1 = 0 then
        if (s1.1 = (-9)) ∨ ((z18.2 1 1 16 v_train) < s1.2.1) then
          lt (z18.2 1 1 16 v_train : Int) fun x25 =>
          some (.inl (s1.2.2.1, x25, w32 (s1.2.2.1 + 1), z18.2))
        else
          some (.inl (s1.1, s1.2.1, w32 (s1.2.2.1 + 1), z18.2))
      else
        some (.inl (s1.1, s1.2.1, w32 (s1.2.2.1 + 1), z18.2))
    else
      some (.inr (s1.1, s1.2.1, s1.2.2.1, s1.2.2.2))
noncomputable def X4_soonestPace (C0 : GG) (v_train : Int) : Option (Int × GG) :=
  Option.bind (lp (X4_soonestPace_s1 v_train) ((-9), (-9), 1, C0)) fun z5 =>
  some (z5.1, z5.2.2.2)
noncomputable def X4_heaviest (C0 : GG) (v_train : Int) (v_what : Int) : Option (Int × GG) :=
  if ¬ (X4_noTrain_v C0 v_train) = 0 then
    Option.bind (X4_refuse C0 (-1)) fun z25 =>
    some (z25.1, z25.2)
  else
  if (v_what < 0) ∨ (2 < v_what) then
    Option.bind (X4_refuse C0 (-2)) fun z7 =>
    some (z7.1, z7.2)
  else
    grd (X4_notAhead_c C0 v_train) <|
    lt (X4_notAhead_v C0 v_train : Int) fun x10 =>
    if ¬ x10 = 0 then
      Option.bind (X4_refuse C0 x10) fun z23 =>
      some (z23.1, z23.2)
    else
    if v_what = 0 then
      Option.bind (X4_greatestWeight C0 v_train) fun z21 =>
      some (z21.1, z21.2)
    else
    if v_what = 1 then
      Option.bind (X4_greatestWarmth C0 v_train) fun z19 =>
      some (z19.1, z19.2)
    else
      Option.bind (X4_soonestPace C0 v_train) fun z17 =>
      some (z17.1, z17.2)
noncomputable def X4_hours (C0 : GG) (v_n : Int) : Option (Int × GG) :=
  lt (X4_outside_v v_n 1 72 : Int) fun x2 =>
  if ¬ x2 = 0 then
    Option.bind (X4_refuse C0 x2) fun z21 =>
    some (z21.1, z21.2)
  else
  if 999 < (w32 ((C0 1 0 0 1) + v_n)) then
    Option.bind (X4_refuse C0 (-6)) fun z19 =>
    some (z19.1, z19.2)
  else
    Option.bind (X3_keep C0 0) fun z9 =>
    Option.bind (X2_howMany (z9 1 0) 1) fun z11 =>
    Option.bind (X2_go (z9 1 0) v_n) fun z13 =>
    lt (gs z9 1 0 z13 : GG) fun C14 =>
    Option.bind (X2_howMany (C14 1 0) 1) fun z17 =>
    some (w32 (z17 - z11), C14)
noncomputable def X4_image (C0 : GG) : Option (Int × GG) :=
  Option.bind (X2_become (C0 1 2) (C0 1 0)) fun z2 =>
  lt (gs C0 1 2 z2 : GG) fun C3 =>
  lt (hw C3 (0, 0, 0) 3 1 : GG) fun C5 =>
  some (C5 1 0 0 1, C5)
noncomputable def X4_judge_s1 (z7 : GG) (s8 : Int × Int) : Option ((Int × Int) ⊕ (Int × Int)) :=
    if (s8.2 < (z7 0 0 0 7)) ∧ (s8.1 = (-9)) then
      grd ((¬ ((z7 1 1 0 0) ≤ s8.2)) → (gd s8.2 16)) <|
      if ((z7 1 1 0 0) ≤ s8.2) ∨ (¬ (z7 1 1 8 s8.2) = (z7 0 0 7 s8.2)) then
        some (.inl (s8.2, w32 (s8.2 + 1)))
      else
        some (.inl (s8.1, w32 (s8.2 + 1)))
    else
      some (.inr (s8.1, s8.2))
noncomputable def X4_judge (C0 : GG) (v_n : Int) : Option (Int × GG) :=
  lt (X4_outside_v v_n 0 72 : Int) fun x2 =>
  if ¬ x2 = 0 then
    Option.bind (X4_refuse C0 x2) fun z31 =>
    some (z31.1, z31.2)
  else
    Option.bind (X4_goInMind C0 v_n) fun z7 =>
    Option.bind (lp (X4_judge_s1 z7) ((-9), 0)) fun z12 =>
    lt (hw z7 (0, 0, 0) 7 0 : GG) fun C28 =>
    some (z12.1, C28)
noncomputable def X4_key_s1 (s7 : Int × Int × Int × GG) : Option ((Int × Int × Int × GG) ⊕ (Int × Int × Int × GG)) :=
    if s7.2.2.1 < (s7.2.2.2 1 0 0 0) then
      Option.bind (X2_become (s7.2.2.2 1 1) (s7.2.2.2 1 0)) fun z18 =>
      lt (gs s7.2.2.2 1 1 z18 : GG) fun C19 =>
      grd (gd s7.2.2.1 16) <|
      lt (hw C19 (1, 1, 6) s7.2.2.1 0 : GG) fun C22 =>
      lt (hw C22 (1, 1, 7) s7.2.2.1 0 : GG) fun C24 =>
      Option.bind (X4_throughInMind C24) fun z27 =>
      if s7.1 < z27.1 then
        some (.inl (z27.1, s7.2.2.1, w32 (s7.2.2.1 + 1), z27.2))
      else
        some (.inl (s7.1, s7.2.1, w32 (s7.2.2.1 + 1), z27.2))
    else
      some (.inr (s7.1, s7.2.1, s7.2.2.1, s7.2.2.2))
noncomputable def X4_key (C0 : GG) : Option (Int × GG) :=
  Option.bind (X2_become (C0 1 1) (C0 1 0)) fun z2 =>
  lt (gs C0 1 1 z2 : GG) fun C3 =>
  Option.bind (X4_throughInMind C3) fun z6 =>
  Option.bind (lp (X4_key_s1) (z6.1, (-9), 0, z6.2)) fun z11 =>
  some (z11.2.1, z11.2.2.2)
noncomputable def X4_last_s1 (v_train : Int) (s7 : Int × GG) : Option ((Int × GG) ⊕ (((Int × GG) ⊕ (Int × GG)))) :=
    if 0 ≤ s7.1 then
      Option.bind (X2_become (s7.2 1 1) (s7.2 1 0)) fun z15 =>
      lt (gs s7.2 1 1 z15 : GG) fun C16 =>
      grd (gd v_train 5) <|
      lt (hw C16 (1, 1, 13) v_train s7.1 : GG) fun C19 =>
      Option.bind (X4_getsThrough C19 v_train) fun z22 =>
      if ¬ z22.1 = 0 then
        some (.inr (.inr ((s7.1, z22.2))))
      else
        some (.inl (w32 (s7.1 + (-1)), z22.2))
    else
      some (.inr (.inl (s7.1, s7.2)))
noncomputable def X4_last (C0 : GG) (v_train : Int) : Option (Int × GG) :=
  grd (X4_notAhead_c C0 v_train) <|
  lt (X4_notAhead_v C0 v_train : Int) fun x3 =>
  if ¬ x3 = 0 then
    Option.bind (X4_refuse C0 x3) fun z26 =>
    some (z26.1, z26.2)
  else
    Option.bind (lp (X4_last_s1 v_train) (48, C0)) fun o => match o with
    | .inl z11 =>
      some ((-9), z11.2)
    | .inr y => some (y)
noncomputable def X4_lasts_s1 (v_weight : Int) (v_yard : Int) (s16 : Int × GG) : Option ((Int × GG) ⊕ (((Int × GG) ⊕ (Int × GG)))) :=
    if s16.1 ≤ 72 then
      grd (X2_bears_c (s16.2 1 1) v_yard v_weight) <|
      if (X2_bears_v (s16.2 1 1) v_yard v_weight) = 0 then
        some (.inr (.inr ((s16.1, s16.2))))
      else
        Option.bind (X2_passHour (s16.2 1 1)) fun z28 =>
        lt (gs s16.2 1 1 z28 : GG) fun C29 =>
        some (.inl (w32 (s16.1 + 1), C29))
    else
      some (.inr (.inl (s16.1, s16.2)))
noncomputable def X4_lasts (C0 : GG) (v_yard : Int) (v_weight : Int) : Option (Int × GG) :=
  if ¬ (X4_noYard_v C0 v_yard) = 0 then
    Option.bind (X4_refuse C0 (-1)) fun z35 =>
    some (z35.1, z35.2)
  else
    lt (X4_outside_v v_weight 1 60 : Int) fun x4 =>
    if ¬ x4 = 0 then
      Option.bind (X4_refuse C0 x4) fun z33 =>
      some (z33.1, z33.2)
    else
      Option.bind (X2_become (C0 1 1) (C0 1 0)) fun z9 =>
      lt (gs C0 1 1 z9 : GG) fun C10 =>
      Option.bind (X2_feelWeather (C10 1 1)) fun z13 =>
      lt (gs C10 1 1 z13 : GG) fun C14 =>
      Option.bind (lp (X4_lasts_s1 v_weight v_yard) (0, C14)) fun o => match o with
      | .inl z20 =>
        some ((-9), z20.2)
      | .inr y => some (y)
noncomputable def X4_laterOf (C0 : GG) (v_one : Int) (v_first : Int) (v_other : Int) (v_second : Int) : Option (Int × GG) :=
  Option.bind (X2_become (C0 1 1) (C0 1 0)) fun z2 =>
  lt (gs C0 1 1 z2 : GG) fun C3 =>
  grd (gd v_one 5) <|
  lt (hw C3 (1, 1, 13) v_one v_first : GG) fun C6 =>
  grd (gd v_other 5) <|
  lt (hw C6 (1, 1, 13) v_other v_second : GG) fun C9 =>
  Option.bind (X4_getsThrough C9 v_one) fun z12 =>
  if ¬ z12.1 = 0 then
    Option.bind (X2_goWhileOnItsWay (z12.2 1 1) v_other (w32 (72 - (z12.2 1 1 0 14)))) fun z16 =>
    lt (gs z12.2 1 1 z16 : GG) fun C17 =>
    if ¬ (C17 1 1 14 v_other) = 1 then
      some ((-9), C17)
    else
      some (imax (C17 1 1 16 v_one) (C17 1 1 16 v_other), C17)
  else
    some ((-9), z12.2)
noncomputable def X4_marchYards_f (C0 : GG) : Option (Int) :=
  some (imin 5 (C0 1 0 0 0))
def X4_marchYards_v (C0 : GG) : Int :=
  (imin 5 (C0 1 0 0 0))
theorem X4_marchYards_ok (C0 : GG) : Ok (X4_marchYards_f C0) (fun x => x = X4_marchYards_v C0) := by
  unfold X4_marchYards_f X4_marchYards_v
  exact ⟨_, rfl, rfl⟩
noncomputable def X4_leastAfter_s1 (C0 : GG) (v_poured : Int) (v_taken : Int) (s1 : Int × Int) : Option ((Int × Int) ⊕ (Int × Int)) :=
    if s1.2 < (X4_marchYards_v C0) then
      grd (gd s1.2 16) <|
      lt (C0 1 0 8 s1.2 : Int) fun x12 =>
      Option.bind (
        if (s1.2 = v_poured) ∧ (¬ v_poured = v_taken) then
          lt (imin 99 (w32 (x12 + 10)) : Int) fun x22 =>
          some (x22)
        else
          some (x12)) fun z15 =>
      Option.bind (
        if (s1.2 = v_taken) ∧ (¬ v_poured = v_taken) then
          lt (imax 0 (w32 (z15 - 10)) : Int) fun x33 =>
          some (x33)
        else
          some (z15)) fun z26 =>
      lt (imin s1.1 z26 : Int) fun x37 =>
      some (.inl (x37, w32 (s1.2 + 1)))
    else
      some (.inr (s1.1, s1.2))
noncomputable def X4_leastAfter (C0 : GG) (v_poured : Int) (v_taken : Int) : Option (Int) :=
  Option.bind (lp (X4_leastAfter_s1 C0 v_poured v_taken) (99, 0)) fun z5 =>
  some z5.1
noncomputable def X4_lies_s1 (C0 : GG) (s1 : Int × Int) : Option ((Int × Int) ⊕ (((Int × Int) ⊕ (Int)))) :=
    if s1.2 < (C0 0 0 0 7) then
      if s1.1 = 99 then
        grd (gd s1.2 16) <|
        lt (C0 0 0 7 s1.2 : Int) fun x19 =>
        some (.inl (x19, w32 (s1.2 + 1)))
      else
        grd (gd s1.2 16) <|
        if (¬ (C0 0 0 7 s1.2) = 99) ∧ (¬ (C0 0 0 7 s1.2) = s1.1) then
          some (.inr (.inr (s1.2)))
        else
          some (.inl (s1.1, w32 (s1.2 + 1)))
    else
      some (.inr (.inl (s1.1, s1.2)))
noncomputable def X4_lies (C0 : GG) : Option (Int) :=
  Option.bind (lp (X4_lies_s1 C0) (99, 0)) fun o => match o with
  | .inl z5 =>
    some (-9)
  | .inr y => some (y)
noncomputable def X4_tellStatement (C0 : GG) (v_place : Int) : Option (Int × GG) :=
  Option.bind (X1_number (C0 2 0) (w32 (v_place + 1)) 2) fun z2 =>
  grd (X1_letterAt_c (C0 2 0) v_place) <|
  lt (X1_letterAt_v (C0 2 0) v_place : Int) fun x5 =>
  if x5 = 110 then
    Option.bind (X2_becomeMany (C0 1 1) z2) fun z10 =>
    lt (gs C0 1 1 z10.2 : GG) fun C11 =>
    some (z10.1, C11)
  else
  if x5 = 121 then
    Option.bind (X1_number (C0 2 0) (w32 (v_place + 3)) 1) fun z15 =>
    Option.bind (X1_number (C0 2 0) (w32 (v_place + 4)) 1) fun z17 =>
    Option.bind (X1_number (C0 2 0) (w32 (v_place + 5)) 2) fun z19 =>
    Option.bind (X2_becomeYard (C0 1 1) z2 z15 z17 z19) fun z21 =>
    lt (gs C0 1 1 z21.2 : GG) fun C22 =>
    some (z21.1, C22)
  else
  if x5 = 116 then
    Option.bind (X1_number (C0 2 0) (w32 (v_place + 3)) 1) fun z26 =>
    Option.bind (X1_number (C0 2 0) (w32 (v_place + 4)) 1) fun z28 =>
    Option.bind (X2_addTrain (C0 1 1) z2 z26 z28) fun z30 =>
    lt (gs C0 1 1 z30.2 : GG) fun C31 =>
    some (z30.1, C31)
  else
  if x5 = 119 then
    Option.bind (X1_number (C0 2 0) (w32 (v_place + 1)) 1) fun z35 =>
    Option.bind (X1_number (C0 2 0) (w32 (v_place + 2)) 2) fun z37 =>
    Option.bind (X2_letWait (C0 1 1) z35 z37) fun z39 =>
    lt (gs C0 1 1 z39.2 : GG) fun C40 =>
    some (z39.1, C40)
  else
  if x5 = 99 then
    Option.bind (X1_number (C0 2 0) (w32 (v_place + 1)) 1) fun z44 =>
    lt (hw C0 (1, 1, 0) 2 z44 : GG) fun C45 =>
    Option.bind (X1_number (C45 2 0) (w32 (v_place + 2)) 1) fun z48 =>
    lt (hw C45 (1, 1, 0) 3 z48 : GG) fun C49 =>
    some (1, C49)
  else
  if x5 = 104 then
    if (¬ (X4_outside_v z2 1 72) = 0) ∨ (999 < (w32 ((C0 1 1 0 1) + z2))) then
      some (0, C0)
    else
      Option.bind (X2_go (C0 1 1) z2) fun z58 =>
      lt (gs C0 1 1 z58 : GG) fun C59 =>
      some (1, C59)
  else
    some (0, C0)
noncomputable def X4_tellLine_s1 (s5 : Int × Int × GG) : Option ((Int × Int × GG) ⊕ (((Int × Int × GG) ⊕ (Int × GG)))) :=
    if (s5.2.1 < (s5.2.2 2 0 0 1)) ∧ (s5.1 < 24) then
      Option.bind (X4_tellStatement s5.2.2 s5.2.1) fun z17 =>
      if ¬ z17.1 = 0 then
        grd (X1_lengthAt_c (z17.2 2 0) s5.2.1) <|
        lt (w32 (s5.2.1 + (X1_lengthAt_v (z17.2 2 0) s5.2.1)) : Int) fun x21 =>
        some (.inl (w32 (s5.1 + 1), x21, z17.2))
      else
        some (.inr (.inr ((w32 ((-2000) - s5.2.1), z17.2))))
    else
      some (.inr (.inl (s5.1, s5.2.1, s5.2.2)))
noncomputable def X4_tellLine (C0 : GG) : Option (Int × GG) :=
  Option.bind (X2_become (C0 1 1) (C0 1 0)) fun z2 =>
  lt (gs C0 1 1 z2 : GG) fun C3 =>
  Option.bind (lp (X4_tellLine_s1) (0, 0, C3)) fun o => match o with
  | .inl z9 =>
    Option.bind (X2_become (z9.2.2 1 0) (z9.2.2 1 1)) fun z27 =>
    lt (gs z9.2.2 1 0 z27 : GG) fun C28 =>
    Option.bind (X3_forget C28) fun z31 =>
    some (z9.1, z31)
  | .inr y => some (y)
noncomputable def X4_line (C0 : GG) : Option (Int × GG) :=
  Option.bind (X1_brokenAt (C0 2 0)) fun z2 =>
  Option.bind (
    if 0 ≤ z2 then
      some (w32 ((-1000) - z2), C0)
    else
      Option.bind (X4_tellLine C0) fun z8 =>
      some (z8.1, z8.2)) fun z3 =>
  lt (hw z3.2 (2, 0, 0) 1 0 : GG) fun C10 =>
  some (z3.1, C10)
noncomputable def X4_lineUp_s1 (s1 : Int × Int × GG) : Option ((Int × Int × GG) ⊕ (Int × Int × GG)) :=
    if s1.2.1 < (s1.2.2 1 0 0 4) then
      grd (X2_isAhead_c (s1.2.2 1 0) s1.2.1) <|
      if ¬ (X2_isAhead_v (s1.2.2 1 0) s1.2.1) = 0 then
        grd (gd s1.1 5) <|
        lt (hw s1.2.2 (0, 0, 11) s1.1 s1.2.1 : GG) fun C14 =>
        lt (hw C14 (0, 0, 10) s1.1 s1.2.1 : GG) fun C16 =>
        some (.inl (w32 (s1.1 + 1), w32 (s1.2.1 + 1), C16))
      else
        some (.inl (s1.1, w32 (s1.2.1 + 1), s1.2.2))
    else
      some (.inr (s1.1, s1.2.1, s1.2.2))
noncomputable def X4_lineUp (C0 : GG) : Option (Int × GG) :=
  Option.bind (lp (X4_lineUp_s1) (0, 0, C0)) fun z5 =>
  some (z5.1, z5.2.2)
noncomputable def X4_nextSeed_f (v_z : Int) : Option (Int) :=
  some (w32 ((w32 (v_z * 1103515245)) + 12345))
def X4_nextSeed_v (v_z : Int) : Int :=
  (w32 ((w32 (v_z * 1103515245)) + 12345))
theorem X4_nextSeed_ok (v_z : Int) : Ok (X4_nextSeed_f v_z) (fun x => x = X4_nextSeed_v v_z) := by
  unfold X4_nextSeed_f X4_nextSeed_v
  exact ⟨_, rfl, rfl⟩
noncomputable def X4_lots_s1 (v_n : Int) (v_what : Int) (s8 : Int × Int × Int × GG) : Option ((Int × Int × Int × GG) ⊕ (Int × Int × Int × GG)) :=
    if s8.2.2.1 < v_n then
      Option.bind (X2_become (s8.2.2.2 1 1) (s8.2.2.2 1 0)) fun z18 =>
      lt (gs s8.2.2.2 1 1 z18 : GG) fun C19 =>
      lt (X4_nextSeed_v s8.1 : Int) fun x22 =>
      grd (X4_drawn_c x22 10) <|
      lt (hw C19 (1, 1, 0) 2 (X4_drawn_v x22 10) : GG) fun C27 =>
      lt (X4_nextSeed_v x22 : Int) fun x30 =>
      grd (X4_drawn_c x30 10) <|
      lt (hw C27 (1, 1, 0) 3 (X4_drawn_v x30 10) : GG) fun C35 =>
      Option.bind (X2_goWhileAnyGoes (C35 1 1) 48) fun z38 =>
      lt (gs C35 1 1 z38 : GG) fun C39 =>
      Option.bind (X2_howMany (C39 1 1) (if v_what = 0 then 1 else 2)) fun z44 =>
      lt (w32 (s8.2.1 + z44) : Int) fun x45 =>
      some (.inl (x30, x45, w32 (s8.2.2.1 + 1), C39))
    else
      some (.inr (s8.1, s8.2.1, s8.2.2.1, s8.2.2.2))
noncomputable def X4_lots (C0 : GG) (v_n : Int) (v_z : Int) (v_what : Int) : Option (Int × GG) :=
  lt (X4_outside_v v_n 1 20 : Int) fun x2 =>
  if ¬ x2 = 0 then
    Option.bind (X4_refuse C0 x2) fun z54 =>
    some (z54.1, z54.2)
  else
  if ¬ (X4_neither_v v_what) = 0 then
    Option.bind (X4_refuse C0 (-2)) fun z52 =>
    some (z52.1, z52.2)
  else
    Option.bind (lp (X4_lots_s1 v_n v_what) (v_z, 0, 0, C0)) fun z12 =>
    some (z12.2.1, z12.2.2.2)
noncomputable def X4_lowest (C0 : GG) (v_n : Int) (v_what : Int) : Option (Int × GG) :=
  lt (X4_outside_v v_n 0 72 : Int) fun x2 =>
  if ¬ x2 = 0 then
    Option.bind (X4_refuse C0 x2) fun z19 =>
    some (z19.1, z19.2)
  else
  if ¬ (X4_neither_v v_what) = 0 then
    Option.bind (X4_refuse C0 (-2)) fun z17 =>
    some (z17.1, z17.2)
  else
    Option.bind (X4_goInMind C0 v_n) fun z9 =>
    Option.bind (X2_weakest (z9 1 1)) fun z11 =>
    grd ((v_what = 0) → (gd z11 16)) <|
    some (if v_what = 0 then z9 1 1 8 z11 else z11, z9)
noncomputable def X4_many (C0 : GG) (v_n : Int) : Option (Int × GG) :=
  lt (X4_outside_v v_n 2 16 : Int) fun x2 =>
  if ¬ x2 = 0 then
    Option.bind (X4_refuse C0 x2) fun z20 =>
    some (z20.1, z20.2)
  else
    lt (C0 1 0 0 0 : Int) fun x7 =>
    Option.bind (X2_becomeMany (C0 1 0) v_n) fun z11 =>
    lt (gs C0 1 0 z11.2 : GG) fun C12 =>
    if ¬ z11.1 = 0 then
      Option.bind (X3_forget C12) fun z16 =>
      some (x7, z16)
    else
      Option.bind (X4_refuse C12 (-3)) fun z18 =>
      some (z18.1, z18.2)
noncomputable def X4_sureOfMarch_s1 (C0 : GG) (s1 : Int × Int) (s10 : Int × Int) : Option ((Int × Int) ⊕ (Int × Int)) :=
    if s10.2 < (X4_marchYards_v C0) then
      Option.bind (X4_leastAfter C0 s10.2 s1.2) fun z20 =>
      lt (imax s10.1 z20 : Int) fun x21 =>
      some (.inl (x21, w32 (s10.2 + 1)))
    else
      some (.inr (s10.1, s10.2))
noncomputable def X4_sureOfMarch_s2 (C0 : GG) (s1 : Int × Int) : Option ((Int × Int) ⊕ (Int × Int)) :=
    if s1.2 < (X4_marchYards_v C0) then
      Option.bind (lp (X4_sureOfMarch_s1 C0 s1) (0, 0)) fun z14 =>
      lt (imin s1.1 z14.1 : Int) fun x26 =>
      some (.inl (x26, w32 (s1.2 + 1)))
    else
      some (.inr (s1.1, s1.2))
noncomputable def X4_sureOfMarch (C0 : GG) : Option (Int) :=
  Option.bind (lp (X4_sureOfMarch_s2 C0) (99, 0)) fun z5 =>
  some z5.1
noncomputable def X4_surePouring_s1 (C0 : GG) (v_poured : Int) (s1 : Int × Int) : Option ((Int × Int) ⊕ (Int × Int)) :=
    if s1.2 < (X4_marchYards_v C0) then
      Option.bind (X4_leastAfter C0 v_poured s1.2) fun z11 =>
      lt (imin s1.1 z11 : Int) fun x12 =>
      some (.inl (x12, w32 (s1.2 + 1)))
    else
      some (.inr (s1.1, s1.2))
noncomputable def X4_surePouring (C0 : GG) (v_poured : Int) : Option (Int) :=
  Option.bind (lp (X4_surePouring_s1 C0 v_poured) (99, 0)) fun z5 =>
  some z5.1
noncomputable def X4_march_s1 (C0 : GG) (s9 : Int × Int × Int) : Option ((Int × Int × Int) ⊕ (Int × Int × Int)) :=
    if s9.2.2 < (X4_marchYards_v C0) then
      Option.bind (X4_surePouring C0 s9.2.2) fun z20 =>
      if s9.2.1 < z20 then
        some (.inl (s9.2.2, z20, w32 (s9.2.2 + 1)))
      else
        some (.inl (s9.1, s9.2.1, w32 (s9.2.2 + 1)))
    else
      some (.inr (s9.1, s9.2.1, s9.2.2))
noncomputable def X4_march (C0 : GG) (v_what : Int) : Option (Int × GG) :=
  if (v_what < 0) ∨ (2 < v_what) then
    Option.bind (X4_refuse C0 (-2)) fun z5 =>
    some (z5.1, z5.2)
  else
  if v_what = 2 then
    Option.bind (X4_sureOfMarch C0) fun z28 =>
    some (z28, C0)
  else
    Option.bind (X4_surePouring C0 0) fun z8 =>
    Option.bind (lp (X4_march_s1 C0) (0, z8, 1)) fun z13 =>
    some (if v_what = 0 then z13.2.1 else z13.1, C0)
noncomputable def X4_mean (C0 : GG) (v_n : Int) (v_what : Int) : Option (Int × GG) :=
  lt (X4_outside_v v_n 0 72 : Int) fun x2 =>
  if ¬ x2 = 0 then
    Option.bind (X4_refuse C0 x2) fun z24 =>
    some (z24.1, z24.2)
  else
  if ¬ (X4_neither_v v_what) = 0 then
    Option.bind (X4_refuse C0 (-2)) fun z22 =>
    some (z22.1, z22.2)
  else
    Option.bind (X4_goInMind C0 v_n) fun z9 =>
    if v_what = 1 then
      Option.bind (X2_greatestFrost (z9 1 1)) fun z16 =>
      Option.bind (X2_weakest (z9 1 1)) fun z18 =>
      grd (gd z18 16) <|
      some (w32 (z16 - (z9 1 1 8 z18)), z9)
    else
      Option.bind (X2_allFrost (z9 1 1)) fun z12 =>
      grd (¬ (imax 1 (z9 1 1 0 0)) = 0) <|
      some (jdiv z12 (imax 1 (z9 1 1 0 0)), z9)
noncomputable def X4_near (C0 : GG) (v_yard : Int) : Option (Int × GG) :=
  if ¬ (X4_noYard_v C0 v_yard) = 0 then
    Option.bind (X4_refuse C0 (-1)) fun z8 =>
    some (z8.1, z8.2)
  else
    Option.bind (X2_nearestHalt (C0 1 0) v_yard) fun z4 =>
    some (if z4 = (-9) then (-9) else iabs (w32 (z4 - v_yard)), C0)
noncomputable def X4_needed_s1 (v_train : Int) (v_yard : Int) (s8 : Int × GG) : Option ((Int × GG) ⊕ (((Int × GG) ⊕ (Int × GG)))) :=
    if s8.1 ≤ 99 then
      Option.bind (X2_become (s8.2 1 1) (s8.2 1 0)) fun z16 =>
      lt (gs s8.2 1 1 z16 : GG) fun C17 =>
      grd (gd v_yard 16) <|
      lt (hw C17 (1, 1, 8) v_yard s8.1 : GG) fun C20 =>
      Option.bind (X4_getsThrough C20 v_train) fun z23 =>
      if ¬ z23.1 = 0 then
        some (.inr (.inr ((s8.1, z23.2))))
      else
        some (.inl (w32 (s8.1 + 1), z23.2))
    else
      some (.inr (.inl (s8.1, s8.2)))
noncomputable def X4_needed (C0 : GG) (v_yard : Int) (v_train : Int) : Option (Int × GG) :=
  if (¬ (X4_noYard_v C0 v_yard) = 0) ∨ (¬ (X4_noTrain_v C0 v_train) = 0) then
    Option.bind (X4_refuse C0 (-1)) fun z7 =>
    some (z7.1, z7.2)
  else
    Option.bind (lp (X4_needed_s1 v_train v_yard) (0, C0)) fun o => match o with
    | .inl z12 =>
      some ((-9), z12.2)
    | .inr y => some (y)
noncomputable def X4_swapQueue (C0 : GG) (v_one : Int) (v_other : Int) : Option (GG) :=
  grd (gd v_one 5) <|
  lt (C0 0 0 10 v_one : Int) fun x3 =>
  grd (gd v_other 5) <|
  lt (hw C0 (0, 0, 10) v_one (C0 0 0 10 v_other) : GG) fun C8 =>
  lt (hw C8 (0, 0, 10) v_other x3 : GG) fun C10 =>
  some C10
noncomputable def X4_nextQueue_s1 (C0 : GG) (s4 : Int) : Option ((Int) ⊕ (Int)) :=
    grd ((0 ≤ s4) → (gd s4 5)) <|
    grd ((0 ≤ s4) → (gd (w32 (s4 + 1)) 5)) <|
    if (0 ≤ s4) ∧ ((C0 0 0 10 (w32 (s4 + 1))) < (C0 0 0 10 s4)) then
      some (.inl (w32 (s4 + (-1))))
    else
      some (.inr s4)
noncomputable def X4_nextQueue_s2 (C0 : GG) (z8 : Int) (s22 : Int) : Option ((Int) ⊕ (Int)) :=
    grd ((z8 < s22) → (gd s22 5)) <|
    grd ((z8 < s22) → (gd z8 5)) <|
    if (z8 < s22) ∧ ((C0 0 0 10 s22) < (C0 0 0 10 z8)) then
      some (.inl (w32 (s22 + (-1))))
    else
      some (.inr s22)
noncomputable def X4_nextQueue_s3 (s44 : Int × Int × GG) : Option ((Int × Int × GG) ⊕ (Int × Int × GG)) :=
    if s44.1 < s44.2.1 then
      Option.bind (X4_swapQueue s44.2.2 s44.1 s44.2.1) fun z53 =>
      some (.inl (w32 (s44.1 + 1), w32 (s44.2.1 + (-1)), z53))
    else
      some (.inr (s44.1, s44.2.1, s44.2.2))
noncomputable def X4_nextQueue (C0 : GG) (v_ahead : Int) : Option (Int × GG) :=
  lt (w32 (v_ahead - 2) : Int) fun x1 =>
  Option.bind (lp (X4_nextQueue_s1 C0) x1) fun z8 =>
  if z8 < 0 then
    some (0, C0)
  else
    lt (w32 (v_ahead - 1) : Int) fun x19 =>
    Option.bind (lp (X4_nextQueue_s2 C0 z8) x19) fun z26 =>
    Option.bind (X4_swapQueue C0 z8 z26) fun z37 =>
    lt (w32 (z8 + 1) : Int) fun x38 =>
    lt (w32 (v_ahead - 1) : Int) fun x41 =>
    Option.bind (lp (X4_nextQueue_s3) (x38, x41, z37)) fun z48 =>
    some (1, z48.2.2)
noncomputable def X4_noon_s1 (v_train : Int) (s3 : Int × GG) : Option ((Int × GG) ⊕ (((Int × GG) ⊕ (Int × GG)))) :=
    if 0 ≤ s3.1 then
      Option.bind (X4_getsThroughAtNoon s3.2 v_train s3.1) fun z11 =>
      if ¬ z11.1 = 0 then
        some (.inr (.inr ((s3.1, z11.2))))
      else
        some (.inl (w32 (s3.1 + (-1)), z11.2))
    else
      some (.inr (.inl (s3.1, s3.2)))
noncomputable def X4_noon (C0 : GG) (v_train : Int) : Option (Int × GG) :=
  if ¬ (X4_noTrain_v C0 v_train) = 0 then
    Option.bind (X4_refuse C0 (-1)) fun z15 =>
    some (z15.1, z15.2)
  else
    Option.bind (lp (X4_noon_s1 v_train) (9, C0)) fun o => match o with
    | .inl z7 =>
      some ((-9), z7.2)
    | .inr y => some (y)
noncomputable def X4_noons_s1 (v_train : Int) (s5 : Int × Int × Int × GG) : Option ((Int × Int × Int × GG) ⊕ (Int × Int × Int × GG)) :=
    if s5.2.2.1 ≤ 9 then
      Option.bind (X4_getsThroughAtNoon s5.2.2.2 v_train s5.2.2.1) fun z15 =>
      if ¬ z15.1 = 0 then
        some (.inl (w32 (s5.1 + 1), w32 (s5.2.1 + 1), w32 (s5.2.2.1 + 1), z15.2))
      else
        some (.inl (s5.1, w32 (s5.2.1 + 1), w32 (s5.2.2.1 + 1), z15.2))
    else
      some (.inr (s5.1, s5.2.1, s5.2.2.1, s5.2.2.2))
noncomputable def X4_noons (C0 : GG) (v_train : Int) (v_part : Int) : Option (Int × GG) :=
  if ¬ (X4_noTrain_v C0 v_train) = 0 then
    Option.bind (X4_refuse C0 (-1)) fun z29 =>
    some (w64 (4000000000000000000 - z29.1), z29.2)
  else
  if ¬ (X4_neither_v v_part) = 0 then
    Option.bind (X4_refuse C0 (-2)) fun z27 =>
    some (w64 (4000000000000000000 - z27.1), z27.2)
  else
    Option.bind (lp (X4_noons_s1 v_train) (0, 0, 0, C0)) fun z9 =>
    Option.bind (X4_commonDivisor z9.1 z9.2.1) fun z21 =>
    grd ((v_part = 0) → (¬ z21 = 0)) <|
    grd ((¬ (v_part = 0)) → (¬ z21 = 0)) <|
    some (if v_part = 0 then jdiv z9.1 z21 else jdiv z9.2.1 z21, z9.2.2.2)
noncomputable def X4_queueDigits_s1 (C0 : GG) (v_ahead : Int) (s2 : Int × Int) : Option ((Int × Int) ⊕ (Int × Int)) :=
    if s2.2 < v_ahead then
      grd (gd s2.2 5) <|
      lt (w32 ((w32 (10 * s2.1)) + (C0 0 0 10 s2.2)) : Int) fun x12 =>
      some (.inl (x12, w32 (s2.2 + 1)))
    else
      some (.inr (s2.1, s2.2))
noncomputable def X4_queueDigits (C0 : GG) (v_ahead : Int) : Option (Int) :=
  if v_ahead = 0 then
    some (-9)
  else
    Option.bind (lp (X4_queueDigits_s1 C0 v_ahead) (0, 0)) fun z6 =>
    some z6.1
noncomputable def X4_takeQueue_s1 (v_ahead : Int) (s5 : Int × GG) : Option ((Int × GG) ⊕ (Int × GG)) :=
    if s5.1 < v_ahead then
      grd (gd s5.1 5) <|
      Option.bind (X2_takeTrain (s5.2 1 1) (s5.2 0 0 11 s5.1) (s5.2 1 0) (s5.2 0 0 10 s5.1)) fun z16 =>
      lt (gs s5.2 1 1 z16 : GG) fun C17 =>
      some (.inl (w32 (s5.1 + 1), C17))
    else
      some (.inr (s5.1, s5.2))
noncomputable def X4_takeQueue (C0 : GG) (v_ahead : Int) : Option (GG) :=
  Option.bind (X2_become (C0 1 1) (C0 1 0)) fun z2 =>
  lt (gs C0 1 1 z2 : GG) fun C3 =>
  Option.bind (lp (X4_takeQueue_s1 v_ahead) (0, C3)) fun z9 =>
  some z9.2
noncomputable def X4_order_s1 (z4 : Int × GG) (s6 : Int × Int × Int × GG) : Option ((Int × Int × Int × GG) ⊕ (Int × Int × Int × GG)) :=
    if s6.2.2.1 < 24 then
      Option.bind (X4_takeQueue s6.2.2.2 z4.1) fun z16 =>
      Option.bind (X4_throughInMind z16) fun z18 =>
      Option.bind (
        if s6.1 < z18.1 then
          Option.bind (X4_queueDigits z18.2 z4.1) fun z25 =>
          some ((z18.1, z25))
        else
          some ((s6.1, s6.2.1))) fun z19 =>
      Option.bind (X4_nextQueue z18.2 z4.1) fun z29 =>
      if ¬ z29.1 = 0 then
        some (.inl (z19.1, z19.2, w32 (s6.2.2.1 + 1), z29.2))
      else
        some (.inr (z19.1, z19.2, s6.2.2.1, z29.2))
    else
      some (.inr (s6.1, s6.2.1, s6.2.2.1, s6.2.2.2))
noncomputable def X4_order (C0 : GG) (v_what : Int) : Option (Int × GG) :=
  if ¬ (X4_neither_v v_what) = 0 then
    Option.bind (X4_refuse C0 (-2)) fun z39 =>
    some (z39.1, z39.2)
  else
    Option.bind (X4_lineUp C0) fun z4 =>
    if 4 < z4.1 then
      Option.bind (X4_refuse z4.2 (-3)) fun z37 =>
      some (z37.1, z37.2)
    else
      Option.bind (lp (X4_order_s1 z4) ((-9), (-9), 0, z4.2)) fun z10 =>
      some (if v_what = 0 then z10.2.1 else z10.1, z10.2.2.2)
noncomputable def X4_pouredGetsThrough_s1 (v_bits : Int) (s5 : Int × GG) : Option ((Int × GG) ⊕ (((Int × GG) ⊕ (Int × GG)))) :=
    if s5.1 < (s5.2 1 0 0 0) then
      if (b_and (b_shr v_bits s5.1) 1) = 1 then
        grd (gd s5.1 16) <|
        if 99 ≤ (s5.2 1 0 8 s5.1) then
          some (.inr (.inr ((0, s5.2))))
        else
          Option.bind (X2_pour (s5.2 1 1) s5.1) fun z18 =>
          lt (gs s5.2 1 1 z18 : GG) fun C19 =>
          some (.inl (w32 (s5.1 + 1), C19))
      else
        some (.inl (w32 (s5.1 + 1), s5.2))
    else
      some (.inr (.inl (s5.1, s5.2)))
noncomputable def X4_pouredGetsThrough (C0 : GG) (v_bits : Int) (v_train : Int) : Option (Int × GG) :=
  Option.bind (X2_become (C0 1 1) (C0 1 0)) fun z2 =>
  lt (gs C0 1 1 z2 : GG) fun C3 =>
  Option.bind (lp (X4_pouredGetsThrough_s1 v_bits) (0, C3)) fun o => match o with
  | .inl z9 =>
    Option.bind (X4_getsThrough z9.2 v_train) fun z23 =>
    some (z23.1, z23.2)
  | .inr y => some (y)
noncomputable def X6_bitCount_f (v_i : Int) : Option (Int) :=
  lt (w32 (v_i - (b_and (b_ushr v_i 1) 1431655765)) : Int) fun x1 =>
  lt (w32 ((b_and x1 858993459) + (b_and (b_ushr x1 2) 858993459)) : Int) fun x4 =>
  lt (b_and (w32 (x4 + (b_ushr x4 4))) 252645135 : Int) fun x7 =>
  lt (w32 (x7 + (b_ushr x7 8)) : Int) fun x10 =>
  lt (w32 (x10 + (b_ushr x10 16)) : Int) fun x13 =>
  some (b_and x13 63)
def X6_bitCount_v (v_i : Int) : Int :=
  let x1 := w32 (v_i - (b_and (b_ushr v_i 1) 1431655765))
  let x4 := w32 ((b_and x1 858993459) + (b_and (b_ushr x1 2) 858993459))
  let x7 := b_and (w32 (x4 + (b_ushr x4 4))) 252645135
  let x10 := w32 (x7 + (b_ushr x7 8))
  let x13 := w32 (x10 + (b_ushr x10 16))
  (b_and x13 63)
theorem X6_bitCount_ok (v_i : Int) : Ok (X6_bitCount_f v_i) (fun x => x = X6_bitCount_v v_i) := by
  unfold X6_bitCount_f X6_bitCount_v
  refine Ok_let_i ?_
  refine Ok_let_i ?_
  refine Ok_let_i ?_
  refine Ok_let_i ?_
  refine Ok_let_i ?_
  exact ⟨_, rfl, rfl⟩
noncomputable def X4_pourFewest_s1 (s6 : Int × GG) (v_train : Int) (s13 : Int × GG) : Option ((Int × GG) ⊕ (((Int × GG) ⊕ (Int × GG)))) :=
    if s13.1 < (b_shl 1 (s13.2 1 0 0 0)) then
      if (X6_bitCount_v s13.1) = s6.1 then
        Option.bind (X4_pouredGetsThrough s13.2 s13.1 v_train) fun z24 =>
        if ¬ z24.1 = 0 then
          some (.inr (.inr ((s13.1, z24.2))))
        else
          some (.inl (w32 (s13.1 + 1), z24.2))
      else
        some (.inl (w32 (s13.1 + 1), s13.2))
    else
      some (.inr (.inl (s13.1, s13.2)))
noncomputable def X4_pourFewest_s2 (v_train : Int) (s6 : Int × GG) : Option ((Int × GG) ⊕ (((Int × GG) ⊕ (Int × GG)))) :=
    if s6.1 ≤ 3 then
      Option.bind (lp (X4_pourFewest_s1 s6 v_train) (0, s6.2)) fun o => match o with
      | .inl z17 =>
        some (.inl (w32 (s6.1 + 1), z17.2))
      | .inr y => some (.inr (.inr (y)))
    else
      some (.inr (.inl (s6.1, s6.2)))
noncomputable def X4_pourFewest (C0 : GG) (v_train : Int) : Option (Int × GG) :=
  if ¬ (X4_noTrain_v C0 v_train) = 0 then
    Option.bind (X4_refuse C0 (-1)) fun z31 =>
    some (z31.1, z31.2)
  else
    grd (gd v_train 5) <|
    if ¬ (C0 1 0 14 v_train) = 0 then
      Option.bind (X4_refuse C0 (-3)) fun z29 =>
      some (z29.1, z29.2)
    else
      Option.bind (lp (X4_pourFewest_s2 v_train) (0, C0)) fun o => match o with
      | .inl z10 =>
        some ((-9), z10.2)
      | .inr y => some (y)
noncomputable def X4_pourFirst_s1 (s7 : Int × Int × Int × GG) : Option ((Int × Int × Int × GG) ⊕ (Int × Int × Int × GG)) :=
    if s7.2.2.1 < (s7.2.2.2 1 0 0 0) then
      Option.bind (X2_become (s7.2.2.2 1 1) (s7.2.2.2 1 0)) fun z18 =>
      lt (gs s7.2.2.2 1 1 z18 : GG) fun C19 =>
      Option.bind (X2_pour (C19 1 1) s7.2.2.1) fun z22 =>
      lt (gs C19 1 1 z22 : GG) fun C23 =>
      Option.bind (X4_throughInMind C23) fun z26 =>
      if s7.1 < z26.1 then
        some (.inl (z26.1, s7.2.2.1, w32 (s7.2.2.1 + 1), z26.2))
      else
        some (.inl (s7.1, s7.2.1, w32 (s7.2.2.1 + 1), z26.2))
    else
      some (.inr (s7.1, s7.2.1, s7.2.2.1, s7.2.2.2))
noncomputable def X4_pourFirst (C0 : GG) : Option (Int × GG) :=
  Option.bind (X2_become (C0 1 1) (C0 1 0)) fun z2 =>
  lt (gs C0 1 1 z2 : GG) fun C3 =>
  Option.bind (X4_throughInMind C3) fun z6 =>
  Option.bind (lp (X4_pourFirst_s1) (z6.1, (-9), 0, z6.2)) fun z11 =>
  some (z11.2.1, z11.2.2.2)
noncomputable def X4_rescue (C0 : GG) (v_train : Int) : Option (Int × GG) :=
  if ¬ (X4_noTrain_v C0 v_train) = 0 then
    Option.bind (X4_refuse C0 (-1)) fun z15 =>
    some (z15.1, z15.2)
  else
    grd (gd v_train 5) <|
    if ((C0 1 0 12 v_train) = (-1)) ∨ ((C0 1 0 14 v_train) = 1) then
      Option.bind (X4_refuse C0 (-3)) fun z10 =>
      some (z10.1, z10.2)
    else
      Option.bind (X2_nearestHalt (C0 1 0) (C0 1 0 12 v_train)) fun z13 =>
      some (z13, C0)
noncomputable def X4_restore (C0 : GG) : Option (Int × GG) :=
  if (C0 0 0 0 3) = 0 then
    Option.bind (X4_refuse C0 (-3)) fun z5 =>
    some (z5.1, z5.2)
  else
    Option.bind (X2_become (C0 1 0) (C0 1 2)) fun z7 =>
    lt (gs C0 1 0 z7 : GG) fun C8 =>
    Option.bind (X3_forget C8) fun z11 =>
    some (z11 1 0 0 1, z11)
noncomputable def X4_row (C0 : GG) (v_v : Int) : Option (Int × GG) :=
  lt (X4_outside_v v_v 0 99 : Int) fun x2 =>
  if ¬ x2 = 0 then
    Option.bind (X4_refuse C0 x2) fun z19 =>
    some (z19.1, z19.2)
  else
  if 16 ≤ (C0 0 0 0 7) then
    Option.bind (X4_refuse C0 (-6)) fun z17 =>
    some (z17.1, z17.2)
  else
    grd (gd (C0 0 0 0 7) 16) <|
    lt (hw C0 (0, 0, 7) (C0 0 0 0 7) v_v : GG) fun C10 =>
    lt (hw C10 (0, 0, 0) 7 (w32 ((C10 0 0 0 7) + 1)) : GG) fun C13 =>
    some (C13 0 0 0 7, C13)
noncomputable def X4_runs_s1 (C0 : GG) (v_weight : Int) (s8 : Int × Int × Int × Int) : Option ((Int × Int × Int × Int) ⊕ (Int × Int × Int × Int)) :=
    if s8.2.2.2 < (C0 1 0 0 0) then
      grd (X2_bears_c (C0 1 0) s8.2.2.2 v_weight) <|
      lt (if ¬ (X2_bears_v (C0 1 0) s8.2.2.2 v_weight) = 0 then w32 (s8.2.2.1 + 1) else 0 : Int) fun x23 =>
      if s8.1 < x23 then
        lt (w32 ((w32 (s8.2.2.2 + 1)) - x23) : Int) fun x27 =>
        some (.inl (x23, x27, x23, w32 (s8.2.2.2 + 1)))
      else
        some (.inl (s8.1, s8.2.1, x23, w32 (s8.2.2.2 + 1)))
    else
      some (.inr (s8.1, s8.2.1, s8.2.2.1, s8.2.2.2))
noncomputable def X4_runs (C0 : GG) (v_weight : Int) (v_what : Int) : Option (Int × GG) :=
  lt (X4_outside_v v_weight 1 60 : Int) fun x2 =>
  if ¬ x2 = 0 then
    Option.bind (X4_refuse C0 x2) fun z39 =>
    some (z39.1, z39.2)
  else
  if ¬ (X4_neither_v v_what) = 0 then
    Option.bind (X4_refuse C0 (-2)) fun z37 =>
    some (z37.1, z37.2)
  else
    Option.bind (lp (X4_runs_s1 C0 v_weight) (0, (-9), 0, 0)) fun z12 =>
    some (if v_what = 0 then z12.1 else z12.2.1, C0)
noncomputable def X4_said_s1 (C0 : GG) (s1 : Int × Int) : Option ((Int × Int) ⊕ (Int × Int)) :=
    if s1.2 ≤ 9 then
      Option.bind (X4_canBeSaid C0 s1.2) fun z10 =>
      if ¬ z10 = 0 then
        lt (b_or s1.1 (b_shl 1 s1.2) : Int) fun x12 =>
        some (.inl (x12, w32 (s1.2 + 1)))
      else
        some (.inl (s1.1, w32 (s1.2 + 1)))
    else
      some (.inr (s1.1, s1.2))
noncomputable def X4_said (C0 : GG) : Option (Int) :=
  Option.bind (lp (X4_said_s1 C0) (0, 0)) fun z5 =>
  some z5.1
noncomputable def X4_stands_s1 (v_train : Int) (s11 : Int × Int × GG) : Option ((Int × Int × GG) ⊕ (Int × Int × GG)) :=
    grd ((s11.2.1 < 72) → (gd v_train 5)) <|
    if (s11.2.1 < 72) ∧ ((s11.2.2 1 1 14 v_train) = 0) then
      grd (gd v_train 5) <|
      lt (if 0 < (s11.2.2 1 1 13 v_train) then 1 else 0 : Int) fun x27 =>
      lt (s11.2.2 1 1 12 v_train : Int) fun x31 =>
      Option.bind (X2_passHour (s11.2.2 1 1)) fun z35 =>
      lt (gs s11.2.2 1 1 z35 : GG) fun C36 =>
      if ((x27 = 0) ∧ (¬ (C36 1 1 14 v_train) = 1)) ∧ ((C36 1 1 12 v_train) = x31) then
        some (.inl (w32 (s11.1 + 1), w32 (s11.2.1 + 1), C36))
      else
        some (.inl (s11.1, w32 (s11.2.1 + 1), C36))
    else
      some (.inr (s11.1, s11.2.1, s11.2.2))
noncomputable def X4_stands (C0 : GG) (v_train : Int) : Option (Int × GG) :=
  if ¬ (X4_noTrain_v C0 v_train) = 0 then
    Option.bind (X4_refuse C0 (-1)) fun z47 =>
    some (z47.1, z47.2)
  else
    Option.bind (X2_become (C0 1 1) (C0 1 0)) fun z4 =>
    lt (gs C0 1 1 z4 : GG) fun C5 =>
    Option.bind (X2_feelWeather (C5 1 1)) fun z8 =>
    lt (gs C5 1 1 z8 : GG) fun C9 =>
    Option.bind (lp (X4_stands_s1 v_train) (0, 0, C9)) fun z15 =>
    some (z15.1, z15.2.2)
noncomputable def X4_strongest_s1 (v_weight : Int) (s10 : Int × GG) : Option ((Int × GG) ⊕ (((Int × GG) ⊕ (Int × GG)))) :=
    if s10.1 ≤ 20 then
      Option.bind (X2_allBear (s10.2 1 1) v_weight) fun z18 =>
      if ¬ z18 = 0 then
        some (.inr (.inr ((s10.1, s10.2))))
      else
        Option.bind (X2_weakest (s10.2 1 1)) fun z21 =>
        Option.bind (X2_pour (s10.2 1 1) z21) fun z23 =>
        lt (gs s10.2 1 1 z23 : GG) fun C24 =>
        some (.inl (w32 (s10.1 + 1), C24))
    else
      some (.inr (.inl (s10.1, s10.2)))
noncomputable def X4_strongest (C0 : GG) (v_weight : Int) : Option (Int × GG) :=
  lt (X4_outside_v v_weight 1 60 : Int) fun x2 =>
  if ¬ x2 = 0 then
    Option.bind (X4_refuse C0 x2) fun z28 =>
    some (z28.1, z28.2)
  else
    Option.bind (X2_become (C0 1 1) (C0 1 0)) fun z7 =>
    lt (gs C0 1 1 z7 : GG) fun C8 =>
    Option.bind (lp (X4_strongest_s1 v_weight) (0, C8)) fun o => match o with
    | .inl z14 =>
      some ((-9), z14.2)
    | .inr y => some (y)
noncomputable def X4_tells_s1 (C0 : GG) (s6 : Int × Int × Int) : Option ((Int × Int × Int) ⊕ (Int × Int × Int)) :=
    if s6.2.2 < (C0 1 0 0 0) then
      grd (X2_besideNeighbours_c (C0 1 0) s6.2.2) <|
      lt (X2_besideNeighbours_v (C0 1 0) s6.2.2 : Int) fun x18 =>
      if x18 < s6.2.1 then
        some (.inl (s6.2.2, x18, w32 (s6.2.2 + 1)))
      else
        some (.inl (s6.1, s6.2.1, w32 (s6.2.2 + 1)))
    else
      some (.inr (s6.1, s6.2.1, s6.2.2))
noncomputable def X4_tells (C0 : GG) : Option (Int) :=
  grd (X2_besideNeighbours_c (C0 1 0) 0) <|
  lt (X2_besideNeighbours_v (C0 1 0) 0 : Int) fun x3 =>
  Option.bind (lp (X4_tells_s1 C0) (0, x3, 1)) fun z10 =>
  some z10.1
noncomputable def X4_thaw_s1 (s9 : Int × GG) : Option ((Int × GG) ⊕ (((Int × GG) ⊕ (Int × GG)))) :=
    if s9.1 ≤ 72 then
      Option.bind (X2_noneBears (s9.2 1 1) 1) fun z17 =>
      if ¬ z17 = 0 then
        some (.inr (.inr ((s9.1, s9.2))))
      else
        Option.bind (X2_passHour (s9.2 1 1)) fun z20 =>
        lt (gs s9.2 1 1 z20 : GG) fun C21 =>
        some (.inl (w32 (s9.1 + 1), C21))
    else
      some (.inr (.inl (s9.1, s9.2)))
noncomputable def X4_thaw (C0 : GG) : Option (Int × GG) :=
  Option.bind (X2_become (C0 1 1) (C0 1 0)) fun z2 =>
  lt (gs C0 1 1 z2 : GG) fun C3 =>
  Option.bind (X2_feelWeather (C3 1 1)) fun z6 =>
  lt (gs C3 1 1 z6 : GG) fun C7 =>
  Option.bind (lp (X4_thaw_s1) (0, C7)) fun o => match o with
  | .inl z13 =>
    some ((-9), z13.2)
  | .inr y => some (y)
noncomputable def X4_thin_s1 (z12 : GG) (v_weight : Int) (s13 : Int) : Option ((Int) ⊕ (((Int) ⊕ (Int × GG)))) :=
    if s13 < (z12 1 1 0 0) then
      grd (X2_bears_c (z12 1 1) s13 v_weight) <|
      if (X2_bears_v (z12 1 1) s13 v_weight) = 0 then
        some (.inr (.inr ((s13, z12))))
      else
        some (.inl (w32 (s13 + 1)))
    else
      some (.inr (.inl s13))
noncomputable def X4_thin (C0 : GG) (v_n : Int) (v_weight : Int) : Option (Int × GG) :=
  if (v_n < 0) ∨ (v_weight < 1) then
    Option.bind (X4_refuse C0 (-4)) fun z5 =>
    some (z5.1, z5.2)
  else
  if (72 < v_n) ∨ (60 < v_weight) then
    Option.bind (X4_refuse C0 (-6)) fun z10 =>
    some (z10.1, z10.2)
  else
    Option.bind (X4_goInMind C0 v_n) fun z12 =>
    Option.bind (lp (X4_thin_s1 z12 v_weight) 0) fun o => match o with
    | .inl z17 =>
      some ((-9), z12)
    | .inr y => some (y)
noncomputable def X4_through (C0 : GG) (v_n : Int) (v_what : Int) : Option (Int × GG) :=
  lt (X4_outside_v v_n 0 72 : Int) fun x2 =>
  if ¬ x2 = 0 then
    Option.bind (X4_refuse C0 x2) fun z17 =>
    some (z17.1, z17.2)
  else
  if ¬ (X4_neither_v v_what) = 0 then
    Option.bind (X4_refuse C0 (-2)) fun z15 =>
    some (z15.1, z15.2)
  else
    Option.bind (X4_goInMind C0 v_n) fun z9 =>
    Option.bind (X2_howMany (z9 1 1) (if v_what = 0 then 1 else 2)) fun z13 =>
    some (z13, z9)
noncomputable def X4_timetable_s1 (s18 : Int × Int × Int × GG) (v_one : Int) (v_other : Int) (s27 : Int × Int × Int × GG) : Option ((Int × Int × Int × GG) ⊕ (Int × Int × Int × GG)) :=
    if s27.2.2.1 ≤ 24 then
      Option.bind (
        if s18.2.2.1 = s27.2.2.1 then
          some ((-9), s27.2.2.2)
        else
          Option.bind (X4_laterOf s27.2.2.2 v_one s18.2.2.1 v_other s27.2.2.1) fun z41 =>
          some (z41.1, z41.2)) fun z36 =>
      if (¬ z36.1 = (-9)) ∧ ((s27.1 = (-9)) ∨ (z36.1 < s27.2.1)) then
        lt (w32 ((w32 (100 * s18.2.2.1)) + s27.2.2.1) : Int) fun x47 =>
        some (.inl (x47, z36.1, w32 (s27.2.2.1 + 6), z36.2))
      else
        some (.inl (s27.1, s27.2.1, w32 (s27.2.2.1 + 6), z36.2))
    else
      some (.inr (s27.1, s27.2.1, s27.2.2.1, s27.2.2.2))
noncomputable def X4_timetable_s2 (v_one : Int) (v_other : Int) (s18 : Int × Int × Int × GG) : Option ((Int × Int × Int × GG) ⊕ (Int × Int × Int × GG)) :=
    if s18.2.2.1 ≤ 24 then
      Option.bind (lp (X4_timetable_s1 s18 v_one v_other) (s18.1, s18.2.1, 0, s18.2.2.2)) fun z31 =>
      some (.inl (z31.1, z31.2.1, w32 (s18.2.2.1 + 6), z31.2.2.2))
    else
      some (.inr (s18.1, s18.2.1, s18.2.2.1, s18.2.2.2))
noncomputable def X4_timetable (C0 : GG) (v_one : Int) (v_other : Int) : Option (Int × GG) :=
  if ((¬ (X4_noTrain_v C0 v_one) = 0) ∨ (¬ (X4_noTrain_v C0 v_other) = 0)) ∨ (v_one = v_other) then
    Option.bind (X4_refuse C0 (-1)) fun z8 =>
    some (z8.1, z8.2)
  else
    grd (X2_isAhead_c (C0 1 0) v_one) <|
    grd ((¬ ((X2_isAhead_v (C0 1 0) v_one) = 0)) → (X2_isAhead_c (C0 1 0) v_other)) <|
    if ((X2_isAhead_v (C0 1 0) v_one) = 0) ∨ ((X2_isAhead_v (C0 1 0) v_other) = 0) then
      Option.bind (X4_refuse C0 (-3)) fun z17 =>
      some (z17.1, z17.2)
    else
      Option.bind (lp (X4_timetable_s2 v_one v_other) ((-9), (-9), 0, C0)) fun z22 =>
      some (z22.1, z22.2.2.2)
noncomputable def X4_told (C0 : GG) (v_train : Int) (v_what : Int) : Option (Int × GG) :=
  if ¬ (X4_noTrain_v C0 v_train) = 0 then
    Option.bind (X4_refuse C0 (-1)) fun z24 =>
    some (z24.1, z24.2)
  else
  if v_what = 0 then
    grd (gd v_train 5) <|
    some (C0 1 0 9 v_train, C0)
  else
  if v_what = 1 then
    grd (gd v_train 5) <|
    some (C0 1 0 10 v_train, C0)
  else
  if v_what = 2 then
    grd (gd v_train 5) <|
    some (C0 1 0 11 v_train, C0)
  else
  if v_what = 3 then
    grd (gd v_train 5) <|
    some (C0 1 0 12 v_train, C0)
  else
  if v_what = 4 then
    grd (gd v_train 5) <|
    some (C0 1 0 13 v_train, C0)
  else
  if v_what = 5 then
    grd (gd v_train 5) <|
    some (C0 1 0 14 v_train, C0)
  else
    Option.bind (X4_refuse C0 (-2)) fun z22 =>
    some (z22.1, z22.2)
noncomputable def X4_train (C0 : GG) (v_weight : Int) (v_warmth : Int) (v_pace : Int) : Option (Int × GG) :=
  if ((v_weight < 1) ∨ (v_warmth < 0)) ∨ (v_pace < 1) then
    Option.bind (X4_refuse C0 (-4)) fun z6 =>
    some (z6.1, z6.2)
  else
    Option.bind (X2_addTrain (C0 1 0) v_weight v_warmth v_pace) fun z8 =>
    lt (gs C0 1 0 z8.2 : GG) fun C9 =>
    if ¬ z8.1 = 0 then
      Option.bind (X3_forget C9) fun z13 =>
      some (w32 ((z13 1 0 0 4) - 1), z13)
    else
      Option.bind (X4_refuse C9 (-6)) fun z16 =>
      some (z16.1, z16.2)
noncomputable def X4_trainIn (C0 : GG) (v_train : Int) (v_n : Int) (v_what : Int) : Option (Int × GG) :=
  if ¬ (X4_noTrain_v C0 v_train) = 0 then
    Option.bind (X4_refuse C0 (-1)) fun z27 =>
    some (z27.1, z27.2)
  else
    lt (X4_outside_v v_n 0 72 : Int) fun x4 =>
    if ¬ x4 = 0 then
      Option.bind (X4_refuse C0 x4) fun z25 =>
      some (z25.1, z25.2)
    else
    if (v_what < 0) ∨ (2 < v_what) then
      Option.bind (X4_refuse C0 (-2)) fun z12 =>
      some (z12.1, z12.2)
    else
      Option.bind (X4_goInMind C0 v_n) fun z14 =>
      if v_what = 0 then
        grd (gd v_train 5) <|
        some (z14 1 1 14 v_train, z14)
      else
        grd ((v_what = 1) → (gd v_train 5)) <|
        grd ((¬ (v_what = 1)) → (gd v_train 5)) <|
        some (if v_what = 1 then z14 1 1 12 v_train else z14 1 1 16 v_train, z14)
noncomputable def X4_turn (C0 : GG) (v_yard : Int) (v_kind : Int) (v_figure : Int) : Option (Int × GG) :=
  if ¬ (X4_noYard_v C0 v_yard) = 0 then
    Option.bind (X4_refuse C0 (-1)) fun z28 =>
    some (z28.1, z28.2)
  else
  if (v_kind < 0) ∨ (5 < v_kind) then
    Option.bind (X4_refuse C0 (-2)) fun z7 =>
    some (z7.1, z7.2)
  else
    lt (X4_outside_v v_figure 0 9 : Int) fun x9 =>
    if ¬ x9 = 0 then
      Option.bind (X4_refuse C0 x9) fun z26 =>
      some (z26.1, z26.2)
    else
      Option.bind (X3_keep C0 0) fun z14 =>
      grd (gd v_yard 16) <|
      lt (w32 ((w32 (10 * (z14 1 0 6 v_yard))) + (z14 1 0 7 v_yard)) : Int) fun x18 =>
      lt (hw z14 (1, 0, 6) v_yard v_kind : GG) fun C21 =>
      lt (hw C21 (1, 0, 7) v_yard v_figure : GG) fun C23 =>
      some (x18, C23)
noncomputable def X4_waits (C0 : GG) (v_train : Int) (v_v : Int) : Option (Int × GG) :=
  if ¬ (X4_noTrain_v C0 v_train) = 0 then
    Option.bind (X4_refuse C0 (-1)) fun z24 =>
    some (z24.1, z24.2)
  else
    lt (X4_outside_v v_v 0 48 : Int) fun x4 =>
    if ¬ x4 = 0 then
      Option.bind (X4_refuse C0 x4) fun z22 =>
      some (z22.1, z22.2)
    else
      grd (gd v_train 5) <|
      if ¬ (C0 1 0 14 v_train) = 0 then
        Option.bind (X4_refuse C0 (-3)) fun z20 =>
        some (z20.1, z20.2)
      else
        Option.bind (X3_keep C0 0) fun z12 =>
        lt (z12 1 0 13 v_train : Int) fun x14 =>
        lt (hw z12 (1, 0, 13) v_train v_v : GG) fun C17 =>
        some (x14, C17)
noncomputable def X4_weather (C0 : GG) (v_what : Int) (v_v : Int) : Option (Int × GG) :=
  if ¬ (X4_neither_v v_what) = 0 then
    Option.bind (X4_refuse C0 (-2)) fun z25 =>
    some (z25.1, z25.2)
  else
    lt (X4_outside_v v_v 0 9 : Int) fun x4 =>
    if ¬ x4 = 0 then
      Option.bind (X4_refuse C0 x4) fun z23 =>
      some (z23.1, z23.2)
    else
      Option.bind (X3_keep C0 0) fun z9 =>
      lt (if v_what = 0 then z9 1 0 0 2 else z9 1 0 0 3 : Int) fun x14 =>
      if v_what = 0 then
        lt (hw z9 (1, 0, 0) 2 v_v : GG) fun C20 =>
        some (x14, C20)
      else
        lt (hw z9 (1, 0, 0) 3 v_v : GG) fun C18 =>
        some (x14, C18)
noncomputable def X4_yard (C0 : GG) (v_yard : Int) (v_what : Int) : Option (Int × GG) :=
  if ¬ (X4_noYard_v C0 v_yard) = 0 then
    Option.bind (X4_refuse C0 (-1)) fun z32 =>
    some (z32.1, z32.2)
  else
  if v_what = 0 then
    grd (gd v_yard 16) <|
    some (C0 1 0 6 v_yard, C0)
  else
  if v_what = 1 then
    grd (gd v_yard 16) <|
    some (C0 1 0 7 v_yard, C0)
  else
  if v_what = 2 then
    grd (gd v_yard 16) <|
    some (C0 1 0 8 v_yard, C0)
  else
  if v_what = 3 then
    grd (gd v_yard 16) <|
    some (X0_freezes_v (C0 1 0 6 v_yard) (C0 1 0 7 v_yard) (C0 1 0 0 2), C0)
  else
  if v_what = 4 then
    grd (gd v_yard 16) <|
    some (X0_melts_v (C0 1 0 6 v_yard) (C0 1 0 7 v_yard) (C0 1 0 0 3), C0)
  else
  if v_what = 5 then
    grd (gd v_yard 16) <|
    some (X0_wants_v (C0 1 0 6 v_yard) (C0 1 0 7 v_yard) 20, C0)
  else
    Option.bind (X4_refuse C0 (-2)) fun z30 =>
    some (z30.1, z30.2)
noncomputable def X5_wants_f (L0 : LT) (v_y : Int) (v_weight : Int) : Option (Int) :=
  grd (gd v_y 16) <|
  if (L0 2 v_y) = 1 then
    some (w32 (v_weight + (jdiv v_weight 2)))
  else
  if (L0 2 v_y) = 2 then
    some (w32 (v_weight + (L0 3 v_y)))
  else
  if (L0 2 v_y) = 5 then
    some (w32 (v_weight + (L0 3 v_y)))
  else
  if (L0 2 v_y) = 3 then
    some (jdiv v_weight 2)
  else
  if (L0 2 v_y) = 4 then
    some (jdiv v_weight 2)
  else
    some v_weight
def X5_wants_v (L0 : LT) (v_y : Int) (v_weight : Int) : Int :=
  if (L0 2 v_y) = 1 then
    (w32 (v_weight + (jdiv v_weight 2)))
  else
  if (L0 2 v_y) = 2 then
    (w32 (v_weight + (L0 3 v_y)))
  else
  if (L0 2 v_y) = 5 then
    (w32 (v_weight + (L0 3 v_y)))
  else
  if (L0 2 v_y) = 3 then
    (jdiv v_weight 2)
  else
  if (L0 2 v_y) = 4 then
    (jdiv v_weight 2)
  else
    v_weight
def X5_wants_c (L0 : LT) (v_y : Int) (v_weight : Int) : Prop := (gd v_y 16)
theorem X5_wants_ok (L0 : LT) (v_y : Int) (v_weight : Int) (h : X5_wants_c L0 v_y v_weight) : Ok (X5_wants_f L0 v_y v_weight) (fun x => x = X5_wants_v L0 v_y v_weight) := by
  unfold X5_wants_c at h
  unfold X5_wants_f X5_wants_v
  refine Ok_grd_i h ?_
  refine Ok_ite_i (fun c => ?_) (fun c => ?_)
  · exact ⟨_, rfl, rfl⟩
  · refine Ok_ite_i (fun c => ?_) (fun c => ?_)
    · exact ⟨_, rfl, rfl⟩
    · refine Ok_ite_i (fun c => ?_) (fun c => ?_)
      · exact ⟨_, rfl, rfl⟩
      · refine Ok_ite_i (fun c => ?_) (fun c => ?_)
        · exact ⟨_, rfl, rfl⟩
        · refine Ok_ite_i (fun c => ?_) (fun c => ?_)
          · exact ⟨_, rfl, rfl⟩
          · exact ⟨_, rfl, rfl⟩
noncomputable def X5_bears_f (L0 : LT) (v_y : Int) (v_weight : Int) : Option (Int) :=
  grd (gd v_y 16) <|
  grd (X5_wants_c L0 v_y v_weight) <|
  some (if (X5_wants_v L0 v_y v_weight) ≤ (L0 4 v_y) then 1 else 0)
def X5_bears_v (L0 : LT) (v_y : Int) (v_weight : Int) : Int :=
  (if (X5_wants_v L0 v_y v_weight) ≤ (L0 4 v_y) then 1 else 0)
def X5_bears_c (L0 : LT) (v_y : Int) (v_weight : Int) : Prop := ((gd v_y 16) ∧ (X5_wants_c L0 v_y v_weight))
theorem X5_bears_ok (L0 : LT) (v_y : Int) (v_weight : Int) (h : X5_bears_c L0 v_y v_weight) : Ok (X5_bears_f L0 v_y v_weight) (fun x => x = X5_bears_v L0 v_y v_weight) := by
  unfold X5_bears_c at h
  unfold X5_bears_f X5_bears_v
  refine Ok_grd_i (h).1 ?_
  refine Ok_grd_i (h).2 ?_
  exact ⟨_, rfl, rfl⟩
noncomputable def X5_allBear_s1 (L0 : LT) (v_weight : Int) (s1 : Int × Int) : Option ((Int × Int) ⊕ (Int × Int)) :=
    if s1.2 < (L0 0 0) then
      grd ((¬ s1.1 = 0) → (X5_bears_c L0 s1.2 v_weight)) <|
      lt (if (¬ s1.1 = 0) ∧ (¬ (X5_bears_v L0 s1.2 v_weight) = 0) then 1 else 0 : Int) fun x15 =>
      some (.inl (x15, w32 (s1.2 + 1)))
    else
      some (.inr (s1.1, s1.2))
noncomputable def X5_allBear (L0 : LT) (v_weight : Int) : Option (Int) :=
  Option.bind (lp (X5_allBear_s1 L0 v_weight) (1, 0)) fun z5 =>
  some z5.1
noncomputable def X5_allFrost_s1 (L0 : LT) (s1 : Int × Int) : Option ((Int × Int) ⊕ (Int × Int)) :=
    if s1.2 < (L0 0 0) then
      grd (gd s1.2 16) <|
      lt (w32 (s1.1 + (L0 4 s1.2)) : Int) fun x12 =>
      some (.inl (x12, w32 (s1.2 + 1)))
    else
      some (.inr (s1.1, s1.2))
noncomputable def X5_allFrost (L0 : LT) : Option (Int) :=
  Option.bind (lp (X5_allFrost_s1 L0) (0, 0)) fun z5 =>
  some z5.1
noncomputable def X5_atLeast_f (v_v : Int) : Option (Int) :=
  some (if v_v < 0 then 0 else v_v)
def X5_atLeast_v (v_v : Int) : Int :=
  (if v_v < 0 then 0 else v_v)
theorem X5_atLeast_ok (v_v : Int) : Ok (X5_atLeast_f v_v) (fun x => x = X5_atLeast_v v_v) := by
  unfold X5_atLeast_f X5_atLeast_v
  exact ⟨_, rfl, rfl⟩
noncomputable def X5_carry (L0 : LT) (v_v : Int) : Option (Int × LT) :=
  if ¬ (L0 0 30) = 0 then
    grd (isK (L0 0 31)) <|
    grd (gd (L0 0 29) 83) <|
    lt (lw L0 ((L0 0 31).toNat) (L0 0 29) v_v : LT) fun L13 =>
    lt (lw L13 0 29 (w32 ((L13 0 29) + 1)) : LT) fun L16 =>
    grd (isK (L16 0 31)) <|
    grd (gd (w32 ((L16 0 29) - 1)) 83) <|
    some (L16 ((L16 0 31).toNat) (w32 ((L16 0 29) - 1)), L16)
  else
    lt (lw L0 0 29 (w32 ((L0 0 29) + 1)) : LT) fun L4 =>
    grd (isK (L4 0 31)) <|
    grd (gd (w32 ((L4 0 29) - 1)) 83) <|
    some (L4 ((L4 0 31).toNat) (w32 ((L4 0 29) - 1)), L4)
noncomputable def X5_carryAll_s1 (s34 : Int × LT) : Option ((Int × LT) ⊕ (Int × LT)) :=
    if s34.1 < 16 then
      grd (gd s34.1 16) <|
      Option.bind (X5_carry s34.2 (s34.2 2 s34.1)) fun z44 =>
      lt (lw z44.2 2 s34.1 z44.1 : LT) fun L45 =>
      Option.bind (X5_carry L45 (L45 3 s34.1)) fun z49 =>
      lt (lw z49.2 3 s34.1 z49.1 : LT) fun L50 =>
      Option.bind (X5_carry L50 (L50 4 s34.1)) fun z54 =>
      lt (lw z54.2 4 s34.1 z54.1 : LT) fun L55 =>
      some (.inl (w32 (s34.1 + 1), L55))
    else
      some (.inr (s34.1, s34.2))
noncomputable def X5_carryAll_s2 (s58 : Int × LT) : Option ((Int × LT) ⊕ (Int × LT)) :=
    if s58.1 < 5 then
      grd (gd s58.1 5) <|
      Option.bind (X5_carry s58.2 (s58.2 9 s58.1)) fun z68 =>
      lt (lw z68.2 9 s58.1 z68.1 : LT) fun L69 =>
      Option.bind (X5_carry L69 (L69 10 s58.1)) fun z73 =>
      lt (lw z73.2 10 s58.1 z73.1 : LT) fun L74 =>
      Option.bind (X5_carry L74 (L74 11 s58.1)) fun z78 =>
      lt (lw z78.2 11 s58.1 z78.1 : LT) fun L79 =>
      Option.bind (X5_carry L79 (L79 12 s58.1)) fun z83 =>
      lt (lw z83.2 12 s58.1 z83.1 : LT) fun L84 =>
      Option.bind (X5_carry L84 (L84 13 s58.1)) fun z88 =>
      lt (lw z88.2 13 s58.1 z88.1 : LT) fun L89 =>
      Option.bind (X5_carry L89 (L89 14 s58.1)) fun z93 =>
      lt (lw z93.2 14 s58.1 z93.1 : LT) fun L94 =>
      some (.inl (w32 (s58.1 + 1), L94))
    else
      some (.inr (s58.1, s58.2))
noncomputable def X5_carryAll (L0 : LT) (v_to : Int) (v_takes : Int) : Option (LT) :=
  grd (isK v_to) <|
  lt (lw L0 0 31 v_to : LT) fun L2 =>
  grd (v_takes = 0 ∨ v_takes = 1) <|
  lt (lw L2 0 30 v_takes : LT) fun L5 =>
  lt (lw L5 0 29 0 : LT) fun L7 =>
  Option.bind (X5_carry L7 (L7 0 0)) fun z11 =>
  lt (lw z11.2 0 0 z11.1 : LT) fun L12 =>
  Option.bind (X5_carry L12 (L12 0 4)) fun z16 =>
  lt (lw z16.2 0 4 z16.1 : LT) fun L17 =>
  Option.bind (X5_carry L17 (L17 0 5)) fun z21 =>
  lt (lw z21.2 0 5 z21.1 : LT) fun L22 =>
  Option.bind (X5_carry L22 (L22 0 6)) fun z26 =>
  lt (lw z26.2 0 6 z26.1 : LT) fun L27 =>
  Option.bind (X5_carry L27 (L27 0 7)) fun z31 =>
  lt (lw z31.2 0 7 z31.1 : LT) fun L32 =>
  Option.bind (lp (X5_carryAll_s1) (0, L32)) fun z38 =>
  Option.bind (lp (X5_carryAll_s2) (0, z38.2)) fun z62 =>
  some z62.2
noncomputable def X5_refuse (L0 : LT) (v_number : Int) : Option (Int × LT) :=
  grd (gd (w32 (-v_number)) 7) <|
  lt (lw L0 16 (w32 (-v_number)) (w32 ((L0 16 (w32 (-v_number))) + 1)) : LT) fun L3 =>
  some (v_number, L3)
noncomputable def X5_back_s1 (s8 : Int × LT) : Option ((Int × LT) ⊕ (Int × LT)) :=
    if s8.1 < 83 then
      grd (gd (w32 ((w32 (83 * (s8.2 0 34))) + s8.1)) 664) <|
      grd (gd s8.1 83) <|
      lt (lw s8.2 34 s8.1 (s8.2 33 (w32 ((w32 (83 * (s8.2 0 34))) + s8.1))) : LT) fun L19 =>
      some (.inl (w32 (s8.1 + 1), L19))
    else
      some (.inr (s8.1, s8.2))
noncomputable def X5_back (L0 : LT) : Option (Int × LT) :=
  lt (lw L0 0 14 0 : LT) fun L1 =>
  if (L1 0 34) = 0 then
    Option.bind (X5_refuse L1 (-3)) fun z26 =>
    some (z26.1, z26.2)
  else
    lt (lw L1 0 34 (w32 ((L1 0 34) - 1)) : LT) fun L6 =>
    Option.bind (lp (X5_back_s1) (0, L6)) fun z12 =>
    Option.bind (X5_carryAll z12.2 34 0) fun z23 =>
    some (z23 0 34, z23)
noncomputable def X5_besideMean_f (L0 : LT) (v_y : Int) : Option (Int) :=
  grd ((v_y = 0) → (gd 1 16)) <|
  grd ((¬ (v_y = 0)) → (v_y = (w32 ((L0 0 0) - 1))) → (gd (w32 (v_y - 1)) 16)) <|
  grd ((¬ (v_y = 0)) → (¬ (v_y = (w32 ((L0 0 0) - 1)))) → (gd (w32 (v_y - 1)) 16)) <|
  grd ((¬ (v_y = 0)) → (¬ (v_y = (w32 ((L0 0 0) - 1)))) → (gd (w32 (v_y + 1)) 16)) <|
  lt (if v_y = 0 then L0 4 1 else if v_y = (w32 ((L0 0 0) - 1)) then L0 4 (w32 (v_y - 1)) else jdiv (w32 ((L0 4 (w32 (v_y - 1))) + (L0 4 (w32 (v_y + 1))))) 2 : Int) fun x14 =>
  grd (gd v_y 16) <|
  some (w32 ((L0 4 v_y) - x14))
def X5_besideMean_v (L0 : LT) (v_y : Int) : Int :=
  let x14 := if v_y = 0 then L0 4 1 else if v_y = (w32 ((L0 0 0) - 1)) then L0 4 (w32 (v_y - 1)) else jdiv (w32 ((L0 4 (w32 (v_y - 1))) + (L0 4 (w32 (v_y + 1))))) 2
  (w32 ((L0 4 v_y) - x14))
def X5_besideMean_c (L0 : LT) (v_y : Int) : Prop := (((v_y = 0) → (gd 1 16)) ∧ (((¬ (v_y = 0)) → (v_y = (w32 ((L0 0 0) - 1))) → (gd (w32 (v_y - 1)) 16)) ∧ (((¬ (v_y = 0)) → (¬ (v_y = (w32 ((L0 0 0) - 1)))) → (gd (w32 (v_y - 1)) 16)) ∧ (((¬ (v_y = 0)) → (¬ (v_y = (w32 ((L0 0 0) - 1)))) → (gd (w32 (v_y + 1)) 16)) ∧ (let x14 := if v_y = 0 then L0 4 1 else if v_y = (w32 ((L0 0 0) - 1)) then L0 4 (w32 (v_y - 1)) else jdiv (w32 ((L0 4 (w32 (v_y - 1))) + (L0 4 (w32 (v_y + 1))))) 2; (gd v_y 16))))))
theorem X5_besideMean_ok (L0 : LT) (v_y : Int) (h : X5_besideMean_c L0 v_y) : Ok (X5_besideMean_f L0 v_y) (fun x => x = X5_besideMean_v L0 v_y) := by
  unfold X5_besideMean_c at h
  unfold X5_besideMean_f X5_besideMean_v
  refine Ok_grd_i (h).1 ?_
  refine Ok_grd_i ((h).2).1 ?_
  refine Ok_grd_i (((h).2).2).1 ?_
  refine Ok_grd_i ((((h).2).2).2).1 ?_
  refine Ok_let_i ?_
  refine Ok_grd_i ((((h).2).2).2).2 ?_
  exact ⟨_, rfl, rfl⟩
noncomputable def X5_open (L0 : LT) : Option (LT) :=
  Option.bind (X5_carryAll L0 27 1) fun z2 =>
  some z2
noncomputable def X5_close (L0 : LT) : Option (LT) :=
  Option.bind (X5_carryAll L0 27 0) fun z2 =>
  some z2
noncomputable def X5_freezes_f (L0 : LT) (v_y : Int) : Option (Int) :=
  grd (gd v_y 16) <|
  if (L0 2 v_y) = 1 then
    some (jdiv (L0 0 5) 2)
  else
  if (L0 2 v_y) = 3 then
    some (w32 ((L0 0 5) + (L0 3 v_y)))
  else
  if (L0 2 v_y) = 4 then
    some (X5_atLeast_v (w32 ((w32 ((L0 0 5) + (L0 3 v_y))) - 2)))
  else
    some (L0 0 5)
def X5_freezes_v (L0 : LT) (v_y : Int) : Int :=
  if (L0 2 v_y) = 1 then
    (jdiv (L0 0 5) 2)
  else
  if (L0 2 v_y) = 3 then
    (w32 ((L0 0 5) + (L0 3 v_y)))
  else
  if (L0 2 v_y) = 4 then
    (X5_atLeast_v (w32 ((w32 ((L0 0 5) + (L0 3 v_y))) - 2)))
  else
    (L0 0 5)
def X5_freezes_c (L0 : LT) (v_y : Int) : Prop := (gd v_y 16)
theorem X5_freezes_ok (L0 : LT) (v_y : Int) (h : X5_freezes_c L0 v_y) : Ok (X5_freezes_f L0 v_y) (fun x => x = X5_freezes_v L0 v_y) := by
  unfold X5_freezes_c at h
  unfold X5_freezes_f X5_freezes_v
  refine Ok_grd_i h ?_
  refine Ok_ite_i (fun c => ?_) (fun c => ?_)
  · exact ⟨_, rfl, rfl⟩
  · refine Ok_ite_i (fun c => ?_) (fun c => ?_)
    · exact ⟨_, rfl, rfl⟩
    · refine Ok_ite_i (fun c => ?_) (fun c => ?_)
      · exact ⟨_, rfl, rfl⟩
      · exact ⟨_, rfl, rfl⟩
noncomputable def X5_held_f (v_v : Int) : Option (Int) :=
  some (if v_v < 0 then 0 else if 99 < v_v then 99 else v_v)
def X5_held_v (v_v : Int) : Int :=
  (if v_v < 0 then 0 else if 99 < v_v then 99 else v_v)
theorem X5_held_ok (v_v : Int) : Ok (X5_held_f v_v) (fun x => x = X5_held_v v_v) := by
  unfold X5_held_f X5_held_v
  exact ⟨_, rfl, rfl⟩
noncomputable def X5_melts_f (L0 : LT) (v_y : Int) : Option (Int) :=
  grd (gd v_y 16) <|
  if (L0 2 v_y) = 1 then
    some (w32 (2 * (L0 0 6)))
  else
  if (L0 2 v_y) = 2 then
    some (X5_atLeast_v (w32 ((L0 0 6) - (jdiv (L0 3 v_y) 2))))
  else
  if (L0 2 v_y) = 4 then
    some (w32 ((L0 0 6) + 1))
  else
  if (L0 2 v_y) = 5 then
    some (jdiv (X5_atLeast_v (w32 ((L0 0 6) - (jdiv (L0 3 v_y) 2)))) 2)
  else
    some (L0 0 6)
def X5_melts_v (L0 : LT) (v_y : Int) : Int :=
  if (L0 2 v_y) = 1 then
    (w32 (2 * (L0 0 6)))
  else
  if (L0 2 v_y) = 2 then
    (X5_atLeast_v (w32 ((L0 0 6) - (jdiv (L0 3 v_y) 2))))
  else
  if (L0 2 v_y) = 4 then
    (w32 ((L0 0 6) + 1))
  else
  if (L0 2 v_y) = 5 then
    (jdiv (X5_atLeast_v (w32 ((L0 0 6) - (jdiv (L0 3 v_y) 2)))) 2)
  else
    (L0 0 6)
def X5_melts_c (L0 : LT) (v_y : Int) : Prop := (gd v_y 16)
theorem X5_melts_ok (L0 : LT) (v_y : Int) (h : X5_melts_c L0 v_y) : Ok (X5_melts_f L0 v_y) (fun x => x = X5_melts_v L0 v_y) := by
  unfold X5_melts_c at h
  unfold X5_melts_f X5_melts_v
  refine Ok_grd_i h ?_
  refine Ok_ite_i (fun c => ?_) (fun c => ?_)
  · exact ⟨_, rfl, rfl⟩
  · refine Ok_ite_i (fun c => ?_) (fun c => ?_)
    · exact ⟨_, rfl, rfl⟩
    · refine Ok_ite_i (fun c => ?_) (fun c => ?_)
      · exact ⟨_, rfl, rfl⟩
      · refine Ok_ite_i (fun c => ?_) (fun c => ?_)
        · exact ⟨_, rfl, rfl⟩
        · exact ⟨_, rfl, rfl⟩
noncomputable def X5_isFree_s1 (L0 : LT) (v_t : Int) (v_y : Int) (s1 : Int × Int) : Option ((Int × Int) ⊕ (Int × Int)) :=
    if s1.2 < (L0 0 7) then
      grd ((¬ s1.1 = 0) → (¬ (s1.2 = v_t)) → (gd s1.2 5)) <|
      grd ((¬ s1.1 = 0) → (¬ ((s1.2 = v_t) ∨ (¬ (L0 14 s1.2) = 0))) → (gd s1.2 5)) <|
      lt (if (¬ s1.1 = 0) ∧ (((s1.2 = v_t) ∨ (¬ (L0 14 s1.2) = 0)) ∨ (¬ (L0 12 s1.2) = v_y)) then 1 else 0 : Int) fun x19 =>
      some (.inl (x19, w32 (s1.2 + 1)))
    else
      some (.inr (s1.1, s1.2))
noncomputable def X5_isFree (L0 : LT) (v_y : Int) (v_t : Int) : Option (Int) :=
  Option.bind (lp (X5_isFree_s1 L0 v_t v_y) (1, 0)) fun z5 =>
  grd ((¬ (¬ z5.1 = 0)) → (gd v_y 16)) <|
  grd ((¬ ((¬ z5.1 = 0) ∨ ((L0 2 v_y) = 3))) → (gd v_y 16)) <|
  some (if ((¬ z5.1 = 0) ∨ ((L0 2 v_y) = 3)) ∨ ((L0 2 v_y) = 4) then 1 else 0)
noncomputable def X5_trainOn_s1 (v_t : Int) (s4 : Int × Int × Int × LT) : Option ((Int × Int × Int × LT) ⊕ (Int × Int × Int × LT)) :=
    if (s4.2.2.1 < (s4.2.2.2 11 v_t)) ∧ (¬ s4.2.1 = 0) then
      lt (w32 ((s4.2.2.2 12 v_t) + 1) : Int) fun x17 =>
      if (s4.2.2.2 0 0) ≤ x17 then
        lt (lw s4.2.2.2 14 v_t 1 : LT) fun L37 =>
        some (.inl (w32 (s4.1 + 1), 0, w32 (s4.2.2.1 + 1), L37))
      else
        grd (X5_bears_c s4.2.2.2 x17 (s4.2.2.2 9 v_t)) <|
        if ¬ (X5_bears_v s4.2.2.2 x17 (s4.2.2.2 9 v_t)) = 0 then
          Option.bind (X5_isFree s4.2.2.2 x17 v_t) fun z27 =>
          if ¬ z27 = 0 then
            lt (lw s4.2.2.2 12 v_t x17 : LT) fun L29 =>
            grd (gd x17 16) <|
            lt (lw L29 4 x17 (X5_held_v (w32 ((L29 4 x17) - (L29 10 v_t)))) : LT) fun L35 =>
            some (.inl (w32 (s4.1 + 1), s4.2.1, w32 (s4.2.2.1 + 1), L35))
          else
            some (.inl (s4.1, 0, w32 (s4.2.2.1 + 1), s4.2.2.2))
        else
          some (.inl (s4.1, 0, w32 (s4.2.2.1 + 1), s4.2.2.2))
    else
      some (.inr (s4.1, s4.2.1, s4.2.2.1, s4.2.2.2))
noncomputable def X5_trainOn (L0 : LT) (v_t : Int) : Option (LT) :=
  grd (gd v_t 5) <|
  if 0 < (L0 13 v_t) then
    lt (lw L0 13 v_t (w32 ((L0 13 v_t) - 1)) : LT) fun L48 =>
    some L48
  else
    Option.bind (lp (X5_trainOn_s1 v_t) (0, 1, 0, L0)) fun z8 =>
    lt (lw z8.2.2.2 17 v_t (w32 ((z8.2.2.2 17 v_t) + (if z8.1 = 0 then 1 else 0))) : LT) fun L45 =>
    some L45
noncomputable def X5_hourOn_s1 (x2 : Int) (s5 : Int × LT) : Option ((Int × LT) ⊕ (Int × LT)) :=
    if s5.1 < (s5.2 0 0) then
      if (18 ≤ x2) ∨ (x2 ≤ 5) then
        grd (gd s5.1 16) <|
        grd (X5_freezes_c s5.2 s5.1) <|
        lt (lw s5.2 4 s5.1 (X5_held_v (w32 ((s5.2 4 s5.1) + (X5_freezes_v s5.2 s5.1)))) : LT) fun L21 =>
        some (.inl (w32 (s5.1 + 1), L21))
      else
      if (10 ≤ x2) ∧ (x2 ≤ 15) then
        grd (gd s5.1 16) <|
        grd (X5_melts_c s5.2 s5.1) <|
        lt (lw s5.2 4 s5.1 (X5_held_v (w32 ((s5.2 4 s5.1) - (X5_melts_v s5.2 s5.1)))) : LT) fun L31 =>
        some (.inl (w32 (s5.1 + 1), L31))
      else
        some (.inl (w32 (s5.1 + 1), s5.2))
    else
      some (.inr (s5.1, s5.2))
noncomputable def X5_hourOn_s2 (s34 : Int × LT) : Option ((Int × LT) ⊕ (Int × LT)) :=
    if s34.1 < (s34.2 0 7) then
      grd (gd s34.1 5) <|
      if (s34.2 14 s34.1) = 0 then
        Option.bind (X5_trainOn s34.2 s34.1) fun z46 =>
        some (.inl (w32 (s34.1 + 1), z46))
      else
        some (.inl (w32 (s34.1 + 1), s34.2))
    else
      some (.inr (s34.1, s34.2))
noncomputable def X5_hourOn_s3 (s48 : Int × LT) : Option ((Int × LT) ⊕ (Int × LT)) :=
    if s48.1 < (s48.2 0 7) then
      grd (gd s48.1 5) <|
      grd ((((s48.2 14 s48.1) = 0) ∧ (0 ≤ (s48.2 12 s48.1))) → (gd (s48.2 12 s48.1) 16)) <|
      grd ((((s48.2 14 s48.1) = 0) ∧ (0 ≤ (s48.2 12 s48.1))) → (X5_wants_c s48.2 (s48.2 12 s48.1) (s48.2 9 s48.1))) <|
      if (((s48.2 14 s48.1) = 0) ∧ (0 ≤ (s48.2 12 s48.1))) ∧ ((s48.2 4 (s48.2 12 s48.1)) < (jdiv (X5_wants_v s48.2 (s48.2 12 s48.1) (s48.2 9 s48.1)) 2)) then
        lt (lw s48.2 14 s48.1 2 : LT) fun L70 =>
        some (.inl (w32 (s48.1 + 1), L70))
      else
        some (.inl (w32 (s48.1 + 1), s48.2))
    else
      some (.inr (s48.1, s48.2))
noncomputable def X5_hourOn (L0 : LT) : Option (LT) :=
  lt (jrem (L0 0 4) 24 : Int) fun x2 =>
  Option.bind (lp (X5_hourOn_s1 x2) (0, L0)) fun z9 =>
  Option.bind (lp (X5_hourOn_s2) (0, z9.2)) fun z38 =>
  Option.bind (lp (X5_hourOn_s3) (0, z38.2)) fun z52 =>
  lt (lw z52.2 0 4 (w32 ((z52.2 0 4) + 1)) : LT) fun L74 =>
  some L74
noncomputable def X5_throughIn_s1 (v_t : Int) (s1 : Int × LT) : Option ((Int × LT) ⊕ (Int × LT)) :=
    grd ((s1.1 < 72) → (gd v_t 5)) <|
    if (s1.1 < 72) ∧ ((s1.2 14 v_t) = 0) then
      Option.bind (X5_hourOn s1.2) fun z13 =>
      some (.inl (w32 (s1.1 + 1), z13))
    else
      some (.inr (s1.1, s1.2))
noncomputable def X5_throughIn (L0 : LT) (v_t : Int) : Option (Int × LT) :=
  Option.bind (lp (X5_throughIn_s1 v_t) (0, L0)) fun z5 =>
  grd (gd v_t 5) <|
  lt (if (z5.2 14 v_t) = 1 then z5.1 else 99 : Int) fun x19 =>
  Option.bind (X5_close z5.2) fun z23 =>
  some (x19, z23)
noncomputable def X5_in_f (v_v : Int) (v_low : Int) (v_high : Int) : Option (Int) :=
  some (if (v_low ≤ v_v) ∧ (v_v ≤ v_high) then 1 else 0)
def X5_in_v (v_v : Int) (v_low : Int) (v_high : Int) : Int :=
  (if (v_low ≤ v_v) ∧ (v_v ≤ v_high) then 1 else 0)
theorem X5_in_ok (v_v : Int) (v_low : Int) (v_high : Int) : Ok (X5_in_f v_v v_low v_high) (fun x => x = X5_in_v v_v v_low v_high) := by
  unfold X5_in_f X5_in_v
  exact ⟨_, rfl, rfl⟩
noncomputable def X5_isTrain_f (L0 : LT) (v_t : Int) : Option (Int) :=
  some (X5_in_v v_t 0 (w32 ((L0 0 7) - 1)))
def X5_isTrain_v (L0 : LT) (v_t : Int) : Int :=
  (X5_in_v v_t 0 (w32 ((L0 0 7) - 1)))
theorem X5_isTrain_ok (L0 : LT) (v_t : Int) : Ok (X5_isTrain_f L0 v_t) (fun x => x = X5_isTrain_v L0 v_t) := by
  unfold X5_isTrain_f X5_isTrain_v
  exact ⟨_, rfl, rfl⟩
noncomputable def X5_wrongAhead_f (L0 : LT) (v_t : Int) (v_wrong : Int) : Option (Int) :=
  grd ((¬ ((X5_isTrain_v L0 v_t) = 0)) → (¬ (v_wrong < 0)) → (gd v_t 5)) <|
  grd ((¬ ((X5_isTrain_v L0 v_t) = 0)) → (¬ (v_wrong < 0)) → (¬ (0 ≤ (L0 12 v_t))) → (gd v_t 5)) <|
  some (if (X5_isTrain_v L0 v_t) = 0 then (-1) else if v_wrong < 0 then v_wrong else if (0 ≤ (L0 12 v_t)) ∨ (¬ (L0 14 v_t) = 0) then (-3) else 0)
def X5_wrongAhead_v (L0 : LT) (v_t : Int) (v_wrong : Int) : Int :=
  (if (X5_isTrain_v L0 v_t) = 0 then (-1) else if v_wrong < 0 then v_wrong else if (0 ≤ (L0 12 v_t)) ∨ (¬ (L0 14 v_t) = 0) then (-3) else 0)
def X5_wrongAhead_c (L0 : LT) (v_t : Int) (v_wrong : Int) : Prop := (((¬ ((X5_isTrain_v L0 v_t) = 0)) → (¬ (v_wrong < 0)) → (gd v_t 5)) ∧ ((¬ ((X5_isTrain_v L0 v_t) = 0)) → (¬ (v_wrong < 0)) → (¬ (0 ≤ (L0 12 v_t))) → (gd v_t 5)))
theorem X5_wrongAhead_ok (L0 : LT) (v_t : Int) (v_wrong : Int) (h : X5_wrongAhead_c L0 v_t v_wrong) : Ok (X5_wrongAhead_f L0 v_t v_wrong) (fun x => x = X5_wrongAhead_v L0 v_t v_wrong) := by
  unfold X5_wrongAhead_c at h
  unfold X5_wrongAhead_f X5_wrongAhead_v
  refine Ok_grd_i (h).1 ?_
  refine Ok_grd_i (h).2 ?_
  exact ⟨_, rfl, rfl⟩
noncomputable def X5_wrongBit_f (v_wrong : Int) (v_v : Int) (v_most : Int) : Option (Int) :=
  some (if (v_wrong = 0) ∧ ((X5_in_v v_v 0 v_most) = 0) then (-2) else v_wrong)
def X5_wrongBit_v (v_wrong : Int) (v_v : Int) (v_most : Int) : Int :=
  (if (v_wrong = 0) ∧ ((X5_in_v v_v 0 v_most) = 0) then (-2) else v_wrong)
theorem X5_wrongBit_ok (v_wrong : Int) (v_v : Int) (v_most : Int) : Ok (X5_wrongBit_f v_wrong v_v v_most) (fun x => x = X5_wrongBit_v v_wrong v_v v_most) := by
  unfold X5_wrongBit_f X5_wrongBit_v
  exact ⟨_, rfl, rfl⟩
noncomputable def X5_bestWait_s1 (v_t : Int) (s12 : Int × Int × Int × LT) : Option ((Int × Int × Int × LT) ⊕ (Int × Int × Int × LT)) :=
    if s12.2.2.1 ≤ 48 then
      grd (gd v_t 5) <|
      lt (lw s12.2.2.2 13 v_t s12.2.2.1 : LT) fun L22 =>
      Option.bind (X5_throughIn L22 v_t) fun z25 =>
      lt (if z25.1 < s12.2.1 then s12.2.2.1 else s12.1 : Int) fun x28 =>
      lt (if z25.1 < s12.2.1 then z25.1 else s12.2.1 : Int) fun x33 =>
      some (.inl (x28, x33, w32 (s12.2.2.1 + 1), z25.2))
    else
      some (.inr (s12.1, s12.2.1, s12.2.2.1, s12.2.2.2))
noncomputable def X5_bestWait (L0 : LT) (v_t : Int) (v_what : Int) : Option (Int × LT) :=
  lt (lw L0 0 14 0 : LT) fun L1 =>
  grd (X5_wrongAhead_c L1 v_t (X5_wrongBit_v 0 v_what 1)) <|
  lt (X5_wrongAhead_v L1 v_t (X5_wrongBit_v 0 v_what 1) : Int) fun x6 =>
  if x6 < 0 then
    Option.bind (X5_refuse L1 x6) fun z43 =>
    some (z43.1, z43.2)
  else
    Option.bind (X5_open L1) fun z11 =>
    Option.bind (lp (X5_bestWait_s1 v_t) ((-9), 99, 0, z11)) fun z16 =>
    some (if (v_what = 0) ∨ (z16.1 < 0) then z16.1 else z16.2.1, z16.2.2.2)
noncomputable def X5_hasBit_f (v_bits : Int) (v_k : Int) : Option (Int) :=
  some (if (b_and (b_shr v_bits v_k) 1) = 1 then 1 else 0)
def X5_hasBit_v (v_bits : Int) (v_k : Int) : Int :=
  (if (b_and (b_shr v_bits v_k) 1) = 1 then 1 else 0)
theorem X5_hasBit_ok (v_bits : Int) (v_k : Int) : Ok (X5_hasBit_f v_bits v_k) (fun x => x = X5_hasBit_v v_bits v_k) := by
  unfold X5_hasBit_f X5_hasBit_v
  exact ⟨_, rfl, rfl⟩
noncomputable def X5_goHours_s1 (s1 : Int × LT) : Option ((Int × LT) ⊕ (Int × LT)) :=
    if s1.1 < 5 then
      grd (gd s1.1 5) <|
      lt (lw s1.2 17 s1.1 0 : LT) fun L9 =>
      lt (lw L9 18 s1.1 (-9) : LT) fun L11 =>
      some (.inl (w32 (s1.1 + 1), L11))
    else
      some (.inr (s1.1, s1.2))
noncomputable def X5_goHours_s2 (s14 : Int × LT) (s21 : Int × Int) : Option ((Int × Int) ⊕ (Int × Int)) :=
    if s21.2 < (s14.2 0 7) then
      grd (gd s21.2 5) <|
      lt (b_or s21.1 (if ¬ (s14.2 14 s21.2) = 0 then b_shl 1 s21.2 else 0) : Int) fun x34 =>
      some (.inl (x34, w32 (s21.2 + 1)))
    else
      some (.inr (s21.1, s21.2))
noncomputable def X5_goHours_s3 (s14 : Int × LT) (z25 : Int × Int) (s41 : Int × LT) : Option ((Int × LT) ⊕ (Int × LT)) :=
    if s41.1 < (s41.2 0 7) then
      grd (gd s41.1 5) <|
      lt (lw s41.2 18 s41.1 (if (¬ (s41.2 14 s41.1) = 0) ∧ ((X5_hasBit_v z25.1 s41.1) = 0) then s14.1 else s41.2 18 s41.1) : LT) fun L57 =>
      some (.inl (w32 (s41.1 + 1), L57))
    else
      some (.inr (s41.1, s41.2))
noncomputable def X5_goHours_s4 (v_n : Int) (s14 : Int × LT) : Option ((Int × LT) ⊕ (Int × LT)) :=
    if s14.1 ≤ v_n then
      Option.bind (lp (X5_goHours_s2 s14) (0, 0)) fun z25 =>
      Option.bind (X5_hourOn s14.2) fun z40 =>
      Option.bind (lp (X5_goHours_s3 s14 z25) (0, z40)) fun z45 =>
      some (.inl (w32 (s14.1 + 1), z45.2))
    else
      some (.inr (s14.1, s14.2))
noncomputable def X5_goHours (L0 : LT) (v_n : Int) : Option (LT) :=
  Option.bind (lp (X5_goHours_s1) (0, L0)) fun z5 =>
  Option.bind (lp (X5_goHours_s4 v_n) (1, z5.2)) fun z18 =>
  some z18.2
noncomputable def X5_howMany_s1 (L0 : LT) (v_state : Int) (s1 : Int × Int) : Option ((Int × Int) ⊕ (Int × Int)) :=
    if s1.2 < (L0 0 7) then
      grd (gd s1.2 5) <|
      lt (w32 (s1.1 + (if (L0 14 s1.2) = v_state then 1 else 0)) : Int) fun x14 =>
      some (.inl (x14, w32 (s1.2 + 1)))
    else
      some (.inr (s1.1, s1.2))
noncomputable def X5_howMany (L0 : LT) (v_state : Int) : Option (Int) :=
  Option.bind (lp (X5_howMany_s1 L0 v_state) (0, 0)) fun z5 =>
  some z5.1
noncomputable def X5_othersThrough (L0 : LT) (v_t : Int) : Option (Int × LT) :=
  Option.bind (X5_goHours L0 72) fun z2 =>
  Option.bind (X5_howMany z2 1) fun z4 =>
  grd (gd v_t 5) <|
  lt (w32 (z4 - (if (z2 14 v_t) = 1 then 1 else 0)) : Int) fun x9 =>
  Option.bind (X5_close z2) fun z13 =>
  some (x9, z13)
noncomputable def X5_blocker_s1 (s5 : Int × Int × Int × LT) : Option ((Int × Int × Int × LT) ⊕ (Int × Int × Int × LT)) :=
    if s5.2.2.1 < (s5.2.2.2 0 7) then
      grd (gd s5.2.2.1 5) <|
      if (s5.2.2.2 14 s5.2.2.1) = 0 then
        Option.bind (X5_othersThrough s5.2.2.2 s5.2.2.1) fun z19 =>
        lt (lw z19.2 14 s5.2.2.1 2 : LT) fun L20 =>
        Option.bind (X5_othersThrough L20 s5.2.2.1) fun z23 =>
        lt (if (z19.1 < z23.1) ∧ (s5.2.1 < z23.1) then s5.2.2.1 else s5.1 : Int) fun x27 =>
        lt (if (z19.1 < z23.1) ∧ (s5.2.1 < z23.1) then z23.1 else s5.2.1 : Int) fun x33 =>
        some (.inl (x27, x33, w32 (s5.2.2.1 + 1), z23.2))
      else
        some (.inl (s5.1, s5.2.1, w32 (s5.2.2.1 + 1), s5.2.2.2))
    else
      some (.inr (s5.1, s5.2.1, s5.2.2.1, s5.2.2.2))
noncomputable def X5_blocker (L0 : LT) : Option (Int × LT) :=
  lt (lw L0 0 14 0 : LT) fun L1 =>
  Option.bind (X5_open L1) fun z4 =>
  Option.bind (lp (X5_blocker_s1) ((-9), (-1), 0, z4)) fun z9 =>
  some (z9.1, z9.2.2.2)
noncomputable def X5_clear (L0 : LT) : Option (Int × LT) :=
  lt (lw L0 0 14 0 : LT) fun L1 =>
  lt (L1 0 39 : Int) fun x4 =>
  lt (lw L1 0 39 0 : LT) fun L7 =>
  some (x4, L7)
noncomputable def X5_isBeyond_s1 (L0 : LT) (v_n : Int) (s1 : Int × Int) : Option ((Int × Int) ⊕ (Int × Int)) :=
    if s1.2 < (L0 0 7) then
      grd ((¬ (¬ s1.1 = 0)) → (gd s1.2 5)) <|
      grd ((¬ (¬ s1.1 = 0)) → ((L0 14 s1.2) = 0) → (gd s1.2 5)) <|
      lt (if (¬ s1.1 = 0) ∨ (((L0 14 s1.2) = 0) ∧ (v_n ≤ (L0 12 s1.2))) then 1 else 0 : Int) fun x18 =>
      some (.inl (x18, w32 (s1.2 + 1)))
    else
      some (.inr (s1.1, s1.2))
noncomputable def X5_isBeyond (L0 : LT) (v_n : Int) : Option (Int) :=
  Option.bind (lp (X5_isBeyond_s1 L0 v_n) (0, 0)) fun z5 =>
  some z5.1
noncomputable def X5_isYard_f (L0 : LT) (v_y : Int) : Option (Int) :=
  some (X5_in_v v_y 0 (w32 ((L0 0 0) - 1)))
def X5_isYard_v (L0 : LT) (v_y : Int) : Int :=
  (X5_in_v v_y 0 (w32 ((L0 0 0) - 1)))
theorem X5_isYard_ok (L0 : LT) (v_y : Int) : Ok (X5_isYard_f L0 v_y) (fun x => x = X5_isYard_v L0 v_y) := by
  unfold X5_isYard_f X5_isYard_v
  exact ⟨_, rfl, rfl⟩
noncomputable def X5_trainComes (L0 : LT) (v_weight : Int) (v_warmth : Int) (v_pace : Int) : Option (LT) :=
  grd (gd (L0 0 7) 5) <|
  lt (lw L0 9 (L0 0 7) v_weight : LT) fun L3 =>
  grd (gd (L3 0 7) 5) <|
  lt (lw L3 10 (L3 0 7) v_warmth : LT) fun L7 =>
  grd (gd (L7 0 7) 5) <|
  lt (lw L7 11 (L7 0 7) v_pace : LT) fun L11 =>
  grd (gd (L11 0 7) 5) <|
  lt (lw L11 12 (L11 0 7) (-1) : LT) fun L15 =>
  grd (gd (L15 0 7) 5) <|
  lt (lw L15 13 (L15 0 7) 0 : LT) fun L19 =>
  grd (gd (L19 0 7) 5) <|
  lt (lw L19 14 (L19 0 7) 0 : LT) fun L23 =>
  lt (lw L23 0 7 (w32 ((L23 0 7) + 1)) : LT) fun L26 =>
  some L26
noncomputable def X5_comesTold (L0 : LT) (v_k : Int) : Option (Int × LT) :=
  lt (w32 (4 * v_k) : Int) fun x1 =>
  grd (gd x1 196) <|
  lt (L0 26 x1 : Int) fun x6 =>
  grd (gd (w32 (x1 + 1)) 196) <|
  lt (L0 26 (w32 (x1 + 1)) : Int) fun x11 =>
  grd (gd v_k 49) <|
  if (L0 25 v_k) = 110 then
    Option.bind (
      if ¬ (X5_in_v x6 2 16) = 0 then
        Option.bind (X5_isBeyond L0 x6) fun z23 =>
        if ¬ z23 = 0 then
          some 0
        else
          some 1
      else
        some 0) fun z17 =>
    lt (lw L0 0 0 (if ¬ z17 = 0 then x6 else L0 0 0) : LT) fun L29 =>
    some (z17, L29)
  else
  if (L0 25 v_k) = 121 then
    lt (if (¬ (X5_isYard_v L0 x6) = 0) ∧ (x11 < 6) then 1 else 0 : Int) fun x36 =>
    if ¬ x36 = 0 then
      grd (gd x6 16) <|
      lt (lw L0 2 x6 x11 : LT) fun L41 =>
      grd (gd (w32 (x1 + 2)) 196) <|
      lt (lw L41 3 x6 (L41 26 (w32 (x1 + 2))) : LT) fun L45 =>
      grd (gd (w32 (x1 + 3)) 196) <|
      lt (lw L45 4 x6 (L45 26 (w32 (x1 + 3))) : LT) fun L49 =>
      some (x36, L49)
    else
      some (x36, L0)
  else
  if (L0 25 v_k) = 116 then
    grd ((¬ (X5_in_v x6 1 60) = 0) → (gd (w32 (x1 + 2)) 196)) <|
    lt (if ((¬ (X5_in_v x6 1 60) = 0) ∧ (¬ (X5_in_v (L0 26 (w32 (x1 + 2))) 1 3) = 0)) ∧ ((L0 0 7) < 5) then 1 else 0 : Int) fun x61 =>
    if ¬ x61 = 0 then
      grd (gd (w32 (x1 + 2)) 196) <|
      Option.bind (X5_trainComes L0 x6 x11 (L0 26 (w32 (x1 + 2)))) fun z68 =>
      some (x61, z68)
    else
      some (x61, L0)
  else
  if (L0 25 v_k) = 119 then
    grd (((¬ (X5_isTrain_v L0 x6) = 0) ∧ (x11 ≤ 48)) → (gd x6 5)) <|
    lt (if ((¬ (X5_isTrain_v L0 x6) = 0) ∧ (x11 ≤ 48)) ∧ ((L0 14 x6) = 0) then 1 else 0 : Int) fun x77 =>
    if ¬ x77 = 0 then
      grd (gd x6 5) <|
      lt (lw L0 13 x6 x11 : LT) fun L82 =>
      some (x77, L82)
    else
      some (x77, L0)
  else
  if (L0 25 v_k) = 99 then
    lt (lw L0 0 5 x6 : LT) fun L85 =>
    lt (lw L85 0 6 x11 : LT) fun L87 =>
    some (1, L87)
  else
    lt (if (¬ (X5_in_v x6 1 72) = 0) ∧ ((w32 ((L0 0 4) + x6)) ≤ 999) then 1 else 0 : Int) fun x94 =>
    if ¬ x94 = 0 then
      Option.bind (X5_goHours L0 x6) fun z99 =>
      some (x94, z99)
    else
      some (x94, L0)
noncomputable def X5_count (L0 : LT) (v_what : Int) : Option (Int × LT) :=
  lt (lw L0 0 14 0 : LT) fun L1 =>
  if v_what = 0 then
    some (L1 0 0, L1)
  else
  if v_what = 1 then
    some (L1 0 7, L1)
  else
  if v_what = 2 then
    some (L1 0 4, L1)
  else
  if v_what = 3 then
    some (L1 0 5, L1)
  else
  if v_what = 4 then
    some (L1 0 6, L1)
  else
  if v_what = 5 then
    Option.bind (X5_allFrost L1) fun z15 =>
    some (z15, L1)
  else
  if v_what = 6 then
    some (L1 0 19, L1)
  else
  if v_what = 7 then
    some (L1 0 39, L1)
  else
  if v_what = 8 then
    some (L1 0 34, L1)
  else
    grd ((¬ (X5_in_v v_what 11 16) = 0) → (gd (w32 (v_what - 10)) 7)) <|
    some (if ¬ (X5_in_v v_what 11 16) = 0 then L1 16 (w32 (v_what - 10)) else (-9), L1)
noncomputable def X5_day (L0 : LT) : Option (Int × LT) :=
  lt (lw L0 0 14 0 : LT) fun L1 =>
  Option.bind (X5_open L1) fun z4 =>
  Option.bind (X5_allFrost z4) fun z6 =>
  lt (lw z4 0 7 0 : LT) fun L7 =>
  Option.bind (X5_goHours L7 24) fun z10 =>
  Option.bind (X5_allFrost z10) fun z12 =>
  Option.bind (X5_close z10) fun z14 =>
  some (w32 (z12 - z6), z14)
noncomputable def X5_divisor_s1 (s1 : Int × Int) : Option ((Int × Int) ⊕ (Int × Int)) :=
    if ¬ s1.2 = 0 then
      grd (¬ s1.2 = 0) <|
      lt (lrmi s1.1 s1.2 : Int) fun x10 =>
      some (.inl (s1.2, x10))
    else
      some (.inr (s1.1, s1.2))
noncomputable def X5_divisor (v_a : Int) (v_b : Int) : Option (Int) :=
  Option.bind (lp (X5_divisor_s1) (v_a, v_b)) fun z5 =>
  some z5.1
noncomputable def X5_drawBelow (L0 : LT) (v_n : Int) : Option (Int × LT) :=
  lt (lw L0 0 40 (w32 ((w32 ((L0 0 40) * 1103515245)) + 12345)) : LT) fun L2 =>
  grd (¬ v_n = 0) <|
  some (jrem (jdiv (b_and (L2 0 40) 2147483647) 65536) v_n, L2)
noncomputable def X5_feed (L0 : LT) (v_letter : Int) : Option (Int × LT) :=
  lt (lw L0 0 14 0 : LT) fun L1 =>
  if v_letter < 0 then
    Option.bind (X5_refuse L1 (-4)) fun z19 =>
    some (z19.1, z19.2)
  else
  if (255 < v_letter) ∨ ((L1 0 19) = 96) then
    Option.bind (X5_refuse L1 (-6)) fun z9 =>
    some (z9.1, z9.2)
  else
    grd (gd (L1 0 19) 96) <|
    lt (lw L1 19 (L1 0 19) v_letter : LT) fun L12 =>
    lt (lw L12 0 19 (w32 ((L12 0 19) + 1)) : LT) fun L15 =>
    some (L15 0 19, L15)
noncomputable def X5_keepTurn_s1 (s7 : Int × LT) : Option ((Int × LT) ⊕ (Int × LT)) :=
    if s7.1 < 664 then
      grd (gd s7.1 664) <|
      grd (gd (w32 (s7.1 - 83)) 664) <|
      lt (lw s7.2 33 (w32 (s7.1 - 83)) (s7.2 33 s7.1) : LT) fun L17 =>
      some (.inl (w32 (s7.1 + 1), L17))
    else
      some (.inr (s7.1, s7.2))
noncomputable def X5_keepTurn_s2 (s25 : Int × LT) : Option ((Int × LT) ⊕ (Int × LT)) :=
    if s25.1 < 83 then
      grd (gd s25.1 83) <|
      grd (gd (w32 ((w32 (83 * (s25.2 0 34))) + s25.1)) 664) <|
      lt (lw s25.2 33 (w32 ((w32 (83 * (s25.2 0 34))) + s25.1)) (s25.2 34 s25.1) : LT) fun L36 =>
      some (.inl (w32 (s25.1 + 1), L36))
    else
      some (.inr (s25.1, s25.2))
noncomputable def X5_keepTurn (L0 : LT) : Option (LT) :=
  Option.bind (
    if (L0 0 34) = 8 then
      Option.bind (lp (X5_keepTurn_s1) (83, L0)) fun z11 =>
      lt (lw z11.2 0 34 (w32 ((z11.2 0 34) - 1)) : LT) fun L21 =>
      some (L21)
    else
      some (L0)) fun z1 =>
  Option.bind (X5_carryAll z1 34 1) fun z24 =>
  Option.bind (lp (X5_keepTurn_s2) (0, z24)) fun z29 =>
  lt (lw z29.2 0 34 (w32 ((z29.2 0 34) + 1)) : LT) fun L40 =>
  some L40
noncomputable def X5_wrongNumber_f (v_v : Int) (v_low : Int) (v_high : Int) : Option (Int) :=
  some (if v_v < v_low then (-4) else if v_high < v_v then (-6) else 0)
def X5_wrongNumber_v (v_v : Int) (v_low : Int) (v_high : Int) : Int :=
  (if v_v < v_low then (-4) else if v_high < v_v then (-6) else 0)
theorem X5_wrongNumber_ok (v_v : Int) (v_low : Int) (v_high : Int) : Ok (X5_wrongNumber_f v_v v_low v_high) (fun x => x = X5_wrongNumber_v v_v v_low v_high) := by
  unfold X5_wrongNumber_f X5_wrongNumber_v
  exact ⟨_, rfl, rfl⟩
noncomputable def X5_frost (L0 : LT) (v_y : Int) (v_v : Int) : Option (Int × LT) :=
  lt (lw L0 0 14 0 : LT) fun L1 =>
  lt (if ¬ (X5_isYard_v L1 v_y) = 0 then X5_wrongNumber_v v_v 0 99 else (-1) : Int) fun x7 =>
  if x7 < 0 then
    Option.bind (X5_refuse L1 x7) fun z21 =>
    some (z21.1, z21.2)
  else
    Option.bind (X5_keepTurn L1) fun z12 =>
    grd (gd v_y 16) <|
    lt (z12 4 v_y : Int) fun x15 =>
    lt (lw z12 4 v_y v_v : LT) fun L18 =>
    some (x15, L18)
noncomputable def X5_frostIn (L0 : LT) (v_y : Int) (v_n : Int) : Option (Int × LT) :=
  lt (lw L0 0 14 0 : LT) fun L1 =>
  lt (if ¬ (X5_isYard_v L1 v_y) = 0 then X5_wrongNumber_v v_n 0 72 else (-1) : Int) fun x7 =>
  if x7 < 0 then
    Option.bind (X5_refuse L1 x7) fun z23 =>
    some (z23.1, z23.2)
  else
    Option.bind (X5_open L1) fun z12 =>
    Option.bind (X5_goHours z12 v_n) fun z14 =>
    grd (gd v_y 16) <|
    lt (z14 4 v_y : Int) fun x17 =>
    Option.bind (X5_close z14) fun z21 =>
    some (x17, z21)
noncomputable def X5_haltNear_s1 (L0 : LT) (v_y : Int) (s1 : Int × Int × Int) : Option ((Int × Int × Int) ⊕ (Int × Int × Int)) :=
    if s1.2.2 < (L0 0 0) then
      lt (if v_y < s1.2.2 then w32 (s1.2.2 - v_y) else w32 (v_y - s1.2.2) : Int) fun x13 =>
      grd (gd s1.2.2 16) <|
      lt (if ((L0 2 s1.2.2) = 4) ∧ (x13 < s1.2.1) then s1.2.2 else s1.1 : Int) fun x21 =>
      lt (if ((L0 2 s1.2.2) = 4) ∧ (x13 < s1.2.1) then x13 else s1.2.1 : Int) fun x28 =>
      some (.inl (x21, x28, w32 (s1.2.2 + 1)))
    else
      some (.inr (s1.1, s1.2.1, s1.2.2))
noncomputable def X5_haltNear (L0 : LT) (v_y : Int) : Option (Int) :=
  Option.bind (lp (X5_haltNear_s1 L0 v_y) ((-9), 99, 0)) fun z5 =>
  some z5.1
noncomputable def X5_heaviest_s1 (v_t : Int) (v_what : Int) (x14 : Int) (s24 : Int × Int × Int × LT) : Option ((Int × Int × Int × LT) ⊕ (Int × Int × Int × LT)) :=
    if s24.2.2.1 ≤ x14 then
      grd ((¬ (v_what = 0)) → (gd v_t 5)) <|
      grd (gd v_t 5) <|
      lt (lw s24.2.2.2 9 v_t (if v_what = 0 then s24.2.2.1 else s24.2.2.2 9 v_t) : LT) fun L38 =>
      lt (lw L38 10 v_t (if v_what = 1 then s24.2.2.1 else L38 10 v_t) : LT) fun L43 =>
      lt (lw L43 11 v_t (if v_what = 2 then s24.2.2.1 else L43 11 v_t) : LT) fun L48 =>
      Option.bind (X5_throughIn L48 v_t) fun z51 =>
      lt (if v_what = 2 then if z51.1 < s24.2.1 then s24.2.2.1 else s24.1 else if z51.1 < 99 then s24.2.2.1 else s24.1 : Int) fun x58 =>
      lt (if z51.1 < s24.2.1 then z51.1 else s24.2.1 : Int) fun x63 =>
      some (.inl (x58, x63, w32 (s24.2.2.1 + 1), z51.2))
    else
      some (.inr (s24.1, s24.2.1, s24.2.2.1, s24.2.2.2))
noncomputable def X5_heaviest (L0 : LT) (v_t : Int) (v_what : Int) : Option (Int × LT) :=
  lt (lw L0 0 14 0 : LT) fun L1 =>
  grd (X5_wrongAhead_c L1 v_t (X5_wrongBit_v 0 v_what 2)) <|
  lt (X5_wrongAhead_v L1 v_t (X5_wrongBit_v 0 v_what 2) : Int) fun x6 =>
  if x6 < 0 then
    Option.bind (X5_refuse L1 x6) fun z70 =>
    some (z70.1, z70.2)
  else
    lt (if v_what = 0 then 60 else if v_what = 1 then 9 else 3 : Int) fun x14 =>
    Option.bind (X5_open L1) fun z18 =>
    lt (if v_what = 1 then 0 else 1 : Int) fun x21 =>
    Option.bind (lp (X5_heaviest_s1 v_t v_what x14) ((-9), 99, x21, z18)) fun z28 =>
    some (z28.1, z28.2.2.2)
noncomputable def X5_here_f (L0 : LT) : Option (Int) :=
  grd (((L0 0 20) < (L0 0 19)) → (gd (L0 0 20) 96)) <|
  some (if (L0 0 20) < (L0 0 19) then L0 19 (L0 0 20) else (-1))
def X5_here_v (L0 : LT) : Int :=
  (if (L0 0 20) < (L0 0 19) then L0 19 (L0 0 20) else (-1))
def X5_here_c (L0 : LT) : Prop := (((L0 0 20) < (L0 0 19)) → (gd (L0 0 20) 96))
theorem X5_here_ok (L0 : LT) (h : X5_here_c L0) : Ok (X5_here_f L0) (fun x => x = X5_here_v L0) := by
  unfold X5_here_c at h
  unfold X5_here_f X5_here_v
  refine Ok_grd_i h ?_
  exact ⟨_, rfl, rfl⟩
noncomputable def X5_hours (L0 : LT) (v_n : Int) : Option (Int × LT) :=
  lt (lw L0 0 14 0 : LT) fun L1 =>
  lt (X5_wrongNumber_v v_n 1 72 : Int) fun x4 =>
  lt (if (x4 = 0) ∧ (999 < (w32 ((L1 0 4) + v_n))) then (-6) else x4 : Int) fun x11 =>
  if x11 < 0 then
    Option.bind (X5_refuse L1 x11) fun z24 =>
    some (z24.1, z24.2)
  else
    Option.bind (X5_keepTurn L1) fun z16 =>
    Option.bind (X5_howMany z16 1) fun z18 =>
    Option.bind (X5_goHours z16 v_n) fun z20 =>
    Option.bind (X5_howMany z20 1) fun z22 =>
    some (w32 (z22 - z18), z20)
noncomputable def X5_image (L0 : LT) : Option (Int × LT) :=
  lt (lw L0 0 14 0 : LT) fun L1 =>
  lt (lw L1 0 28 1 : LT) fun L3 =>
  Option.bind (X5_carryAll L3 28 1) fun z6 =>
  some (z6 0 4, z6)
noncomputable def X5_isLetter_f (v_c : Int) : Option (Int) :=
  some (if (((((v_c = 110) ∨ (v_c = 121)) ∨ (v_c = 116)) ∨ (v_c = 119)) ∨ (v_c = 99)) ∨ (v_c = 104) then 1 else 0)
def X5_isLetter_v (v_c : Int) : Int :=
  (if (((((v_c = 110) ∨ (v_c = 121)) ∨ (v_c = 116)) ∨ (v_c = 119)) ∨ (v_c = 99)) ∨ (v_c = 104) then 1 else 0)
theorem X5_isLetter_ok (v_c : Int) : Ok (X5_isLetter_f v_c) (fun x => x = X5_isLetter_v v_c) := by
  unfold X5_isLetter_f X5_isLetter_v
  exact ⟨_, rfl, rfl⟩
noncomputable def X5_judge_s1 (z14 : LT) (x6 : Int) (s15 : Int × Int) : Option ((Int × Int) ⊕ (Int × Int)) :=
    if (s15.2 < x6) ∧ (s15.1 < 0) then
      grd ((s15.2 < (z14 0 0)) → (gd s15.2 16)) <|
      lt (if (s15.2 < (z14 0 0)) ∧ ((z14 4 s15.2) = (z14 39 s15.2)) then (-9) else s15.2 : Int) fun x32 =>
      some (.inl (x32, w32 (s15.2 + 1)))
    else
      some (.inr (s15.1, s15.2))
noncomputable def X5_judge (L0 : LT) (v_n : Int) : Option (Int × LT) :=
  lt (lw L0 0 14 0 : LT) fun L1 =>
  if (X5_wrongNumber_v v_n 0 72) < 0 then
    Option.bind (X5_refuse L1 (X5_wrongNumber_v v_n 0 72)) fun z41 =>
    some (z41.1, z41.2)
  else
    lt (L1 0 39 : Int) fun x6 =>
    lt (lw L1 0 39 0 : LT) fun L9 =>
    Option.bind (X5_open L9) fun z12 =>
    Option.bind (X5_goHours z12 v_n) fun z14 =>
    Option.bind (lp (X5_judge_s1 z14 x6) ((-9), 0)) fun z19 =>
    Option.bind (X5_close z14) fun z38 =>
    some (z19.1, z38)
noncomputable def X5_throughBy72 (L0 : LT) : Option (Int × LT) :=
  Option.bind (X5_goHours L0 72) fun z2 =>
  Option.bind (X5_howMany z2 1) fun z4 =>
  Option.bind (X5_close z2) fun z6 =>
  some (z4, z6)
noncomputable def X5_key_s1 (s7 : Int × Int × Int × LT) : Option ((Int × Int × Int × LT) ⊕ (Int × Int × Int × LT)) :=
    if s7.2.2.1 < (s7.2.2.2 0 0) then
      grd (gd s7.2.2.1 16) <|
      lt (lw s7.2.2.2 2 s7.2.2.1 0 : LT) fun L18 =>
      lt (lw L18 3 s7.2.2.1 0 : LT) fun L20 =>
      Option.bind (X5_throughBy72 L20) fun z23 =>
      lt (if s7.1 < z23.1 then s7.2.2.1 else s7.2.1 : Int) fun x26 =>
      lt (if s7.1 < z23.1 then z23.1 else s7.1 : Int) fun x31 =>
      some (.inl (x31, x26, w32 (s7.2.2.1 + 1), z23.2))
    else
      some (.inr (s7.1, s7.2.1, s7.2.2.1, s7.2.2.2))
noncomputable def X5_key (L0 : LT) : Option (Int × LT) :=
  lt (lw L0 0 14 0 : LT) fun L1 =>
  Option.bind (X5_open L1) fun z4 =>
  Option.bind (X5_throughBy72 z4) fun z6 =>
  Option.bind (lp (X5_key_s1) (z6.1, (-9), 0, z6.2)) fun z11 =>
  some (z11.2.1, z11.2.2.2)
noncomputable def X5_last_s1 (v_t : Int) (s8 : Int × Int × LT) : Option ((Int × Int × LT) ⊕ (Int × Int × LT)) :=
    if s8.2.1 ≤ 48 then
      grd (gd v_t 5) <|
      lt (lw s8.2.2 13 v_t s8.2.1 : LT) fun L17 =>
      Option.bind (
        Option.bind (X5_throughIn L17 v_t) fun z23 =>
        if z23.1 < 99 then
          some (s8.2.1, z23.2)
        else
          some (s8.1, z23.2)) fun z19 =>
      some (.inl (z19.1, w32 (s8.2.1 + 1), z19.2))
    else
      some (.inr (s8.1, s8.2.1, s8.2.2))
noncomputable def X5_last (L0 : LT) (v_t : Int) : Option (Int × LT) :=
  lt (lw L0 0 14 0 : LT) fun L1 =>
  grd (X5_wrongAhead_c L1 v_t 0) <|
  if (X5_wrongAhead_v L1 v_t 0) < 0 then
    Option.bind (X5_refuse L1 (X5_wrongAhead_v L1 v_t 0)) fun z30 =>
    some (z30.1, z30.2)
  else
    Option.bind (X5_open L1) fun z7 =>
    Option.bind (lp (X5_last_s1 v_t) ((-9), 0, z7)) fun z12 =>
    some (z12.1, z12.2.2)
noncomputable def X5_lasts_s1 (v_weight : Int) (v_y : Int) (s13 : Int × Int × LT) : Option ((Int × Int × LT) ⊕ (Int × Int × LT)) :=
    if (s13.2.1 ≤ 72) ∧ (s13.1 < 0) then
      Option.bind (
        if 0 < s13.2.1 then
          Option.bind (X5_hourOn s13.2.2) fun z29 =>
          some (z29)
        else
          some (s13.2.2)) fun z23 =>
      grd (X5_bears_c z23 v_y v_weight) <|
      lt (if ¬ (X5_bears_v z23 v_y v_weight) = 0 then (-9) else s13.2.1 : Int) fun x34 =>
      some (.inl (x34, w32 (s13.2.1 + 1), z23))
    else
      some (.inr (s13.1, s13.2.1, s13.2.2))
noncomputable def X5_lasts (L0 : LT) (v_y : Int) (v_weight : Int) : Option (Int × LT) :=
  lt (lw L0 0 14 0 : LT) fun L1 =>
  lt (if ¬ (X5_isYard_v L1 v_y) = 0 then X5_wrongNumber_v v_weight 1 60 else (-1) : Int) fun x7 =>
  if x7 < 0 then
    Option.bind (X5_refuse L1 x7) fun z42 =>
    some (z42.1, z42.2)
  else
    Option.bind (X5_open L1) fun z12 =>
    Option.bind (lp (X5_lasts_s1 v_weight v_y) ((-9), 0, z12)) fun z17 =>
    Option.bind (X5_close z17.2.2) fun z40 =>
    some (z17.1, z40)
noncomputable def X5_ordersOf_s1 (v_n : Int) (s1 : Int × Int) : Option ((Int × Int) ⊕ (Int × Int)) :=
    if s1.2 ≤ v_n then
      lt (w32 (s1.1 * s1.2) : Int) fun x9 =>
      some (.inl (x9, w32 (s1.2 + 1)))
    else
      some (.inr (s1.1, s1.2))
noncomputable def X5_ordersOf (v_n : Int) : Option (Int) :=
  Option.bind (lp (X5_ordersOf_s1 v_n) (1, 2)) fun z5 =>
  some z5.1
noncomputable def X5_layOrder_s1 (s1 : Int × Int × Int × LT) (s19 : Int × Int) : Option ((Int × Int) ⊕ (Int × Int)) :=
    if (¬ (X5_hasBit_v s1.2.1 s19.2) = 0) ∨ (0 < s19.1) then
      lt (w32 (s19.1 - (if ¬ (X5_hasBit_v s1.2.1 s19.2) = 0 then 0 else 1)) : Int) fun x33 =>
      some (.inl (x33, w32 (s19.2 + 1)))
    else
      some (.inr (s19.1, s19.2))
noncomputable def X5_layOrder_s2 (v_n : Int) (s1 : Int × Int × Int × LT) : Option ((Int × Int × Int × LT) ⊕ (Int × Int × Int × LT)) :=
    if s1.2.2.1 < v_n then
      Option.bind (X5_ordersOf (w32 ((w32 (v_n - 1)) - s1.2.2.1))) fun z11 =>
      grd (¬ z11 = 0) <|
      lt (jdiv s1.1 z11 : Int) fun x13 =>
      lt (jrem s1.1 z11 : Int) fun x16 =>
      Option.bind (lp (X5_layOrder_s1 s1) (x13, 0)) fun z23 =>
      grd (gd s1.2.2.1 5) <|
      lt (lw s1.2.2.2 38 s1.2.2.1 z23.2 : LT) fun L39 =>
      lt (b_or s1.2.1 (b_shl 1 z23.2) : Int) fun x41 =>
      some (.inl (x16, x41, w32 (s1.2.2.1 + 1), L39))
    else
      some (.inr (s1.1, s1.2.1, s1.2.2.1, s1.2.2.2))
noncomputable def X5_layOrder (L0 : LT) (v_k : Int) (v_n : Int) : Option (LT) :=
  Option.bind (lp (X5_layOrder_s2 v_n) (v_k, 0, 0, L0)) fun z5 =>
  some z5.2.2.2
noncomputable def X5_leastOfFew_s1 (L0 : LT) (v_few : Int) (v_poured : Int) (v_taken : Int) (s1 : Int × Int) : Option ((Int × Int) ⊕ (Int × Int)) :=
    if s1.2 < v_few then
      grd (gd s1.2 16) <|
      lt (L0 4 s1.2 : Int) fun x11 =>
      lt (if (¬ v_poured = v_taken) ∧ (s1.2 = v_poured) then X5_held_v (w32 (x11 + 10)) else x11 : Int) fun x18 =>
      lt (if (¬ v_poured = v_taken) ∧ (s1.2 = v_taken) then X5_held_v (w32 (x18 - 10)) else x18 : Int) fun x25 =>
      lt (if x25 < s1.1 then x25 else s1.1 : Int) fun x30 =>
      some (.inl (x30, w32 (s1.2 + 1)))
    else
      some (.inr (s1.1, s1.2))
noncomputable def X5_leastOfFew (L0 : LT) (v_poured : Int) (v_taken : Int) (v_few : Int) : Option (Int) :=
  Option.bind (lp (X5_leastOfFew_s1 L0 v_few v_poured v_taken) (99, 0)) fun z5 =>
  some z5.1
noncomputable def X5_lies_s1 (L1 : LT) (s3 : Int × Int) : Option ((Int × Int) ⊕ (((Int × Int) ⊕ (Int × LT)))) :=
    if s3.2 < (L1 0 39) then
      grd ((s3.1 = 99) → (gd s3.2 16)) <|
      lt (if s3.1 = 99 then L1 39 s3.2 else s3.1 : Int) fun x16 =>
      grd (gd s3.2 16) <|
      if (¬ (L1 39 s3.2) = 99) ∧ (¬ (L1 39 s3.2) = x16) then
        some (.inr (.inr ((s3.2, L1))))
      else
        some (.inl (x16, w32 (s3.2 + 1)))
    else
      some (.inr (.inl (s3.1, s3.2)))
noncomputable def X5_lies (L0 : LT) : Option (Int × LT) :=
  lt (lw L0 0 14 0 : LT) fun L1 =>
  Option.bind (lp (X5_lies_s1 L1) (99, 0)) fun o => match o with
  | .inl z7 =>
    some ((-9), L1)
  | .inr y => some (y)
noncomputable def X5_readDigits_s1 (v_digits : Int) (s1 : Int × Int × LT) : Option ((Int × Int × LT) ⊕ (Int × Int × LT)) :=
    if s1.2.1 < v_digits then
      grd ((¬ (¬ (s1.2.2 0 21) = 0)) → (X5_here_c s1.2.2)) <|
      lt (lw s1.2.2 0 21 (if (¬ (s1.2.2 0 21) = 0) ∨ ((X5_in_v (X5_here_v s1.2.2) 48 57) = 0) then 1 else 0) : LT) fun L16 =>
      grd ((¬ (¬ (L16 0 21) = 0)) → (gd (L16 0 20) 96)) <|
      lt (if ¬ (L16 0 21) = 0 then 0 else w32 ((w32 ((w32 (10 * s1.1)) + (L16 19 (L16 0 20)))) - 48) : Int) fun x24 =>
      lt (lw L16 0 20 (w32 ((L16 0 20) + (if ¬ (L16 0 21) = 0 then 0 else 1))) : LT) fun L31 =>
      some (.inl (x24, w32 (s1.2.1 + 1), L31))
    else
      some (.inr (s1.1, s1.2.1, s1.2.2))
noncomputable def X5_readDigits (L0 : LT) (v_digits : Int) : Option (Int × LT) :=
  Option.bind (lp (X5_readDigits_s1 v_digits) (0, 0, L0)) fun z5 =>
  some (z5.1, z5.2.2)
noncomputable def X5_readNumbers (L0 : LT) (v_c : Int) (v_i : Int) : Option (LT) :=
  if v_c = 121 then
    Option.bind (X5_readDigits L0 2) fun z3 =>
    grd (gd v_i 196) <|
    lt (lw z3.2 26 v_i z3.1 : LT) fun L5 =>
    Option.bind (X5_readDigits L5 1) fun z8 =>
    grd (gd (w32 (v_i + 1)) 196) <|
    lt (lw z8.2 26 (w32 (v_i + 1)) z8.1 : LT) fun L10 =>
    Option.bind (X5_readDigits L10 1) fun z13 =>
    grd (gd (w32 (v_i + 2)) 196) <|
    lt (lw z13.2 26 (w32 (v_i + 2)) z13.1 : LT) fun L15 =>
    Option.bind (X5_readDigits L15 2) fun z18 =>
    grd (gd (w32 (v_i + 3)) 196) <|
    lt (lw z18.2 26 (w32 (v_i + 3)) z18.1 : LT) fun L20 =>
    some L20
  else
  if v_c = 116 then
    Option.bind (X5_readDigits L0 2) fun z24 =>
    grd (gd v_i 196) <|
    lt (lw z24.2 26 v_i z24.1 : LT) fun L26 =>
    Option.bind (X5_readDigits L26 1) fun z29 =>
    grd (gd (w32 (v_i + 1)) 196) <|
    lt (lw z29.2 26 (w32 (v_i + 1)) z29.1 : LT) fun L31 =>
    Option.bind (X5_readDigits L31 1) fun z34 =>
    grd (gd (w32 (v_i + 2)) 196) <|
    lt (lw z34.2 26 (w32 (v_i + 2)) z34.1 : LT) fun L36 =>
    some L36
  else
  if v_c = 119 then
    Option.bind (X5_readDigits L0 1) fun z40 =>
    grd (gd v_i 196) <|
    lt (lw z40.2 26 v_i z40.1 : LT) fun L42 =>
    Option.bind (X5_readDigits L42 2) fun z45 =>
    grd (gd (w32 (v_i + 1)) 196) <|
    lt (lw z45.2 26 (w32 (v_i + 1)) z45.1 : LT) fun L47 =>
    some L47
  else
  if v_c = 99 then
    Option.bind (X5_readDigits L0 1) fun z51 =>
    grd (gd v_i 196) <|
    lt (lw z51.2 26 v_i z51.1 : LT) fun L53 =>
    Option.bind (X5_readDigits L53 1) fun z56 =>
    grd (gd (w32 (v_i + 1)) 196) <|
    lt (lw z56.2 26 (w32 (v_i + 1)) z56.1 : LT) fun L58 =>
    some L58
  else
    Option.bind (X5_readDigits L0 2) fun z61 =>
    grd (gd v_i 196) <|
    lt (lw z61.2 26 v_i z61.1 : LT) fun L63 =>
    some L63
noncomputable def X5_readStatement (L0 : LT) : Option (LT) :=
  lt (L0 0 22 : Int) fun x2 =>
  grd (X5_here_c L0) <|
  lt (X5_here_v L0 : Int) fun x7 =>
  grd (gd x2 49) <|
  lt (lw L0 24 x2 (L0 0 20) : LT) fun L12 =>
  lt (lw L12 25 x2 x7 : LT) fun L14 =>
  lt (lw L14 0 21 (if (¬ (L14 0 21) = 0) ∨ ((X5_isLetter_v x7) = 0) then 1 else 0) : LT) fun L21 =>
  lt (lw L21 0 20 (w32 ((L21 0 20) + (if ¬ (L21 0 21) = 0 then 0 else 1))) : LT) fun L27 =>
  Option.bind (
    if (L27 0 21) = 0 then
      Option.bind (X5_readNumbers L27 x7 (w32 (4 * x2))) fun z37 =>
      some (z37)
    else
      some (L27)) fun z29 =>
  grd ((¬ (¬ (z29 0 21) = 0)) → (X5_here_c z29)) <|
  lt (lw z29 0 21 (if (¬ (z29 0 21) = 0) ∨ (¬ (X5_here_v z29) = 59) then 1 else 0) : LT) fun L44 =>
  lt (lw L44 0 20 (w32 ((L44 0 20) + (if ¬ (L44 0 21) = 0 then 0 else 1))) : LT) fun L50 =>
  lt (lw L50 0 22 (w32 ((L50 0 22) + 1)) : LT) fun L53 =>
  some L53
noncomputable def X5_line_s1 (s9 : LT) : Option ((LT) ⊕ (LT)) :=
    if ((s9 0 21) = 0) ∧ (((s9 0 22) = 0) ∨ ((s9 0 20) < (s9 0 19))) then
      Option.bind (X5_readStatement s9) fun z23 =>
      some (.inl z23)
    else
      some (.inr s9)
noncomputable def X5_line_s2 (s30 : Int × LT) : Option ((Int × LT) ⊕ (((Int × LT) ⊕ (Int × LT)))) :=
    if s30.1 < (s30.2 0 22) then
      Option.bind (X5_comesTold s30.2 s30.1) fun z39 =>
      if ¬ z39.1 = 0 then
        some (.inl (w32 (s30.1 + 1), z39.2))
      else
        Option.bind (X5_close z39.2) fun z42 =>
        grd (gd s30.1 49) <|
        some (.inr (.inr ((w32 ((-2000) - (z42 24 s30.1)), z42))))
    else
      some (.inr (.inl (s30.1, s30.2)))
noncomputable def X5_line (L0 : LT) : Option (Int × LT) :=
  lt (lw L0 0 14 0 : LT) fun L1 =>
  lt (lw L1 0 20 0 : LT) fun L3 =>
  lt (lw L3 0 21 0 : LT) fun L5 =>
  lt (lw L5 0 22 0 : LT) fun L7 =>
  Option.bind (lp (X5_line_s1) L7) fun z13 =>
  lt (lw z13 0 19 0 : LT) fun L24 =>
  if ¬ (L24 0 21) = 0 then
    some (w32 ((-1000) - (L24 0 20)), L24)
  else
    Option.bind (X5_open L24) fun z29 =>
    Option.bind (lp (X5_line_s2) (0, z29)) fun o => match o with
    | .inl z34 =>
      lt (lw z34.2 0 34 0 : LT) fun L46 =>
      some (L46 0 22, L46)
    | .inr y => some (y)
noncomputable def X5_lots_s1 (v_n : Int) (v_what : Int) (s13 : Int × Int × LT) : Option ((Int × Int × LT) ⊕ (Int × Int × LT)) :=
    if s13.2.1 < v_n then
      Option.bind (X5_drawBelow s13.2.2 10) fun z22 =>
      lt (lw z22.2 0 5 z22.1 : LT) fun L23 =>
      Option.bind (X5_drawBelow L23 10) fun z26 =>
      lt (lw z26.2 0 6 z26.1 : LT) fun L27 =>
      Option.bind (X5_goHours L27 48) fun z30 =>
      Option.bind (X5_howMany z30 (w32 (v_what + 1))) fun z32 =>
      lt (w32 (s13.1 + z32) : Int) fun x33 =>
      Option.bind (X5_close z30) fun z37 =>
      some (.inl (x33, w32 (s13.2.1 + 1), z37))
    else
      some (.inr (s13.1, s13.2.1, s13.2.2))
noncomputable def X5_lots (L0 : LT) (v_n : Int) (v_z : Int) (v_what : Int) : Option (Int × LT) :=
  lt (lw L0 0 14 0 : LT) fun L1 =>
  lt (X5_wrongBit_v (X5_wrongNumber_v v_n 1 20) v_what 1 : Int) fun x5 =>
  if x5 < 0 then
    Option.bind (X5_refuse L1 x5) fun z41 =>
    some (z41.1, z41.2)
  else
    lt (lw L1 0 40 v_z : LT) fun L9 =>
    Option.bind (X5_open L9) fun z12 =>
    Option.bind (lp (X5_lots_s1 v_n v_what) (0, 0, z12)) fun z17 =>
    some (z17.1, z17.2.2)
noncomputable def X5_lowest_s1 (z12 : LT) (s13 : Int × Int) : Option ((Int × Int) ⊕ (Int × Int)) :=
    if s13.2 < (z12 0 0) then
      grd (gd s13.2 16) <|
      grd (gd s13.1 16) <|
      lt (if (z12 4 s13.2) < (z12 4 s13.1) then s13.2 else s13.1 : Int) fun x28 =>
      some (.inl (x28, w32 (s13.2 + 1)))
    else
      some (.inr (s13.1, s13.2))
noncomputable def X5_lowest (L0 : LT) (v_n : Int) (v_what : Int) : Option (Int × LT) :=
  lt (lw L0 0 14 0 : LT) fun L1 =>
  lt (X5_wrongBit_v (X5_wrongNumber_v v_n 0 72) v_what 1 : Int) fun x5 =>
  if x5 < 0 then
    Option.bind (X5_refuse L1 x5) fun z43 =>
    some (z43.1, z43.2)
  else
    Option.bind (X5_open L1) fun z10 =>
    Option.bind (X5_goHours z10 v_n) fun z12 =>
    Option.bind (lp (X5_lowest_s1 z12) (0, 1)) fun z17 =>
    grd ((v_what = 0) → (gd z17.1 16)) <|
    lt (if v_what = 0 then z12 4 z17.1 else z17.1 : Int) fun x37 =>
    Option.bind (X5_close z12) fun z41 =>
    some (x37, z41)
noncomputable def X5_many (L0 : LT) (v_n : Int) : Option (Int × LT) :=
  lt (lw L0 0 14 0 : LT) fun L1 =>
  lt (X5_wrongNumber_v v_n 2 16 : Int) fun x4 =>
  Option.bind (
    if x4 = 0 then
      Option.bind (X5_isBeyond L1 v_n) fun z12 =>
      if ¬ z12 = 0 then
        some (-3)
      else
        some x4
    else
      some x4) fun z7 =>
  if z7 < 0 then
    Option.bind (X5_refuse L1 z7) fun z25 =>
    some (z25.1, z25.2)
  else
    lt (L1 0 0 : Int) fun x17 =>
    lt (lw L1 0 0 v_n : LT) fun L20 =>
    lt (lw L20 0 34 0 : LT) fun L22 =>
    some (x17, L22)
noncomputable def X5_march_s1 (L1 : LT) (s15 : Int × Int × Int × Int) (x12 : Int) (s25 : Int × Int × Int) : Option ((Int × Int × Int) ⊕ (Int × Int × Int)) :=
    if s25.2.2 < x12 then
      Option.bind (X5_leastOfFew L1 s15.2.2.2 s25.2.2 x12) fun z35 =>
      Option.bind (X5_leastOfFew L1 s25.2.2 s15.2.2.2 x12) fun z37 =>
      lt (if z35 < s25.1 then z35 else s25.1 : Int) fun x40 =>
      lt (if s25.2.1 < z37 then z37 else s25.2.1 : Int) fun x45 =>
      some (.inl (x40, x45, w32 (s25.2.2 + 1)))
    else
      some (.inr (s25.1, s25.2.1, s25.2.2))
noncomputable def X5_march_s2 (L1 : LT) (x12 : Int) (s15 : Int × Int × Int × Int) : Option ((Int × Int × Int × Int) ⊕ (Int × Int × Int × Int)) :=
    if s15.2.2.2 < x12 then
      Option.bind (lp (X5_march_s1 L1 s15 x12) (999, (-1), 0)) fun z29 =>
      lt (if s15.2.1 < z29.1 then s15.2.2.2 else s15.1 : Int) fun x53 =>
      lt (if s15.2.1 < z29.1 then z29.1 else s15.2.1 : Int) fun x58 =>
      lt (if z29.2.1 < s15.2.2.1 then z29.2.1 else s15.2.2.1 : Int) fun x63 =>
      some (.inl (x53, x58, x63, w32 (s15.2.2.2 + 1)))
    else
      some (.inr (s15.1, s15.2.1, s15.2.2.1, s15.2.2.2))
noncomputable def X5_march (L0 : LT) (v_what : Int) : Option (Int × LT) :=
  lt (lw L0 0 14 0 : LT) fun L1 =>
  if (X5_in_v v_what 0 2) = 0 then
    Option.bind (X5_refuse L1 (-2)) fun z7 =>
    some (z7.1, z7.2)
  else
    lt (if (L1 0 0) < 5 then L1 0 0 else 5 : Int) fun x12 =>
    Option.bind (lp (X5_march_s2 L1 x12) (0, (-1), 999, 0)) fun z19 =>
    some (if v_what = 0 then z19.2.1 else if v_what = 1 then z19.1 else z19.2.2.1, L1)
noncomputable def X5_mean_s1 (z12 : LT) (s13 : Int × Int × Int) : Option ((Int × Int × Int) ⊕ (Int × Int × Int)) :=
    if s13.2.2 < (z12 0 0) then
      grd (gd s13.2.2 16) <|
      lt (if (z12 4 s13.2.2) < s13.1 then z12 4 s13.2.2 else s13.1 : Int) fun x28 =>
      lt (if s13.2.1 < (z12 4 s13.2.2) then z12 4 s13.2.2 else s13.2.1 : Int) fun x35 =>
      some (.inl (x28, x35, w32 (s13.2.2 + 1)))
    else
      some (.inr (s13.1, s13.2.1, s13.2.2))
noncomputable def X5_mean (L0 : LT) (v_n : Int) (v_what : Int) : Option (Int × LT) :=
  lt (lw L0 0 14 0 : LT) fun L1 =>
  lt (X5_wrongBit_v (X5_wrongNumber_v v_n 0 72) v_what 1 : Int) fun x5 =>
  if x5 < 0 then
    Option.bind (X5_refuse L1 x5) fun z53 =>
    some (z53.1, z53.2)
  else
    Option.bind (X5_open L1) fun z10 =>
    Option.bind (X5_goHours z10 v_n) fun z12 =>
    Option.bind (lp (X5_mean_s1 z12) (99, 0, 0)) fun z17 =>
    Option.bind (
      if v_what = 0 then
        Option.bind (X5_allFrost z12) fun z46 =>
        grd (¬ (z12 0 0) = 0) <|
        some (jdiv z46 (z12 0 0))
      else
        some (w32 (z17.2.1 - z17.1))) fun z41 =>
    Option.bind (X5_close z12) fun z51 =>
    some (z41, z51)
noncomputable def X5_near (L0 : LT) (v_y : Int) : Option (Int × LT) :=
  lt (lw L0 0 14 0 : LT) fun L1 =>
  if (X5_isYard_v L1 v_y) = 0 then
    Option.bind (X5_refuse L1 (-1)) fun z7 =>
    some (z7.1, z7.2)
  else
    Option.bind (X5_haltNear L1 v_y) fun z9 =>
    some (if z9 < 0 then (-9) else if v_y < z9 then w32 (z9 - v_y) else w32 (v_y - z9), L1)
noncomputable def X5_needed_s1 (v_t : Int) (v_y : Int) (s12 : Int × LT) : Option ((Int × LT) ⊕ (((Int × LT) ⊕ (Int × LT)))) :=
    if s12.1 ≤ 99 then
      grd (gd v_y 16) <|
      lt (lw s12.2 4 v_y s12.1 : LT) fun L20 =>
      Option.bind (X5_throughIn L20 v_t) fun z23 =>
      if z23.1 < 99 then
        some (.inr (.inr ((s12.1, z23.2))))
      else
        some (.inl (w32 (s12.1 + 1), z23.2))
    else
      some (.inr (.inl (s12.1, s12.2)))
noncomputable def X5_needed (L0 : LT) (v_y : Int) (v_t : Int) : Option (Int × LT) :=
  lt (lw L0 0 14 0 : LT) fun L1 =>
  if ((X5_isYard_v L1 v_y) = 0) ∨ ((X5_isTrain_v L1 v_t) = 0) then
    Option.bind (X5_refuse L1 (-1)) fun z9 =>
    some (z9.1, z9.2)
  else
    Option.bind (X5_open L1) fun z11 =>
    Option.bind (lp (X5_needed_s1 v_t v_y) (0, z11)) fun o => match o with
    | .inl z16 =>
      some ((-9), z16.2)
    | .inr y => some (y)
noncomputable def X5_noon_s1 (v_t : Int) (s10 : Int × Int × LT) : Option ((Int × Int × LT) ⊕ (Int × Int × LT)) :=
    if s10.2.1 < 10 then
      lt (lw s10.2.2 0 6 s10.2.1 : LT) fun L18 =>
      Option.bind (
        Option.bind (X5_throughIn L18 v_t) fun z24 =>
        if z24.1 < 99 then
          some (s10.2.1, z24.2)
        else
          some (s10.1, z24.2)) fun z20 =>
      some (.inl (z20.1, w32 (s10.2.1 + 1), z20.2))
    else
      some (.inr (s10.1, s10.2.1, s10.2.2))
noncomputable def X5_noon (L0 : LT) (v_t : Int) : Option (Int × LT) :=
  lt (lw L0 0 14 0 : LT) fun L1 =>
  if (X5_isTrain_v L1 v_t) = 0 then
    Option.bind (X5_refuse L1 (-1)) fun z7 =>
    some (z7.1, z7.2)
  else
    Option.bind (X5_open L1) fun z9 =>
    Option.bind (lp (X5_noon_s1 v_t) ((-9), 0, z9)) fun z14 =>
    some (z14.1, z14.2.2)
noncomputable def X5_noons_s1 (v_t : Int) (s13 : Int × Int × LT) : Option ((Int × Int × LT) ⊕ (Int × Int × LT)) :=
    if s13.2.1 < 10 then
      lt (lw s13.2.2 0 6 s13.2.1 : LT) fun L21 =>
      Option.bind (
        Option.bind (X5_throughIn L21 v_t) fun z27 =>
        if z27.1 < 99 then
          some (1, z27.2)
        else
          some (0, z27.2)) fun z23 =>
      lt (w64 (s13.1 + z23.1) : Int) fun x30 =>
      some (.inl (x30, w32 (s13.2.1 + 1), z23.2))
    else
      some (.inr (s13.1, s13.2.1, s13.2.2))
noncomputable def X5_noons (L0 : LT) (v_t : Int) (v_part : Int) : Option (Int × LT) :=
  lt (lw L0 0 14 0 : LT) fun L1 =>
  lt (if ¬ (X5_isTrain_v L1 v_t) = 0 then X5_wrongBit_v 0 v_part 1 else (-1) : Int) fun x7 =>
  if x7 < 0 then
    Option.bind (X5_refuse L1 x7) fun z43 =>
    some (w64 (4000000000000000000 - z43.1), z43.2)
  else
    Option.bind (X5_open L1) fun z12 =>
    Option.bind (lp (X5_noons_s1 v_t) (0, 0, z12)) fun z17 =>
    if z17.1 = 0 then
      some (v_part, z17.2.2)
    else
      Option.bind (X5_divisor z17.1 10) fun z37 =>
      grd ((v_part = 0) → (¬ z37 = 0)) <|
      grd ((¬ (v_part = 0)) → (¬ z37 = 0)) <|
      some (if v_part = 0 then ldvi z17.1 z37 else ldvi 10 z37, z17.2.2)
noncomputable def X5_onesOf_s1 (s1 : Int × Int) : Option ((Int × Int) ⊕ (Int × Int)) :=
    if ¬ s1.2 = 0 then
      lt (b_and s1.2 (w32 (s1.2 - 1)) : Int) fun x9 =>
      some (.inl (w32 (s1.1 + 1), x9))
    else
      some (.inr (s1.1, s1.2))
noncomputable def X5_onesOf (v_bits : Int) : Option (Int) :=
  Option.bind (lp (X5_onesOf_s1) (0, v_bits)) fun z5 =>
  some z5.1
noncomputable def X5_order_s1 (s3 : Int × Int × LT) : Option ((Int × Int × LT) ⊕ (Int × Int × LT)) :=
    if s3.2.1 < (s3.2.2 0 7) then
      grd (gd s3.2.1 5) <|
      if ((s3.2.2 14 s3.2.1) = 0) ∧ ((s3.2.2 12 s3.2.1) < 0) then
        grd (gd s3.1 5) <|
        lt (lw s3.2.2 36 s3.1 s3.2.1 : LT) fun L19 =>
        some (.inl (w32 (s3.1 + 1), w32 (s3.2.1 + 1), L19))
      else
        some (.inl (s3.1, w32 (s3.2.1 + 1), s3.2.2))
    else
      some (.inr (s3.1, s3.2.1, s3.2.2))
noncomputable def X5_order_s2 (z7 : Int × Int × LT) (s32 : Int × LT) : Option ((Int × LT) ⊕ (Int × LT)) :=
    if s32.1 < z7.1 then
      grd (gd s32.1 5) <|
      grd (gd (s32.2 36 s32.1) 5) <|
      grd (gd (w32 (4 * s32.1)) 20) <|
      lt (lw s32.2 37 (w32 (4 * s32.1)) (s32.2 9 (s32.2 36 s32.1)) : LT) fun L44 =>
      grd (gd (L44 36 s32.1) 5) <|
      grd (gd (w32 ((w32 (4 * s32.1)) + 1)) 20) <|
      lt (lw L44 37 (w32 ((w32 (4 * s32.1)) + 1)) (L44 10 (L44 36 s32.1)) : LT) fun L50 =>
      grd (gd (L50 36 s32.1) 5) <|
      grd (gd (w32 ((w32 (4 * s32.1)) + 2)) 20) <|
      lt (lw L50 37 (w32 ((w32 (4 * s32.1)) + 2)) (L50 11 (L50 36 s32.1)) : LT) fun L56 =>
      grd (gd (L56 36 s32.1) 5) <|
      grd (gd (w32 ((w32 (4 * s32.1)) + 3)) 20) <|
      lt (lw L56 37 (w32 ((w32 (4 * s32.1)) + 3)) (L56 13 (L56 36 s32.1)) : LT) fun L62 =>
      some (.inl (w32 (s32.1 + 1), L62))
    else
      some (.inr (s32.1, s32.2))
noncomputable def X5_order_s3 (z7 : Int × Int × LT) (s80 : Int × Int × LT) : Option ((Int × Int × LT) ⊕ (Int × Int × LT)) :=
    if s80.2.1 < z7.1 then
      grd (gd s80.2.1 5) <|
      lt (s80.2.2 36 s80.2.1 : Int) fun x90 =>
      grd (gd (w32 (4 * (s80.2.2 38 s80.2.1))) 20) <|
      grd (gd x90 5) <|
      lt (lw s80.2.2 9 x90 (s80.2.2 37 (w32 (4 * (s80.2.2 38 s80.2.1)))) : LT) fun L97 =>
      grd (gd (w32 ((w32 (4 * (L97 38 s80.2.1))) + 1)) 20) <|
      lt (lw L97 10 x90 (L97 37 (w32 ((w32 (4 * (L97 38 s80.2.1))) + 1))) : LT) fun L102 =>
      grd (gd (w32 ((w32 (4 * (L102 38 s80.2.1))) + 2)) 20) <|
      lt (lw L102 11 x90 (L102 37 (w32 ((w32 (4 * (L102 38 s80.2.1))) + 2))) : LT) fun L107 =>
      grd (gd (w32 ((w32 (4 * (L107 38 s80.2.1))) + 3)) 20) <|
      lt (lw L107 13 x90 (L107 37 (w32 ((w32 (4 * (L107 38 s80.2.1))) + 3))) : LT) fun L112 =>
      grd (gd (L112 38 s80.2.1) 5) <|
      lt (w32 ((w32 (10 * s80.1)) + (L112 36 (L112 38 s80.2.1))) : Int) fun x117 =>
      some (.inl (x117, w32 (s80.2.1 + 1), L112))
    else
      some (.inr (s80.1, s80.2.1, s80.2.2))
noncomputable def X5_order_s4 (z66 : Int) (z7 : Int × Int × LT) (s69 : Int × Int × Int × LT) : Option ((Int × Int × Int × LT) ⊕ (Int × Int × Int × LT)) :=
    if s69.2.2.1 < z66 then
      Option.bind (X5_layOrder s69.2.2.2 s69.2.2.1 z7.1) fun z79 =>
      Option.bind (lp (X5_order_s3 z7) (0, 0, z79)) fun z84 =>
      Option.bind (X5_throughBy72 z84.2.2) fun z123 =>
      lt (if s69.2.1 < z123.1 then z84.1 else s69.1 : Int) fun x126 =>
      lt (if s69.2.1 < z123.1 then z123.1 else s69.2.1 : Int) fun x131 =>
      some (.inl (x126, x131, w32 (s69.2.2.1 + 1), z123.2))
    else
      some (.inr (s69.1, s69.2.1, s69.2.2.1, s69.2.2.2))
noncomputable def X5_order (L0 : LT) (v_what : Int) : Option (Int × LT) :=
  lt (lw L0 0 14 0 : LT) fun L1 =>
  Option.bind (lp (X5_order_s1) (0, 0, L1)) fun z7 =>
  lt (if (X5_in_v v_what 0 1) = 0 then (-2) else if 4 < z7.1 then (-3) else 0 : Int) fun x28 =>
  if x28 < 0 then
    Option.bind (X5_refuse z7.2.2 x28) fun z142 =>
    some (z142.1, z142.2)
  else
    Option.bind (lp (X5_order_s2 z7) (0, z7.2.2)) fun z36 =>
    Option.bind (X5_ordersOf z7.1) fun z66 =>
    Option.bind (X5_open z36.2) fun z68 =>
    Option.bind (lp (X5_order_s4 z66 z7) ((-9), (-1), 0, z68)) fun z73 =>
    some (if v_what = 1 then z73.2.1 else if z7.1 = 0 then (-9) else z73.1, z73.2.2.2)
noncomputable def X5_pour (L0 : LT) (v_y : Int) : Option (LT) :=
  grd (gd v_y 16) <|
  lt (lw L0 4 v_y (X5_held_v (w32 ((L0 4 v_y) + 10))) : LT) fun L4 =>
  some L4
noncomputable def X5_pourFewest_s1 (s16 : Int × Int × LT) (s29 : Int × LT) : Option ((Int × LT) ⊕ (Int × LT)) :=
    if s29.1 < (s29.2 0 0) then
      if ¬ (X5_hasBit_v s16.2.1 s29.1) = 0 then
        Option.bind (X5_pour s29.2 s29.1) fun z40 =>
        some (.inl (w32 (s29.1 + 1), z40))
      else
        some (.inl (w32 (s29.1 + 1), s29.2))
    else
      some (.inr (s29.1, s29.2))
noncomputable def X5_pourFewest_s2 (s16 : Int × Int × LT) (s52 : Int × LT) : Option ((Int × LT) ⊕ (Int × LT)) :=
    if s52.1 < (s52.2 0 0) then
      if ¬ (X5_hasBit_v s16.2.1 s52.1) = 0 then
        Option.bind (X5_pour s52.2 s52.1) fun z63 =>
        some (.inl (w32 (s52.1 + 1), z63))
      else
        some (.inl (w32 (s52.1 + 1), s52.2))
    else
      some (.inr (s52.1, s52.2))
noncomputable def X5_pourFewest_s3 (v_t : Int) (s16 : Int × Int × LT) : Option ((Int × Int × LT) ⊕ (Int × Int × LT)) :=
    if s16.2.1 < (b_shl 1 (s16.2.2 0 0)) then
      Option.bind (X5_onesOf s16.2.1) fun z26 =>
      if z26 ≤ 3 then
        if s16.1 < 0 then
          Option.bind (lp (X5_pourFewest_s1 s16) (0, s16.2.2)) fun z33 =>
          Option.bind (
            Option.bind (X5_throughIn z33.2 v_t) fun z46 =>
            if z46.1 < 99 then
              some (s16.2.1, z46.2)
            else
              some (s16.1, z46.2)) fun z42 =>
          some (.inl (z42.1, w32 (s16.2.1 + 1), z42.2))
        else
          Option.bind (X5_onesOf s16.1) fun z50 =>
          if z26 < z50 then
            Option.bind (lp (X5_pourFewest_s2 s16) (0, s16.2.2)) fun z56 =>
            Option.bind (
              Option.bind (X5_throughIn z56.2 v_t) fun z69 =>
              if z69.1 < 99 then
                some (s16.2.1, z69.2)
              else
                some (s16.1, z69.2)) fun z65 =>
            some (.inl (z65.1, w32 (s16.2.1 + 1), z65.2))
          else
            some (.inl (s16.1, w32 (s16.2.1 + 1), s16.2.2))
      else
        some (.inl (s16.1, w32 (s16.2.1 + 1), s16.2.2))
    else
      some (.inr (s16.1, s16.2.1, s16.2.2))
noncomputable def X5_pourFewest (L0 : LT) (v_t : Int) : Option (Int × LT) :=
  lt (lw L0 0 14 0 : LT) fun L1 =>
  grd ((¬ ((X5_isTrain_v L1 v_t) = 0)) → (gd v_t 5)) <|
  lt (if (X5_isTrain_v L1 v_t) = 0 then (-1) else if ¬ (L1 14 v_t) = 0 then (-3) else 0 : Int) fun x10 =>
  if x10 < 0 then
    Option.bind (X5_refuse L1 x10) fun z75 =>
    some (z75.1, z75.2)
  else
    Option.bind (X5_open L1) fun z15 =>
    Option.bind (lp (X5_pourFewest_s3 v_t) ((-9), 0, z15)) fun z20 =>
    some (z20.1, z20.2.2)
noncomputable def X5_pourFirst_s1 (s7 : Int × Int × Int × LT) : Option ((Int × Int × Int × LT) ⊕ (Int × Int × Int × LT)) :=
    if s7.2.2.1 < (s7.2.2.2 0 0) then
      Option.bind (X5_pour s7.2.2.2 s7.2.2.1) fun z18 =>
      Option.bind (X5_throughBy72 z18) fun z20 =>
      lt (if s7.1 < z20.1 then s7.2.2.1 else s7.2.1 : Int) fun x23 =>
      lt (if s7.1 < z20.1 then z20.1 else s7.1 : Int) fun x28 =>
      some (.inl (x28, x23, w32 (s7.2.2.1 + 1), z20.2))
    else
      some (.inr (s7.1, s7.2.1, s7.2.2.1, s7.2.2.2))
noncomputable def X5_pourFirst (L0 : LT) : Option (Int × LT) :=
  lt (lw L0 0 14 0 : LT) fun L1 =>
  Option.bind (X5_open L1) fun z4 =>
  Option.bind (X5_throughBy72 z4) fun z6 =>
  Option.bind (lp (X5_pourFirst_s1) (z6.1, (-9), 0, z6.2)) fun z11 =>
  some (z11.2.1, z11.2.2.2)
noncomputable def X5_rescue (L0 : LT) (v_t : Int) : Option (Int × LT) :=
  lt (lw L0 0 14 0 : LT) fun L1 =>
  grd ((¬ ((X5_isTrain_v L1 v_t) = 0)) → (gd v_t 5)) <|
  grd ((¬ ((X5_isTrain_v L1 v_t) = 0)) → (¬ ((L1 12 v_t) < 0)) → (gd v_t 5)) <|
  lt (if (X5_isTrain_v L1 v_t) = 0 then (-1) else if ((L1 12 v_t) < 0) ∨ ((L1 14 v_t) = 1) then (-3) else 0 : Int) fun x13 =>
  if x13 < 0 then
    Option.bind (X5_refuse L1 x13) fun z22 =>
    some (z22.1, z22.2)
  else
    grd (gd v_t 5) <|
    Option.bind (X5_haltNear L1 (L1 12 v_t)) fun z20 =>
    some (z20, L1)
noncomputable def X5_restore (L0 : LT) : Option (Int × LT) :=
  lt (lw L0 0 14 0 : LT) fun L1 =>
  if (L1 0 28) = 0 then
    Option.bind (X5_refuse L1 (-3)) fun z7 =>
    some (z7.1, z7.2)
  else
    Option.bind (X5_carryAll L1 28 0) fun z9 =>
    lt (lw z9 0 34 0 : LT) fun L10 =>
    some (L10 0 4, L10)
noncomputable def X5_row (L0 : LT) (v_v : Int) : Option (Int × LT) :=
  lt (lw L0 0 14 0 : LT) fun L1 =>
  if v_v < 0 then
    Option.bind (X5_refuse L1 (-4)) fun z19 =>
    some (z19.1, z19.2)
  else
  if (99 < v_v) ∨ ((L1 0 39) = 16) then
    Option.bind (X5_refuse L1 (-6)) fun z9 =>
    some (z9.1, z9.2)
  else
    grd (gd (L1 0 39) 16) <|
    lt (lw L1 39 (L1 0 39) v_v : LT) fun L12 =>
    lt (lw L12 0 39 (w32 ((L12 0 39) + 1)) : LT) fun L15 =>
    some (L15 0 39, L15)
noncomputable def X5_runs_s1 (L1 : LT) (v_weight : Int) (s9 : Int × Int × Int × Int) : Option ((Int × Int × Int × Int) ⊕ (Int × Int × Int × Int)) :=
    if s9.2.2.2 < (L1 0 0) then
      grd (X5_bears_c L1 s9.2.2.2 v_weight) <|
      lt (if ¬ (X5_bears_v L1 s9.2.2.2 v_weight) = 0 then w32 (s9.1 + 1) else 0 : Int) fun x24 =>
      lt (if s9.2.1 < x24 then w32 ((w32 (s9.2.2.2 - x24)) + 1) else s9.2.2.1 : Int) fun x29 =>
      lt (if s9.2.1 < x24 then x24 else s9.2.1 : Int) fun x34 =>
      some (.inl (x24, x34, x29, w32 (s9.2.2.2 + 1)))
    else
      some (.inr (s9.1, s9.2.1, s9.2.2.1, s9.2.2.2))
noncomputable def X5_runs (L0 : LT) (v_weight : Int) (v_what : Int) : Option (Int × LT) :=
  lt (lw L0 0 14 0 : LT) fun L1 =>
  lt (X5_wrongBit_v (X5_wrongNumber_v v_weight 1 60) v_what 1 : Int) fun x5 =>
  if x5 < 0 then
    Option.bind (X5_refuse L1 x5) fun z44 =>
    some (z44.1, z44.2)
  else
    Option.bind (lp (X5_runs_s1 L1 v_weight) (0, 0, (-9), 0)) fun z13 =>
    some (if v_what = 0 then z13.2.1 else z13.2.2.1, L1)
noncomputable def X5_said_s1 (L1 : LT) (s3 : Int × Int) (s11 : Int × Int) : Option ((Int × Int) ⊕ (Int × Int)) :=
    if s11.2 < (L1 0 39) then
      grd ((¬ s11.1 = 0) → (gd s11.2 16)) <|
      grd ((¬ s11.1 = 0) → (¬ ((L1 39 s11.2) = 99)) → (gd s11.2 16)) <|
      lt (if (¬ s11.1 = 0) ∧ (((L1 39 s11.2) = 99) ∨ ((L1 39 s11.2) = s3.2)) then 1 else 0 : Int) fun x28 =>
      some (.inl (x28, w32 (s11.2 + 1)))
    else
      some (.inr (s11.1, s11.2))
noncomputable def X5_said_s2 (L1 : LT) (s3 : Int × Int) : Option ((Int × Int) ⊕ (Int × Int)) :=
    if s3.2 < 10 then
      Option.bind (lp (X5_said_s1 L1 s3) (1, 0)) fun z15 =>
      lt (b_or s3.1 (if ¬ z15.1 = 0 then b_shl 1 s3.2 else 0) : Int) fun x35 =>
      some (.inl (x35, w32 (s3.2 + 1)))
    else
      some (.inr (s3.1, s3.2))
noncomputable def X5_said (L0 : LT) : Option (Int × LT) :=
  lt (lw L0 0 14 0 : LT) fun L1 =>
  Option.bind (lp (X5_said_s2 L1) (0, 0)) fun z7 =>
  some (z7.1, L1)
noncomputable def X5_stands (L0 : LT) (v_t : Int) : Option (Int × LT) :=
  lt (lw L0 0 14 0 : LT) fun L1 =>
  if (X5_isTrain_v L1 v_t) = 0 then
    Option.bind (X5_refuse L1 (-1)) fun z7 =>
    some (z7.1, z7.2)
  else
    Option.bind (X5_open L1) fun z9 =>
    Option.bind (X5_goHours z9 72) fun z11 =>
    Option.bind (X5_close z11) fun z13 =>
    grd (gd v_t 5) <|
    some (z13 17 v_t, z13)
noncomputable def X5_weakestYard_s1 (L0 : LT) (s1 : Int × Int) : Option ((Int × Int) ⊕ (Int × Int)) :=
    if s1.2 < (L0 0 0) then
      grd (gd s1.2 16) <|
      grd (gd s1.1 16) <|
      lt (if (L0 4 s1.2) < (L0 4 s1.1) then s1.2 else s1.1 : Int) fun x16 =>
      some (.inl (x16, w32 (s1.2 + 1)))
    else
      some (.inr (s1.1, s1.2))
noncomputable def X5_weakestYard (L0 : LT) : Option (Int) :=
  Option.bind (lp (X5_weakestYard_s1 L0) (0, 1)) fun z5 =>
  some z5.1
noncomputable def X5_strongest_s1 (v_weight : Int) (s7 : Int × LT) : Option ((Int × LT) ⊕ (Int × LT)) :=
    if s7.1 < 20 then
      Option.bind (X5_allBear s7.2 v_weight) fun z15 =>
      if ¬ z15 = 0 then
        some (.inr (s7.1, s7.2))
      else
        Option.bind (X5_weakestYard s7.2) fun z18 =>
        Option.bind (X5_pour s7.2 z18) fun z20 =>
        some (.inl (w32 (s7.1 + 1), z20))
    else
      some (.inr (s7.1, s7.2))
noncomputable def X5_strongest (L0 : LT) (v_weight : Int) : Option (Int × LT) :=
  lt (lw L0 0 14 0 : LT) fun L1 =>
  if (X5_wrongNumber_v v_weight 1 60) < 0 then
    Option.bind (X5_refuse L1 (X5_wrongNumber_v v_weight 1 60)) fun z30 =>
    some (z30.1, z30.2)
  else
    Option.bind (X5_open L1) fun z6 =>
    Option.bind (lp (X5_strongest_s1 v_weight) (0, z6)) fun z11 =>
    Option.bind (X5_allBear z11.2 v_weight) fun z23 =>
    Option.bind (X5_close z11.2) fun z25 =>
    some (if ¬ z23 = 0 then z11.1 else (-9), z25)
noncomputable def X5_tells_s1 (L1 : LT) (s3 : Int × Int) : Option ((Int × Int) ⊕ (Int × Int)) :=
    if s3.2 < (L1 0 0) then
      grd (X5_besideMean_c L1 s3.2) <|
      grd (X5_besideMean_c L1 s3.1) <|
      lt (if (X5_besideMean_v L1 s3.2) < (X5_besideMean_v L1 s3.1) then s3.2 else s3.1 : Int) fun x18 =>
      some (.inl (x18, w32 (s3.2 + 1)))
    else
      some (.inr (s3.1, s3.2))
noncomputable def X5_tells (L0 : LT) : Option (Int × LT) :=
  lt (lw L0 0 14 0 : LT) fun L1 =>
  Option.bind (lp (X5_tells_s1 L1) (0, 1)) fun z7 =>
  some (z7.1, L1)
noncomputable def X5_thaw_s1 (z15 : LT) (s22 : Int × Int) : Option ((Int × Int) ⊕ (Int × Int)) :=
    if s22.2 < (z15 0 0) then
      grd ((¬ (¬ s22.1 = 0)) → (X5_bears_c z15 s22.2 1)) <|
      lt (if (¬ s22.1 = 0) ∨ (¬ (X5_bears_v z15 s22.2 1) = 0) then 1 else 0 : Int) fun x36 =>
      some (.inl (x36, w32 (s22.2 + 1)))
    else
      some (.inr (s22.1, s22.2))
noncomputable def X5_thaw_s2 (s5 : Int × Int × LT) : Option ((Int × Int × LT) ⊕ (Int × Int × LT)) :=
    if (s5.2.1 ≤ 72) ∧ (s5.1 < 0) then
      Option.bind (
        if 0 < s5.2.1 then
          Option.bind (X5_hourOn s5.2.2) fun z21 =>
          some (z21)
        else
          some (s5.2.2)) fun z15 =>
      Option.bind (lp (X5_thaw_s1 z15) (0, 0)) fun z26 =>
      lt (if ¬ z26.1 = 0 then (-9) else s5.2.1 : Int) fun x43 =>
      some (.inl (x43, w32 (s5.2.1 + 1), z15))
    else
      some (.inr (s5.1, s5.2.1, s5.2.2))
noncomputable def X5_thaw (L0 : LT) : Option (Int × LT) :=
  lt (lw L0 0 14 0 : LT) fun L1 =>
  Option.bind (X5_open L1) fun z4 =>
  Option.bind (lp (X5_thaw_s2) ((-9), 0, z4)) fun z9 =>
  Option.bind (X5_close z9.2.2) fun z49 =>
  some (z9.1, z49)
noncomputable def X5_thin_s1 (z16 : LT) (v_weight : Int) (s21 : Int × Int) : Option ((Int × Int) ⊕ (Int × Int)) :=
    if 0 ≤ s21.2 then
      grd (X5_bears_c z16 s21.2 v_weight) <|
      lt (if ¬ (X5_bears_v z16 s21.2 v_weight) = 0 then s21.1 else s21.2 : Int) fun x33 =>
      some (.inl (x33, w32 (s21.2 + (-1))))
    else
      some (.inr (s21.1, s21.2))
noncomputable def X5_thin (L0 : LT) (v_n : Int) (v_weight : Int) : Option (Int × LT) :=
  lt (lw L0 0 14 0 : LT) fun L1 =>
  lt (if (v_n < 0) ∨ (v_weight < 1) then (-4) else if (72 < v_n) ∨ (60 < v_weight) then (-6) else 0 : Int) fun x9 =>
  if x9 < 0 then
    Option.bind (X5_refuse L1 x9) fun z41 =>
    some (z41.1, z41.2)
  else
    Option.bind (X5_open L1) fun z14 =>
    Option.bind (X5_goHours z14 v_n) fun z16 =>
    lt (w32 ((z16 0 0) - 1) : Int) fun x18 =>
    Option.bind (lp (X5_thin_s1 z16 v_weight) ((-9), x18)) fun z25 =>
    Option.bind (X5_close z16) fun z39 =>
    some (z25.1, z39)
noncomputable def X5_through (L0 : LT) (v_n : Int) (v_what : Int) : Option (Int × LT) :=
  lt (lw L0 0 14 0 : LT) fun L1 =>
  lt (X5_wrongBit_v (X5_wrongNumber_v v_n 0 72) v_what 1 : Int) fun x5 =>
  if x5 < 0 then
    Option.bind (X5_refuse L1 x5) fun z18 =>
    some (z18.1, z18.2)
  else
    Option.bind (X5_open L1) fun z10 =>
    Option.bind (X5_goHours z10 v_n) fun z12 =>
    Option.bind (X5_howMany z12 (w32 (v_what + 1))) fun z14 =>
    Option.bind (X5_close z12) fun z16 =>
    some (z14, z16)
noncomputable def X5_timetable_s1 (s26 : Int × Int × Int × LT) (v_one : Int) (v_other : Int) (s35 : Int × Int × Int × LT) : Option ((Int × Int × Int × LT) ⊕ (Int × Int × Int × LT)) :=
    if s35.2.2.1 ≤ 24 then
      if ¬ s26.2.2.1 = s35.2.2.1 then
        grd (gd v_one 5) <|
        lt (lw s35.2.2.2 13 v_one s26.2.2.1 : LT) fun L46 =>
        grd (gd v_other 5) <|
        lt (lw L46 13 v_other s35.2.2.1 : LT) fun L49 =>
        Option.bind (X5_goHours L49 72) fun z52 =>
        lt (if ((z52 14 v_one) = 1) ∧ ((z52 14 v_other) = 1) then 1 else 0 : Int) fun x58 =>
        lt (if (z52 18 v_other) < (z52 18 v_one) then z52 18 v_one else z52 18 v_other : Int) fun x67 =>
        Option.bind (X5_close z52) fun z71 =>
        lt (if (¬ x58 = 0) ∧ (x67 < s35.2.1) then w32 ((w32 (100 * s26.2.2.1)) + s35.2.2.1) else s35.1 : Int) fun x75 =>
        lt (if (¬ x58 = 0) ∧ (x67 < s35.2.1) then x67 else s35.2.1 : Int) fun x81 =>
        some (.inl (x75, x81, w32 (s35.2.2.1 + 6), z71))
      else
        some (.inl (s35.1, s35.2.1, w32 (s35.2.2.1 + 6), s35.2.2.2))
    else
      some (.inr (s35.1, s35.2.1, s35.2.2.1, s35.2.2.2))
noncomputable def X5_timetable_s2 (v_one : Int) (v_other : Int) (s26 : Int × Int × Int × LT) : Option ((Int × Int × Int × LT) ⊕ (Int × Int × Int × LT)) :=
    if s26.2.2.1 ≤ 24 then
      Option.bind (lp (X5_timetable_s1 s26 v_one v_other) (s26.1, s26.2.1, 0, s26.2.2.2)) fun z39 =>
      some (.inl (z39.1, z39.2.1, w32 (s26.2.2.1 + 6), z39.2.2.2))
    else
      some (.inr (s26.1, s26.2.1, s26.2.2.1, s26.2.2.2))
noncomputable def X5_timetable (L0 : LT) (v_one : Int) (v_other : Int) : Option (Int × LT) :=
  lt (lw L0 0 14 0 : LT) fun L1 =>
  lt (if ((¬ (X5_isTrain_v L1 v_one) = 0) ∧ (¬ (X5_isTrain_v L1 v_other) = 0)) ∧ (¬ v_one = v_other) then 0 else (-1) : Int) fun x9 =>
  grd ((x9 = 0) → (X5_wrongAhead_c L1 v_one 0)) <|
  grd ((x9 = 0) → (¬ ((X5_wrongAhead_v L1 v_one 0) < 0)) → (X5_wrongAhead_c L1 v_other 0)) <|
  lt (if (x9 = 0) ∧ (((X5_wrongAhead_v L1 v_one 0) < 0) ∨ ((X5_wrongAhead_v L1 v_other 0) < 0)) then (-3) else x9 : Int) fun x20 =>
  if x20 < 0 then
    Option.bind (X5_refuse L1 x20) fun z91 =>
    some (z91.1, z91.2)
  else
    Option.bind (X5_open L1) fun z25 =>
    Option.bind (lp (X5_timetable_s2 v_one v_other) ((-9), 99, 0, z25)) fun z30 =>
    some (z30.1, z30.2.2.2)
noncomputable def X5_told (L0 : LT) (v_t : Int) (v_what : Int) : Option (Int × LT) :=
  lt (lw L0 0 14 0 : LT) fun L1 =>
  if ((X5_isTrain_v L1 v_t) = 0) ∨ ((X5_in_v v_what 0 5) = 0) then
    Option.bind (X5_refuse L1 (if ¬ (X5_isTrain_v L1 v_t) = 0 then (-2) else (-1))) fun z12 =>
    some (z12.1, z12.2)
  else
  if v_what = 0 then
    grd (gd v_t 5) <|
    some (L1 9 v_t, L1)
  else
  if v_what = 1 then
    grd (gd v_t 5) <|
    some (L1 10 v_t, L1)
  else
  if v_what = 2 then
    grd (gd v_t 5) <|
    some (L1 11 v_t, L1)
  else
  if v_what = 3 then
    grd (gd v_t 5) <|
    some (L1 12 v_t, L1)
  else
  if v_what = 4 then
    grd (gd v_t 5) <|
    some (L1 13 v_t, L1)
  else
    grd (gd v_t 5) <|
    some (L1 14 v_t, L1)
noncomputable def X5_train (L0 : LT) (v_weight : Int) (v_warmth : Int) (v_pace : Int) : Option (Int × LT) :=
  lt (lw L0 0 14 0 : LT) fun L1 =>
  Option.bind (
    if ((v_weight < 1) ∨ (v_warmth < 0)) ∨ (v_pace < 1) then
      some ((-4))
    else
    if (((60 < v_weight) ∨ (9 < v_warmth)) ∨ (3 < v_pace)) ∨ ((L1 0 7) = 5) then
      some ((-6))
    else
      some (0)) fun z3 =>
  if z3 < 0 then
    Option.bind (X5_refuse L1 z3) fun z25 =>
    some (z25.1, z25.2)
  else
    Option.bind (X5_trainComes L1 v_weight v_warmth v_pace) fun z20 =>
    lt (lw z20 0 34 0 : LT) fun L21 =>
    some (w32 ((L21 0 7) - 1), L21)
noncomputable def X5_trainIn (L0 : LT) (v_t : Int) (v_n : Int) (v_what : Int) : Option (Int × LT) :=
  lt (lw L0 0 14 0 : LT) fun L1 =>
  lt (X5_wrongBit_v (if ¬ (X5_isTrain_v L1 v_t) = 0 then X5_wrongNumber_v v_n 0 72 else (-1)) v_what 2 : Int) fun x8 =>
  if x8 < 0 then
    Option.bind (X5_refuse L1 x8) fun z32 =>
    some (z32.1, z32.2)
  else
    Option.bind (X5_open L1) fun z13 =>
    Option.bind (X5_goHours z13 v_n) fun z15 =>
    grd ((v_what = 0) → (gd v_t 5)) <|
    grd ((¬ (v_what = 0)) → (v_what = 1) → (gd v_t 5)) <|
    grd ((¬ (v_what = 0)) → (¬ (v_what = 1)) → (gd v_t 5)) <|
    lt (if v_what = 0 then z15 14 v_t else if v_what = 1 then z15 12 v_t else z15 18 v_t : Int) fun x26 =>
    Option.bind (X5_close z15) fun z30 =>
    some (x26, z30)
noncomputable def X5_turn (L0 : LT) (v_y : Int) (v_kind : Int) (v_figure : Int) : Option (Int × LT) :=
  lt (lw L0 0 14 0 : LT) fun L1 =>
  lt (if (X5_isYard_v L1 v_y) = 0 then (-1) else if (X5_in_v v_kind 0 5) = 0 then (-2) else X5_wrongNumber_v v_figure 0 9 : Int) fun x10 =>
  if x10 < 0 then
    Option.bind (X5_refuse L1 x10) fun z27 =>
    some (z27.1, z27.2)
  else
    Option.bind (X5_keepTurn L1) fun z15 =>
    grd (gd v_y 16) <|
    lt (w32 ((w32 (10 * (z15 2 v_y))) + (z15 3 v_y)) : Int) fun x19 =>
    lt (lw z15 2 v_y v_kind : LT) fun L22 =>
    lt (lw L22 3 v_y v_figure : LT) fun L24 =>
    some (x19, L24)
noncomputable def X5_waits (L0 : LT) (v_t : Int) (v_v : Int) : Option (Int × LT) :=
  lt (lw L0 0 14 0 : LT) fun L1 =>
  lt (if ¬ (X5_isTrain_v L1 v_t) = 0 then X5_wrongNumber_v v_v 0 48 else (-1) : Int) fun x7 =>
  grd ((x7 = 0) → (gd v_t 5)) <|
  lt (if (x7 = 0) ∧ (¬ (L1 14 v_t) = 0) then (-3) else x7 : Int) fun x15 =>
  if x15 < 0 then
    Option.bind (X5_refuse L1 x15) fun z29 =>
    some (z29.1, z29.2)
  else
    Option.bind (X5_keepTurn L1) fun z20 =>
    grd (gd v_t 5) <|
    lt (z20 13 v_t : Int) fun x23 =>
    lt (lw z20 13 v_t v_v : LT) fun L26 =>
    some (x23, L26)
noncomputable def X5_weather (L0 : LT) (v_what : Int) (v_v : Int) : Option (Int × LT) :=
  lt (lw L0 0 14 0 : LT) fun L1 =>
  lt (if ¬ (X5_in_v v_what 0 1) = 0 then X5_wrongNumber_v v_v 0 9 else (-2) : Int) fun x7 =>
  if x7 < 0 then
    Option.bind (X5_refuse L1 x7) fun z31 =>
    some (z31.1, z31.2)
  else
    Option.bind (X5_keepTurn L1) fun z12 =>
    lt (if v_what = 0 then z12 0 5 else z12 0 6 : Int) fun x17 =>
    lt (lw z12 0 5 (if v_what = 0 then v_v else z12 0 5) : LT) fun L23 =>
    lt (lw L23 0 6 (if v_what = 1 then v_v else L23 0 6) : LT) fun L28 =>
    some (x17, L28)
noncomputable def X5_yard (L0 : LT) (v_y : Int) (v_what : Int) : Option (Int × LT) :=
  lt (lw L0 0 14 0 : LT) fun L1 =>
  if ((X5_isYard_v L1 v_y) = 0) ∨ ((X5_in_v v_what 0 5) = 0) then
    Option.bind (X5_refuse L1 (if ¬ (X5_isYard_v L1 v_y) = 0 then (-2) else (-1))) fun z12 =>
    some (z12.1, z12.2)
  else
  if v_what = 0 then
    grd (gd v_y 16) <|
    some (L1 2 v_y, L1)
  else
  if v_what = 1 then
    grd (gd v_y 16) <|
    some (L1 3 v_y, L1)
  else
  if v_what = 2 then
    grd (gd v_y 16) <|
    some (L1 4 v_y, L1)
  else
  if v_what = 3 then
    grd (X5_freezes_c L1 v_y) <|
    some (X5_freezes_v L1 v_y, L1)
  else
  if v_what = 4 then
    grd (X5_melts_c L1 v_y) <|
    some (X5_melts_v L1 v_y, L1)
  else
    grd (X5_wants_c L1 v_y 20) <|
    some (X5_wants_v L1 v_y 20, L1)
