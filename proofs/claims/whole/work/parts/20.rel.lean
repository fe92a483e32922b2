def gI40 (j : Int) : Int := if 0 ≤ j ∧ j < 16 then 40 else 0
def gIln (j : Int) : Int := if 0 ≤ j ∧ j < 8 then j + 3 else -1
def gI1 (i : Nat) (j : Int) : Int := match i with
  | 0 => if j = 0 then 8 else if j = 2 then 3 else if j = 3 then 4 else 0
  | 8 => gI40 j
  | _ => 0
def gI4 (i : Nat) (j : Int) : Int := match i with
  | 0 => if j = 0 then 8 else if j = 5 then 3 else if j = 6 then 4 else if j = 31 then -1 else 0
  | 4 => gI40 j
  | _ => 0
def gI : GG := fun t _ i j => match t with
  | 1 => gI1 i j
  | 3 => match i with
    | 1 => gIln j
    | _ => 0
  | 4 => gI4 i j
  | _ => 0
def Rel (_C : GG) (_M : LT) : Prop := True
def sc (xs : Nat → Int32) (y : Int) : Int := (xs y.toNat).toInt
def Op0 (f : GG → Option (Int × GG)) (m : LT → Option (Int × LT)) : Prop := ∀ (C : GG) (M : LT), Rel C M → ∃ (r : Int) (C' : GG) (M' : LT), f C = some (r, C') ∧ m M = some (r, M') ∧ Rel C' M'
def OpR0 (f : GG → Option Int) (m : LT → Option (Int × LT)) : Prop := ∀ (C : GG) (M : LT), Rel C M → ∃ (r : Int) (M' : LT), f C = some r ∧ m M = some (r, M') ∧ Rel C M'
def Op1 (f : GG → Int → Option (Int × GG)) (m : LT → Int → Option (Int × LT)) : Prop := ∀ (C : GG) (M : LT), Rel C M → ∀ (a : Int), Rg a → ∃ (r : Int) (C' : GG) (M' : LT), f C a = some (r, C') ∧ m M a = some (r, M') ∧ Rel C' M'
def OpR1 (f : GG → Int → Option Int) (m : LT → Int → Option (Int × LT)) : Prop := ∀ (C : GG) (M : LT), Rel C M → ∀ (a : Int), Rg a → ∃ (r : Int) (M' : LT), f C a = some r ∧ m M a = some (r, M') ∧ Rel C M'
def Op2 (f : GG → Int → Int → Option (Int × GG)) (m : LT → Int → Int → Option (Int × LT)) : Prop := ∀ (C : GG) (M : LT), Rel C M → ∀ (a : Int) (b : Int), Rg a → Rg b → ∃ (r : Int) (C' : GG) (M' : LT), f C a b = some (r, C') ∧ m M a b = some (r, M') ∧ Rel C' M'
def OpR2 (f : GG → Int → Int → Option Int) (m : LT → Int → Int → Option (Int × LT)) : Prop := ∀ (C : GG) (M : LT), Rel C M → ∀ (a : Int) (b : Int), Rg a → Rg b → ∃ (r : Int) (M' : LT), f C a b = some r ∧ m M a b = some (r, M') ∧ Rel C M'
def Op3 (f : GG → Int → Int → Int → Option (Int × GG)) (m : LT → Int → Int → Int → Option (Int × LT)) : Prop := ∀ (C : GG) (M : LT), Rel C M → ∀ (a : Int) (b : Int) (c : Int), Rg a → Rg b → Rg c → ∃ (r : Int) (C' : GG) (M' : LT), f C a b c = some (r, C') ∧ m M a b c = some (r, M') ∧ Rel C' M'
def OpR3 (f : GG → Int → Int → Int → Option Int) (m : LT → Int → Int → Int → Option (Int × LT)) : Prop := ∀ (C : GG) (M : LT), Rel C M → ∀ (a : Int) (b : Int) (c : Int), Rg a → Rg b → Rg c → ∃ (r : Int) (M' : LT), f C a b c = some r ∧ m M a b c = some (r, M') ∧ Rel C M'
theorem op_feed : Op1 X4_feed X5_feed := sorry
theorem op_line : Op0 X4_line X5_line := sorry
theorem op_yard : Op2 X4_yard X5_yard := sorry
theorem op_turn : Op3 X4_turn X5_turn := sorry
theorem op_frost : Op2 X4_frost X5_frost := sorry
theorem op_weather : Op2 X4_weather X5_weather := sorry
theorem op_many : Op1 X4_many X5_many := sorry
theorem op_train : Op3 X4_train X5_train := sorry
theorem op_told : Op2 X4_told X5_told := sorry
theorem op_waits : Op2 X4_waits X5_waits := sorry
theorem op_hours : Op1 X4_hours X5_hours := sorry
theorem op_back : Op0 X4_back X5_back := sorry
theorem op_frostIn : Op2 X4_frostIn X5_frostIn := sorry
theorem op_trainIn : Op3 X4_trainIn X5_trainIn := sorry
theorem op_through : Op2 X4_through X5_through := sorry
theorem op_thin : Op2 X4_thin X5_thin := sorry
theorem op_lasts : Op2 X4_lasts X5_lasts := sorry
theorem op_lowest : Op2 X4_lowest X5_lowest := sorry
theorem op_last : Op1 X4_last X5_last := sorry
theorem op_bestWait : Op2 X4_bestWait X5_bestWait := sorry
theorem op_heaviest : Op2 X4_heaviest X5_heaviest := sorry
theorem op_pourFirst : Op0 X4_pourFirst X5_pourFirst := sorry
theorem op_pourFewest : Op1 X4_pourFewest X5_pourFewest := sorry
theorem op_strongest : Op1 X4_strongest X5_strongest := sorry
theorem op_order : Op1 X4_order X5_order := sorry
theorem op_timetable : Op2 X4_timetable X5_timetable := sorry
theorem op_said : OpR0 X4_said X5_said := sorry
theorem op_lies : OpR0 X4_lies X5_lies := sorry
theorem op_tells : OpR0 X4_tells X5_tells := sorry
theorem op_near : Op1 X4_near X5_near := sorry
theorem op_rescue : Op1 X4_rescue X5_rescue := sorry
theorem op_march : Op1 X4_march X5_march := sorry
theorem op_noons : Op2 X4_noons X5_noons := sorry
theorem op_thaw : Op0 X4_thaw X5_thaw := sorry
theorem op_noon : Op1 X4_noon X5_noon := sorry
theorem op_needed : Op2 X4_needed X5_needed := sorry
theorem op_key : Op0 X4_key X5_key := sorry
theorem op_blocker : Op0 X4_blocker X5_blocker := sorry
theorem op_mean : Op2 X4_mean X5_mean := sorry
theorem op_runs : Op2 X4_runs X5_runs := sorry
theorem op_day : Op0 X4_day X5_day := sorry
theorem op_stands : Op1 X4_stands X5_stands := sorry
theorem op_row : Op1 X4_row X5_row := sorry
theorem op_judge : Op1 X4_judge X5_judge := sorry
theorem op_clear : Op0 X4_clear X5_clear := sorry
theorem op_lots : Op3 X4_lots X5_lots := sorry
theorem op_image : Op0 X4_image X5_image := sorry
theorem op_restore : Op0 X4_restore X5_restore := sorry
theorem op_count : OpR1 X4_count X5_count := sorry
theorem rel_start : Rel gI (gI 4 0) := sorry
