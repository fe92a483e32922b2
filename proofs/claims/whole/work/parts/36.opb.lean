/-! Checks that several calls share -/
def OpR (f : Option (Int × GG)) (m : Option (Int × LT)) : Prop := ∃ (r : Int) (C' : GG) (M' : LT), f = some (r, C') ∧ m = some (r, M') ∧ Rel C' M'
/-- both sides come to the same number and stay side by side -/
def Bo (f : Option (Int × GG)) (m : Option (Int × LT)) : Prop := ∃ (a : Ab) (r : Int), OkA a ∧ Ok f (fun z => z.1 = r ∧ RC a z.2) ∧ Ok m (fun z => z.1 = r ∧ RM a z.2)
theorem Bo_op {f : Option (Int × GG)} {m : Option (Int × LT)} (h : Bo f m) : ∃ (r : Int) (C' : GG) (M' : LT), f = some (r, C') ∧ m = some (r, M') ∧ Rel C' M' := by
  obtain ⟨a, r, h0, h1, h2⟩ := h
  exact op_mk h0 h1 h2
theorem Bo_ref {C : GG} {M : LT} {a : Ab} (ha : OkA a) (hc : RC a C) (hm : RM a M) {v : Int} (v0 : -6 ≤ v ∧ v ≤ -1) : Bo (Option.bind (X4_refuse C v) fun z => some (z.1, z.2)) (Option.bind (X5_refuse M v) fun z => some (z.1, z.2)) :=
  ⟨aRef a v, v, OkA_ref ha v, c_ref hc v0, m_ref hm v0⟩
theorem bo_tt {c d : Prop} [Decidable c] [Decidable d] {A B : Option (Int × GG)} {A' B' : Option (Int × LT)} (hc : c) (hd : d) (h : Bo A A') : Bo (if c then A else B) (if d then A' else B') := by rw [if_pos hc, if_pos hd]; exact h
theorem bo_ff {c d : Prop} [Decidable c] [Decidable d] {A B : Option (Int × GG)} {A' B' : Option (Int × LT)} (hc : ¬ c) (hd : ¬ d) (h : Bo B B') : Bo (if c then A else B) (if d then A' else B') := by rw [if_neg hc, if_neg hd]; exact h
theorem bo_t_ {c : Prop} [Decidable c] {A B : Option (Int × GG)} {m : Option (Int × LT)} (hc : c) (h : Bo A m) : Bo (if c then A else B) m := by rw [if_pos hc]; exact h
theorem bo_f_ {c : Prop} [Decidable c] {A B : Option (Int × GG)} {m : Option (Int × LT)} (hc : ¬ c) (h : Bo B m) : Bo (if c then A else B) m := by rw [if_neg hc]; exact h
theorem bo__t {d : Prop} [Decidable d] {A B : Option (Int × LT)} {f : Option (Int × GG)} (hc : d) (h : Bo f A) : Bo f (if d then A else B) := by rw [if_pos hc]; exact h
theorem bo__f {d : Prop} [Decidable d] {A B : Option (Int × LT)} {f : Option (Int × GG)} (hc : ¬ d) (h : Bo f B) : Bo f (if d then A else B) := by rw [if_neg hc]; exact h
theorem c_nei (w : Int) : ¬ X4_neither_v w = 0 ↔ ¬ (w = 0 ∨ w = 1) := by
  unfold X4_neither_v
  split <;> omega
theorem m_in (v lo hi : Int) : X5_in_v v lo hi = if lo ≤ v ∧ v ≤ hi then 1 else 0 := rfl
theorem ck_two {K : Option (Int × GG)} {K' : LT → Option (Int × LT)} {C : GG} {M : LT} {a : Ab} (ha : OkA a) (hc : RC a C) (hm : RM a M) {n what lo hi : Int} (h : RM a (lw M 0 14 0) → lo ≤ n → n ≤ hi → (what = 0 ∨ what = 1) → Bo K (K' (lw M 0 14 0))) :
    Bo (lt (X4_outside_v n lo hi : Int) fun x => if ¬ x = 0 then Option.bind (X4_refuse C x) fun z => some (z.1, z.2) else if ¬ (X4_neither_v what) = 0 then Option.bind (X4_refuse C (-2)) fun z => some (z.1, z.2) else K)
      (lt (lw M 0 14 0 : LT) fun L => lt (X5_wrongBit_v (X5_wrongNumber_v n lo hi) what 1 : Int) fun x => if x < 0 then Option.bind (X5_refuse L x) fun z => some (z.1, z.2) else K' L) := by
  have hm1 := RM_14 hm 0
  simp only [lt]
  rw [wrN]
  unfold X5_wrongBit_v
  rw [m_in]
  rcases out_b n lo hi with ⟨q, q1, q2⟩ | q
  · rw [q]
    refine bo_f_ (fun z => z rfl) ?_
    by_cases hw : what = 0 ∨ what = 1
    · rw [if_pos (show 0 ≤ what ∧ what ≤ 1 by omega), if_neg (show ¬ ((0 : Int) = 0 ∧ (1 : Int) = 0) by omega)]
      exact bo_ff (fun z => (c_nei what).mp z hw) (by omega) (h hm1 q1 q2 hw)
    · rw [if_neg (show ¬ (0 ≤ what ∧ what ≤ 1) by omega), if_pos (show (0 : Int) = 0 ∧ (0 : Int) = 0 by omega)]
      exact bo_tt ((c_nei what).mpr hw) (by omega) (Bo_ref ha hc hm1 (by decide))
  · rw [if_neg (show ¬ (X4_outside_v n lo hi = 0 ∧ _) by omega)]
    exact bo_tt (by omega) (by omega) (Bo_ref ha hc hm1 (by omega))
theorem ck_yv {K : Option (Int × GG)} {K' : LT → Option (Int × LT)} {C : GG} {M : LT} {a : Ab} (ha : OkA a) (hc : RC a C) (hm : RM a M) {y v lo hi : Int} (h : RM a (lw M 0 14 0) → 0 ≤ y → y < a.s 0 0 → lo ≤ v → v ≤ hi → Bo K (K' (lw M 0 14 0))) :
    Bo (if ¬ (X4_noYard_v C y) = 0 then Option.bind (X4_refuse C (-1)) fun z => some (z.1, z.2) else lt (X4_outside_v v lo hi : Int) fun x => if ¬ x = 0 then Option.bind (X4_refuse C x) fun z => some (z.1, z.2) else K)
      (lt (lw M 0 14 0 : LT) fun L => lt (if ¬ (X5_isYard_v L y) = 0 then X5_wrongNumber_v v lo hi else (-1) : Int) fun x => if x < 0 then Option.bind (X5_refuse L x) fun z => some (z.1, z.2) else K' L) := by
  have hm1 := RM_14 hm 0
  simp only [lt]
  rw [wrN, m_isY hm1.1 ha.1.1 y]
  by_cases hy : 0 ≤ y ∧ y < a.s 0 0
  · rw [if_pos hy, if_pos (show ¬ (1 : Int) = 0 by decide)]
    refine bo_f_ (fun q => (c_noY hc y).mp q hy) ?_
    rcases out_b v lo hi with ⟨q, q1, q2⟩ | q
    · rw [q]
      exact bo_ff (fun z => z rfl) (by omega) (h hm1 hy.1 hy.2 q1 q2)
    · exact bo_tt (by omega) (by omega) (Bo_ref ha hc hm1 (by omega))
  · rw [if_neg hy, if_neg (show ¬ ¬ (0 : Int) = 0 by decide)]
    exact bo_tt ((c_noY hc y).mpr hy) (by decide) (Bo_ref ha hc hm1 (by decide))
theorem ck_t {K : Option (Int × GG)} {K' : LT → Option (Int × LT)} {C : GG} {M : LT} {a : Ab} (ha : OkA a) (hc : RC a C) (hm : RM a M) {t : Int} (h : RM a (lw M 0 14 0) → 0 ≤ t → t < a.s 0 4 → Bo K (K' (lw M 0 14 0))) :
    Bo (if ¬ (X4_noTrain_v C t) = 0 then Option.bind (X4_refuse C (-1)) fun z => some (z.1, z.2) else K)
      (lt (lw M 0 14 0 : LT) fun L => if (X5_isTrain_v L t) = 0 then Option.bind (X5_refuse L (-1)) fun z => some (z.1, z.2) else K' L) := by
  have hm1 := RM_14 hm 0
  simp only [lt]
  rw [m_isT hm1.1 ha.1.1 t]
  by_cases ht : 0 ≤ t ∧ t < a.s 0 4
  · rw [if_pos ht]
    exact bo_ff (fun q => (c_noT hc t).mp q ht) (by decide) (h hm1 ht.1 ht.2)
  · rw [if_neg ht]
    exact bo_tt ((c_noT hc t).mpr ht) (by decide) (Bo_ref ha hc hm1 (by decide))
theorem ck_v {K : Option (Int × GG)} {K' : LT → Option (Int × LT)} {C : GG} {M : LT} {a : Ab} (ha : OkA a) (hc : RC a C) (hm : RM a M) {v lo hi : Int} (h : RM a (lw M 0 14 0) → lo ≤ v → v ≤ hi → Bo K (K' (lw M 0 14 0))) :
    Bo (lt (X4_outside_v v lo hi : Int) fun x => if ¬ x = 0 then Option.bind (X4_refuse C x) fun z => some (z.1, z.2) else K)
      (lt (lw M 0 14 0 : LT) fun L => if (X5_wrongNumber_v v lo hi) < 0 then Option.bind (X5_refuse L (X5_wrongNumber_v v lo hi)) fun z => some (z.1, z.2) else K' L) := by
  have hm1 := RM_14 hm 0
  simp only [lt]
  rw [wrN]
  rcases out_b v lo hi with ⟨q, q1, q2⟩ | q
  · rw [q]
    exact bo_ff (fun z => z rfl) (by omega) (h hm1 q1 q2)
  · exact bo_tt (by omega) (by omega) (Bo_ref ha hc hm1 (by omega))
theorem op_through : Op2 X4_through X5_through := by
  rintro C M ⟨a, ha, hc, hm⟩ n what - -
  refine Bo_op (ck_two ha hc hm (fun hm1 n0 n1 hw => ?_))
  have V := Vs_g ha.1
  have VG := Val_go V.1 n.toNat
  refine ⟨a, cntS (goS n.toNat a.s) (what + 1), ha, ?_, ?_⟩
  · refine okB (c_goInMind hc.1 V n0 n1) ?_
    rintro C' ⟨cf, cl⟩
    have e : (if what = 0 then (1 : Int) else 2) = what + 1 := by split <;> omega
    simp only [e]
    refine okB (c_howMany cl.1.1 VG _) ?_
    rintro r rfl
    exact okS ⟨rfl, RC_G ha hc (CF_G cf)⟩
  · refine okB (f_open ha hm1) ?_
    rintro N ⟨n1', n2⟩
    refine okB (f_hours n1' n2 V n0 (by omega)) ?_
    rintro P ⟨p1, p2, -⟩
    rw [w32_eq (by omega) (by omega)]
    refine okB (m_howMany p1 VG _) ?_
    rintro r rfl
    refine okB (f_close ha p2) ?_
    rintro Q ⟨q1, q2, -⟩
    exact okS ⟨rfl, IM_RM q2 hm1 q1⟩
