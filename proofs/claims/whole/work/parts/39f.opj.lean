/-! tells, runs, said, lies -/
def bmS (S : LT) (y : Int) : Int := if y = 0 then S 8 0 - S 8 1 else if y = S 0 0 - 1 then S 8 y - S 8 (y - 1) else S 8 y - (S 8 (y - 1) + S 8 (y + 1)) / 2
theorem c_bm {S L : LT} (h : Sc S L) (V : Val S) {y : Int} (y0 : 0 ≤ y) (y1 : y < S 0 0) : X2_besideNeighbours_v L y = bmS S y ∧ X2_besideNeighbours_c L y := by
  have hv := V.1
  have e3 : (if 0 < y then w32 (y - 1) else w32 (y + 1)) = if y = 0 then 1 else y - 1 := by
    rw [w32_eq (by omega) (by omega), w32_eq (by omega) (by omega)]
    split <;> split <;> omega
  have e9 : (if y < w32 (L 0 0 - 1) then w32 (y + 1) else w32 (y - 1)) = if y = S 0 0 - 1 then y - 1 else y + 1 := by
    rw [h.1.1, w32_eq (x := S 0 0 - 1) (by omega) (by omega), w32_eq (by omega) (by omega), w32_eq (by omega) (by omega)]
    split <;> split <;> omega
  refine ⟨?_, ?_⟩
  · show w32 (L 8 y - jdiv (w32 (L 8 (if 0 < y then w32 (y - 1) else w32 (y + 1)) + L 8 (if y < w32 (L 0 0 - 1) then w32 (y + 1) else w32 (y - 1)))) 2) = _
    rw [e3, e9, (h.2.1 y y0 (by omega)).2.2]
    have b0 := V.2.1 y y0 (by omega)
    unfold bmS
    by_cases q0 : y = 0
    · have b1 := V.2.1 1 (by omega) (by omega)
      rw [if_pos q0, if_pos q0, if_neg (show ¬ y = S 0 0 - 1 by omega), q0, show (0 : Int) + 1 = 1 by omega, (h.2.1 1 (by omega) (by omega)).2.2, w32_eq (x := S 8 1 + S 8 1) (by omega) (by omega), jdiv2 (by omega) (by omega)]
      rw [q0] at b0
      rw [w32_eq (by omega) (by omega)]
      omega
    · have b1 := V.2.1 (y - 1) (by omega) (by omega)
      rw [if_neg q0, if_neg q0, (h.2.1 (y - 1) (by omega) (by omega)).2.2]
      by_cases q1 : y = S 0 0 - 1
      · rw [if_pos q1, if_pos q1, (h.2.1 (y - 1) (by omega) (by omega)).2.2, w32_eq (x := S 8 (y - 1) + S 8 (y - 1)) (by omega) (by omega), jdiv2 (by omega) (by omega), w32_eq (by omega) (by omega)]
        omega
      · have b2 := V.2.1 (y + 1) (by omega) (by omega)
        rw [if_neg q1, if_neg q1, (h.2.1 (y + 1) (by omega) (by omega)).2.2, w32_eq (x := S 8 (y - 1) + S 8 (y + 1)) (by omega) (by omega), jdiv2 (by omega) (by omega), w32_eq (by omega) (by omega)]
  · show gd y 16 ∧ gd (if 0 < y then w32 (y - 1) else w32 (y + 1)) 16 ∧ gd (if y < w32 (L 0 0 - 1) then w32 (y + 1) else w32 (y - 1)) 16
    rw [e3, e9]
    refine ⟨⟨y0, by omega⟩, ?_, ?_⟩
    · by_cases q0 : y = 0
      · rw [if_pos q0]; exact ⟨by omega, by omega⟩
      · rw [if_neg q0]; exact ⟨by omega, by omega⟩
    · by_cases q0 : y = S 0 0 - 1
      · rw [if_pos q0]; exact ⟨by omega, by omega⟩
      · rw [if_neg q0]; exact ⟨by omega, by omega⟩
theorem m_bm {S M : LT} (h : Sm S M) (V : Val S) {y : Int} (y0 : 0 ≤ y) (y1 : y < S 0 0) : X5_besideMean_v M y = bmS S y ∧ X5_besideMean_c M y := by
  have hv := V.1
  refine ⟨?_, ?_⟩
  · show w32 (M 4 y - (if y = 0 then M 4 1 else if y = w32 (M 0 0 - 1) then M 4 (w32 (y - 1)) else jdiv (w32 (M 4 (w32 (y - 1)) + M 4 (w32 (y + 1)))) 2)) = _
    have b0 := V.2.1 y y0 (by omega)
    rw [h.1.1, w32_eq (x := S 0 0 - 1) (by omega) (by omega), w32_eq (x := y - 1) (by omega) (by omega), w32_eq (x := y + 1) (by omega) (by omega), (h.2.1 y y0 (by omega)).2.2]
    unfold bmS
    by_cases q0 : y = 0
    · have b1 := V.2.1 1 (by omega) (by omega)
      rw [if_pos q0, if_pos q0, q0, (h.2.1 1 (by omega) (by omega)).2.2]
      rw [q0] at b0
      exact w32_eq (by omega) (by omega)
    · have b1 := V.2.1 (y - 1) (by omega) (by omega)
      rw [if_neg q0, if_neg q0, (h.2.1 (y - 1) (by omega) (by omega)).2.2]
      by_cases q1 : y = S 0 0 - 1
      · rw [if_pos q1, if_pos q1]
        exact w32_eq (by omega) (by omega)
      · have b2 := V.2.1 (y + 1) (by omega) (by omega)
        rw [if_neg q1, if_neg q1, (h.2.1 (y + 1) (by omega) (by omega)).2.2, w32_eq (x := S 8 (y - 1) + S 8 (y + 1)) (by omega) (by omega), jdiv2 (by omega) (by omega)]
        exact w32_eq (by omega) (by omega)
  · unfold X5_besideMean_c
    rw [h.1.1, w32_eq (x := S 0 0 - 1) (by omega) (by omega), w32_eq (x := y - 1) (by omega) (by omega), w32_eq (x := y + 1) (by omega) (by omega)]
    refine ⟨fun _ => ⟨by omega, by omega⟩, fun _ _ => ⟨by omega, by omega⟩, fun _ _ => ⟨by omega, by omega⟩, fun _ _ => ⟨by omega, by omega⟩, ⟨y0, by omega⟩⟩
def teN (S : LT) : Nat → Nat
  | 0 => 0
  | k + 1 => if bmS S (k + 1 : Nat) < bmS S (teN S k) then k + 1 else teN S k
theorem teN_le (S : LT) : ∀ k, teN S k ≤ k
  | 0 => Nat.le_refl 0
  | k + 1 => by
    have := teN_le S k
    unfold teN
    split <;> omega
theorem op_tells : OpR0 X4_tells X5_tells := by
  rintro C M ⟨a, ha, hc, hm⟩
  have hm1 := RM_14 hm 0
  have V := ha.1.1
  have hv := V.1
  refine BoR_op ⟨a, (teN a.s (a.s 0 0 - 1).toNat : Nat), ha, hc, ?_, ?_⟩
  · unfold X4_tells
    obtain ⟨v0, c0⟩ := c_bm hc.1 V (y := 0) (by omega) (by omega)
    rw [v0]
    refine okG c0 (okL ?_)
    refine okB (P := fun z => z.1 = ((teN a.s (a.s 0 0 - 1).toNat : Nat) : Int)) ?_ (fun z q => okS q)
    refine okLoop (fun s => ∃ k : Nat, s.1 = (teN a.s k : Int) ∧ s.2.1 = bmS a.s (teN a.s k) ∧ s.2.2 = (k : Int) + 1 ∧ (k : Int) + 1 ≤ a.s 0 0) (fun s => (a.s 0 0 - s.2.2).toNat) ?_ ⟨0, rfl, rfl, rfl, by omega⟩
    rintro ⟨b, l, i⟩ ⟨k, e1, e3, e2, hk⟩
    simp only at e1 e2 e3
    subst e1
    subst e2
    subst e3
    unfold X4_tells_s1
    simp only
    rw [hc.1.1.1, w32_eq (x := (k : Int) + 1 + 1) (by omega) (by omega)]
    refine okI (fun hlt => ?_) (fun hlt => okS ?_)
    · obtain ⟨v1, c1⟩ := c_bm hc.1 V (y := (k : Int) + 1) (by omega) hlt
      have mu : (a.s 0 0 - ((k : Int) + 1 + 1)).toNat < (a.s 0 0 - ((k : Int) + 1)).toNat := by omega
      rw [v1]
      refine okG c1 (okL (okI (fun q => okS ⟨⟨k + 1, ?_, ?_, by simp, by omega⟩, mu⟩) (fun q => okS ⟨⟨k + 1, ?_, ?_, by simp, by omega⟩, mu⟩)))
      · show (k : Int) + 1 = ((if bmS a.s ((k + 1 : Nat) : Int) < bmS a.s (teN a.s k) then k + 1 else teN a.s k : Nat) : Int)
        rw [if_pos (by exact q)]
        omega
      · show bmS a.s ((k : Int) + 1) = bmS a.s ((if bmS a.s ((k + 1 : Nat) : Int) < bmS a.s (teN a.s k) then k + 1 else teN a.s k : Nat) : Int)
        rw [if_pos (by exact q)]
        rfl
      · show (teN a.s k : Int) = ((if bmS a.s ((k + 1 : Nat) : Int) < bmS a.s (teN a.s k) then k + 1 else teN a.s k : Nat) : Int)
        rw [if_neg (by exact q)]
      · show bmS a.s (teN a.s k) = bmS a.s ((if bmS a.s ((k + 1 : Nat) : Int) < bmS a.s (teN a.s k) then k + 1 else teN a.s k : Nat) : Int)
        rw [if_neg (by exact q)]
    · show (teN a.s k : Int) = _
      rw [show (a.s 0 0 - 1).toNat = k by omega]
  · unfold X5_tells
    refine okL (okB (P := fun z => z.1 = ((teN a.s (a.s 0 0 - 1).toNat : Nat) : Int)) ?_ (fun z q => okS ⟨q, hm1⟩))
    refine okLoop (fun s => ∃ k : Nat, s.1 = (teN a.s k : Int) ∧ s.2 = (k : Int) + 1 ∧ (k : Int) + 1 ≤ a.s 0 0) (fun s => (a.s 0 0 - s.2).toNat) ?_ ⟨0, rfl, rfl, by omega⟩
    rintro ⟨b, i⟩ ⟨k, e1, e2, hk⟩
    simp only at e1 e2
    subst e1
    subst e2
    have tl := teN_le a.s k
    unfold X5_tells_s1
    simp only
    rw [hm1.1.1.1, w32_eq (x := (k : Int) + 1 + 1) (by omega) (by omega)]
    refine okI (fun hlt => ?_) (fun hlt => okS ?_)
    · obtain ⟨v1, c1⟩ := m_bm hm1.1 V (y := (k : Int) + 1) (by omega) hlt
      obtain ⟨v2, c2⟩ := m_bm hm1.1 V (y := (teN a.s k : Int)) (by omega) (by omega)
      rw [v1, v2]
      refine okG c1 (okG c2 (okL (okS ⟨⟨k + 1, ?_, by simp, by omega⟩, by show (a.s 0 0 - ((k : Int) + 1 + 1)).toNat < (a.s 0 0 - ((k : Int) + 1)).toNat; omega⟩)))
      show _ = ((if bmS a.s ((k + 1 : Nat) : Int) < bmS a.s (teN a.s k) then k + 1 else teN a.s k : Nat) : Int)
      by_cases q : bmS a.s ((k : Int) + 1) < bmS a.s (teN a.s k)
      · simp only
        rw [if_pos q, if_pos (by exact q)]
        omega
      · simp only
        rw [if_neg q, if_neg (by exact q)]
    · show (teN a.s k : Int) = _
      rw [show (a.s 0 0 - 1).toNat = k by omega]
/-- runs: the longest, its first, the run -/
def ruF (p : Int × Int × Int) (k x : Int) : Int × Int × Int := if p.1 < x then (x, k + 1 - x, x) else (p.1, p.2.1, x)
noncomputable def ruN (S : LT) (w : Int) : Nat → Int × Int × Int
  | 0 => (0, -9, 0)
  | k + 1 => ruF (ruN S w k) k (cif (brS S w k) ((ruN S w k).2.2 + 1) 0)
theorem ru_b (S : LT) (w : Int) : ∀ k : Nat, 0 ≤ (ruN S w k).1 ∧ 0 ≤ (ruN S w k).2.2 ∧ (ruN S w k).2.2 ≤ k ∧ (ruN S w k).1 ≤ k
  | 0 => ⟨Int.le_refl 0, Int.le_refl 0, Int.le_refl 0, Int.le_refl 0⟩
  | k + 1 => by
    have ih := ru_b S w k
    have xb : 0 ≤ cif (brS S w k) ((ruN S w k).2.2 + 1) 0 ∧ cif (brS S w k) ((ruN S w k).2.2 + 1) 0 ≤ (k : Int) + 1 := by
      by_cases q : brS S w k
      · rw [cif_t q]; omega
      · rw [cif_f q]; omega
    unfold ruN
    generalize cif (brS S w k) ((ruN S w k).2.2 + 1) 0 = x at xb
    unfold ruF
    split
    · simp only; omega
    · simp only; omega
theorem op_runs : Op2 X4_runs X5_runs := by
  rintro C M ⟨a, ha, hc, hm⟩ w what - -
  refine Bo_op (ck_two ha hc hm (fun hm1 w0 w1 hw => ?_))
  have V := ha.1.1
  have hv := V.1
  refine ⟨a, if what = 0 then (ruN a.s w (a.s 0 0).toNat).1 else (ruN a.s w (a.s 0 0).toNat).2.1, ha, ?_, ?_⟩
  · refine okB (P := fun z => z.1 = (ruN a.s w (a.s 0 0).toNat).1 ∧ z.2.1 = (ruN a.s w (a.s 0 0).toNat).2.1) ?_ (fun z q => okS ⟨by simp only; rw [q.1, q.2], hc⟩)
    refine okLoop (fun s => ∃ k : Nat, s.1 = (ruN a.s w k).1 ∧ s.2.1 = (ruN a.s w k).2.1 ∧ s.2.2.1 = (ruN a.s w k).2.2 ∧ s.2.2.2 = (k : Int) ∧ (k : Int) ≤ a.s 0 0) (fun s => (a.s 0 0 - s.2.2.2).toNat) ?_ ⟨0, rfl, rfl, rfl, rfl, by omega⟩
    rintro ⟨m, f, r, i⟩ ⟨k, e1, e2, e3, e4, hk⟩
    simp only at e1 e2 e3 e4
    subst e1
    subst e2
    subst e3
    subst e4
    have rb := ru_b a.s w k
    unfold X4_runs_s1
    simp only
    rw [hc.1.1.1, w32_eq (x := (k : Int) + 1) (by omega) (by omega), w32_eq (x := (ruN a.s w k).2.2 + 1) (by omega) (by omega)]
    refine okI (fun hlt => okG ⟨by omega, by omega⟩ ?_) (fun hlt => okS ?_)
    · have cb := c_br hc.1 (y := k) (w := w) (by omega) (by omega)
      have ex : (if ¬ X2_bears_v (C 1 0) k w = 0 then (ruN a.s w k).2.2 + 1 else 0) = cif (brS a.s w k) ((ruN a.s w k).2.2 + 1) 0 := by
        by_cases q : brS a.s w k
        · rw [cif_t q, if_pos (fun z => cb.mp z q)]
        · rw [cif_f q, if_neg (fun z => z (cb.mpr q))]
      have xb : 0 ≤ cif (brS a.s w k) ((ruN a.s w k).2.2 + 1) 0 ∧ cif (brS a.s w k) ((ruN a.s w k).2.2 + 1) 0 ≤ (k : Int) + 1 := by
        by_cases q : brS a.s w k
        · rw [cif_t q]; omega
        · rw [cif_f q]; omega
      have en : ruN a.s w (k + 1) = ruF (ruN a.s w k) k (cif (brS a.s w k) ((ruN a.s w k).2.2 + 1) 0) := rfl
      rw [ex]
      generalize cif (brS a.s w k) ((ruN a.s w k).2.2 + 1) 0 = x at xb en
      have mu : (a.s 0 0 - ((k : Int) + 1)).toNat < (a.s 0 0 - (k : Int)).toNat := by omega
      refine okL (okI (fun q => okL (okS ⟨⟨k + 1, ?_, ?_, ?_, rfl, by omega⟩, mu⟩)) (fun q => okS ⟨⟨k + 1, ?_, ?_, ?_, rfl, by omega⟩, mu⟩))
      · rw [en]; unfold ruF; rw [if_pos q]
      · rw [en]; unfold ruF; rw [if_pos q]; exact w32_eq (by omega) (by omega)
      · rw [en]; unfold ruF; rw [if_pos q]
      · rw [en]; unfold ruF; rw [if_neg q]
      · rw [en]; unfold ruF; rw [if_neg q]
      · rw [en]; unfold ruF; rw [if_neg q]
    · rw [show (a.s 0 0).toNat = k by omega]
      exact ⟨rfl, rfl⟩
  · refine okB (P := fun z => z.2.1 = (ruN a.s w (a.s 0 0).toNat).1 ∧ z.2.2.1 = (ruN a.s w (a.s 0 0).toNat).2.1) ?_ (fun z q => okS ⟨by simp only; rw [q.1, q.2], hm1⟩)
    refine okLoop (fun s => ∃ k : Nat, s.2.1 = (ruN a.s w k).1 ∧ s.2.2.1 = (ruN a.s w k).2.1 ∧ s.1 = (ruN a.s w k).2.2 ∧ s.2.2.2 = (k : Int) ∧ (k : Int) ≤ a.s 0 0) (fun s => (a.s 0 0 - s.2.2.2).toNat) ?_ ⟨0, rfl, rfl, rfl, rfl, by omega⟩
    rintro ⟨r, m, f, i⟩ ⟨k, e1, e2, e3, e4, hk⟩
    simp only at e1 e2 e3 e4
    subst e1
    subst e2
    subst e3
    subst e4
    have rb := ru_b a.s w k
    unfold X5_runs_s1
    simp only
    rw [hm1.1.1.1, w32_eq (x := (k : Int) + 1) (by omega) (by omega), w32_eq (x := (ruN a.s w k).2.2 + 1) (by omega) (by omega)]
    refine okI (fun hlt => okG ⟨⟨by omega, by omega⟩, ⟨by omega, by omega⟩⟩ ?_) (fun hlt => okS ?_)
    · have cb := m_br hm1.1 (y := k) (w := w) (by omega) (by omega)
      have ex : (if ¬ X5_bears_v (lw M 0 14 0) k w = 0 then (ruN a.s w k).2.2 + 1 else 0) = cif (brS a.s w k) ((ruN a.s w k).2.2 + 1) 0 := by
        by_cases q : brS a.s w k
        · rw [cif_t q, if_pos (fun z => cb.mp z q)]
        · rw [cif_f q, if_neg (fun z => z (cb.mpr q))]
      have xb : 0 ≤ cif (brS a.s w k) ((ruN a.s w k).2.2 + 1) 0 ∧ cif (brS a.s w k) ((ruN a.s w k).2.2 + 1) 0 ≤ (k : Int) + 1 := by
        by_cases q : brS a.s w k
        · rw [cif_t q]; omega
        · rw [cif_f q]; omega
      have en : ruN a.s w (k + 1) = ruF (ruN a.s w k) k (cif (brS a.s w k) ((ruN a.s w k).2.2 + 1) 0) := rfl
      rw [ex]
      generalize cif (brS a.s w k) ((ruN a.s w k).2.2 + 1) 0 = x at xb en
      have mu : (a.s 0 0 - ((k : Int) + 1)).toNat < (a.s 0 0 - (k : Int)).toNat := by omega
      refine okL (okL (okL (okS ⟨⟨k + 1, ?_, ?_, ?_, rfl, by omega⟩, mu⟩)))
      · rw [en]; unfold ruF; simp only; split <;> rfl
      · rw [en]; unfold ruF; simp only
        rw [w32_eq (x := (k : Int) - x) (by omega) (by omega), w32_eq (x := (k : Int) - x + 1) (by omega) (by omega)]
        split
        · simp only; omega
        · rfl
      · rw [en]; unfold ruF; simp only; split <;> rfl
    · rw [show (a.s 0 0).toNat = k by omega]
      exact ⟨rfl, rfl⟩
/-- can w have been said -/
def saP (a : Ab) (w : Int) : Prop := ∀ j, 0 ≤ j → j < a.rn → a.rw j = 99 ∨ a.rw j = w
noncomputable def saN (a : Ab) : Nat → Nat
  | 0 => 0
  | k + 1 => cif (saP a k) (saN a k ||| 2 ^ k) (saN a k)
theorem sa_b (a : Ab) : ∀ k : Nat, k ≤ 10 → saN a k < 1024
  | 0, _ => by unfold saN; omega
  | k + 1, h => by
    have ih := sa_b a k (by omega)
    unfold saN
    by_cases q : saP a k
    · rw [cif_t q]
      exact Nat.or_lt_two_pow (n := 10) ih (Nat.pow_lt_pow_right (by omega) (by omega))
    · rw [cif_f q]; exact ih
theorem c_sa {a : Ab} {C : GG} (ha : OkA a) (hc : RC a C) (w : Int) : Ok (X4_canBeSaid C w) (fun r => ¬ r = 0 ↔ saP a w) := by
  have b9 := ha.2.2.2.2
  have h9 := hc.2.2.2.2.1
  unfold X4_canBeSaid
  refine okB (P := fun o => match o with
    | .inl _ => saP a w
    | .inr r => r = 0 ∧ ¬ saP a w) ?_ ?_
  · refine okLoop (fun s => 0 ≤ s ∧ ∀ y, 0 ≤ y → y < s → a.rw y = 99 ∨ a.rw y = w) (fun s => (a.rn - s).toNat) ?_ ⟨Int.le_refl 0, fun y a b => by omega⟩
    rintro y ⟨y0, hI⟩
    unfold X4_canBeSaid_s1
    rw [h9.1]
    refine okI (fun hlt => okG ⟨y0, by omega⟩ ?_) (fun hlt => okS (fun u u0 u1 => hI u u0 (by omega)))
    rw [h9.2 y y0 hlt, w32_eq (by omega) (by omega)]
    refine okI (fun q => okS ⟨rfl, fun z => ?_⟩) (fun q => okS ⟨⟨by omega, fun u u0 u1 => ?_⟩, by show (a.rn - (y + 1)).toNat < (a.rn - y).toNat; omega⟩)
    · rcases z y y0 hlt with e | e
      · exact q.1 e
      · exact q.2 e
    · by_cases e : u = y
      · rw [e]
        by_cases q1 : a.rw y = 99
        · exact Or.inl q1
        · by_cases q2 : a.rw y = w
          · exact Or.inr q2
          · exact absurd ⟨q1, q2⟩ q
      · exact hI u u0 (by omega)
  · rintro (z | z) hz
    · exact okS ⟨fun _ => hz, fun _ => by decide⟩
    · exact okS ⟨fun q => absurd hz.1 q, fun q => absurd q hz.2⟩
theorem m_sa {a : Ab} {M : LT} (ha : OkA a) (hm : RM a M) (s3 : Int × Int) : Ok (lp (X5_said_s1 M s3) (1, 0)) (fun z => ¬ z.1 = 0 ↔ saP a s3.2) := by
  have b9 := ha.2.2.2.2
  have h9 := hm.2.2.2.2.1
  refine okLoop (fun s => 0 ≤ s.2 ∧ s.2 ≤ a.rn ∧ (¬ s.1 = 0 ↔ ∀ y, 0 ≤ y → y < s.2 → a.rw y = 99 ∨ a.rw y = s3.2)) (fun s => (a.rn - s.2).toNat) ?_ ⟨Int.le_refl 0, by show (0 : Int) ≤ a.rn; omega, fun _ y a b => by simp only at b; omega, fun _ => by decide⟩
  rintro ⟨r, y⟩ ⟨y0, y1, hI⟩
  simp only at y0 y1 hI
  unfold X5_said_s1
  simp only
  rw [h9.1, w32_eq (x := y + 1) (by omega) (by omega)]
  refine okI (fun hlt => okG (fun _ => ⟨y0, by omega⟩) (okG (fun _ _ => ⟨y0, by omega⟩) (okL (okS ⟨⟨by simp only; omega, by simp only; omega, ?_⟩, by show (a.rn - (y + 1)).toNat < (a.rn - y).toNat; omega⟩)))) (fun hlt => okS ?_)
  · simp only
    rw [h9.2 y y0 hlt]
    by_cases q : ¬ r = 0 ∧ (a.rw y = 99 ∨ a.rw y = s3.2)
    · rw [if_pos q]
      refine ⟨fun _ u u0 u1 => ?_, fun _ => by decide⟩
      by_cases e : u = y
      · rw [e]; exact q.2
      · exact hI.mp q.1 u u0 (by omega)
    · rw [if_neg q]
      refine ⟨fun z => absurd rfl z, fun z => absurd ⟨hI.mpr (fun u u0 u1 => z u u0 (by omega)), z y y0 (by omega)⟩ q⟩
  · have e : y = a.rn := by omega
    rw [e] at hI
    exact hI
theorem op_said : OpR0 X4_said X5_said := by
  rintro C M ⟨a, ha, hc, hm⟩
  have hm1 := RM_14 hm 0
  refine BoR_op ⟨a, (saN a 10 : Nat), ha, hc, ?_, ?_⟩
  · unfold X4_said
    refine okB (P := fun z => z.1 = ((saN a 10 : Nat) : Int)) ?_ (fun z q => okS q)
    refine okLoop (fun s => ∃ k : Nat, s.1 = (saN a k : Int) ∧ s.2 = (k : Int) ∧ k ≤ 10) (fun s => (10 - s.2).toNat) ?_ ⟨0, rfl, rfl, by omega⟩
    rintro ⟨b, i⟩ ⟨k, e1, e2, hk⟩
    simp only at e1 e2
    subst e1
    subst e2
    unfold X4_said_s1
    simp only
    rw [w32_eq (x := (k : Int) + 1) (by omega) (by omega)]
    refine okI (fun hlt => okB (c_sa ha hc k) ?_) (fun hlt => okS ?_)
    · intro r hr
      have sb := sa_b a k hk
      have mu : (10 - ((k : Int) + 1)).toNat < (10 - (k : Int)).toNat := by omega
      refine okI (fun q => okL (okS ⟨⟨k + 1, ?_, rfl, by omega⟩, mu⟩)) (fun q => okS ⟨⟨k + 1, ?_, rfl, by omega⟩, mu⟩)
      · have sh : b_shl 1 (k : Int) = ((2 ^ k : Nat) : Int) := b_shl_n ⟨k, by omega⟩
        have hp : 2 ^ k < 2 ^ 10 := Nat.pow_lt_pow_right (by omega) (by omega)
        simp only
        have e : saN a (k + 1) = cif (saP a k) (saN a k ||| 2 ^ k) (saN a k) := rfl
        rw [sh, (b_or_n (n := saN a k) (m := 2 ^ k) (by omega) (by omega)).1, e, cif_t (hr.mp q)]
      · simp only
        have e : saN a (k + 1) = cif (saP a k) (saN a k ||| 2 ^ k) (saN a k) := rfl
        rw [e, cif_f (fun z => q (hr.mpr z))]
    · have e : k = 10 := by omega
      rw [e]
      exact rfl
  · unfold X5_said
    refine okL (okB (P := fun z => z.1 = ((saN a 10 : Nat) : Int)) ?_ (fun z q => okS ⟨q, hm1⟩))
    refine okLoop (fun s => ∃ k : Nat, s.1 = (saN a k : Int) ∧ s.2 = (k : Int) ∧ k ≤ 10) (fun s => (10 - s.2).toNat) ?_ ⟨0, rfl, rfl, by omega⟩
    rintro ⟨b, i⟩ ⟨k, e1, e2, hk⟩
    simp only at e1 e2
    subst e1
    subst e2
    unfold X5_said_s2
    simp only
    rw [w32_eq (x := (k : Int) + 1) (by omega) (by omega)]
    refine okI (fun hlt => okB (m_sa ha hm1 _) ?_) (fun hlt => okS ?_)
    · rintro ⟨r, r2⟩ hr
      simp only at hr
      have sb := sa_b a k hk
      have mu : (10 - ((k : Int) + 1)).toNat < (10 - (k : Int)).toNat := by omega
      have e : saN a (k + 1) = cif (saP a k) (saN a k ||| 2 ^ k) (saN a k) := rfl
      refine okL (okS ⟨⟨k + 1, ?_, rfl, by omega⟩, mu⟩)
      simp only
      by_cases q : r = 0
      · have eb : b_or (saN a k : Int) 0 = (saN a k : Int) := by
          have := (b_or_n (n := saN a k) (m := 0) (by omega) (by omega)).1
          rw [Nat.or_zero] at this
          exact this
        rw [if_neg (fun z => z q), eb, e, cif_f (fun z => hr.mpr z q)]
      · have sh : b_shl 1 (k : Int) = ((2 ^ k : Nat) : Int) := b_shl_n ⟨k, by omega⟩
        have hp : 2 ^ k < 2 ^ 10 := Nat.pow_lt_pow_right (by omega) (by omega)
        rw [if_pos q, sh, (b_or_n (n := saN a k) (m := 2 ^ k) (by omega) (by omega)).1, e, cif_t (hr.mp q)]
    · have e : k = 10 := by omega
      rw [e]
      exact rfl
theorem BoR_rel {C : GG} {f : Option Int} {m : Option (Int × LT)} {a : Ab} (Q : Int → Prop) (ha : OkA a) (hc : RC a C) (u : ∀ r r', Q r → Q r' → r = r') (h1 : Ok f Q) (h2 : Ok m (fun z => Q z.1 ∧ RM a z.2)) : BoR C f m := by
  obtain ⟨z, e1, q1⟩ := h1
  obtain ⟨w, e2, p1, p2⟩ := h2
  exact ⟨a, z, ha, hc, ⟨z, e1, rfl⟩, ⟨w, e2, u _ _ p1 q1, p2⟩⟩
/-- the first known number of the first k -/
def lkN (a : Ab) : Nat → Int
  | 0 => 99
  | k + 1 => if lkN a k = 99 then a.rw k else lkN a k
def liP (a : Ab) (k : Nat) : Prop := ¬ a.rw k = 99 ∧ ¬ a.rw k = lkN a (k + 1)
theorem op_lies : OpR0 X4_lies X5_lies := by
  rintro C M ⟨a, ha, hc, hm⟩
  have hm1 := RM_14 hm 0
  have b9 := ha.2.2.2.2
  have h9 := hc.2.2.2.2.1
  have m9 := hm1.2.2.2.2.1
  refine BoR_op (BoR_rel (Fst (liP a) a.rn.toNat) ha hc (fun _ _ => Fst_u) ?_ ?_)
  · unfold X4_lies
    refine okB (P := fun o => match o with
      | .inl _ => ∀ k : Nat, k < a.rn.toNat → ¬ liP a k
      | .inr z => Fst (liP a) a.rn.toNat z) ?_ ?_
    · refine okLoop (fun s => ∃ k : Nat, s.1 = lkN a k ∧ s.2 = (k : Int) ∧ (k : Int) ≤ a.rn ∧ ∀ i : Nat, i < k → ¬ liP a i) (fun s => (a.rn - s.2).toNat) ?_ ⟨0, rfl, rfl, by omega, fun i q => by omega⟩
      rintro ⟨b, i⟩ ⟨k, e1, e2, hk, hI⟩
      simp only at e1 e2
      subst e1
      subst e2
      unfold X4_lies_s1
      simp only
      have en : lkN a (k + 1) = if lkN a k = 99 then a.rw k else lkN a k := rfl
      rw [h9.1, w32_eq (x := (k : Int) + 1) (by omega) (by omega)]
      refine okI (fun hlt => ?_) (fun hlt => okS (by rw [show a.rn.toNat = k by omega]; exact hI))
      have mu : (a.rn - ((k : Int) + 1)).toNat < (a.rn - (k : Int)).toNat := by omega
      have nx : ¬ liP a k → ∀ i : Nat, i < k + 1 → ¬ liP a i := fun q i hi => by
        by_cases e : i = k
        · rw [e]; exact q
        · exact hI i (by omega)
      rw [h9.2 k (by omega) hlt]
      refine okI (fun q => okG ⟨by omega, by omega⟩ (okL (okS ⟨⟨k + 1, by rw [en, if_pos q], rfl, by omega, nx (fun z => z.2 (by rw [en, if_pos q]))⟩, mu⟩))) (fun q => okG ⟨by omega, by omega⟩ (okI (fun q2 => okS ?_) (fun q2 => okS ⟨⟨k + 1, by rw [en, if_neg q], rfl, by omega, nx (fun z => q2 ⟨z.1, fun z2 => z.2 (by rw [en, if_neg q]; exact z2)⟩)⟩, mu⟩)))
      exact Or.inr ⟨k, by omega, rfl, ⟨q2.1, by rw [en, if_neg q]; exact q2.2⟩, hI⟩
    · rintro (z | z) hz
      · exact okS (Or.inl ⟨rfl, hz⟩)
      · exact okS hz
  · unfold X5_lies
    refine okL (okB (P := fun o => match o with
      | .inl _ => ∀ k : Nat, k < a.rn.toNat → ¬ liP a k
      | .inr z => Fst (liP a) a.rn.toNat z.1 ∧ RM a z.2) ?_ ?_)
    · refine okLoop (fun s => ∃ k : Nat, s.1 = lkN a k ∧ s.2 = (k : Int) ∧ (k : Int) ≤ a.rn ∧ ∀ i : Nat, i < k → ¬ liP a i) (fun s => (a.rn - s.2).toNat) ?_ ⟨0, rfl, rfl, by omega, fun i q => by omega⟩
      rintro ⟨b, i⟩ ⟨k, e1, e2, hk, hI⟩
      simp only at e1 e2
      subst e1
      subst e2
      unfold X5_lies_s1
      simp only
      have en : (if lkN a k = 99 then a.rw k else lkN a k) = lkN a (k + 1) := rfl
      rw [m9.1, w32_eq (x := (k : Int) + 1) (by omega) (by omega)]
      refine okI (fun hlt => ?_) (fun hlt => okS (by rw [show a.rn.toNat = k by omega]; exact hI))
      have mu : (a.rn - ((k : Int) + 1)).toNat < (a.rn - (k : Int)).toNat := by omega
      rw [m9.2 k (by omega) hlt, en]
      refine okG (fun _ => ⟨by omega, by omega⟩) (okL (okG ⟨by omega, by omega⟩ (okI (fun q2 => okS ⟨Or.inr ⟨k, by omega, rfl, q2, hI⟩, hm1⟩) (fun q2 => okS ⟨⟨k + 1, rfl, rfl, by omega, fun i hi => ?_⟩, mu⟩))))
      by_cases e : i = k
      · rw [e]; exact q2
      · exact hI i (by omega)
    · rintro (z | z) hz
      · exact okS ⟨Or.inl ⟨rfl, hz⟩, hm1⟩
      · exact okS hz
