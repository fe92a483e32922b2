/-! march, feed -/
def fwS (S : LT) : Nat := (imin 5 (S 0 0)).toNat
theorem fw_b {S : LT} (V : Val S) : 2 ≤ fwS S ∧ fwS S ≤ 5 ∧ (fwS S : Int) ≤ S 0 0 ∧ imin 5 (S 0 0) = (fwS S : Int) := by
  have hv := V.1
  unfold fwS imin
  split <;> omega
def laV (S : LT) (p t y : Int) : Int := if y = t ∧ ¬ p = t then imax 0 ((if y = p ∧ ¬ p = t then imin 99 (S 8 y + 10) else S 8 y) - 10) else if y = p ∧ ¬ p = t then imin 99 (S 8 y + 10) else S 8 y
def laN (S : LT) (p t : Int) : Nat → Int
  | 0 => 99
  | k + 1 => imin (laN S p t k) (laV S p t k)
def laS (S : LT) (p t : Int) : Int := laN S p t (fwS S)
theorem laV_b {S : LT} (V : Val S) {p t y : Int} (y0 : 0 ≤ y) (y1 : y < 16) : 0 ≤ laV S p t y ∧ laV S p t y ≤ 99 := by
  have b := V.2.1 y y0 y1
  unfold laV imax imin
  (repeat' split) <;> omega
theorem laN_b {S : LT} (V : Val S) {p t : Int} : ∀ k : Nat, k ≤ 5 → 0 ≤ laN S p t k ∧ laN S p t k ≤ 99
  | 0, _ => ⟨by show (0 : Int) ≤ 99; omega, Int.le_refl 99⟩
  | k + 1, h => by
    have ih := laN_b V (p := p) (t := t) k (by omega)
    have := laV_b V (p := p) (t := t) (y := k) (by omega) (by omega)
    unfold laN imin
    split <;> omega
theorem laS_b {S : LT} (V : Val S) {p t : Int} : 0 ≤ laS S p t ∧ laS S p t ≤ 99 := laN_b V _ (fw_b V).2.1
theorem c_la {a : Ab} {C : GG} (ha : OkA a) (hc : RC a C) (p t : Int) : Ok (X4_leastAfter C p t) (fun r => r = laS a.s p t) := by
  have V := ha.1.1
  have fb := fw_b V
  unfold X4_leastAfter
  refine okB (P := fun z => z.1 = laS a.s p t) ?_ (fun z q => okS q)
  refine okLoop (fun s => ∃ k : Nat, s.1 = laN a.s p t k ∧ s.2 = (k : Int) ∧ k ≤ fwS a.s) (fun s => ((fwS a.s : Int) - s.2).toNat) ?_ ⟨0, rfl, rfl, by omega⟩
  rintro ⟨b, i⟩ ⟨k, e1, e2, hk⟩
  simp only at e1 e2
  subst e1
  subst e2
  unfold X4_leastAfter_s1 X4_marchYards_v
  simp only
  rw [hc.1.1.1, fb.2.2.2, w32_eq (x := (k : Int) + 1) (by omega) (by omega)]
  refine okI (fun hlt => okG ⟨by omega, by omega⟩ ?_) (fun hlt => okS ?_)
  · have b8 := V.2.1 k (by omega) (by omega)
    rw [(hc.1.2.1 k (by omega) (by omega)).2.2]
    refine okL (okB (P := fun z => z = if (k : Int) = p ∧ ¬ p = t then imin 99 (a.s 8 k + 10) else a.s 8 k) (okI (fun q => okL (okS ?_)) (fun q => okS ?_)) ?_)
    · rw [if_pos q, w32_eq (by omega) (by omega)]
    · rw [if_neg q]
    rintro z rfl
    have zb : 0 ≤ (if (k : Int) = p ∧ ¬ p = t then imin 99 (a.s 8 k + 10) else a.s 8 k) ∧ (if (k : Int) = p ∧ ¬ p = t then imin 99 (a.s 8 k + 10) else a.s 8 k) ≤ 99 := by
      unfold imin
      (repeat' split) <;> omega
    refine okB (P := fun z => z = laV a.s p t k) (okI (fun q => okL (okS ?_)) (fun q => okS ?_)) ?_
    · unfold laV
      rw [if_pos q, w32_eq (by omega) (by omega)]
    · unfold laV
      rw [if_neg q]
    rintro z rfl
    exact okL (okS ⟨⟨k + 1, rfl, rfl, by omega⟩, by show ((fwS a.s : Int) - ((k : Int) + 1)).toNat < ((fwS a.s : Int) - (k : Int)).toNat; omega⟩)
  · show laN a.s p t k = laS a.s p t
    unfold laS
    rw [show fwS a.s = k by omega]
theorem held_p {x : Int} (h0 : 0 ≤ x) : X5_held_v (x + 10) = imin 99 (x + 10) := by
  rw [held_v]
  unfold imax imin
  (repeat' split) <;> omega
theorem held_m {x : Int} (h0 : x ≤ 99) : X5_held_v (x - 10) = imax 0 (x - 10) := by
  rw [held_v]
  unfold imax imin
  (repeat' split) <;> omega
theorem m_la {S M : LT} (h : Sm S M) (V : Val S) (p t : Int) : Ok (X5_leastOfFew M p t (fwS S : Nat)) (fun r => r = laS S p t) := by
  have fb := fw_b V
  unfold X5_leastOfFew
  refine okB (P := fun z => z.1 = laS S p t) ?_ (fun z q => okS q)
  refine okLoop (fun s => ∃ k : Nat, s.1 = laN S p t k ∧ s.2 = (k : Int) ∧ k ≤ fwS S) (fun s => ((fwS S : Int) - s.2).toNat) ?_ ⟨0, rfl, rfl, by omega⟩
  rintro ⟨b, i⟩ ⟨k, e1, e2, hk⟩
  simp only at e1 e2
  subst e1
  subst e2
  unfold X5_leastOfFew_s1
  simp only
  rw [w32_eq (x := (k : Int) + 1) (by omega) (by omega)]
  refine okI (fun hlt => okG ⟨by omega, by omega⟩ ?_) (fun hlt => okS ?_)
  · have b8 := V.2.1 k (by omega) (by omega)
    rw [(h.2.1 k (by omega) (by omega)).2.2]
    refine okL (okLn (fun z1 e1 => okLn (fun z2 e2 => okL (okS ⟨⟨k + 1, ?_, rfl, by omega⟩, by show ((fwS S : Int) - ((k : Int) + 1)).toNat < ((fwS S : Int) - (k : Int)).toNat; omega⟩))))
    rw [w32_eq (by omega) (by omega), held_p b8.2.2.2.2.1] at e1
    have e1' : z1 = if (k : Int) = p ∧ ¬ p = t then imin 99 (S 8 k + 10) else S 8 k := by
      rw [e1]
      by_cases q : (k : Int) = p ∧ ¬ p = t
      · rw [if_pos q, if_pos ⟨q.2, q.1⟩]
      · rw [if_neg q, if_neg (fun z => q ⟨z.2, z.1⟩)]
    have zb : 0 ≤ z1 ∧ z1 ≤ 99 := by
      rw [e1']
      unfold imin
      (repeat' split) <;> omega
    rw [w32_eq (by omega) (by omega), held_m zb.2] at e2
    have e2' : z2 = laV S p t k := by
      unfold laV
      rw [e2, ← e1']
      by_cases q : (k : Int) = t ∧ ¬ p = t
      · rw [if_pos q, if_pos ⟨q.2, q.1⟩]
      · rw [if_neg q, if_neg (fun z => q ⟨z.2, z.1⟩)]
    simp only
    rw [e2']
    rfl
  · show laN S p t k = laS S p t
    unfold laS
    rw [show fwS S = k by omega]
def spN (S : LT) (p : Int) : Nat → Int
  | 0 => 99
  | k + 1 => imin (spN S p k) (laS S p k)
def gmN (S : LT) (t : Int) : Nat → Int
  | 0 => 0
  | k + 1 => imax (gmN S t k) (laS S k t)
def spS (S : LT) (p : Int) : Int := spN S p (fwS S)
def gmS (S : LT) (t : Int) : Int := gmN S t (fwS S)
def smN (S : LT) : Nat → Int
  | 0 => 99
  | k + 1 => imin (smN S k) (gmS S k)
/-- best and most among yards 0..k -/
def mbN (S : LT) : Nat → Int × Int
  | 0 => (0, spS S 0)
  | k + 1 => if (mbN S k).2 < spS S (k + 1 : Nat) then ((k + 1 : Nat), spS S (k + 1 : Nat)) else mbN S k
theorem spN_b {S : LT} (V : Val S) (p : Int) : ∀ k : Nat, 0 ≤ spN S p k ∧ spN S p k ≤ 99
  | 0 => ⟨by show (0 : Int) ≤ 99; omega, Int.le_refl 99⟩
  | k + 1 => by
    have ih := spN_b V p k
    have := laS_b V (p := p) (t := k)
    unfold spN imin
    split <;> omega
theorem gmN_b {S : LT} (V : Val S) (t : Int) : ∀ k : Nat, 0 ≤ gmN S t k ∧ gmN S t k ≤ 99
  | 0 => ⟨Int.le_refl 0, by show (0 : Int) ≤ 99; omega⟩
  | k + 1 => by
    have ih := gmN_b V t k
    have := laS_b V (p := k) (t := t)
    unfold gmN imax
    split <;> omega
theorem c_sp {a : Ab} {C : GG} (ha : OkA a) (hc : RC a C) (p : Int) : Ok (X4_surePouring C p) (fun r => r = spS a.s p) := by
  have V := ha.1.1
  have fb := fw_b V
  unfold X4_surePouring
  refine okB (P := fun z => z.1 = spS a.s p) ?_ (fun z q => okS q)
  refine okLoop (fun s => ∃ k : Nat, s.1 = spN a.s p k ∧ s.2 = (k : Int) ∧ k ≤ fwS a.s) (fun s => ((fwS a.s : Int) - s.2).toNat) ?_ ⟨0, rfl, rfl, by omega⟩
  rintro ⟨b, i⟩ ⟨k, e1, e2, hk⟩
  simp only at e1 e2
  subst e1
  subst e2
  unfold X4_surePouring_s1 X4_marchYards_v
  simp only
  rw [hc.1.1.1, fb.2.2.2, w32_eq (x := (k : Int) + 1) (by omega) (by omega)]
  refine okI (fun hlt => okB (c_la ha hc p k) ?_) (fun hlt => okS ?_)
  · rintro r rfl
    exact okL (okS ⟨⟨k + 1, rfl, rfl, by omega⟩, by show ((fwS a.s : Int) - ((k : Int) + 1)).toNat < ((fwS a.s : Int) - (k : Int)).toNat; omega⟩)
  · show spN a.s p k = spS a.s p
    unfold spS
    rw [show fwS a.s = k by omega]
theorem c_sm {a : Ab} {C : GG} (ha : OkA a) (hc : RC a C) : Ok (X4_sureOfMarch C) (fun r => r = smN a.s (fwS a.s)) := by
  have V := ha.1.1
  have fb := fw_b V
  unfold X4_sureOfMarch
  refine okB (P := fun z => z.1 = smN a.s (fwS a.s)) ?_ (fun z q => okS q)
  refine okLoop (fun s => ∃ k : Nat, s.1 = smN a.s k ∧ s.2 = (k : Int) ∧ k ≤ fwS a.s) (fun s => ((fwS a.s : Int) - s.2).toNat) ?_ ⟨0, rfl, rfl, by omega⟩
  rintro ⟨b, i⟩ ⟨k, e1, e2, hk⟩
  simp only at e1 e2
  subst e1
  subst e2
  unfold X4_sureOfMarch_s2 X4_marchYards_v
  simp only
  rw [hc.1.1.1, fb.2.2.2, w32_eq (x := (k : Int) + 1) (by omega) (by omega)]
  refine okI (fun hlt => okB (P := fun z => z.1 = gmS a.s k) ?_ ?_) (fun hlt => okS ?_)
  · refine okLoop (fun s => ∃ i : Nat, s.1 = gmN a.s k i ∧ s.2 = (i : Int) ∧ i ≤ fwS a.s) (fun s => ((fwS a.s : Int) - s.2).toNat) ?_ ⟨0, rfl, rfl, by omega⟩
    rintro ⟨b, i'⟩ ⟨i, e1, e2, hi⟩
    simp only at e1 e2
    subst e1
    subst e2
    unfold X4_sureOfMarch_s1 X4_marchYards_v
    simp only
    rw [hc.1.1.1, fb.2.2.2, w32_eq (x := (i : Int) + 1) (by omega) (by omega)]
    refine okI (fun hlt => okB (c_la ha hc i k) ?_) (fun hlt => okS ?_)
    · rintro r rfl
      exact okL (okS ⟨⟨i + 1, rfl, rfl, by omega⟩, by show ((fwS a.s : Int) - ((i : Int) + 1)).toNat < ((fwS a.s : Int) - (i : Int)).toNat; omega⟩)
    · show gmN a.s k i = gmS a.s k
      unfold gmS
      rw [show fwS a.s = i by omega]
  · rintro ⟨r, r2⟩ e
    simp only at e
    subst e
    exact okL (okS ⟨⟨k + 1, rfl, rfl, by omega⟩, by show ((fwS a.s : Int) - ((k : Int) + 1)).toNat < ((fwS a.s : Int) - (k : Int)).toNat; omega⟩)
  · show smN a.s k = _
    rw [show fwS a.s = k by omega]
theorem m_min {S M : LT} (h : Sm S M) (V : Val S) (x : Int × Int × Int) (k : Nat) : Ok (lp (X5_march_s1 M (x.1, x.2.1, x.2.2, (k : Int)) (fwS S : Nat)) (999, -1, 0)) (fun z => z.1 = spS S k ∧ z.2.1 = gmS S k) := by
  have fb := fw_b V
  refine okLoop (fun s => ∃ i : Nat, (i = 0 ∧ s.1 = 999 ∧ s.2.1 = -1 ∨ s.1 = spN S k i ∧ s.2.1 = gmN S k i) ∧ s.2.2 = (i : Int) ∧ i ≤ fwS S) (fun s => ((fwS S : Int) - s.2.2).toNat) ?_ ⟨0, Or.inl ⟨rfl, rfl, rfl⟩, rfl, by omega⟩
  rintro ⟨l, g, i'⟩ ⟨i, e1, e2, hi⟩
  simp only at e1 e2
  subst e2
  unfold X5_march_s1
  simp only
  rw [w32_eq (x := (i : Int) + 1) (by omega) (by omega)]
  refine okI (fun hlt => okB (m_la h V k i) ?_) (fun hlt => okS ?_)
  · rintro r rfl
    refine okB (m_la h V i k) ?_
    rintro r rfl
    refine okL (okL (okS ⟨⟨i + 1, Or.inr ?_, rfl, by omega⟩, by show ((fwS S : Int) - ((i : Int) + 1)).toNat < ((fwS S : Int) - (i : Int)).toNat; omega⟩))
    simp only
    have b1 := laS_b V (p := k) (t := i)
    have b2 := laS_b V (p := i) (t := k)
    rcases e1 with ⟨rfl, e1, e2⟩ | ⟨e1, e2⟩
    · rw [e1, e2, if_pos (by omega), if_pos (by omega)]
      unfold spN gmN imin imax spN gmN
      refine ⟨?_, ?_⟩
      · split
        · rfl
        · simp only [Int.natCast_zero] at *; omega
      · split
        · rfl
        · simp only [Int.natCast_zero] at *; omega
    · rw [e1, e2]
      exact ⟨rfl, rfl⟩
  · rcases e1 with ⟨e0, -, -⟩ | e1
    · omega
    · unfold spS gmS
      rw [show fwS S = i by omega]
      exact e1
theorem m_mar {S M : LT} (h : Sm S M) (V : Val S) : Ok (lp (X5_march_s2 M (fwS S : Nat)) (0, -1, 999, 0)) (fun z => (z.1, z.2.1) = mbN S (fwS S - 1) ∧ z.2.2.1 = smN S (fwS S)) := by
  have fb := fw_b V
  refine okLoop (fun s => ∃ i : Nat, (i = 0 ∧ s.1 = 0 ∧ s.2.1 = -1 ∧ s.2.2.1 = 999 ∨ 0 < i ∧ (s.1, s.2.1) = mbN S (i - 1) ∧ s.2.2.1 = smN S i) ∧ s.2.2.2 = (i : Int) ∧ i ≤ fwS S) (fun s => ((fwS S : Int) - s.2.2.2).toNat) ?_ ⟨0, Or.inl ⟨rfl, rfl, rfl, rfl⟩, rfl, by omega⟩
  rintro ⟨b, m, g, i'⟩ ⟨i, e1, e2, hi⟩
  simp only at e1 e2
  subst e2
  unfold X5_march_s2
  simp only
  rw [w32_eq (x := (i : Int) + 1) (by omega) (by omega)]
  refine okI (fun hlt => okB (m_min h V (b, m, g) i) ?_) (fun hlt => okS ?_)
  · rintro ⟨l, g', r⟩ ⟨q1, q2⟩
    simp only at q1 q2
    subst q1
    subst q2
    refine okL (okL (okL (okS ⟨⟨i + 1, Or.inr ⟨by omega, ?_⟩, rfl, by omega⟩, by show ((fwS S : Int) - ((i : Int) + 1)).toNat < ((fwS S : Int) - (i : Int)).toNat; omega⟩)))
    simp only
    have b1 := spN_b V (i : Int) (fwS S)
    have b2 := gmN_b V (i : Int) (fwS S)
    rcases e1 with ⟨rfl, rfl, rfl, rfl⟩ | ⟨hp, e1, rfl⟩
    · unfold spS gmS
      rw [if_pos (by omega), if_pos (by omega), if_pos (by omega)]
      refine ⟨rfl, ?_⟩
      unfold smN imin smN gmS
      split
      · rfl
      · simp only [Int.natCast_zero] at *; omega
    · refine ⟨?_, ?_⟩
      · obtain ⟨j, rfl⟩ : ∃ j, i = j + 1 := ⟨i - 1, by omega⟩
        rw [show j + 1 + 1 - 1 = j + 1 by omega]
        rw [show j + 1 - 1 = j by omega] at e1
        have en : mbN S (j + 1) = if (mbN S j).2 < spS S (j + 1 : Nat) then (((j + 1 : Nat) : Int), spS S (j + 1 : Nat)) else mbN S j := rfl
        rw [en, ← e1]
        simp only
        split <;> rfl
      · show _ = imin (smN S i) (gmS S i)
        rfl
  · rcases e1 with ⟨e0, -, -, -⟩ | ⟨-, e1⟩
    · omega
    · rw [show fwS S = i by omega]
      exact e1
theorem c_mar {a : Ab} {C : GG} (ha : OkA a) (hc : RC a C) : Ok (lp (X4_march_s1 C) (0, spS a.s 0, 1)) (fun z => (z.1, z.2.1) = mbN a.s (fwS a.s - 1)) := by
  have V := ha.1.1
  have fb := fw_b V
  refine okLoop (fun s => ∃ k : Nat, (s.1, s.2.1) = mbN a.s k ∧ s.2.2 = (k : Int) + 1 ∧ k + 1 ≤ fwS a.s) (fun s => ((fwS a.s : Int) - s.2.2).toNat) ?_ ⟨0, rfl, rfl, by omega⟩
  rintro ⟨b, m, i⟩ ⟨k, e1, e2, hk⟩
  simp only at e1 e2
  subst e2
  unfold X4_march_s1 X4_marchYards_v
  simp only
  rw [hc.1.1.1, fb.2.2.2, w32_eq (x := (k : Int) + 1 + 1) (by omega) (by omega)]
  refine okI (fun hlt => okB (c_sp ha hc _) ?_) (fun hlt => okS ?_)
  · rintro r rfl
    have en : mbN a.s (k + 1) = if (mbN a.s k).2 < spS a.s (k + 1 : Nat) then (((k + 1 : Nat) : Int), spS a.s (k + 1 : Nat)) else mbN a.s k := rfl
    have mu : ((fwS a.s : Int) - ((k : Int) + 1 + 1)).toNat < ((fwS a.s : Int) - ((k : Int) + 1)).toNat := by omega
    refine okI (fun q => okS ⟨⟨k + 1, ?_, rfl, by omega⟩, mu⟩) (fun q => okS ⟨⟨k + 1, ?_, rfl, by omega⟩, mu⟩)
    · rw [en, ← e1, if_pos (by exact q)]
      rfl
    · rw [en, ← e1, if_neg (by exact q)]
  · rw [show fwS a.s - 1 = k by omega]
    exact e1
theorem op_march : Op1 X4_march X5_march := by
  rintro C M ⟨a, ha, hc, hm⟩ w -
  have hm1 := RM_14 hm 0
  have V := ha.1.1
  have hv := V.1
  have fb := fw_b V
  refine Bo_op ?_
  unfold X4_march X5_march
  simp only [lt]
  rw [m_in]
  by_cases hw : 0 ≤ w ∧ w ≤ 2
  · rw [if_pos hw]
    have e5 : (if (lw M 0 14 0) 0 0 < 5 then (lw M 0 14 0) 0 0 else 5) = ((fwS a.s : Nat) : Int) := by
      rw [← fb.2.2.2, hm1.1.1.1]
      rfl
    rw [e5]
    have hM := m_mar hm1.1 V
    refine bo_ff (by omega) (by decide) ⟨a, if w = 0 then (mbN a.s (fwS a.s - 1)).2 else if w = 1 then (mbN a.s (fwS a.s - 1)).1 else smN a.s (fwS a.s), ha, ?_, okB hM ?_⟩
    · refine okI (fun q => okB (c_sm ha hc) ?_) (fun q => okB (c_sp ha hc 0) ?_)
      · rintro r rfl
        exact okS ⟨by simp only; rw [if_neg (by omega), if_neg (by omega)], hc⟩
      · rintro r rfl
        refine okB (c_mar ha hc) ?_
        rintro ⟨b, m, i⟩ e
        simp only at e
        refine okS ⟨?_, hc⟩
        rw [← e]
        simp only
        by_cases q0 : w = 0
        · rw [if_pos q0, if_pos q0]
        · rw [if_neg q0, if_neg q0, if_pos (by omega)]
    · rintro ⟨b, m, g, i⟩ ⟨e, e2⟩
      simp only at e e2
      refine okS ⟨?_, hm1⟩
      rw [← e, ← e2]
  · rw [if_neg hw]
    exact bo_tt (by omega) rfl (Bo_ref ha hc hm1 (by decide))
def aLet (a : Ab) (n : Int) (f : Int → Int) : Ab := mkA a.s a.im a.hi a.n a.tu n f a.rn a.rw a.rf
theorem RC_let {a : Ab} {C : GG} (h : RC a C) (n : Int) (f : Int → Int) {C' : GG} (g : ∀ t l, ¬ (t = 2 ∧ l = 0) → C' t l = C t l) (h1 : C' 2 0 0 1 = n) (h2 : ∀ k, 0 ≤ k → k < n → C' 2 0 1 k = f k) : RC (aLet a n f) C' := by
  obtain ⟨e1, ⟨e2, e3⟩, ⟨e4, e5, e6⟩, -, ⟨e9, e10⟩, e11⟩ := h
  have g1 : ∀ l, C' 1 l = C 1 l := fun l => g 1 l (by omega)
  have g3 : C' 3 0 = C 3 0 := g 3 0 (by omega)
  have g0 : C' 0 0 = C 0 0 := g 0 0 (by omega)
  refine ⟨by rw [g1]; exact e1, ⟨by rw [g0]; exact e2, fun q => by rw [g1]; exact e3 q⟩, ⟨by rw [g3]; exact e4, ⟨by rw [g3]; exact e5.1, by rw [g3]; exact e5.2⟩, fun k q0 q1 => by rw [g3, g1]; exact e6 k q0 q1⟩, ⟨h1, h2⟩, ⟨by rw [g0]; exact e9, fun k q0 q1 => by rw [g0]; exact e10 k q0 q1⟩, fun k q0 q1 => by rw [g0]; exact e11 k q0 q1⟩
theorem RM_let {a : Ab} {M : LT} (h : RM a M) (n : Int) (f : Int → Int) {M' : LT} (g : ∀ i j, ¬ (i = 19 ∨ i = 0 ∧ (j = 19 ∨ j = 14)) → M' i j = M i j) (h1 : M' 0 19 = n) (h2 : ∀ k, 0 ≤ k → k < n → M' 19 k = f k) : RM (aLet a n f) M' := by
  obtain ⟨e1, ⟨e2, e3⟩, ⟨e4, e6⟩, -, ⟨e9, e10⟩, e11⟩ := h
  have g28 : M' 28 = M 28 := funext (fun j => g 28 j (by omega))
  have g33 : ∀ j, M' 33 j = M 33 j := fun j => g 33 j (by omega)
  refine ⟨?_, ⟨by rw [g 0 28 (by omega)]; exact e2, fun q => by rw [g28]; exact e3 q⟩, ⟨by rw [g 0 34 (by omega)]; exact e4, fun k q0 q1 => by simp only [g33]; exact e6 k q0 q1⟩, ⟨h1, h2⟩, ⟨by rw [g 0 39 (by omega)]; exact e9, fun k q0 q1 => by rw [g 39 k (by omega)]; exact e10 k q0 q1⟩, fun k q0 q1 => by rw [g 16 k (by omega)]; exact e11 k q0 q1⟩
  obtain ⟨w1, w2, w3⟩ := e1
  refine ⟨?_, fun y y0 y1 => ?_, fun t t0 t1 => ?_⟩
  · rw [g 0 0 (by omega), g 0 4 (by omega), g 0 5 (by omega), g 0 6 (by omega), g 0 7 (by omega)]; exact w1
  · rw [g 2 y (by omega), g 3 y (by omega), g 4 y (by omega)]; exact w2 y y0 y1
  · rw [g 9 t (by omega), g 10 t (by omega), g 11 t (by omega), g 12 t (by omega), g 13 t (by omega), g 14 t (by omega)]; exact w3 t t0 t1
theorem okC {x r : Int} {a : Ab} {C : GG} (h1 : x = r) (h2 : RC a C) : Ok (some (x, C)) (fun z => z.1 = r ∧ RC a z.2) := okS ⟨h1, h2⟩
theorem okM {x r : Int} {a : Ab} {M : LT} (h1 : x = r) (h2 : RM a M) : Ok (some (x, M)) (fun z => z.1 = r ∧ RM a z.2) := okS ⟨h1, h2⟩
theorem op_feed : Op1 X4_feed X5_feed := by
  rintro C M ⟨a, ha, hc, hm⟩ v -
  have hm1 := RM_14 hm 0
  have h9 := hc.2.2.2.1
  have m9 := hm1.2.2.2.1
  have b9 := ha.2.2.2.1
  refine Bo_op ?_
  unfold X4_feed X5_feed
  simp only [lt]
  rw [h9.1, m9.1]
  by_cases h1 : v < 0
  · have e : X4_outside_v v 0 255 = -4 := by unfold X4_outside_v; rw [if_pos h1]
    rw [e]
    exact bo_tt (by decide) h1 (Bo_ref ha hc hm1 (by decide))
  · by_cases h2 : 255 < v
    · have e : X4_outside_v v 0 255 = -6 := by unfold X4_outside_v; rw [if_neg h1, if_pos h2]
      rw [e]
      exact bo_t_ (by decide) (bo__f h1 (bo__t (Or.inl h2) (Bo_ref ha hc hm1 (by decide))))
    · have e : X4_outside_v v 0 255 = 0 := by unfold X4_outside_v; rw [if_neg h1, if_neg h2]
      rw [e]
      refine bo_f_ (fun z => z rfl) (bo__f h1 ?_)
      by_cases h3 : a.ln = 96
      · exact bo_tt (by omega) (Or.inr h3) (Bo_ref ha hc hm1 (by decide))
      · refine bo_ff (by omega) (by omega) ⟨aLet a (a.ln + 1) (fun k => if k = a.ln then v else a.tx k), a.ln + 1, ⟨ha.1, ha.2.1, ha.2.2.1, ⟨by show 0 ≤ a.ln + 1; omega, by show a.ln + 1 ≤ 96; omega, fun k q0 q1 => ?_⟩, ha.2.2.2.2⟩, ?_, ?_⟩
        · show 0 ≤ (if k = a.ln then v else a.tx k) ∧ (if k = a.ln then v else a.tx k) ≤ 255
          have q1' : k < a.ln + 1 := q1
          split
          · omega
          · exact b9.2.2 k q0 (by omega)
        · have e7 : lw (C 2 0) 1 a.ln v 0 1 = a.ln := by rw [lw_i (by decide)]; exact h9.1
          refine okB (P := fun z => z = lw (lw (C 2 0) 1 a.ln v) 0 1 (a.ln + 1)) ?_ ?_
          · unfold X1_add
            rw [h9.1]
            simp only [lt]
            rw [e7, w32_eq (by omega) (by omega)]
            exact okT (by omega) (okG ⟨by omega, by omega⟩ (okS rfl))
          · rintro z rfl
            refine okC (by rw [gs_at, lw_s]) (RC_let hc _ _ (fun t l q => gs_ne q) (by rw [gs_at, lw_s]) (fun k q0 q1 => ?_))
            rw [gs_at, lw_i (by decide)]
            by_cases ek : k = a.ln
            · rw [ek, lw_s, if_pos rfl]
            · rw [lw_j ek, if_neg ek]
              exact h9.2 k q0 (by omega)
        · have e7 : lw (lw M 0 14 0) 19 a.ln v 0 19 = a.ln := by rw [lw_i (by decide)]; exact m9.1
          rw [e7, w32_eq (by omega) (by omega)]
          refine okG ⟨by omega, by omega⟩ (okM (by rw [lw_s]) (RM_let hm _ _ (fun i j q => ?_) (by rw [lw_s]) (fun k q0 q1 => ?_)))
          · rw [lw_n (by omega), lw_n (by omega), lw_n (by omega)]
          · rw [lw_i (by decide)]
            by_cases ek : k = a.ln
            · rw [ek, lw_s, if_pos rfl]
            · rw [lw_j ek, if_neg ek]
              exact m9.2 k q0 (by omega)
