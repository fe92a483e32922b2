/-! Calls that only read -/
theorem bo_c {c : Prop} [Decidable c] {A B : Option (Int × GG)} {A' B' : Option (Int × LT)} (ht : c → Bo A A') (hf : ¬ c → Bo B B') : Bo (if c then A else B) (if c then A' else B') := by
  by_cases h : c
  · rw [if_pos h, if_pos h]; exact ht h
  · rw [if_neg h, if_neg h]; exact hf h
def BoR (C : GG) (f : Option Int) (m : Option (Int × LT)) : Prop := ∃ (a : Ab) (r : Int), OkA a ∧ RC a C ∧ Ok f (fun z => z = r) ∧ Ok m (fun z => z.1 = r ∧ RM a z.2)
theorem BoR_op {C : GG} {f : Option Int} {m : Option (Int × LT)} (h : BoR C f m) : ∃ (r : Int) (M' : LT), f = some r ∧ m = some (r, M') ∧ Rel C M' := by
  obtain ⟨a, r, ha, hc, ⟨x, e1, rfl⟩, ⟨⟨y, M'⟩, e2, rfl, h2⟩⟩ := h
  exact ⟨y, M', e1, e2, a, ha, hc, h2⟩
theorem bor_c {C : GG} {c : Prop} [Decidable c] {A B : Option Int} {A' B' : Option (Int × LT)} (ht : c → BoR C A A') (hf : ¬ c → BoR C B B') : BoR C (if c then A else B) (if c then A' else B') := by
  by_cases h : c
  · rw [if_pos h, if_pos h]; exact ht h
  · rw [if_neg h, if_neg h]; exact hf h
theorem op_count : OpR1 X4_count X5_count := by
  rintro C M ⟨a, ha, hc, hm⟩ w -
  have hm1 := RM_14 hm 0
  have V := ha.1.1
  refine BoR_op ?_
  unfold X4_count X5_count
  simp only [lt]
  obtain ⟨⟨⟨c0, c1, c2, c3, c4⟩, -, -⟩, -, ⟨c5, -⟩, ⟨c6, -⟩, ⟨c7, -⟩, c8⟩ := id hc
  obtain ⟨⟨⟨m0, m1, m2, m3, m4⟩, -, -⟩, -, ⟨m5, -⟩, ⟨m6, -⟩, ⟨m7, -⟩, m8⟩ := id hm1
  have mk : ∀ {f : Option Int} {m : Option (Int × LT)} (r : Int), Ok f (fun z => z = r) → Ok m (fun z => z.1 = r ∧ RM a z.2) → BoR C f m := fun r h1 h2 => ⟨a, r, ha, hc, h1, h2⟩
  by_cases h : 11 ≤ w ∧ w ≤ 16
  · rw [if_pos h, w32_eq (x := w - 10) (by omega) (by omega), m_in, if_pos h, if_neg (show ¬ w = 0 by omega), if_neg (show ¬ w = 1 by omega), if_neg (show ¬ w = 2 by omega), if_neg (show ¬ w = 3 by omega), if_neg (show ¬ w = 4 by omega), if_neg (show ¬ w = 5 by omega), if_neg (show ¬ w = 6 by omega), if_neg (show ¬ w = 7 by omega), if_neg (show ¬ w = 8 by omega)]
    refine mk (a.rf (w - 10)) (okG ⟨by omega, by omega⟩ (okS (c8 _ (by omega) (by omega)))) (okG (fun _ => ⟨by omega, by omega⟩) (okS ⟨?_, hm1⟩))
    rw [if_pos (show ¬ (1 : Int) = 0 by decide)]
    exact m8 _ (by omega) (by omega)
  · rw [if_neg h]
    refine bor_c (fun _ => mk _ (okS c0) (okS ⟨m0, hm1⟩)) (fun _ => ?_)
    refine bor_c (fun _ => mk _ (okS c4) (okS ⟨m4, hm1⟩)) (fun _ => ?_)
    refine bor_c (fun _ => mk _ (okS c1) (okS ⟨m1, hm1⟩)) (fun _ => ?_)
    refine bor_c (fun _ => mk _ (okS c2) (okS ⟨m2, hm1⟩)) (fun _ => ?_)
    refine bor_c (fun _ => mk _ (okS c3) (okS ⟨m3, hm1⟩)) (fun _ => ?_)
    refine bor_c (fun _ => mk (fsS a.s) (okB (c_allFrost hc.1 V) (fun z q => okS q)) (okB (m_allFrost hm1.1 V) (fun z q => okS ⟨q, hm1⟩))) (fun _ => ?_)
    refine bor_c (fun _ => mk _ (okS c6) (okS ⟨m6, hm1⟩)) (fun _ => ?_)
    refine bor_c (fun _ => mk _ (okS c7) (okS ⟨m7, hm1⟩)) (fun _ => ?_)
    refine bor_c (fun _ => mk _ (okS c5) (okS ⟨m5, hm1⟩)) (fun _ => ?_)
    rw [m_in, if_neg h]
    exact mk (-9) (okS rfl) (okG (fun z => absurd rfl z) (okS ⟨rfl, hm1⟩))
theorem op_yard : Op2 X4_yard X5_yard := by
  rintro C M ⟨a, ha, hc, hm⟩ y w - -
  have hm1 := RM_14 hm 0
  have V := ha.1.1
  have hv := V.1
  refine Bo_op ?_
  unfold X4_yard X5_yard
  simp only [lt]
  rw [m_isY hm1.1 V y, m_in]
  by_cases hy : 0 ≤ y ∧ y < a.s 0 0
  · rw [if_pos hy]
    refine bo_f_ (fun q => (c_noY hc y).mp q hy) ?_
    by_cases hw : 0 ≤ w ∧ w ≤ 5
    · rw [if_pos hw]
      refine bo__f (by omega) ?_
      have g16 : gd y 16 := ⟨hy.1, by omega⟩
      have g16' : 0 ≤ y ∧ y < 16 := ⟨hy.1, by omega⟩
      obtain ⟨k6, k7, k8⟩ := hc.1.2.1 y hy.1 (by omega)
      obtain ⟨l6, l7, l8⟩ := hm1.1.2.1 y hy.1 (by omega)
      have mk : ∀ {f : Option (Int × GG)} {m : Option (Int × LT)} (r : Int), Ok f (fun z => z.1 = r ∧ RC a z.2) → Ok m (fun z => z.1 = r ∧ RM a z.2) → Bo f m := fun r h1 h2 => ⟨a, r, ha, h1, h2⟩
      refine bo_c (fun _ => mk _ (okG g16 (okS ⟨k6, hc⟩)) (okG g16 (okS ⟨l6, hm1⟩))) (fun _ => ?_)
      refine bo_c (fun _ => mk _ (okG g16 (okS ⟨k7, hc⟩)) (okG g16 (okS ⟨l7, hm1⟩))) (fun _ => ?_)
      refine bo_c (fun _ => mk _ (okG g16 (okS ⟨k8, hc⟩)) (okG g16 (okS ⟨l8, hm1⟩))) (fun _ => ?_)
      refine bo_c (fun _ => mk (X0_freezes_v (a.s 6 y) (a.s 7 y) (a.s 0 2)) (okG g16 (okS ⟨by simp only; rw [k6, k7, hc.1.1.2.2.1], hc⟩)) (okG ?_ (okS ⟨by simp only; rw [x5_freezes, l6, l7, hm1.1.1.2.2.1], hm1⟩))) (fun _ => ?_)
      · unfold X5_freezes_c
        simp only [gd, g16', and_self, implies_true]
      refine bo_c (fun _ => mk (X0_melts_v (a.s 6 y) (a.s 7 y) (a.s 0 3)) (okG g16 (okS ⟨by simp only; rw [k6, k7, hc.1.1.2.2.2.1], hc⟩)) (okG ?_ (okS ⟨by simp only; rw [x5_melts, l6, l7, hm1.1.1.2.2.2.1], hm1⟩))) (fun _ => ?_)
      · unfold X5_melts_c
        simp only [gd, g16', and_self, implies_true]
      refine bo_t_ (by omega) (mk (X0_wants_v (a.s 6 y) (a.s 7 y) 20) (okG g16 (okS ⟨by simp only; rw [k6, k7], hc⟩)) (okG ?_ (okS ⟨by simp only; rw [x5_wants, l6, l7], hm1⟩)))
      unfold X5_wants_c
      simp only [gd, g16', and_self, implies_true]
    · rw [if_neg hw, if_pos (show ¬ (1 : Int) = 0 by decide)]
      refine bo__t (Or.inr rfl) ?_
      rw [if_neg (show ¬ w = 0 by omega), if_neg (show ¬ w = 1 by omega), if_neg (show ¬ w = 2 by omega), if_neg (show ¬ w = 3 by omega), if_neg (show ¬ w = 4 by omega), if_neg (show ¬ w = 5 by omega)]
      exact Bo_ref ha hc hm1 (by decide)
  · rw [if_neg hy, if_neg (show ¬ ¬ (0 : Int) = 0 by decide)]
    exact bo_tt ((c_noY hc y).mpr hy) (Or.inl rfl) (Bo_ref ha hc hm1 (by decide))
theorem op_told : Op2 X4_told X5_told := by
  rintro C M ⟨a, ha, hc, hm⟩ y w - -
  have hm1 := RM_14 hm 0
  have V := ha.1.1
  have hv := V.1
  refine Bo_op ?_
  unfold X4_told X5_told
  simp only [lt]
  rw [m_isT hm1.1 V y, m_in]
  by_cases hy : 0 ≤ y ∧ y < a.s 0 4
  · rw [if_pos hy]
    refine bo_f_ (fun q => (c_noT hc y).mp q hy) ?_
    by_cases hw : 0 ≤ w ∧ w ≤ 5
    · rw [if_pos hw]
      refine bo__f (by omega) ?_
      have g5 : gd y 5 := ⟨hy.1, by omega⟩
      obtain ⟨k1, k2, k3, k4, k5, k6⟩ := hc.1.2.2 y hy.1 hy.2
      obtain ⟨l1, l2, l3, l4, l5, l6⟩ := hm1.1.2.2 y hy.1 hy.2
      have mk : ∀ {f : Option (Int × GG)} {m : Option (Int × LT)} (r : Int), Ok f (fun z => z.1 = r ∧ RC a z.2) → Ok m (fun z => z.1 = r ∧ RM a z.2) → Bo f m := fun r h1 h2 => ⟨a, r, ha, h1, h2⟩
      refine bo_c (fun _ => mk _ (okG g5 (okS ⟨k1, hc⟩)) (okG g5 (okS ⟨l1, hm1⟩))) (fun _ => ?_)
      refine bo_c (fun _ => mk _ (okG g5 (okS ⟨k2, hc⟩)) (okG g5 (okS ⟨l2, hm1⟩))) (fun _ => ?_)
      refine bo_c (fun _ => mk _ (okG g5 (okS ⟨k3, hc⟩)) (okG g5 (okS ⟨l3, hm1⟩))) (fun _ => ?_)
      refine bo_c (fun _ => mk _ (okG g5 (okS ⟨k4, hc⟩)) (okG g5 (okS ⟨l4, hm1⟩))) (fun _ => ?_)
      refine bo_c (fun _ => mk _ (okG g5 (okS ⟨k5, hc⟩)) (okG g5 (okS ⟨l5, hm1⟩))) (fun _ => ?_)
      exact bo_t_ (by omega) (mk _ (okG g5 (okS ⟨k6, hc⟩)) (okG g5 (okS ⟨l6, hm1⟩)))
    · rw [if_neg hw, if_pos (show ¬ (1 : Int) = 0 by decide)]
      refine bo__t (Or.inr rfl) ?_
      rw [if_neg (show ¬ w = 0 by omega), if_neg (show ¬ w = 1 by omega), if_neg (show ¬ w = 2 by omega), if_neg (show ¬ w = 3 by omega), if_neg (show ¬ w = 4 by omega), if_neg (show ¬ w = 5 by omega)]
      exact Bo_ref ha hc hm1 (by decide)
  · rw [if_neg hy, if_neg (show ¬ ¬ (0 : Int) = 0 by decide)]
    exact bo_tt ((c_noT hc y).mpr hy) (Or.inl rfl) (Bo_ref ha hc hm1 (by decide))
/-- how far two yards lie -/
def fr (x y : Int) : Int := if x < y then y - x else x - y
theorem iabs_fr {x y : Int} (x0 : -9 ≤ x) (x1 : x < 99) (y0 : -9 ≤ y) (y1 : y < 99) : iabs (w32 (x - y)) = fr x y := by
  rw [w32_eq (by omega) (by omega)]
  unfold iabs fr
  split
  · rw [if_neg (by omega)]
  · rw [w32_eq (by omega) (by omega), if_pos (by omega)]; omega
theorem by_fr {x y : Int} (x0 : -9 ≤ x) (x1 : x < 99) (y0 : -9 ≤ y) (y1 : y < 99) : (if y < x then w32 (x - y) else w32 (y - x)) = fr x y := by
  rw [w32_eq (by omega) (by omega), w32_eq (by omega) (by omega)]
  unfold fr
  split <;> split <;> omega
/-- the nearest halt among the first k yards -/
def nhN (S : LT) (y : Int) : Nat → Int
  | 0 => -9
  | k + 1 => if S 6 k = 4 ∧ (nhN S y k = -9 ∨ fr k y < fr (nhN S y k) y) then k else nhN S y k
theorem nh_b (S : LT) (y : Int) : ∀ k : Nat, nhN S y k = -9 ∨ 0 ≤ nhN S y k ∧ nhN S y k < k
  | 0 => Or.inl rfl
  | k + 1 => by
    have := nh_b S y k
    unfold nhN
    split <;> omega
def nhS (S : LT) (y : Int) : Int := nhN S y (S 0 0).toNat
theorem c_nh {S L : LT} (h : Sc S L) (V : Val S) {y : Int} (y0 : 0 ≤ y) (y1 : y < 16) : Ok (X2_nearestHalt L y) (fun r => r = nhS S y) := by
  have hv := V.1
  unfold X2_nearestHalt
  refine okB (P := fun z => z.1 = nhS S y) ?_ (fun z q => okS q)
  refine okLoop (fun s => ∃ k : Nat, s.1 = nhN S y k ∧ s.2 = (k : Int) ∧ (k : Int) ≤ S 0 0) (fun s => (S 0 0 - s.2).toNat) ?_ ⟨0, rfl, rfl, by omega⟩
  rintro ⟨b, i⟩ ⟨k, e1, e2, hk⟩
  simp only at e1 e2
  subst e1
  subst e2
  have nb := nh_b S y k
  unfold X2_nearestHalt_s1
  simp only
  rw [h.1.1, w32_eq (x := (k : Int) + 1) (by omega) (by omega)]
  refine okI (fun hlt => okG ⟨by omega, by omega⟩ ?_) (fun hlt => okS ?_)
  · have k6 := (h.2.1 (k : Int) (by omega) (by omega)).1
    rw [k6, iabs_fr (by omega) (by omega) (by omega) (by omega), iabs_fr (by omega) (by omega) (by omega) (by omega)]
    have mu : (S 0 0 - ((k : Int) + 1)).toNat < (S 0 0 - (k : Int)).toNat := by omega
    refine okI (fun q => okS ⟨⟨k + 1, ?_, rfl, by omega⟩, mu⟩) (fun q => okS ⟨⟨k + 1, ?_, rfl, by omega⟩, mu⟩)
    · show (k : Int) = if S 6 k = 4 ∧ (nhN S y k = -9 ∨ fr k y < fr (nhN S y k) y) then (k : Int) else nhN S y k
      rw [if_pos q]
    · show nhN S y k = if S 6 k = 4 ∧ (nhN S y k = -9 ∨ fr k y < fr (nhN S y k) y) then (k : Int) else nhN S y k
      rw [if_neg q]
  · show nhN S y k = nhS S y
    unfold nhS
    rw [show (S 0 0).toNat = k by omega]
theorem m_nh {S M : LT} (h : Sm S M) (V : Val S) {y : Int} (y0 : 0 ≤ y) (y1 : y < 16) : Ok (X5_haltNear M y) (fun r => r = nhS S y) := by
  have hv := V.1
  unfold X5_haltNear
  refine okB (P := fun z => z.1 = nhS S y) ?_ (fun z q => okS q)
  refine okLoop (fun s => ∃ k : Nat, s.1 = nhN S y k ∧ s.2.1 = (if nhN S y k = -9 then 99 else fr (nhN S y k) y) ∧ s.2.2 = (k : Int) ∧ (k : Int) ≤ S 0 0) (fun s => (S 0 0 - s.2.2).toNat) ?_ ⟨0, rfl, rfl, rfl, by omega⟩
  rintro ⟨b, l, i⟩ ⟨k, e1, e3, e2, hk⟩
  simp only at e1 e2 e3
  subst e1
  subst e2
  subst e3
  have nb := nh_b S y k
  unfold X5_haltNear_s1
  simp only
  rw [h.1.1, w32_eq (x := (k : Int) + 1) (by omega) (by omega)]
  refine okI (fun hlt => okL (okG ⟨by omega, by omega⟩ (okL (okL (okS ⟨⟨k + 1, ?_, ?_, rfl, by omega⟩, by show (S 0 0 - ((k : Int) + 1)).toNat < (S 0 0 - (k : Int)).toNat; omega⟩))))) (fun hlt => okS ?_)
  · have k6 := (h.2.1 (k : Int) (by omega) (by omega)).1
    simp only
    rw [k6, by_fr (by omega) (by omega) (by omega) (by omega)]
    show _ = if S 6 k = 4 ∧ (nhN S y k = -9 ∨ fr k y < fr (nhN S y k) y) then (k : Int) else nhN S y k
    have f99 : fr k y < 99 := by unfold fr; split <;> omega
    by_cases q : nhN S y k = -9
    · rw [if_pos q]
      by_cases q4 : S 6 k = 4
      · rw [if_pos ⟨q4, f99⟩, if_pos ⟨q4, Or.inl q⟩]
      · rw [if_neg (fun z => q4 z.1), if_neg (fun z => q4 z.1)]
    · rw [if_neg q]
      by_cases q4 : S 6 k = 4 ∧ fr k y < fr (nhN S y k) y
      · rw [if_pos q4, if_pos ⟨q4.1, Or.inr q4.2⟩]
      · rw [if_neg q4, if_neg (fun z => q4 ⟨z.1, by rcases z.2 with z | z; exact absurd z q; exact z⟩)]
  · have k6 := (h.2.1 (k : Int) (by omega) (by omega)).1
    simp only
    rw [k6, by_fr (by omega) (by omega) (by omega) (by omega)]
    have en : nhN S y (k + 1) = if S 6 k = 4 ∧ (nhN S y k = -9 ∨ fr k y < fr (nhN S y k) y) then (k : Int) else nhN S y k := rfl
    rw [en]
    have f99 : fr k y < 99 := by unfold fr; split <;> omega
    by_cases q : nhN S y k = -9
    · rw [if_pos q]
      by_cases q4 : S 6 k = 4
      · rw [if_pos ⟨q4, f99⟩, if_pos (c := S 6 k = 4 ∧ _) ⟨q4, Or.inl q⟩, if_neg (by omega)]
      · rw [if_neg (fun z => q4 z.1), if_neg (c := S 6 k = 4 ∧ _) (fun z => q4 z.1), if_pos q]
    · rw [if_neg q]
      by_cases q4 : S 6 k = 4 ∧ fr k y < fr (nhN S y k) y
      · rw [if_pos q4, if_pos (c := S 6 k = 4 ∧ _) ⟨q4.1, Or.inr q4.2⟩, if_neg (by omega)]
      · rw [if_neg q4, if_neg (c := S 6 k = 4 ∧ _) (fun z => q4 ⟨z.1, by rcases z.2 with z | z; exact absurd z q; exact z⟩), if_neg q]
  · show nhN S y k = nhS S y
    unfold nhS
    rw [show (S 0 0).toNat = k by omega]
theorem op_near : Op1 X4_near X5_near := by
  rintro C M ⟨a, ha, hc, hm⟩ y -
  have hm1 := RM_14 hm 0
  have V := ha.1.1
  have hv := V.1
  refine Bo_op ?_
  unfold X4_near X5_near
  simp only [lt]
  rw [m_isY hm1.1 V y]
  by_cases hy : 0 ≤ y ∧ y < a.s 0 0
  · rw [if_pos hy]
    have nb := nh_b a.s y (a.s 0 0).toNat
    refine bo_ff (fun q => (c_noY hc y).mp q hy) (by decide) ⟨a, if nhS a.s y = -9 then -9 else fr (nhS a.s y) y, ha, okB (c_nh hc.1 V hy.1 (by omega)) ?_, okB (m_nh hm1.1 V hy.1 (by omega)) ?_⟩
    · rintro r rfl
      refine okS ⟨?_, hc⟩
      simp only
      unfold nhS
      rw [iabs_fr (by omega) (by omega) (by omega) (by omega)]
    · rintro r rfl
      refine okS ⟨?_, hm1⟩
      simp only
      unfold nhS
      rw [by_fr (by omega) (by omega) (by omega) (by omega)]
      by_cases q : nhN a.s y (a.s 0 0).toNat = -9
      · rw [if_pos q, if_pos (by omega)]
      · rw [if_neg q, if_neg (by omega)]
  · rw [if_neg hy]
    exact bo_tt ((c_noY hc y).mpr hy) rfl (Bo_ref ha hc hm1 (by decide))
theorem op_rescue : Op1 X4_rescue X5_rescue := by
  rintro C M ⟨a, ha, hc, hm⟩ t -
  have hm1 := RM_14 hm 0
  have V := ha.1.1
  have hv := V.1
  refine Bo_op ?_
  unfold X4_rescue X5_rescue
  simp only [lt]
  rw [m_isT hm1.1 V t]
  by_cases ht : 0 ≤ t ∧ t < a.s 0 4
  · rw [if_pos ht, if_neg (show ¬ (1 : Int) = 0 by decide)]
    have g5 : gd t 5 := ⟨ht.1, by omega⟩
    obtain ⟨-, -, -, k4, -, k6⟩ := hc.1.2.2 t ht.1 ht.2
    obtain ⟨-, -, -, l4, -, l6⟩ := hm1.1.2.2 t ht.1 ht.2
    have tb := V.2.2 t ht.1 ht.2
    rw [k4, k6, l4, l6, grd_t (show ¬ (1 : Int) = 0 → gd t 5 from fun _ => g5), grd_t (show ¬ (1 : Int) = 0 → ¬ a.s 12 t < 0 → gd t 5 from fun _ _ => g5), grd_t g5]
    refine bo_f_ (fun q => (c_noT hc t).mp q ht) ?_
    by_cases q : a.s 12 t < 0 ∨ a.s 14 t = 1
    · rw [if_pos (c := a.s 12 t < 0 ∨ _) q]
      exact bo_tt (by omega) (by decide) (Bo_ref ha hc hm1 (by decide))
    · rw [if_neg (c := a.s 12 t < 0 ∨ _) q, grd_t g5]
      refine bo_ff (by omega) (by decide) ⟨a, nhS a.s (a.s 12 t), ha, okB (c_nh hc.1 V (by omega) (by omega)) ?_, okB (m_nh hm1.1 V (by omega) (by omega)) ?_⟩
      · rintro r rfl
        exact okS ⟨rfl, hc⟩
      · rintro r rfl
        exact okS ⟨rfl, hm1⟩
  · rw [if_neg ht, if_pos (rfl : (0 : Int) = 0), grd_t (show ¬ (0 : Int) = 0 → gd t 5 from fun z => absurd rfl z), grd_t (show ¬ (0 : Int) = 0 → _ from fun z => absurd rfl z)]
    exact bo_tt ((c_noT hc t).mpr ht) (by decide) (Bo_ref ha hc hm1 (by decide))
