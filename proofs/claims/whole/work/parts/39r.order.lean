/-! order -/
/-- the trains ahead: how many, which -/
def alN (S : LT) : Nat → Nat × (Int → Int)
  | 0 => (0, fun _ => 0)
  | k + 1 => if S 14 k = 0 ∧ S 12 k = -1 then ((alN S k).1 + 1, fun i => if i = ((alN S k).1 : Int) then (k : Int) else (alN S k).2 i) else alN S k
theorem al_b (S : LT) : ∀ k : Nat, (alN S k).1 ≤ k ∧ (∀ i : Int, 0 ≤ i → i < ((alN S k).1 : Int) → 0 ≤ (alN S k).2 i ∧ (alN S k).2 i < k ∧ S 14 ((alN S k).2 i) = 0 ∧ S 12 ((alN S k).2 i) = -1) ∧ ∀ i j : Int, 0 ≤ i → i < j → j < ((alN S k).1 : Int) → (alN S k).2 i < (alN S k).2 j
  | 0 => ⟨Nat.le_refl 0, fun i i0 i1 => by unfold alN at i1; simp only at i1; omega, fun i j i0 i1 i2 => by unfold alN at i2; simp only at i2; omega⟩
  | k + 1 => by
    obtain ⟨h1, h2, h3⟩ := al_b S k
    unfold alN
    by_cases c : S 14 k = 0 ∧ S 12 k = -1
    · rw [if_pos c]
      refine ⟨by simp only; omega, fun i i0 i1 => ?_, fun i j i0 i1 i2 => ?_⟩
      · simp only at i1 ⊢
        by_cases e : i = ((alN S k).1 : Int)
        · rw [if_pos e]
          exact ⟨by omega, by omega, c.1, c.2⟩
        · rw [if_neg e]
          have := h2 i i0 (by omega)
          exact ⟨this.1, by omega, this.2.2⟩
      · simp only at i2 ⊢
        rw [if_neg (show ¬ i = ((alN S k).1 : Int) by omega)]
        by_cases e : j = ((alN S k).1 : Int)
        · rw [if_pos e]
          have := h2 i i0 (by omega)
          omega
        · rw [if_neg e]
          exact h3 i j i0 i1 (by omega)
    · rw [if_neg c]
      exact ⟨by omega, fun i i0 i1 => by have := h2 i i0 i1; exact ⟨this.1, by omega, this.2.2⟩, h3⟩
def anS (S : LT) : Nat := (alN S (S 0 4).toNat).1
def plS (S : LT) : Int → Int := (alN S (S 0 4).toNat).2
theorem pl_b {S : LT} (V : Val S) : anS S ≤ 5 ∧ (∀ i : Int, 0 ≤ i → i < (anS S : Int) → 0 ≤ plS S i ∧ plS S i < S 0 4 ∧ S 14 (plS S i) = 0 ∧ S 12 (plS S i) = -1) ∧ Mo (plS S) (anS S) := by
  have hv := V.1
  obtain ⟨h1, h2, h3⟩ := al_b S (S 0 4).toNat
  refine ⟨by unfold anS; omega, fun i i0 i1 => ?_, fun i j i0 i1 j0 j1 => ?_⟩
  · have := h2 i i0 i1
    exact ⟨this.1, by have := this.2.1; unfold plS; omega, this.2.2⟩
  · refine ⟨fun h => ?_, fun h => h3 i j i0 h j1⟩
    by_cases q : i < j
    · exact q
    · exfalso
      by_cases q2 : j < i
      · have := h3 j i j0 q2 i1
        unfold plS at h
        omega
      · have e : i = j := by omega
        rw [e] at h
        omega
theorem c_line {a : Ab} {C : GG} (ha : OkA a) (hc : RC a C) : Ok (X4_lineUp C) (fun z => z.1 = (anS a.s : Int) ∧ CG C z.2 ∧ ∀ i, 0 ≤ i → i < (anS a.s : Int) → z.2 0 0 11 i = plS a.s i ∧ z.2 0 0 10 i = plS a.s i) := by
  have V := ha.1.1
  have hv := V.1
  unfold X4_lineUp
  refine okB (P := fun z => z.1 = (anS a.s : Int) ∧ CG C z.2.2 ∧ ∀ i, 0 ≤ i → i < (anS a.s : Int) → z.2.2 0 0 11 i = plS a.s i ∧ z.2.2 0 0 10 i = plS a.s i) ?_ (fun z q => okS q)
  refine okLoop (fun s => ∃ k : Nat, s.1 = ((alN a.s k).1 : Int) ∧ s.2.1 = (k : Int) ∧ (k : Int) ≤ a.s 0 4 ∧ CG C s.2.2 ∧ ∀ i, 0 ≤ i → i < ((alN a.s k).1 : Int) → s.2.2 0 0 11 i = (alN a.s k).2 i ∧ s.2.2 0 0 10 i = (alN a.s k).2 i) (fun s => (a.s 0 4 - s.2.1).toNat) ?_ ⟨0, rfl, rfl, by omega, CF_G (CF_r C), fun i i0 i1 => by unfold alN at i1; simp only at i1; omega⟩
  rintro ⟨c, t, D⟩ ⟨k, e1, e2, hk, cg, hI⟩
  simp only at e1 e2 cg hI
  subst e1
  subst e2
  have ab := (al_b a.s k).1
  have hcD : Sc a.s (D 1 0) := by rw [CG_l cg (by decide)]; exact hc.1
  have en : alN a.s (k + 1) = if a.s 14 k = 0 ∧ a.s 12 k = -1 then ((alN a.s k).1 + 1, fun i => if i = ((alN a.s k).1 : Int) then (k : Int) else (alN a.s k).2 i) else alN a.s k := rfl
  unfold X4_lineUp_s1 X2_isAhead_c X2_isAhead_v
  simp only
  rw [hcD.1.2.2.2.2, w32_eq (x := (k : Int) + 1) (by omega) (by omega), w32_eq (x := ((alN a.s k).1 : Int) + 1) (by omega) (by omega)]
  have mu : (k : Int) < a.s 0 4 → (a.s 0 4 - ((k : Int) + 1)).toNat < (a.s 0 4 - (k : Int)).toNat := fun _ => by omega
  refine okI (fun hlt => okG ⟨by omega, by omega⟩ ?_) (fun hlt => okS ?_)
  · obtain ⟨-, -, -, k4, -, k6⟩ := hcD.2.2 k (by omega) hlt
    have cm : (¬ (if D 1 0 14 (k : Int) = 0 ∧ D 1 0 12 (k : Int) = -1 then (1 : Int) else 0) = 0) ↔ (a.s 14 k = 0 ∧ a.s 12 k = -1) := by rw [if10, k4, k6]
    refine okI (fun q => okG ⟨by omega, by omega⟩ (okL (okL (okS ⟨⟨k + 1, ?_, rfl, by omega, fun t l i j q1 q2 => ?_, fun i i0 i1 => ?_⟩, mu hlt⟩)))) (fun q => okS ⟨⟨k + 1, ?_, rfl, by omega, cg, ?_⟩, mu hlt⟩)
    · rw [en, if_pos (cm.mp q)]; simp only; omega
    · simp only [hw]
      rw [if_neg (by omega), if_neg (by omega)]
      exact cg t l i j q1 q2
    · rw [en, if_pos (cm.mp q)] at i1
      rw [en, if_pos (cm.mp q)]
      simp only [hw] at i1 ⊢
      by_cases e : i = ((alN a.s k).1 : Int)
      · rw [if_pos e]
        simp [e]
      · rw [if_neg e]
        have := hI i i0 (by omega)
        simp [e]
        exact this
    · rw [en, if_neg (fun z => q (cm.mpr z))]
    · rw [en, if_neg (fun z => q (cm.mpr z))]
      exact hI
  · unfold anS plS
    rw [show (a.s 0 4).toNat = k by omega]
    exact ⟨rfl, cg, hI⟩
theorem m_line {a : Ab} {M : LT} (ha : OkA a) (hm : RM a M) : Ok (lp (X5_order_s1) (0, 0, M)) (fun z => z.1 = (anS a.s : Int) ∧ Sm a.s z.2.2 ∧ MF M z.2.2 ∧ ∀ i, 0 ≤ i → i < (anS a.s : Int) → z.2.2 36 i = plS a.s i) := by
  have V := ha.1.1
  have hv := V.1
  refine okLoop (fun s => ∃ k : Nat, s.1 = ((alN a.s k).1 : Int) ∧ s.2.1 = (k : Int) ∧ (k : Int) ≤ a.s 0 4 ∧ Sm a.s s.2.2 ∧ MF M s.2.2 ∧ ∀ i, 0 ≤ i → i < ((alN a.s k).1 : Int) → s.2.2 36 i = (alN a.s k).2 i) (fun s => (a.s 0 4 - s.2.1).toNat) ?_ ⟨0, rfl, rfl, by omega, hm.1, MF_r M, fun i i0 i1 => by unfold alN at i1; simp only at i1; omega⟩
  rintro ⟨c, t, P⟩ ⟨k, e1, e2, hk, p1, p2, hI⟩
  simp only at e1 e2 p1 p2 hI
  subst e1
  subst e2
  have ab := (al_b a.s k).1
  have en : alN a.s (k + 1) = if a.s 14 k = 0 ∧ a.s 12 k = -1 then ((alN a.s k).1 + 1, fun i => if i = ((alN a.s k).1 : Int) then (k : Int) else (alN a.s k).2 i) else alN a.s k := rfl
  unfold X5_order_s1
  simp only
  rw [p1.1.2.2.2.2, w32_eq (x := (k : Int) + 1) (by omega) (by omega), w32_eq (x := ((alN a.s k).1 : Int) + 1) (by omega) (by omega)]
  have mu : (k : Int) < a.s 0 4 → (a.s 0 4 - ((k : Int) + 1)).toNat < (a.s 0 4 - (k : Int)).toNat := fun _ => by omega
  refine okI (fun hlt => okG ⟨by omega, by omega⟩ ?_) (fun hlt => okS ?_)
  · obtain ⟨-, -, -, k4, -, k6⟩ := p1.2.2 k (by omega) hlt
    have tb := V.2.2 k (by omega) hlt
    rw [k4, k6]
    have cm : (a.s 14 k = 0 ∧ a.s 12 k < 0) ↔ (a.s 14 k = 0 ∧ a.s 12 k = -1) := by omega
    refine okI (fun q => okG ⟨by omega, by omega⟩ (okL (okS ⟨⟨k + 1, ?_, rfl, by omega, Sm_o p1 (by omega), MF_t p2 (MF_lw (by omega)), fun i i0 i1 => ?_⟩, mu hlt⟩))) (fun q => okS ⟨⟨k + 1, ?_, rfl, by omega, p1, p2, ?_⟩, mu hlt⟩)
    · rw [en, if_pos (cm.mp q)]; simp only; omega
    · rw [en, if_pos (cm.mp q)] at i1
      rw [en, if_pos (cm.mp q)]
      simp only at i1 ⊢
      by_cases e : i = ((alN a.s k).1 : Int)
      · rw [if_pos e, e, lw_s]
      · rw [if_neg e, lw_j e]
        exact hI i i0 (by omega)
    · rw [en, if_neg (fun z => q (cm.mpr z))]
    · rw [en, if_neg (fun z => q (cm.mpr z))]
      exact hI
  · unfold anS plS
    rw [show (a.s 0 4).toNat = k by omega]
    exact ⟨rfl, p1, p2, hI⟩
/-- what was told of the trains ahead -/
def W37 (S : LT) (n : Int) (P : LT) : Prop := ∀ j, 0 ≤ j → j < n → P 37 (4 * j) = S 9 (plS S j) ∧ P 37 (4 * j + 1) = S 10 (plS S j) ∧ P 37 (4 * j + 2) = S 11 (plS S j) ∧ P 37 (4 * j + 3) = S 13 (plS S j)
theorem m_was {a : Ab} {P0 : LT} (ha : OkA a) (hs : Sm a.s P0) (h36 : ∀ i, 0 ≤ i → i < (anS a.s : Int) → P0 36 i = plS a.s i) (y : Int) : Ok (lp (X5_order_s2 ((anS a.s : Int), y, P0)) (0, P0)) (fun z => W37 a.s (anS a.s) z.2 ∧ ∀ i j, i ≠ 37 → z.2 i j = P0 i j) := by
  have V := ha.1.1
  have hv := V.1
  obtain ⟨n5, pb, -⟩ := pl_b V
  refine okLoop (fun s => 0 ≤ s.1 ∧ s.1 ≤ (anS a.s : Int) ∧ W37 a.s s.1 s.2 ∧ ∀ i j, i ≠ 37 → s.2 i j = P0 i j) (fun s => ((anS a.s : Int) - s.1).toNat) ?_ ⟨Int.le_refl 0, by show (0 : Int) ≤ (anS a.s : Int); omega, fun j j0 j1 => by simp only at j1; omega, fun _ _ _ => rfl⟩
  rintro ⟨i, P⟩ ⟨i0, i1, hW, hF⟩
  simp only at i0 i1 hW hF
  unfold X5_order_s2
  simp only [lt]
  rw [w32_eq (x := 4 * i) (by omega) (by omega), w32_eq (x := 4 * i + 1) (by omega) (by omega), w32_eq (x := 4 * i + 2) (by omega) (by omega), w32_eq (x := 4 * i + 3) (by omega) (by omega), w32_eq (x := i + 1) (by omega) (by omega)]
  refine okI (fun hlt => ?_) (fun hlt => okS ⟨by rw [show (anS a.s : Int) = i by omega]; exact hW, hF⟩)
  have e36 : P 36 i = plS a.s i := by rw [hF 36 i (by decide)]; exact h36 i i0 hlt
  obtain ⟨q0, q1, -, -⟩ := pb i i0 hlt
  obtain ⟨w9, w10, w11, -, w13, -⟩ := hs.2.2 (plS a.s i) q0 q1
  rw [← hF 9 _ (by decide)] at w9
  rw [← hF 10 _ (by decide)] at w10
  rw [← hF 11 _ (by decide)] at w11
  rw [← hF 13 _ (by decide)] at w13
  simp only [lw_i (show (36 : Nat) ≠ 37 by decide), lw_i (show (9 : Nat) ≠ 37 by decide), lw_i (show (10 : Nat) ≠ 37 by decide), lw_i (show (11 : Nat) ≠ 37 by decide), lw_i (show (13 : Nat) ≠ 37 by decide)]
  rw [e36, w9, w10, w11, w13]
  have g5 : gd (plS a.s i) 5 := ⟨q0, by omega⟩
  refine okG ⟨i0, by omega⟩ (okG g5 (okG ⟨by omega, by omega⟩ (okG g5 (okG ⟨by omega, by omega⟩ (okG g5 (okG ⟨by omega, by omega⟩ (okG g5 (okG ⟨by omega, by omega⟩ (okS ⟨⟨by simp only; omega, by simp only; omega, fun j j0 j1 => ?_, fun c j q => ?_⟩, by show ((anS a.s : Int) - (i + 1)).toNat < ((anS a.s : Int) - i).toNat; omega⟩)))))))))
  · simp only at j1 ⊢
    by_cases e : j = i
    · subst e
      refine ⟨?_, ?_, ?_, ?_⟩
      · rw [lw_j (by omega), lw_j (by omega), lw_j (by omega), lw_s]
      · rw [lw_j (by omega), lw_j (by omega), lw_s]
      · rw [lw_j (by omega), lw_s]
      · rw [lw_s]
    · have := hW j j0 (by omega)
      rw [lw_j (by omega), lw_j (by omega), lw_j (by omega), lw_j (by omega), lw_j (by omega), lw_j (by omega), lw_j (by omega), lw_j (by omega), lw_j (by omega), lw_j (by omega), lw_j (by omega), lw_j (by omega), lw_j (by omega), lw_j (by omega), lw_j (by omega), lw_j (by omega)]
      exact this
  · simp only
    rw [lw_i q, lw_i q, lw_i q, lw_i q, hF c j q]
/-- the trains ahead in an order -/
def orN (S : LT) (pl q : Int → Int) : Nat → LT
  | 0 => S
  | i + 1 => lw (lw (lw (lw (orN S pl q i) 9 (pl i) (S 9 (pl (q i)))) 10 (pl i) (S 10 (pl (q i)))) 11 (pl i) (S 11 (pl (q i)))) 13 (pl i) (S 13 (pl (q i)))
theorem or_fr (S : LT) (pl q : Int → Int) {c : Nat} (j : Int) (hc : c ≠ 9 ∧ c ≠ 10 ∧ c ≠ 11 ∧ c ≠ 13) : ∀ i, orN S pl q i c j = S c j
  | 0 => rfl
  | i + 1 => by
    unfold orN
    rw [lw_i hc.2.2.2, lw_i hc.2.2.1, lw_i hc.2.1, lw_i hc.1, or_fr S pl q j hc i]
theorem Vg_or {S : LT} (V : Vg S) {pl q : Int → Int} {n : Nat} (hp : ∀ i : Int, 0 ≤ i → i < n → 0 ≤ pl i ∧ pl i < S 0 4) (hq : ∀ i : Int, 0 ≤ i → i < n → 0 ≤ q i ∧ q i < n) : ∀ i : Nat, i ≤ n → Vg (orN S pl q i)
  | 0, _ => V
  | i + 1, h => by
    have ih := Vg_or V hp hq i (by omega)
    have q0 := hq i (by omega) (by omega)
    have p0 := hp (q i) q0.1 q0.2
    have b := V.1.2.2 (pl (q i)) p0.1 p0.2
    unfold orN
    exact Vg_lw (Vg_lw (Vg_lw (Vg_lw ih (by omega) (by omega)) (by omega) (by omega)) (by omega) (by omega)) (by omega) (by omega)
def dgN (pl q : Int → Int) : Nat → Int
  | 0 => 0
  | i + 1 => 10 * dgN pl q i + pl (q i)
theorem dg_b {pl q : Int → Int} {n : Nat} (n4 : n ≤ 4) (h : ∀ i : Int, 0 ≤ i → i < n → 0 ≤ pl (q i) ∧ pl (q i) ≤ 4) : ∀ i : Nat, i ≤ n → 0 ≤ dgN pl q i ∧ dgN pl q i ≤ 9999 := by
  intro i hi
  have hc : i = 0 ∨ i = 1 ∨ i = 2 ∨ i = 3 ∨ i = 4 := by omega
  rcases hc with rfl | rfl | rfl | rfl | rfl
  · unfold dgN; omega
  · have h0 := h ((0 : Nat) : Int) (by omega) (by omega)
    unfold dgN dgN; omega
  · have h0 := h ((0 : Nat) : Int) (by omega) (by omega)
    have h1 := h ((1 : Nat) : Int) (by omega) (by omega)
    unfold dgN dgN dgN; omega
  · have h0 := h ((0 : Nat) : Int) (by omega) (by omega)
    have h1 := h ((1 : Nat) : Int) (by omega) (by omega)
    have h2 := h ((2 : Nat) : Int) (by omega) (by omega)
    unfold dgN dgN dgN dgN; omega
  · have h0 := h ((0 : Nat) : Int) (by omega) (by omega)
    have h1 := h ((1 : Nat) : Int) (by omega) (by omega)
    have h2 := h ((2 : Nat) : Int) (by omega) (by omega)
    have h3 := h ((3 : Nat) : Int) (by omega) (by omega)
    unfold dgN dgN dgN dgN dgN; omega
/-- what holds of an order q of the n trains ahead -/
def Og (S : LT) (n : Nat) (q : Int → Int) : Prop := n = anS S ∧ n ≤ 4 ∧ ∀ i : Int, 0 ≤ i → i < n → 0 ≤ q i ∧ q i < n
theorem c_take {a : Ab} {C D : GG} (ha : OkA a) (hc : RC a C) (cg : CG C D) {n : Nat} {q : Int → Int} (hg : Og a.s n q) (h11 : ∀ i, 0 ≤ i → i < (n : Int) → D 0 0 11 i = plS a.s i) (hq : Qr (plS a.s) n D q) : Ok (X4_takeQueue D n) (fun D' => CF D D' ∧ PL (orN a.s (plS a.s) q n) 0 True (D' 1 1)) := by
  have V := Vs_g ha.1
  have hv := V.1.1
  obtain ⟨en, n4, hq2⟩ := hg
  obtain ⟨n5, pb, -⟩ := pl_b V.1
  have d0 : D 1 0 = C 1 0 := CG_l cg (by decide)
  unfold X4_takeQueue
  rw [d0]
  refine okB (c_become hc.1 V.1) ?_
  intro L hL
  refine okL (okB (P := fun z => CF D z.2 ∧ PL (orN a.s (plS a.s) q n) 0 True (z.2 1 1)) ?_ (fun z w => okS w))
  refine okLoop (fun s => ∃ i : Nat, s.1 = (i : Int) ∧ i ≤ n ∧ CF D s.2 ∧ PL (orN a.s (plS a.s) q i) 0 True (s.2 1 1)) (fun s => ((n : Int) - s.1).toNat) ?_ ⟨0, rfl, by omega, CF_gs D L, by simp only [gs_at]; exact hL⟩
  rintro ⟨i', E⟩ ⟨i, e1, hi, ce, hE⟩
  simp only at e1 ce hE
  subst e1
  unfold X4_takeQueue_s1
  simp only
  rw [w32_eq (x := (i : Int) + 1) (by omega) (by omega)]
  have e00 : E 0 0 = D 0 0 := ce 0 0 (by omega)
  have e10 : E 1 0 = C 1 0 := (ce 1 0 (by omega)).trans d0
  refine okI (fun hlt => okG ⟨by omega, by omega⟩ ?_) (fun hlt => okS ⟨ce, by rw [show n = i by omega]; exact hE⟩)
  have q0 := hq2 i (by omega) hlt
  have p0 := pb i (by omega) (by omega)
  have p1 := pb (q i) q0.1 (by omega)
  rw [e00, h11 i (by omega) hlt, (hq i (by omega) hlt).1, e10]
  obtain ⟨k9, k10, k11, k12, k13, k14⟩ := hc.1.2.2 (plS a.s (q i)) p1.1 p1.2.1
  have e4 : orN a.s (plS a.s) q i 0 4 = a.s 0 4 := or_fr _ _ _ _ (by decide) i
  obtain ⟨-, -, -, l12, -, l14⟩ := hE.1.2.2 (plS a.s i) p0.1 (by show _ < orN a.s (plS a.s) q i 0 4; rw [e4]; exact p0.2.1)
  have l12' : E 1 1 12 (plS a.s i) = -1 := by
    rw [l12]
    show orN a.s (plS a.s) q i 12 _ = -1
    rw [or_fr _ _ _ _ (by decide)]
    exact p0.2.2.2
  have l14' : E 1 1 14 (plS a.s i) = 0 := by
    rw [l14]
    show orN a.s (plS a.s) q i 14 _ = 0
    rw [or_fr _ _ _ _ (by decide)]
    exact p0.2.2.1
  refine okB (P := fun z => PL (orN a.s (plS a.s) q (i + 1)) 0 True z) ?_ ?_
  · unfold X2_takeTrain
    rw [k9, k10, k11, k12, k13, k14, p1.2.2.1, p1.2.2.2]
    refine okG ⟨p1.1, by omega⟩ (okG ⟨p0.1, by omega⟩ (okL (okL (okL (okL (okL (okL (okS ?_))))))))
    have s1 := lw_self (lw (lw (lw (E 1 1) 9 (plS a.s i) (a.s 9 (plS a.s (q i)))) 10 (plS a.s i) (a.s 10 (plS a.s (q i)))) 11 (plS a.s i) (a.s 11 (plS a.s (q i)))) 12 (plS a.s i)
    have s2 : lw (lw (lw (E 1 1) 9 (plS a.s i) (a.s 9 (plS a.s (q i)))) 10 (plS a.s i) (a.s 10 (plS a.s (q i)))) 11 (plS a.s i) (a.s 11 (plS a.s (q i))) 12 (plS a.s i) = -1 := by
      rw [lw_i (by decide), lw_i (by decide), lw_i (by decide)]
      exact l12'
    rw [s2] at s1
    rw [s1]
    have s3 := lw_self (lw (lw (lw (lw (E 1 1) 9 (plS a.s i) (a.s 9 (plS a.s (q i)))) 10 (plS a.s i) (a.s 10 (plS a.s (q i)))) 11 (plS a.s i) (a.s 11 (plS a.s (q i)))) 13 (plS a.s i) (a.s 13 (plS a.s (q i)))) 14 (plS a.s i)
    have s4 : lw (lw (lw (lw (E 1 1) 9 (plS a.s i) (a.s 9 (plS a.s (q i)))) 10 (plS a.s i) (a.s 10 (plS a.s (q i)))) 11 (plS a.s i) (a.s 11 (plS a.s (q i)))) 13 (plS a.s i) (a.s 13 (plS a.s (q i))) 14 (plS a.s i) = 0 := by
      rw [lw_i (by decide), lw_i (by decide), lw_i (by decide), lw_i (by decide)]
      exact l14'
    rw [s4] at s3
    rw [s3]
    exact PL_lw (PL_lw (PL_lw (PL_lw hE (by omega)) (by omega)) (by omega)) (by omega)
  · intro z hz
    exact okL (okS ⟨⟨i + 1, rfl, by omega, CF_t ce (CF_gs E z), by simp only [gs_at]; exact hz⟩, by show ((n : Int) - ((i : Int) + 1)).toNat < ((n : Int) - (i : Int)).toNat; omega⟩)
theorem c_dig {a : Ab} {D : GG} (ha : OkA a) {n : Nat} {q : Int → Int} (hg : Og a.s n q) (hq : Qr (plS a.s) n D q) : Ok (X4_queueDigits D n) (fun r => r = if n = 0 then -9 else dgN (plS a.s) q n) := by
  have V := ha.1.1
  have hv := V.1
  obtain ⟨en, n4, hq2⟩ := hg
  obtain ⟨n5, pb, -⟩ := pl_b V
  have db := dg_b n4 (pl := plS a.s) (q := q) (fun i i0 i1 => by
    have q0 := hq2 i i0 i1
    have := pb (q i) q0.1 (by omega)
    omega)
  unfold X4_queueDigits
  refine okI (fun h => okS (by rw [if_pos (by omega)])) (fun h => ?_)
  refine okB (P := fun z => z.1 = dgN (plS a.s) q n) ?_ (fun z w => okS (by rw [if_neg (by omega)]; exact w))
  refine okLoop (fun s => ∃ i : Nat, s.2 = (i : Int) ∧ i ≤ n ∧ s.1 = dgN (plS a.s) q i) (fun s => ((n : Int) - s.2).toNat) ?_ ⟨0, rfl, by omega, rfl⟩
  rintro ⟨d, i'⟩ ⟨i, e1, hi, e2⟩
  simp only at e1 e2
  subst e1
  subst e2
  unfold X4_queueDigits_s1
  simp only
  rw [w32_eq (x := (i : Int) + 1) (by omega) (by omega)]
  refine okI (fun hlt => okG ⟨by omega, by omega⟩ (okL (okS ⟨⟨i + 1, rfl, by omega, ?_⟩, by show ((n : Int) - ((i : Int) + 1)).toNat < ((n : Int) - (i : Int)).toNat; omega⟩))) (fun hlt => okS (by rw [show n = i by omega]; exact rfl))
  have d0 := db i hi
  have d1 := db (i + 1) (by omega)
  have e : dgN (plS a.s) q (i + 1) = 10 * dgN (plS a.s) q i + plS a.s (q i) := rfl
  simp only
  rw [(hq i (by omega) hlt).1, w32_eq (x := 10 * dgN (plS a.s) q i) (by omega) (by omega), ← e]
  exact w32_eq (by omega) (by omega)
theorem m_put {a : Ab} {M P0 : LT} (ha : OkA a) (hs : Sm a.s P0) (hi : IM a M P0) {n : Nat} {q : Int → Int} (hg : Og a.s n q) (h36 : ∀ i, 0 ≤ i → i < (n : Int) → P0 36 i = plS a.s i) (h37 : W37 a.s n P0) (h38 : ∀ i, 0 ≤ i → i < (n : Int) → P0 38 i = q i) (x y : Int × LT) (u : Int) : Ok (lp (X5_order_s3 ((n : Int), x)) (0, 0, P0)) (fun z => z.1 = dgN (plS a.s) q n ∧ Sm (orN a.s (plS a.s) q n) z.2.2 ∧ IM a M z.2.2 ∧ ∀ j, z.2.2 36 j = P0 36 j ∧ z.2.2 37 j = P0 37 j) := by
  have V := ha.1.1
  have hv := V.1
  obtain ⟨en, n4, hq2⟩ := hg
  obtain ⟨n5, pb, -⟩ := pl_b V
  have db := dg_b n4 (pl := plS a.s) (q := q) (fun i i0 i1 => by
    have q0 := hq2 i i0 i1
    have := pb (q i) q0.1 (by omega)
    omega)
  refine okLoop (fun s => ∃ i : Nat, s.2.1 = (i : Int) ∧ i ≤ n ∧ s.1 = dgN (plS a.s) q i ∧ Sm (orN a.s (plS a.s) q i) s.2.2 ∧ IM a M s.2.2 ∧ ∀ j, s.2.2 36 j = P0 36 j ∧ s.2.2 37 j = P0 37 j ∧ s.2.2 38 j = P0 38 j) (fun s => ((n : Int) - s.2.1).toNat) ?_ ⟨0, rfl, by omega, rfl, (show Sm (orN a.s (plS a.s) q 0) P0 from hs), hi, fun j => ⟨rfl, rfl, rfl⟩⟩
  rintro ⟨d, i', P⟩ ⟨i, e1, hin, e2, p1, p2, p3⟩
  simp only at e1 e2 p1 p2 p3
  subst e1
  subst e2
  unfold X5_order_s3
  simp only [lt]
  rw [w32_eq (x := (i : Int) + 1) (by omega) (by omega)]
  refine okI (fun hlt => ?_) (fun hlt => okS (by rw [show n = i by omega]; exact ⟨rfl, p1, p2, fun j => ⟨(p3 j).1, (p3 j).2.1⟩⟩))
  have q0 := hq2 i (by omega) hlt
  have p0 := pb i (by omega) (by omega)
  have p4 := pb (q i) q0.1 (by omega)
  have f36 : P 36 i = plS a.s i := by rw [(p3 i).1]; exact h36 i (by omega) hlt
  have f38 : P 38 i = q i := by rw [(p3 i).2.2]; exact h38 i (by omega) hlt
  have f36q : P 36 (q i) = plS a.s (q i) := by rw [(p3 (q i)).1]; exact h36 (q i) q0.1 (by omega)
  obtain ⟨w0, w1, w2, w3⟩ := h37 (q i) q0.1 (by omega)
  rw [← (p3 _).2.1] at w0 w1 w2 w3
  simp only [lw_i (show (38 : Nat) ≠ 9 by decide), lw_i (show (38 : Nat) ≠ 10 by decide), lw_i (show (38 : Nat) ≠ 11 by decide), lw_i (show (38 : Nat) ≠ 13 by decide), lw_i (show (37 : Nat) ≠ 9 by decide), lw_i (show (37 : Nat) ≠ 10 by decide), lw_i (show (37 : Nat) ≠ 11 by decide), lw_i (show (37 : Nat) ≠ 13 by decide), lw_i (show (36 : Nat) ≠ 9 by decide), lw_i (show (36 : Nat) ≠ 10 by decide), lw_i (show (36 : Nat) ≠ 11 by decide), lw_i (show (36 : Nat) ≠ 13 by decide)]
  rw [f36, f38, f36q, w32_eq (x := 4 * q i) (by omega) (by omega), w32_eq (x := 4 * q i + 1) (by omega) (by omega), w32_eq (x := 4 * q i + 2) (by omega) (by omega), w32_eq (x := 4 * q i + 3) (by omega) (by omega), w0, w1, w2, w3]
  refine okG ⟨by omega, by omega⟩ (okG ⟨by omega, by omega⟩ (okG ⟨p0.1, by omega⟩ (okG ⟨by omega, by omega⟩ (okG ⟨by omega, by omega⟩ (okG ⟨by omega, by omega⟩ (okG ⟨q0.1, by omega⟩ (okS ⟨⟨i + 1, rfl, by omega, ?_, ?_, ?_, fun j => ?_⟩, by show ((n : Int) - ((i : Int) + 1)).toNat < ((n : Int) - (i : Int)).toNat; omega⟩)))))))
  · have d0 := db i hin
    have d1 := db (i + 1) (by omega)
    have e : dgN (plS a.s) q (i + 1) = 10 * dgN (plS a.s) q i + plS a.s (q i) := rfl
    simp only
    rw [w32_eq (x := 10 * dgN (plS a.s) q i) (by omega) (by omega), ← e]
    exact w32_eq (by omega) (by omega)
  · exact Sm_lw (Sm_lw (Sm_lw (Sm_lw p1 (by omega)) (by omega)) (by omega)) (by omega)
  · exact IM_lw (IM_lw (IM_lw (IM_lw p2 (by omega)) (by omega)) (by omega)) (by omega)
  · simp only
    rw [lw_i (by decide), lw_i (by decide), lw_i (by decide), lw_i (by decide), lw_i (by decide), lw_i (by decide), lw_i (by decide), lw_i (by decide), lw_i (by decide), lw_i (by decide), lw_i (by decide), lw_i (by decide)]
    exact p3 j
/-- the most and its order among the first k -/
noncomputable def orV (S : LT) (n k : Nat) : Int := cntS (goS 72 (orN S (plS S) (pm n k) n)) 1
noncomputable def orK (S : LT) (n : Nat) : Nat → Int × Int
  | 0 => (orV S n 0, dgN (plS S) (pm n 0) n)
  | k + 1 => if (orK S n k).1 < orV S n (k + 1) then (orV S n (k + 1), dgN (plS S) (pm n (k + 1)) n) else orK S n k
theorem Og_pm {S : LT} (h4 : anS S ≤ 4) {k : Nat} (hk : (k : Int) < fa (anS S)) : Og S (anS S) (pm (anS S) k) := by
  refine ⟨rfl, h4, fun i i0 i1 => ?_⟩
  have hf := fa_b (m := (anS S : Int))
  have := pm_rg ⟨anS S, by omega⟩ ⟨k, by omega⟩ hk ⟨i.toNat, by omega⟩ (by show i.toNat < anS S; omega)
  simp only at this
  rw [show ((i.toNat : Nat) : Int) = i by omega] at this
  exact this
theorem orV_b {S : LT} (V : Vg S) (h4 : anS S ≤ 4) {k : Nat} (hk : (k : Int) < fa (anS S)) : Vg (orN S (plS S) (pm (anS S) k) (anS S)) ∧ 0 ≤ orV S (anS S) k := by
  obtain ⟨n5, pb, -⟩ := pl_b V.1
  have hg := Og_pm h4 hk
  have v := Vg_or V (pl := plS S) (q := pm (anS S) k) (n := anS S) (fun i i0 i1 => ⟨(pb i i0 i1).1, (pb i i0 i1).2.1⟩) hg.2.2 (anS S) (Nat.le_refl _)
  exact ⟨v, (cntS_b (Val_go v.1 72) 1).1⟩
theorem op_order : Op1 X4_order X5_order := by
  rintro C M ⟨a, ha, hc, hm⟩ w -
  have hm1 := RM_14 hm 0
  have V := Vs_g ha.1
  have hv := V.1.1
  obtain ⟨n5, pb, mo⟩ := pl_b V.1
  refine Bo_op ?_
  unfold X4_order X5_order
  simp only [lt]
  rw [m_in]
  obtain ⟨⟨z1, z2, P0⟩, ez, f1, p1, p2, f36⟩ := m_line ha hm1
  simp only at f1 p1 p2 f36
  subst f1
  rw [ez]
  have rm0 : RM a P0 := RM_F hm1 p1 p2
  show Bo _ (if (if (if 0 ≤ w ∧ w ≤ 1 then (1 : Int) else 0) = 0 then (-2 : Int) else if 4 < ((anS a.s : Nat) : Int) then -3 else 0) < 0 then Option.bind (X5_refuse P0 (if (if 0 ≤ w ∧ w ≤ 1 then (1 : Int) else 0) = 0 then (-2 : Int) else if 4 < ((anS a.s : Nat) : Int) then -3 else 0)) fun z => some (z.1, z.2) else _)
  by_cases hw : w = 0 ∨ w = 1
  · rw [if_pos (show 0 ≤ w ∧ w ≤ 1 by omega), if_neg (show ¬ (1 : Int) = 0 by decide)]
    refine bo_f_ (fun z => (c_nei w).mp z hw) ?_
    obtain ⟨⟨y1, D0⟩, ey, g1, cg0, gI⟩ := c_line ha hc
    simp only at g1 cg0 gI
    subst g1
    rw [ey]
    have rc0 : RC a D0 := RC_G ha hc cg0
    show Bo (if 4 < ((anS a.s : Nat) : Int) then Option.bind (X4_refuse D0 (-3)) fun z => some (z.1, z.2) else _) _
    by_cases h4 : 4 < ((anS a.s : Nat) : Int)
    · rw [if_pos (c := 4 < ((anS a.s : Nat) : Int)) (t := (-3 : Int)) h4]
      exact bo_tt h4 (by decide) (Bo_ref ha rc0 rm0 (by decide))
    · rw [if_neg (c := 4 < ((anS a.s : Nat) : Int)) (t := (-3 : Int)) h4]
      have h4' : anS a.s ≤ 4 := by omega
      have hf := fa_b (m := (anS a.s : Int))
      refine bo_ff h4 (by decide) ?_
      obtain ⟨F, hF⟩ : ∃ F : Nat, fa (anS a.s) = (F : Int) + 1 := ⟨(fa (anS a.s) - 1).toNat, by omega⟩
      refine ⟨a, if w = 1 then (orK a.s (anS a.s) F).1 else if anS a.s = 0 then -9 else (orK a.s (anS a.s) F).2, ha, ?_, ?_⟩
      · refine okB (P := fun z => z.1 = (orK a.s (anS a.s) F).1 ∧ z.2.1 = (if anS a.s = 0 then -9 else (orK a.s (anS a.s) F).2) ∧ RC a z.2.2.2) ?_ (fun z q => okS ⟨by
          simp only
          rw [q.1, q.2.1]
          rcases hw with e | e
          · rw [e]; rfl
          · rw [e]; rfl, q.2.2⟩)
        refine okLoop (fun s => ∃ j : Nat, s.2.2.1 = (j : Int) ∧ j ≤ F ∧ (j = 0 ∧ s.1 = -9 ∨ 0 < j ∧ s.1 = (orK a.s (anS a.s) (j - 1)).1 ∧ s.2.1 = if anS a.s = 0 then -9 else (orK a.s (anS a.s) (j - 1)).2) ∧ CG C s.2.2.2 ∧ (∀ i, 0 ≤ i → i < (anS a.s : Int) → s.2.2.2 0 0 11 i = plS a.s i) ∧ Qr (plS a.s) (anS a.s) s.2.2.2 (pm (anS a.s) j)) (fun s => (24 - s.2.2.1).toNat) ?_ ⟨0, rfl, Nat.zero_le _, Or.inl ⟨rfl, rfl⟩, cg0, fun i i0 i1 => (gI i i0 i1).1, fun i i0 i1 => ?_⟩
        · rintro ⟨m, b, j', D⟩ ⟨j, e1, hj, hS, cg, h11, hQ⟩
          simp only at e1 hS cg h11 hQ
          subst e1
          have hjf : (j : Int) < fa (anS a.s) := by omega
          have hg := Og_pm h4' hjf
          obtain ⟨VO, v0⟩ := orV_b V h4' hjf
          unfold X4_order_s1
          simp only
          refine okT (by omega) (okB (c_take ha hc cg hg h11 hQ) ?_)
          rintro D1 ⟨cf1, hP1⟩
          refine okB (c_thr hP1 VO) ?_
          rintro ⟨r, D2⟩ ⟨er, cf2, -⟩
          simp only at er cf2
          have er' : r = orV a.s (anS a.s) j := er
          subst er'
          simp only
          have cf := CF_t cf1 cf2
          have e00 : D2 0 0 = D 0 0 := cf 0 0 (by omega)
          have hQ2 : Qr (plS a.s) (anS a.s) D2 (pm (anS a.s) j) := fun i i0 i1 => by rw [e00]; exact hQ i i0 i1
          have h112 : ∀ i, 0 ≤ i → i < (anS a.s : Int) → D2 0 0 11 i = plS a.s i := fun i i0 i1 => by rw [e00]; exact h11 i i0 i1
          refine okB (P := fun z => z.1 = (orK a.s (anS a.s) j).1 ∧ z.2 = if anS a.s = 0 then -9 else (orK a.s (anS a.s) j).2) ?_ ?_
          · rcases hS with ⟨rfl, em⟩ | ⟨j0, em, eb⟩
            · refine okT (by omega) (okB (c_dig ha hg hQ2) ?_)
              rintro r rfl
              exact okS ⟨rfl, rfl⟩
            · obtain ⟨i, rfl⟩ : ∃ i, j = i + 1 := ⟨j - 1, by omega⟩
              rw [show i + 1 - 1 = i by omega] at em eb
              have en : orK a.s (anS a.s) (i + 1) = if (orK a.s (anS a.s) i).1 < orV a.s (anS a.s) (i + 1) then (orV a.s (anS a.s) (i + 1), dgN (plS a.s) (pm (anS a.s) (i + 1)) (anS a.s)) else orK a.s (anS a.s) i := rfl
              rw [en, ← em]
              refine okI (fun q => okB (c_dig ha hg hQ2) ?_) (fun q => okS ?_)
              · rintro r rfl
                rw [if_pos q]
                exact okS ⟨rfl, rfl⟩
              · rw [if_neg q]
                exact ⟨em, eb⟩
          · rintro ⟨m', b'⟩ ⟨hm', hb'⟩
            simp only at hm' hb'
            refine okB (c_nx (by omega) (by omega) hQ2 mo) ?_
            have nk := nx_ok ⟨anS a.s, by omega⟩ ⟨j, by omega⟩ hjf
            simp only at nk
            have cg2 : CG C D2 := CG_t cg (CF_G cf)
            rintro ⟨r1, D3⟩ (⟨g1, g2, g3⟩ | ⟨g1, g2, g3, g4⟩)
            · simp only at g1 g2
              subst g1
              subst g2
              have ef := nk.1.mp g3
              have ej : j = F := by omega
              subst ej
              exact okF (by simp only; decide) (okS ⟨hm', hb', RC_G ha hc cg2⟩)
            · simp only at g1 g2 g3
              subst g1
              have nf : ¬ (j : Int) + 1 = fa (anS a.s) := fun z => g4 (nk.1.mpr z)
              have n2 := nk.2 (by omega)
              simp only
              rw [w32_eq (x := (j : Int) + 1) (by omega) (by omega)]
              refine okT (by decide) (okS ⟨⟨j + 1, rfl, by omega, Or.inr ⟨by omega, hm', hb'⟩, CG_t cg2 (fun t l i k h1 h2 => g3 t l i k (by omega)), fun i i0 i1 => ?_, fun i i0 i1 => ?_⟩, by show (24 - ((j : Int) + 1)).toNat < (24 - (j : Int)).toNat; omega⟩)
              · simp only
                rw [g3 0 0 11 i (by omega)]
                exact h112 i i0 i1
              · obtain ⟨k1, k2, k3⟩ := g2 i i0 i1
                have e := n2 ⟨i.toNat, by omega⟩ (by show i.toNat < anS a.s; omega)
                simp only at e
                rw [show ((i.toNat : Nat) : Int) = i by omega] at e
                rw [e] at k1 k2 k3
                exact ⟨k1, k2, k3⟩
        · have e := pm_0 ⟨anS a.s, by omega⟩ ⟨i.toNat, by omega⟩ (by show i.toNat < anS a.s; omega)
          simp only at e
          rw [show ((i.toNat : Nat) : Int) = i by omega] at e
          rw [e]
          exact ⟨(gI i i0 i1).2, i0, i1⟩
      · refine okB (m_was ha p1 f36 z2) ?_
        rintro ⟨y2, P1⟩ ⟨w37, wF⟩
        simp only at w37 wF
        refine okB (m_fa (m := (anS a.s : Int)) (by omega) (by omega)) ?_
        rintro r rfl
        have s1 : Sm a.s P1 := by
          obtain ⟨w1, w2, w3⟩ := p1
          refine ⟨?_, fun y y0 y1 => ?_, fun t t0 t1 => ?_⟩
          · simp only [wF 0 _ (show (0 : Nat) ≠ 37 by decide)]; exact w1
          · rw [wF 2 _ (by decide), wF 3 _ (by decide), wF 4 _ (by decide)]; exact w2 y y0 y1
          · rw [wF 9 _ (by decide), wF 10 _ (by decide), wF 11 _ (by decide), wF 12 _ (by decide), wF 13 _ (by decide), wF 14 _ (by decide)]; exact w3 t t0 t1
        have mf1 : MF P0 P1 := fun i j q => wF i j (by omega)
        simp only
        refine okB (m_open V.1 s1) ?_
        rintro N ⟨n1, n2, n3⟩
        have G : ∀ {A B : LT}, MG A B → ∀ j, B 36 j = A 36 j ∧ B 37 j = A 37 j := fun h j => ⟨h 36 j (by unfold lnC; omega) (by omega) (by omega) (by omega), h 37 j (by unfold lnC; omega) (by omega) (by omega) (by omega)⟩
        have i1 : IM a P0 N := ⟨n2, MF_t mf1 (MG_F n3)⟩
        have a36 : ∀ i, 0 ≤ i → i < ((anS a.s : Nat) : Int) → N 36 i = plS a.s i := fun i i0 i1 => by rw [(G n3 i).1, wF 36 i (by decide)]; exact f36 i i0 i1
        have a37 : W37 a.s (anS a.s) N := fun j j0 j1 => by
          rw [(G n3 _).2, (G n3 _).2, (G n3 _).2, (G n3 _).2]
          exact w37 j j0 j1
        refine okB (P := fun z => z.1 = (orK a.s (anS a.s) F).2 ∧ z.2.1 = (orK a.s (anS a.s) F).1 ∧ Sm a.s z.2.2.2 ∧ IM a P0 z.2.2.2) ?_ (fun z q => okS ⟨by
          simp only
          rw [q.1, q.2.1]
          by_cases e : anS a.s = 0
          · rw [if_pos (c := ((anS a.s : Nat) : Int) = 0) (by omega), if_pos (c := anS a.s = 0) e]
          · rw [if_neg (c := ((anS a.s : Nat) : Int) = 0) (by omega), if_neg (c := anS a.s = 0) e], IM_RM q.2.2.2 rm0 q.2.2.1⟩)
        refine okLoop (fun s => ∃ k : Nat, s.2.2.1 = (k : Int) ∧ k ≤ F + 1 ∧ (k = 0 ∧ s.2.1 = -1 ∨ 0 < k ∧ (s.2.1, s.1) = orK a.s (anS a.s) (k - 1)) ∧ Sm a.s s.2.2.2 ∧ IM a P0 s.2.2.2 ∧ (∀ i, 0 ≤ i → i < ((anS a.s : Nat) : Int) → s.2.2.2 36 i = plS a.s i) ∧ W37 a.s (anS a.s) s.2.2.2) (fun s => ((F : Int) + 1 - s.2.2.1).toNat) ?_ ⟨0, rfl, Nat.zero_le _, Or.inl ⟨rfl, rfl⟩, n1, i1, a36, a37⟩
        rintro ⟨b, m, k', P⟩ ⟨k, e1, hk, hS, q1, q2, b36, b37⟩
        simp only at e1 hS q1 q2 b36 b37
        subst e1
        unfold X5_order_s4
        simp only
        rw [w32_eq (x := (k : Int) + 1) (by omega) (by omega), hF]
        refine okI (fun hlt => ?_) (fun hlt => okS ?_)
        · have hkf : (k : Int) < fa (anS a.s) := by omega
          have hg := Og_pm h4' hkf
          obtain ⟨VO, v0⟩ := orV_b V h4' hkf
          obtain ⟨h, eh⟩ := Option.isSome_iff_exists.mp (pm_ok ⟨anS a.s, by omega⟩ ⟨k, by omega⟩ hkf)
          have eh' : layR (anS a.s : Nat) (anS a.s) 0 k 0 (fun _ => 0) = some h := eh
          have epm : pm (anS a.s) k = h := by
            have e : pmO (anS a.s) k = some h := eh
            unfold pm
            rw [e]
            rfl
          unfold X5_layOrder
          refine okB (P := fun z => (∀ j, 0 ≤ j → j < ((anS a.s : Nat) : Int) → z 38 j = pm (anS a.s) k j) ∧ ∀ c d, c ≠ 38 → z c d = P c d) (okB (m_layR (n := (anS a.s : Nat)) (by omega) (anS a.s) 0 k 0 _ h P eh' (by omega) (by omega) (fun j j0 j1 => by omega)) (fun z q => okS ⟨by rw [epm]; exact q.1, q.2⟩)) ?_
          rintro P2 ⟨h38, hfr⟩
          have s2 : Sm a.s P2 := by
            obtain ⟨w1, w2, w3⟩ := q1
            refine ⟨?_, fun y y0 y1 => ?_, fun t t0 t1 => ?_⟩
            · simp only [hfr 0 _ (show (0 : Nat) ≠ 38 by decide)]; exact w1
            · rw [hfr 2 _ (by decide), hfr 3 _ (by decide), hfr 4 _ (by decide)]; exact w2 y y0 y1
            · rw [hfr 9 _ (by decide), hfr 10 _ (by decide), hfr 11 _ (by decide), hfr 12 _ (by decide), hfr 13 _ (by decide), hfr 14 _ (by decide)]; exact w3 t t0 t1
          have i2 : IM a P0 P2 := ⟨by rw [show P2 27 = P 27 from funext (fun j => hfr 27 j (by decide))]; exact q2.1, MF_t q2.2 (fun i j q => hfr i j (by omega))⟩
          refine okB (m_put ha s2 i2 hg (fun i i0 i1 => by rw [hfr 36 i (by decide)]; exact b36 i i0 i1) (fun j j0 j1 => by rw [hfr 37 _ (by decide), hfr 37 _ (by decide), hfr 37 _ (by decide), hfr 37 _ (by decide)]; exact b37 j j0 j1) h38 (z2, P0) (z2, P0) 0) ?_
          rintro ⟨cd, u1, P3⟩ ⟨g1, g2, g3, g4⟩
          simp only at g1 g2 g3 g4
          subst g1
          simp only
          refine okB (m_throughBy V.1 g3.1 g2 VO.1 VO.2.1 VO.2.2) ?_
          rintro ⟨r, P4⟩ ⟨t1, t2, t3, t4⟩
          simp only at t1 t2 t3 t4
          have t1' : r = orV a.s (anS a.s) k := t1
          subst t1'
          refine okL (okL (okS ⟨⟨k + 1, rfl, by omega, Or.inr ⟨by omega, ?_⟩, t2, ⟨t3, MF_t g3.2 (MG_F t4)⟩, fun i i0 i1 => ?_, fun j j0 j1 => ?_⟩, by show ((F : Int) + 1 - ((k : Int) + 1)).toNat < ((F : Int) + 1 - (k : Int)).toNat; omega⟩))
          · rw [show k + 1 - 1 = k by omega]
            simp only
            rcases hS with ⟨rfl, em⟩ | ⟨k0, em⟩
            · rw [if_pos (by omega), if_pos (by omega)]
              rfl
            · obtain ⟨i, rfl⟩ : ∃ i, k = i + 1 := ⟨k - 1, by omega⟩
              rw [show i + 1 - 1 = i by omega] at em
              have en : orK a.s (anS a.s) (i + 1) = if (orK a.s (anS a.s) i).1 < orV a.s (anS a.s) (i + 1) then (orV a.s (anS a.s) (i + 1), dgN (plS a.s) (pm (anS a.s) (i + 1)) (anS a.s)) else orK a.s (anS a.s) i := rfl
              rw [en, ← em]
              simp only
              split <;> rfl
          · simp only
            rw [(G t4 i).1, (g4 i).1, hfr 36 i (by decide)]
            exact b36 i i0 i1
          · simp only
            rw [(G t4 _).2, (G t4 _).2, (G t4 _).2, (G t4 _).2, (g4 _).2, (g4 _).2, (g4 _).2, (g4 _).2, hfr 37 _ (by decide), hfr 37 _ (by decide), hfr 37 _ (by decide), hfr 37 _ (by decide)]
            exact b37 j j0 j1
        · have ek : k = F + 1 := by omega
          rcases hS with ⟨e0, -⟩ | ⟨-, em⟩
          · omega
          · rw [show k - 1 = F by omega] at em
            rw [← em]
            exact ⟨rfl, rfl, q1, q2⟩
  · rw [if_neg (show ¬ (0 ≤ w ∧ w ≤ 1) by omega), if_pos (rfl : (0 : Int) = 0)]
    exact bo_tt ((c_nei w).mpr hw) (by decide) (Bo_ref ha hc rm0 (by decide))
