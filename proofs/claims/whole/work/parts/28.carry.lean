/-! A line's numbers told into a cell of the model, and taken back -/
def kA (k : Int) : Nat := if k < 5 then 0 else if k < 53 then 2 + ((k - 5) % 3).toNat else 9 + ((k - 53) % 6).toNat
def kB (k : Int) : Int := if k = 0 then 0 else if k < 5 then k + 3 else if k < 53 then (k - 5) / 3 else (k - 53) / 6
def lnC (i : Nat) (j : Int) : Prop := i = 2 ∨ i = 3 ∨ i = 4 ∨ i = 9 ∨ i = 10 ∨ i = 11 ∨ i = 12 ∨ i = 13 ∨ i = 14 ∨ i = 0 ∧ (j = 0 ∨ j = 4 ∨ j = 5 ∨ j = 6 ∨ j = 7 ∨ j = 29 ∨ j = 30 ∨ j = 31)
theorem k_inj {a b : Int} (a0 : 0 ≤ a) (a1 : a < 83) (b0 : 0 ≤ b) (b1 : b < 83) (h : kA a = kA b) (h2 : kB a = kB b) : a = b := by
  unfold kA at h
  unfold kB at h2
  split at h <;> split at h <;> (try split at h) <;> (try split at h) <;> (split at h2 <;> split at h2 <;> (try split at h2) <;> (try split at h2) <;> (try split at h2) <;> (try split at h2)) <;> omega
theorem k_ln {a : Int} (a0 : 0 ≤ a) (a1 : a < 83) : lnC (kA a) (kB a) ∧ ¬ (kA a = 0 ∧ (kB a = 29 ∨ kB a = 30 ∨ kB a = 31)) ∧ kA a < 15 := by
  unfold lnC kA kB
  split <;> (try split) <;> (try split) <;> (try split) <;> omega
def CI (to : Nat) (tk : Int) (M0 : LT) (p : Int) (M : LT) : Prop :=
  M 0 29 = p ∧ M 0 30 = tk ∧ M 0 31 = (to : Int) ∧ (∀ i j, i ≠ to → ¬ lnC i j → M i j = M0 i j) ∧
  (tk ≠ 0 → (∀ k, 0 ≤ k → k < 83 → M (kA k) (kB k) = M0 (kA k) (kB k)) ∧ (∀ k, 0 ≤ k → k < p → M to k = M0 (kA k) (kB k))) ∧
  (tk = 0 → (∀ k, M to k = M0 to k) ∧ (∀ k, 0 ≤ k → k < p → M (kA k) (kB k) = M0 to k))
theorem lw_n {L : LT} {i : Nat} {j v : Int} {i' : Nat} {j' : Int} (h : ¬ (i' = i ∧ j' = j)) : lw L i j v i' j' = L i' j' := by unfold lw; rw [if_neg h]
theorem m_carry {to : Nat} (hto : to = 27 ∨ to = 28 ∨ to = 34) {tk : Int} {M0 M : LT} {p : Int} (p0 : 0 ≤ p) (p1 : p < 83) (h : CI to tk M0 p M) {i : Nat} {j : Int} (hi : kA p = i) (hj : kB p = j) : Ok (X5_carry M (M i j)) (fun z => CI to tk M0 (p + 1) (lw z.2 i j z.1)) := by
  obtain ⟨h29, h30, h31, hfr, h1, h0⟩ := h
  obtain ⟨k1, k2, k3⟩ := k_ln p0 p1
  rw [hi, hj] at k1 k2
  rw [hi] at k3
  have nx : w32 (p + 1) = p + 1 := w32_eq (by omega) (by omega)
  have nb : w32 (p + 1 - 1) = p := by rw [w32_eq (by omega) (by omega)]; omega
  have K : isK (to : Int) := by unfold isK; omega
  have tn : ((to : Int)).toNat = to := Int.toNat_natCast to
  unfold X5_carry
  rw [h30, h31, h29, tn]
  refine okI (fun q => okG K (okG ⟨p0, p1⟩ (okL ?_))) (fun q => ?_)
  · have e29 : lw M to p (M i j) 0 29 = p := by rw [lw_i (by omega), h29]
    rw [e29, nx]
    refine okL ?_
    have f29 : lw (lw M to p (M i j)) 0 29 (p + 1) 0 29 = p + 1 := lw_s _ _ _ _
    have f31 : lw (lw M to p (M i j)) 0 29 (p + 1) 0 31 = (to : Int) := by rw [lw_j (by decide), lw_i (by omega), h31]
    rw [f29, f31, nb, tn]
    refine okG K (okG ⟨p0, p1⟩ (okS ?_))
    have fv : lw (lw M to p (M i j)) 0 29 (p + 1) to p = M i j := by rw [lw_i (by omega), lw_s]
    simp only
    rw [fv]
    obtain ⟨g1, g2⟩ := h1 q
    refine ⟨?_, ?_, ?_, fun i' j' n1 n2 => ?_, fun _ => ⟨fun k q0 q1 => ?_, fun k q0 q1 => ?_⟩, fun q' => absurd q' q⟩
    · rw [lw_n (by omega), lw_s]
    · rw [lw_n (by omega), lw_j (by decide), lw_i (by omega), h30]
    · rw [lw_n (by omega), lw_j (by decide), lw_i (by omega), h31]
    · rw [lw_n (by rintro ⟨rfl, rfl⟩; exact n2 k1), lw_n (by rintro ⟨rfl, rfl⟩; exact n2 (by unfold lnC; omega)), lw_i n1, hfr _ _ n1 n2]
    · obtain ⟨m1, m2, m3⟩ := k_ln q0 q1
      by_cases e : kA k = i ∧ kB k = j
      · rw [e.1, e.2, lw_s]
        have g := g1 k q0 q1
        rw [e.1, e.2] at g
        exact g
      · rw [lw_n e, lw_n (by omega), lw_i (by omega), g1 k q0 q1]
    · rw [lw_n (by omega), lw_i (by omega)]
      by_cases e : k = p
      · rw [e, lw_s, ← g1 p p0 p1, hi, hj]
      · rw [lw_j e, g2 k q0 (by omega)]
  · have q' : tk = 0 := by
      by_cases e : tk = 0
      · exact e
      · exact absurd e q
    rw [nx]
    refine okL ?_
    have f29 : lw M 0 29 (p + 1) 0 29 = p + 1 := lw_s _ _ _ _
    have f31 : lw M 0 29 (p + 1) 0 31 = (to : Int) := by rw [lw_j (by decide), h31]
    rw [f29, f31, nb, tn]
    refine okG K (okG ⟨p0, p1⟩ (okS ?_))
    have fv : lw M 0 29 (p + 1) to p = M to p := by rw [lw_i (by omega)]
    simp only
    rw [fv]
    obtain ⟨g1, g2⟩ := h0 q'
    refine ⟨?_, ?_, ?_, fun i' j' n1 n2 => ?_, fun q'' => absurd q' q'', fun _ => ⟨fun k => ?_, fun k q0 q1 => ?_⟩⟩
    · rw [lw_n (by omega), lw_s]
    · rw [lw_n (by omega), lw_j (by decide), h30]
    · rw [lw_n (by omega), lw_j (by decide), h31]
    · rw [lw_n (by rintro ⟨rfl, rfl⟩; exact n2 k1), lw_n (by rintro ⟨rfl, rfl⟩; exact n2 (by unfold lnC; omega)), hfr _ _ n1 n2]
    · rw [lw_n (by omega), lw_n (by omega), g1]
    · obtain ⟨m1, m2, m3⟩ := k_ln q0 (show k < 83 by omega)
      by_cases e : k = p
      · rw [e, hi, hj, lw_s, g1]
      · rw [lw_n (fun z => e (k_inj q0 (by omega) p0 p1 (z.1.trans hi.symm) (z.2.trans hj.symm))), lw_n (by omega), g2 k q0 (by omega)]
theorem m_carryAll {to : Nat} (hto : to = 27 ∨ to = 28 ∨ to = 34) {tk : Int} (htk : tk = 0 ∨ tk = 1) (M : LT) : Ok (X5_carryAll M (to : Int) tk) (fun M' => CI to tk M 83 M') := by
  have K : isK (to : Int) := by unfold isK; omega
  unfold X5_carryAll
  refine okG K (okL (okG htk (okL (okL ?_))))
  have c0 : CI to tk M 0 (lw (lw (lw M 0 31 to) 0 30 tk) 0 29 0) := by
    have fr : ∀ i j, ¬ (i = 0 ∧ (j = 29 ∨ j = 30 ∨ j = 31)) → lw (lw (lw M 0 31 to) 0 30 tk) 0 29 0 i j = M i j := by
      intro i j n
      rw [lw_n (by omega), lw_n (by omega), lw_n (by omega)]
    refine ⟨lw_s _ _ _ _, by rw [lw_j (by decide), lw_s], by rw [lw_j (by decide), lw_j (by decide), lw_s], fun i j n1 n2 => fr i j (fun q => n2 (by unfold lnC; omega)), fun _ => ⟨fun k q0 q1 => fr _ _ (k_ln q0 q1).2.1, fun k q0 q1 => by omega⟩, fun _ => ⟨fun k => fr _ _ (by omega), fun k q0 q1 => by omega⟩⟩
  refine okB (m_carry hto (by omega) (by omega) c0 (i := 0) (j := 0) (by decide) (by decide)) (fun z1 c1 => okL ?_)
  refine okB (m_carry hto (by omega) (by omega) c1 (i := 0) (j := 4) (by decide) (by decide)) (fun z2 c2 => okL ?_)
  refine okB (m_carry hto (by omega) (by omega) c2 (i := 0) (j := 5) (by decide) (by decide)) (fun z3 c3 => okL ?_)
  refine okB (m_carry hto (by omega) (by omega) c3 (i := 0) (j := 6) (by decide) (by decide)) (fun z4 c4 => okL ?_)
  refine okB (m_carry hto (by omega) (by omega) c4 (i := 0) (j := 7) (by decide) (by decide)) (fun z5 c5 => okL ?_)
  generalize hN5 : lw z5.2 0 7 z5.1 = N5 at c5
  refine okB (P := fun z => CI to tk M 53 z.2) ?_ ?_
  · refine okLoop (fun s => 0 ≤ s.1 ∧ s.1 ≤ 16 ∧ CI to tk M (5 + 3 * s.1) s.2) (fun s => (16 - s.1).toNat) ?_ ⟨Int.le_refl 0, by show (0 : Int) ≤ 16; omega, c5⟩
    rintro ⟨y, N⟩ ⟨y0, y1, c⟩
    simp only at y0 y1 c
    unfold X5_carryAll_s1
    simp only
    have nx : w32 (y + 1) = y + 1 := w32_eq (by omega) (by omega)
    rw [nx]
    refine okI (fun hlt => okG ⟨y0, hlt⟩ ?_) (fun hlt => okS (by
      have e : y = 16 := by omega
      rw [e] at c
      exact c))
    refine okB (m_carry hto (by omega) (by omega) c (i := 2) (j := y) (by unfold kA; rw [if_neg (by omega), if_pos (by omega)]; omega) (by unfold kB; rw [if_neg (by omega), if_neg (by omega), if_pos (by omega)]; omega)) (fun w1 d1 => okL ?_)
    refine okB (m_carry hto (by omega) (by omega) d1 (i := 3) (j := y) (by unfold kA; rw [if_neg (by omega), if_pos (by omega)]; omega) (by unfold kB; rw [if_neg (by omega), if_neg (by omega), if_pos (by omega)]; omega)) (fun w2 d2 => okL ?_)
    refine okB (m_carry hto (by omega) (by omega) d2 (i := 4) (j := y) (by unfold kA; rw [if_neg (by omega), if_pos (by omega)]; omega) (by unfold kB; rw [if_neg (by omega), if_neg (by omega), if_pos (by omega)]; omega)) (fun w3 d3 => okL (okS ⟨⟨by simp only; omega, by simp only; omega, ?_⟩, by show (16 - (y + 1)).toNat < (16 - y).toNat; omega⟩))
    simp only
    rw [show 5 + 3 * (y + 1) = 5 + 3 * y + 1 + 1 + 1 by omega]
    exact d3
  rintro ⟨z6, N6⟩ c6
  simp only at c6
  refine okB (P := fun z => CI to tk M 83 z.2) ?_ (fun z q => okS q)
  refine okLoop (fun s => 0 ≤ s.1 ∧ s.1 ≤ 5 ∧ CI to tk M (53 + 6 * s.1) s.2) (fun s => (5 - s.1).toNat) ?_ ⟨Int.le_refl 0, by show (0 : Int) ≤ 5; omega, c6⟩
  rintro ⟨t, N⟩ ⟨t0, t1, c⟩
  simp only at t0 t1 c
  unfold X5_carryAll_s2
  simp only
  have nx : w32 (t + 1) = t + 1 := w32_eq (by omega) (by omega)
  rw [nx]
  refine okI (fun hlt => okG ⟨t0, hlt⟩ ?_) (fun hlt => okS (by
    have e : t = 5 := by omega
    rw [e] at c
    exact c))
  refine okB (m_carry hto (by omega) (by omega) c (i := 9) (j := t) (by unfold kA; rw [if_neg (by omega), if_neg (by omega)]; omega) (by unfold kB; rw [if_neg (by omega), if_neg (by omega), if_neg (by omega)]; omega)) (fun w1 d1 => okL ?_)
  refine okB (m_carry hto (by omega) (by omega) d1 (i := 10) (j := t) (by unfold kA; rw [if_neg (by omega), if_neg (by omega)]; omega) (by unfold kB; rw [if_neg (by omega), if_neg (by omega), if_neg (by omega)]; omega)) (fun w2 d2 => okL ?_)
  refine okB (m_carry hto (by omega) (by omega) d2 (i := 11) (j := t) (by unfold kA; rw [if_neg (by omega), if_neg (by omega)]; omega) (by unfold kB; rw [if_neg (by omega), if_neg (by omega), if_neg (by omega)]; omega)) (fun w3 d3 => okL ?_)
  refine okB (m_carry hto (by omega) (by omega) d3 (i := 12) (j := t) (by unfold kA; rw [if_neg (by omega), if_neg (by omega)]; omega) (by unfold kB; rw [if_neg (by omega), if_neg (by omega), if_neg (by omega)]; omega)) (fun w4 d4 => okL ?_)
  refine okB (m_carry hto (by omega) (by omega) d4 (i := 13) (j := t) (by unfold kA; rw [if_neg (by omega), if_neg (by omega)]; omega) (by unfold kB; rw [if_neg (by omega), if_neg (by omega), if_neg (by omega)]; omega)) (fun w5 d5 => okL ?_)
  refine okB (m_carry hto (by omega) (by omega) d5 (i := 14) (j := t) (by unfold kA; rw [if_neg (by omega), if_neg (by omega)]; omega) (by unfold kB; rw [if_neg (by omega), if_neg (by omega), if_neg (by omega)]; omega)) (fun w6 d6 => okL (okS ⟨⟨by simp only; omega, by simp only; omega, ?_⟩, by show (5 - (t + 1)).toNat < (5 - t).toNat; omega⟩))
  simp only
  rw [show 53 + 6 * (t + 1) = 53 + 6 * t + 1 + 1 + 1 + 1 + 1 + 1 by omega]
  exact d6
/-- a line's numbers, one behind another -/
def ser (S : LT) (f : Int → Int) : Prop := (f 0 = S 0 0 ∧ f 1 = S 0 1 ∧ f 2 = S 0 2 ∧ f 3 = S 0 3 ∧ f 4 = S 0 4) ∧ (∀ y, 0 ≤ y → y < 16 → f (5 + 3 * y) = S 6 y ∧ f (6 + 3 * y) = S 7 y ∧ f (7 + 3 * y) = S 8 y) ∧ (∀ t, 0 ≤ t → t < S 0 4 → f (53 + 6 * t) = S 9 t ∧ f (54 + 6 * t) = S 10 t ∧ f (55 + 6 * t) = S 11 t ∧ f (56 + 6 * t) = S 12 t ∧ f (57 + 6 * t) = S 13 t ∧ f (58 + 6 * t) = S 14 t)
theorem k_y {y : Int} (y0 : 0 ≤ y) (y1 : y < 16) : kA (5 + 3 * y) = 2 ∧ kA (6 + 3 * y) = 3 ∧ kA (7 + 3 * y) = 4 ∧ kB (5 + 3 * y) = y ∧ kB (6 + 3 * y) = y ∧ kB (7 + 3 * y) = y := by
  refine ⟨?_, ?_, ?_, ?_, ?_, ?_⟩
  · unfold kA; rw [if_neg (by omega), if_pos (by omega)]; omega
  · unfold kA; rw [if_neg (by omega), if_pos (by omega)]; omega
  · unfold kA; rw [if_neg (by omega), if_pos (by omega)]; omega
  · unfold kB; rw [if_neg (by omega), if_neg (by omega), if_pos (by omega)]; omega
  · unfold kB; rw [if_neg (by omega), if_neg (by omega), if_pos (by omega)]; omega
  · unfold kB; rw [if_neg (by omega), if_neg (by omega), if_pos (by omega)]; omega
theorem k_t {t : Int} (t0 : 0 ≤ t) (r : Int) (r0 : 0 ≤ r) (r1 : r < 6) : kA (53 + r + 6 * t) = 9 + r.toNat ∧ kB (53 + r + 6 * t) = t := by
  refine ⟨?_, ?_⟩
  · unfold kA; rw [if_neg (by omega), if_neg (by omega)]; omega
  · unfold kB; rw [if_neg (by omega), if_neg (by omega), if_neg (by omega)]; omega
theorem ser_iff {S M : LT} {f : Int → Int} (V : Val S) (e : ∀ k, 0 ≤ k → k < 83 → f k = M (kA k) (kB k)) : ser S f ↔ Sm S M := by
  have hv := V.1
  have e0 := e 0 (by omega) (by omega)
  have e1 := e 1 (by omega) (by omega)
  have e2 := e 2 (by omega) (by omega)
  have e3 := e 3 (by omega) (by omega)
  have e4 := e 4 (by omega) (by omega)
  have y_ : ∀ y, 0 ≤ y → y < 16 → f (5 + 3 * y) = M 2 y ∧ f (6 + 3 * y) = M 3 y ∧ f (7 + 3 * y) = M 4 y := by
    intro y y0 y1
    obtain ⟨a1, a2, a3, b1, b2, b3⟩ := k_y y0 y1
    rw [e _ (by omega) (by omega), e (6 + 3 * y) (by omega) (by omega), e (7 + 3 * y) (by omega) (by omega), a1, a2, a3, b1, b2, b3]
    exact ⟨rfl, rfl, rfl⟩
  have t_ : ∀ t, 0 ≤ t → t < 5 → f (53 + 6 * t) = M 9 t ∧ f (54 + 6 * t) = M 10 t ∧ f (55 + 6 * t) = M 11 t ∧ f (56 + 6 * t) = M 12 t ∧ f (57 + 6 * t) = M 13 t ∧ f (58 + 6 * t) = M 14 t := by
    intro t t0 t1
    have a0 := k_t t0 0 (by omega) (by omega)
    have a1 := k_t t0 1 (by omega) (by omega)
    have a2 := k_t t0 2 (by omega) (by omega)
    have a3 := k_t t0 3 (by omega) (by omega)
    have a4 := k_t t0 4 (by omega) (by omega)
    have a5 := k_t t0 5 (by omega) (by omega)
    refine ⟨?_, ?_, ?_, ?_, ?_, ?_⟩
    · rw [e _ (by omega) (by omega), show 53 + 6 * t = 53 + 0 + 6 * t by omega, a0.1, a0.2]; rfl
    · rw [e _ (by omega) (by omega), show 54 + 6 * t = 53 + 1 + 6 * t by omega, a1.1, a1.2]; rfl
    · rw [e _ (by omega) (by omega), show 55 + 6 * t = 53 + 2 + 6 * t by omega, a2.1, a2.2]; rfl
    · rw [e _ (by omega) (by omega), show 56 + 6 * t = 53 + 3 + 6 * t by omega, a3.1, a3.2]; rfl
    · rw [e _ (by omega) (by omega), show 57 + 6 * t = 53 + 4 + 6 * t by omega, a4.1, a4.2]; rfl
    · rw [e _ (by omega) (by omega), show 58 + 6 * t = 53 + 5 + 6 * t by omega, a5.1, a5.2]; rfl
  have z0 : f 0 = M 0 0 := e0
  have z1 : f 1 = M 0 4 := e1
  have z2 : f 2 = M 0 5 := e2
  have z3 : f 3 = M 0 6 := e3
  have z4 : f 4 = M 0 7 := e4
  unfold ser Sm
  rw [z0, z1, z2, z3, z4]
  refine and_congr Iff.rfl (and_congr ⟨fun h y q0 q1 => ?_, fun h y q0 q1 => ?_⟩ ⟨fun h t q0 q1 => ?_, fun h t q0 q1 => ?_⟩)
  · have := h y q0 q1
    rw [(y_ y q0 q1).1, (y_ y q0 q1).2.1, (y_ y q0 q1).2.2] at this
    exact this
  · rw [(y_ y q0 q1).1, (y_ y q0 q1).2.1, (y_ y q0 q1).2.2]
    exact h y q0 q1
  · obtain ⟨w1, w2, w3, w4, w5, w6⟩ := t_ t q0 (by omega)
    have := h t q0 q1
    rw [w1, w2, w3, w4, w5, w6] at this
    exact this
  · obtain ⟨w1, w2, w3, w4, w5, w6⟩ := t_ t q0 (by omega)
    rw [w1, w2, w3, w4, w5, w6]
    exact h t q0 q1
/-- what the model's weighing of an outcome leaves -/
def MG (M M' : LT) : Prop := ∀ i j, ¬ lnC i j → i ≠ 17 → i ≠ 18 → i ≠ 27 → M' i j = M i j
theorem MG_r (M : LT) : MG M M := fun _ _ _ _ _ _ => rfl
theorem MG_t {A B C : LT} (h1 : MG A B) (h2 : MG B C) : MG A C := fun i j a b c d => (h2 i j a b c d).trans (h1 i j a b c d)
theorem MK_G {A B : LT} (h : MK A B) : MG A B := fun i j a b c d => h i j (fun q => a (by unfold lnC; omega)) (fun q => a (by unfold lnC; omega))
theorem MG_lw {M : LT} {i : Nat} {j v : Int} (h : lnC i j ∨ i = 17 ∨ i = 18 ∨ i = 27) : MG M (lw M i j v) := by
  intro i' j' a b c d
  refine lw_n ?_
  rintro ⟨rfl, rfl⟩
  rcases h with h | h | h | h
  · exact a h
  · exact b h
  · exact c h
  · exact d h
theorem m_tell {S M : LT} (V : Val S) (h : Sm S M) {to : Nat} (hto : to = 27 ∨ to = 28 ∨ to = 34) : Ok (X5_carryAll M (to : Int) 1) (fun M' => Sm S M' ∧ ser S (M' to) ∧ ∀ i j, ¬ lnC i j → i ≠ to → M' i j = M i j) := by
  refine okW (m_carryAll hto (Or.inr rfl) M) ?_
  rintro M' ⟨-, -, -, hfr, h1, -⟩
  obtain ⟨g1, g2⟩ := h1 (by decide)
  have s : ser S (fun k => M (kA k) (kB k)) := (ser_iff V (fun k _ _ => rfl)).mpr h
  refine ⟨(ser_iff V (fun k q0 q1 => (g1 k q0 q1).symm)).mp s, ?_, fun i j a b => hfr i j b a⟩
  have : ∀ k, 0 ≤ k → k < 83 → M' to k = M (kA k) (kB k) := g2
  exact (ser_iff V this).mpr h
theorem m_give {S M : LT} (V : Val S) {to : Nat} (hto : to = 27 ∨ to = 28 ∨ to = 34) (h : ser S (M to)) : Ok (X5_carryAll M (to : Int) 0) (fun M' => Sm S M' ∧ ser S (M' to) ∧ ∀ i j, ¬ lnC i j → M' i j = M i j) := by
  refine okW (m_carryAll hto (Or.inl rfl) M) ?_
  rintro M' ⟨-, -, -, hfr, -, h0⟩
  obtain ⟨g1, g2⟩ := h0 rfl
  have e : M' to = M to := funext g1
  rw [e]
  refine ⟨(ser_iff V (fun k q0 q1 => (g2 k q0 q1).symm)).mp h, h, fun i j a => ?_⟩
  by_cases q : i = to
  · rw [q, g1]
  · exact hfr i j q a
theorem m_open {S M : LT} (V : Val S) (h : Sm S M) : Ok (X5_open M) (fun M' => Sm S M' ∧ ser S (M' 27) ∧ MG M M') := by
  unfold X5_open
  refine okB (m_tell V h (to := 27) (Or.inl rfl)) (fun z q => okS ⟨q.1, q.2.1, fun i j a b c d => q.2.2 i j a d⟩)
theorem m_close {S M : LT} (V : Val S) (h : ser S (M 27)) : Ok (X5_close M) (fun M' => Sm S M' ∧ ser S (M' 27) ∧ MG M M' ∧ (∀ j, M' 17 j = M 17 j) ∧ ∀ j, M' 18 j = M 18 j) := by
  unfold X5_close
  refine okB (m_give V (to := 27) (Or.inl rfl) h) (fun z q => okS ⟨q.1, q.2.1, fun i j a b c d => q.2.2 i j a, fun j => q.2.2 17 j (by unfold lnC; omega), fun j => q.2.2 18 j (by unfold lnC; omega)⟩)
