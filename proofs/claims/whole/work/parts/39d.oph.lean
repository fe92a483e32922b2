/-! judge, row, clear, and the calls that read -/
def aRow (a : Ab) (n : Int) (f : Int → Int) : Ab := mkA a.s a.im a.hi a.n a.tu a.ln a.tx n f a.rf
theorem RC_row {a : Ab} {C : GG} (h : RC a C) (n : Int) (f : Int → Int) {C' : GG} (g : ∀ t l i j, ¬ (t = 0 ∧ l = 0 ∧ (i = 7 ∨ i = 0 ∧ j = 7)) → C' t l i j = C t l i j) (h1 : C' 0 0 0 7 = n) (h2 : ∀ k, 0 ≤ k → k < n → C' 0 0 7 k = f k) : RC (aRow a n f) C' := by
  have gl : ∀ t l, ¬ (t = 0 ∧ l = 0) → C' t l = C t l := fun t l q => funext (fun i => funext (fun j => g t l i j (by omega)))
  obtain ⟨e1, ⟨e2, e3⟩, ⟨e4, e5, e6⟩, ⟨e7, e8⟩, -, e11⟩ := h
  refine ⟨by rw [gl 1 0 (by omega)]; exact e1, ⟨by rw [g 0 0 0 3 (by omega)]; exact e2, fun q => by rw [gl 1 2 (by omega)]; exact e3 q⟩, ⟨by rw [gl 3 0 (by omega)]; exact e4, ⟨by rw [gl 3 0 (by omega)]; exact e5.1, by rw [gl 3 0 (by omega)]; exact e5.2⟩, fun k q0 q1 => by rw [gl 3 0 (by omega), gl 1 _ (by omega)]; exact e6 k q0 q1⟩, ⟨by rw [gl 2 0 (by omega)]; exact e7, fun k q0 q1 => by rw [gl 2 0 (by omega)]; exact e8 k q0 q1⟩, ⟨h1, h2⟩, fun k q0 q1 => by rw [g 0 0 9 k (by omega)]; exact e11 k q0 q1⟩
theorem RM_row {a : Ab} {M : LT} (h : RM a M) (n : Int) (f : Int → Int) {M' : LT} (g : ∀ i j, ¬ (i = 39 ∨ i = 0 ∧ (j = 39 ∨ j = 14)) → M' i j = M i j) (h1 : M' 0 39 = n) (h2 : ∀ k, 0 ≤ k → k < n → M' 39 k = f k) : RM (aRow a n f) M' := by
  obtain ⟨e1, ⟨e2, e3⟩, ⟨e4, e6⟩, ⟨e7, e8⟩, -, e11⟩ := h
  have g28 : M' 28 = M 28 := funext (fun j => g 28 j (by omega))
  have g33 : ∀ j, M' 33 j = M 33 j := fun j => g 33 j (by omega)
  refine ⟨?_, ⟨by rw [g 0 28 (by omega)]; exact e2, fun q => by rw [g28]; exact e3 q⟩, ⟨by rw [g 0 34 (by omega)]; exact e4, fun k q0 q1 => by simp only [g33]; exact e6 k q0 q1⟩, ⟨by rw [g 0 19 (by omega)]; exact e7, fun k q0 q1 => by rw [g 19 k (by omega)]; exact e8 k q0 q1⟩, ⟨h1, h2⟩, fun k q0 q1 => by rw [g 16 k (by omega)]; exact e11 k q0 q1⟩
  obtain ⟨w1, w2, w3⟩ := e1
  refine ⟨?_, fun y y0 y1 => ?_, fun t t0 t1 => ?_⟩
  · rw [g 0 0 (by omega), g 0 4 (by omega), g 0 5 (by omega), g 0 6 (by omega), g 0 7 (by omega)]; exact w1
  · rw [g 2 y (by omega), g 3 y (by omega), g 4 y (by omega)]; exact w2 y y0 y1
  · rw [g 9 t (by omega), g 10 t (by omega), g 11 t (by omega), g 12 t (by omega), g 13 t (by omega), g 14 t (by omega)]; exact w3 t t0 t1
theorem op_clear : Op0 X4_clear X5_clear := by
  rintro C M ⟨a, ha, hc, hm⟩
  have hm1 := RM_14 hm 0
  have h9 := hc.2.2.2.2.1
  have m9 := hm1.2.2.2.2.1
  refine Bo_op ⟨aRow a 0 a.rw, a.rn, ⟨ha.1, ha.2.1, ha.2.2.1, ha.2.2.2.1, Int.le_refl 0, by show (0 : Int) ≤ 16; omega, fun k q0 q1 => absurd (show k < 0 from q1) (by omega)⟩, ?_, ?_⟩
  · unfold X4_clear
    refine okL (okL (okS ⟨h9.1, RC_row hc 0 a.rw (fun t l i j q => ?_) ?_ (fun k q0 q1 => by omega)⟩))
    · simp only [hw]
      rw [if_neg (by omega)]
    · simp [hw]
  · unfold X5_clear
    refine okL (okL (okL (okS ⟨m9.1, RM_row hm 0 a.rw (fun i j q => ?_) ?_ (fun k q0 q1 => by omega)⟩)))
    · simp only
      rw [lw_n (by omega), lw_n (by omega)]
    · simp only
      rw [lw_s]
theorem op_row : Op1 X4_row X5_row := by
  rintro C M ⟨a, ha, hc, hm⟩ v -
  have hm1 := RM_14 hm 0
  have h9 := hc.2.2.2.2.1
  have m9 := hm1.2.2.2.2.1
  have b9 := ha.2.2.2.2
  refine Bo_op ?_
  unfold X4_row X5_row
  simp only [lt]
  rw [h9.1, m9.1]
  by_cases h1 : v < 0
  · have e : X4_outside_v v 0 99 = -4 := by unfold X4_outside_v; rw [if_pos h1]
    rw [e]
    exact bo_tt (by decide) h1 (Bo_ref ha hc hm1 (by decide))
  · by_cases h2 : 99 < v
    · have e : X4_outside_v v 0 99 = -6 := by unfold X4_outside_v; rw [if_neg h1, if_pos h2]
      rw [e]
      exact bo_t_ (by decide) (bo__f h1 (bo__t (Or.inl h2) (Bo_ref ha hc hm1 (by decide))))
    · have e : X4_outside_v v 0 99 = 0 := by unfold X4_outside_v; rw [if_neg h1, if_neg h2]
      rw [e]
      refine bo_f_ (fun z => z rfl) (bo__f h1 ?_)
      by_cases h3 : a.rn = 16
      · exact bo_tt (by omega) (Or.inr h3) (Bo_ref ha hc hm1 (by decide))
      · refine bo_ff (by omega) (by omega) ⟨aRow a (a.rn + 1) (fun k => if k = a.rn then v else a.rw k), a.rn + 1, ⟨ha.1, ha.2.1, ha.2.2.1, ha.2.2.2.1, by show 0 ≤ a.rn + 1; omega, by show a.rn + 1 ≤ 16; omega, fun k q0 q1 => ?_⟩, ?_, ?_⟩
        · show 0 ≤ (if k = a.rn then v else a.rw k) ∧ (if k = a.rn then v else a.rw k) ≤ 99
          have q1' : k < a.rn + 1 := q1
          split
          · omega
          · exact b9.2.2 k q0 (by omega)
        · have e7 : hw C (0, 0, 7) a.rn v 0 0 0 7 = a.rn := by simp [hw]; exact h9.1
          rw [e7, w32_eq (by omega) (by omega)]
          refine okG ⟨by omega, by omega⟩ (okS ⟨by simp [hw], RC_row hc _ _ (fun t l i j q => ?_) (by simp [hw]) (fun k q0 q1 => ?_)⟩)
          · simp only [hw]
            rw [if_neg (by omega), if_neg (by omega)]
          · simp only [hw]
            rw [if_neg (by omega)]
            by_cases ek : k = a.rn
            · rw [if_pos ⟨trivial, trivial, trivial, ek⟩, if_pos ek]
            · rw [if_neg (fun z => ek z.2.2.2), if_neg ek]
              exact h9.2 k q0 (by omega)
        · have e7 : lw (lw M 0 14 0) 39 a.rn v 0 39 = a.rn := by rw [lw_i (by decide)]; exact m9.1
          rw [e7, w32_eq (by omega) (by omega)]
          refine okG ⟨by omega, by omega⟩ (okS ⟨by simp only; rw [lw_s], RM_row hm _ _ (fun i j q => ?_) (by simp only; rw [lw_s]) (fun k q0 q1 => ?_)⟩)
          · simp only
            rw [lw_n (by omega), lw_n (by omega), lw_n (by omega)]
          · simp only
            rw [lw_i (by decide)]
            by_cases ek : k = a.rn
            · rw [ek, lw_s, if_pos rfl]
            · rw [lw_j ek, if_neg ek]
              exact m9.2 k q0 (by omega)
