theorem c_sink {S L : LT} (h : Sc S L) (V : Val S) : Ok (X2_sinkTrains L) (fun L' => Sc (snk S) L' ∧ Kp L L' ∧ L' 0 14 = L 0 14 ∧ (∀ j, L' 16 j = cif (0 ≤ j ∧ j < S 0 4 ∧ snkP S j) (L 0 14) (L 16 j)) ∧ L' 0 1 = L 0 1) := by
  have hv := V.1
  unfold X2_sinkTrains
  refine okB (P := fun z => Sc (snk S) z.2 ∧ Kp L z.2 ∧ z.2 0 14 = L 0 14 ∧ (∀ j, z.2 16 j = cif (0 ≤ j ∧ j < S 0 4 ∧ snkP S j) (L 0 14) (L 16 j)) ∧ z.2 0 1 = L 0 1) ?_ (fun z q => okS q)
  refine okLoop (fun s => 0 ≤ s.1 ∧ s.1 ≤ S 0 4 ∧ (∀ i j, i ≠ 14 → i ≠ 16 → s.2 i j = L i j) ∧ (∀ j, s.2 14 j = cif (0 ≤ j ∧ j < s.1 ∧ snkP S j) 2 (L 14 j)) ∧ (∀ j, s.2 16 j = cif (0 ≤ j ∧ j < s.1 ∧ snkP S j) (L 0 14) (L 16 j))) (fun s => (S 0 4 - s.1).toNat) ?_ ⟨by omega, by omega, fun _ _ _ _ => rfl, fun j => by rw [cif_f (by simp only; omega)], fun j => by rw [cif_f (by simp only; omega)]⟩
  rintro ⟨t, M⟩ ⟨t0, t1, hfr, h14, h16⟩
  simp only at t0 t1 hfr h14 h16
  unfold X2_sinkTrains_s1
  simp only
  have e4 : M 0 4 = S 0 4 := by rw [hfr 0 4 (by decide) (by decide)]; exact h.1.2.2.2.2
  rw [e4]
  refine okI (fun hlt => ?_) (fun hlt => ?_)
  · obtain ⟨a9, a10, a11, a12, a13, a14⟩ := h.2.2 t t0 hlt
    have bd := V.2.2 t t0 hlt
    have m12 : M 12 t = S 12 t := by rw [hfr 12 t (by decide) (by decide), a12]
    have m14 : M 14 t = S 14 t := by rw [h14, cif_f (by omega), a14]
    have m9 : M 9 t = S 9 t := by rw [hfr 9 t (by decide) (by decide), a9]
    have nx : w32 (t + 1) = t + 1 := w32_eq (by omega) (by omega)
    have mu : (S 0 4 - (t + 1)).toNat < (S 0 4 - t).toNat := by omega
    rw [m12, m14, m9, nx]
    refine okG ⟨t0, by omega⟩ (okL (okG (fun q => ⟨by omega, by omega⟩) ?_))
    have hcond : S 14 t = 0 → S 12 t ≠ -1 → (M 8 (S 12 t) = S 8 (S 12 t) ∧ jdiv (X0_wants_v (M 6 (S 12 t)) (M 7 (S 12 t)) (S 9 t)) 2 = wantS S (S 12 t) (S 9 t) / 2) := by
      intro q1 q2
      obtain ⟨k6, k7, k8⟩ := h.2.1 (S 12 t) (by omega) (by omega)
      have by' := V.2.1 (S 12 t) (by omega) (by omega)
      rw [hfr 8 _ (by decide) (by decide), hfr 6 _ (by decide) (by decide), hfr 7 _ (by decide) (by decide), k6, k7, k8]
      have wb := wt_b (k := S 6 (S 12 t)) (f := S 7 (S 12 t)) (w := S 9 t) (by omega) (by omega) (by omega) (by omega)
      refine ⟨rfl, ?_⟩
      unfold wantS
      exact jdiv2 wb.1 (by omega)
    refine okI (fun hc => ?_) (fun hc => ?_)
    · obtain ⟨⟨q1, q2⟩, q3⟩ := hc
      obtain ⟨c1, c2⟩ := hcond q1 q2
      rw [c1, c2] at q3
      have hs : snkP S t := ⟨q1, q2, q3⟩
      refine okL (okL (okS ⟨⟨by simp only; omega, by simp only; omega, fun i j n14 n16 => ?_, fun j => ?_, fun j => ?_⟩, mu⟩))
      · simp only; rw [lw_i n16, lw_i n14, hfr i j n14 n16]
      · simp only
        rw [lw_i (by decide)]
        by_cases hj : j = t
        · subst hj
          rw [lw_s, cif_t ⟨t0, by omega, hs⟩]
        · rw [lw_j hj, h14]
          by_cases hq : 0 ≤ j ∧ j < t ∧ snkP S j
          · rw [cif_t hq, cif_t ⟨hq.1, by omega, hq.2.2⟩]
          · rw [cif_f hq, cif_f (fun z => hq ⟨z.1, by omega, z.2.2⟩)]
      · simp only
        by_cases hj : j = t
        · subst hj
          rw [lw_s, cif_t ⟨t0, by omega, hs⟩, lw_i (by decide), hfr 0 14 (by decide) (by decide)]
        · rw [lw_j hj, lw_i (by decide), h16]
          by_cases hq : 0 ≤ j ∧ j < t ∧ snkP S j
          · rw [cif_t hq, cif_t ⟨hq.1, by omega, hq.2.2⟩]
          · rw [cif_f hq, cif_f (fun z => hq ⟨z.1, by omega, z.2.2⟩)]
    · have hs : ¬ snkP S t := by
        rintro ⟨q1, q2, q3⟩
        obtain ⟨c1, c2⟩ := hcond q1 q2
        exact hc ⟨⟨q1, q2⟩, by rw [c1, c2]; exact q3⟩
      refine okS ⟨⟨by simp only; omega, by simp only; omega, hfr, fun j => ?_, fun j => ?_⟩, mu⟩
      · simp only
        rw [h14]
        by_cases hq : 0 ≤ j ∧ j < t ∧ snkP S j
        · rw [cif_t hq, cif_t ⟨hq.1, by omega, hq.2.2⟩]
        · rw [cif_f hq, cif_f (fun z => hq ⟨z.1, by
            by_cases hj : j = t
            · subst hj; exact absurd z.2.2 hs
            · omega, z.2.2⟩)]
      · simp only
        rw [h16]
        by_cases hq : 0 ≤ j ∧ j < t ∧ snkP S j
        · rw [cif_t hq, cif_t ⟨hq.1, by omega, hq.2.2⟩]
        · rw [cif_f hq, cif_f (fun z => hq ⟨z.1, by
            by_cases hj : j = t
            · subst hj; exact absurd z.2.2 hs
            · omega, z.2.2⟩)]
  · have et : t = S 0 4 := by omega
    subst et
    refine okS ⟨⟨?_, fun y h0 h1 => ?_, fun t h0 h1 => ?_⟩, ⟨fun i hi j => hfr i j (by omega) (by omega), fun j _ _ => hfr 0 j (by decide) (by decide)⟩, hfr 0 14 (by decide) (by decide), fun j => ?_, hfr 0 1 (by decide) (by decide)⟩
    · simp only [hfr 0 _ (show (0 : Nat) ≠ 14 by decide) (show (0 : Nat) ≠ 16 by decide), snk_fr S (show (0 : Nat) ≠ 14 by decide)]
      exact h.1
    · simp only [hfr 6 _ (show (6 : Nat) ≠ 14 by decide) (by decide), hfr 7 _ (show (7 : Nat) ≠ 14 by decide) (by decide), hfr 8 _ (show (8 : Nat) ≠ 14 by decide) (by decide), snk_fr S (show (6 : Nat) ≠ 14 by decide), snk_fr S (show (7 : Nat) ≠ 14 by decide), snk_fr S (show (8 : Nat) ≠ 14 by decide)]
      exact h.2.1 y h0 h1
    · rw [snk_fr S (by decide)] at h1
      obtain ⟨a9, a10, a11, a12, a13, a14⟩ := h.2.2 t h0 h1
      simp only [hfr 9 _ (show (9 : Nat) ≠ 14 by decide) (by decide), hfr 10 _ (show (10 : Nat) ≠ 14 by decide) (by decide), hfr 11 _ (show (11 : Nat) ≠ 14 by decide) (by decide), hfr 12 _ (show (12 : Nat) ≠ 14 by decide) (by decide), hfr 13 _ (show (13 : Nat) ≠ 14 by decide) (by decide), snk_fr S (show (9 : Nat) ≠ 14 by decide), snk_fr S (show (10 : Nat) ≠ 14 by decide), snk_fr S (show (11 : Nat) ≠ 14 by decide), snk_fr S (show (12 : Nat) ≠ 14 by decide), snk_fr S (show (13 : Nat) ≠ 14 by decide)]
      refine ⟨a9, a10, a11, a12, a13, ?_⟩
      rw [h14, a14]
      unfold snk
      by_cases q : snkP S t
      · rw [cif_t ⟨h0, h1, q⟩, cif_t ⟨rfl, h0, h1, q⟩]
      · rw [cif_f (fun z => q z.2.2), cif_f (fun z => q z.2.2.2)]
    · simp only
      exact h16 j
