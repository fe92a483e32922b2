/-! The model's hour -/
theorem m_sink {S M : LT} (h : Sm S M) (V : Val S) : Ok (lp X5_hourOn_s3 (0, M)) (fun z => Sm (snk S) z.2 ∧ MK M z.2 ∧ z.2 0 4 = M 0 4 ∧ (∀ j, z.2 17 j = M 17 j)) := by
  have hv := V.1
  refine okLoop (fun s => 0 ≤ s.1 ∧ s.1 ≤ S 0 4 ∧ (∀ i j, i ≠ 14 → s.2 i j = M i j) ∧ (∀ j, s.2 14 j = cif (0 ≤ j ∧ j < s.1 ∧ snkP S j) 2 (M 14 j))) (fun s => (S 0 4 - s.1).toNat) ?_ ⟨by omega, by omega, fun _ _ _ => rfl, fun j => by rw [cif_f (by simp only; omega)]⟩
  rintro ⟨t, N⟩ ⟨t0, t1, hfr, h14⟩
  simp only at t0 t1 hfr h14
  unfold X5_hourOn_s3
  simp only
  have e4 : N 0 7 = S 0 4 := by rw [hfr 0 7 (by decide)]; exact h.1.2.2.2.2
  rw [e4]
  refine okI (fun hlt => ?_) (fun hlt => ?_)
  · obtain ⟨a9, a10, a11, a12, a13, a14⟩ := h.2.2 t t0 hlt
    have bd := V.2.2 t t0 hlt
    have m12 : N 12 t = S 12 t := by rw [hfr 12 t (by decide), a12]
    have m14 : N 14 t = S 14 t := by rw [h14, cif_f (by omega), a14]
    have m9 : N 9 t = S 9 t := by rw [hfr 9 t (by decide), a9]
    have nx : w32 (t + 1) = t + 1 := w32_eq (by omega) (by omega)
    have mu : (S 0 4 - (t + 1)).toNat < (S 0 4 - t).toNat := by omega
    rw [m12, m14, m9, nx]
    have hcond : S 14 t = 0 → 0 ≤ S 12 t → (N 4 (S 12 t) = S 8 (S 12 t) ∧ jdiv (X5_wants_v N (S 12 t) (S 9 t)) 2 = wantS S (S 12 t) (S 9 t) / 2) := by
      intro q1 q2
      obtain ⟨k6, k7, k8⟩ := h.2.1 (S 12 t) (by omega) (by omega)
      have by' := V.2.1 (S 12 t) (by omega) (by omega)
      rw [x5_wants, hfr 4 _ (by decide), hfr 2 _ (by decide), hfr 3 _ (by decide), k6, k7, k8]
      have wb := wt_b (k := S 6 (S 12 t)) (f := S 7 (S 12 t)) (w := S 9 t) (by omega) (by omega) (by omega) (by omega)
      refine ⟨rfl, ?_⟩
      unfold wantS
      exact jdiv2 wb.1 (by omega)
    refine okG ⟨t0, by omega⟩ (okG (fun q => ⟨q.2, by omega⟩) (okG (fun q => ⟨q.2, by omega⟩) ?_))
    refine okI (fun hc => ?_) (fun hc => ?_)
    · obtain ⟨⟨q1, q2⟩, q3⟩ := hc
      obtain ⟨c1, c2⟩ := hcond q1 q2
      rw [c1, c2] at q3
      have hs : snkP S t := ⟨q1, by omega, q3⟩
      refine okL (okS ⟨⟨by simp only; omega, by simp only; omega, fun i j n14 => ?_, fun j => ?_⟩, mu⟩)
      · simp only; rw [lw_i n14, hfr i j n14]
      · simp only
        by_cases hj : j = t
        · subst hj
          rw [lw_s, cif_t ⟨t0, by omega, hs⟩]
        · rw [lw_j hj, h14]
          by_cases hq : 0 ≤ j ∧ j < t ∧ snkP S j
          · rw [cif_t hq, cif_t ⟨hq.1, by omega, hq.2.2⟩]
          · rw [cif_f hq, cif_f (fun z => hq ⟨z.1, by omega, z.2.2⟩)]
    · have hs : ¬ snkP S t := by
        rintro ⟨q1, q2, q3⟩
        obtain ⟨c1, c2⟩ := hcond q1 (by omega)
        exact hc ⟨⟨q1, by omega⟩, by rw [c1, c2]; exact q3⟩
      refine okS ⟨⟨by simp only; omega, by simp only; omega, hfr, fun j => ?_⟩, mu⟩
      simp only
      rw [h14]
      by_cases hq : 0 ≤ j ∧ j < t ∧ snkP S j
      · rw [cif_t hq, cif_t ⟨hq.1, by omega, hq.2.2⟩]
      · rw [cif_f hq, cif_f (fun z => hq ⟨z.1, by
          by_cases hj : j = t
          · subst hj; exact absurd z.2.2 hs
          · omega, z.2.2⟩)]
  · have et : t = S 0 4 := by omega
    subst et
    refine okS ⟨⟨?_, fun y h0 h1 => ?_, fun t h0 h1 => ?_⟩, fun i j h1 h2 => hfr i j (by omega), hfr 0 4 (by decide), fun j => hfr 17 j (by decide)⟩
    · simp only [hfr 0 _ (show (0 : Nat) ≠ 14 by decide), snk_fr S (show (0 : Nat) ≠ 14 by decide)]
      exact h.1
    · simp only [hfr 2 _ (show (2 : Nat) ≠ 14 by decide), hfr 3 _ (show (3 : Nat) ≠ 14 by decide), hfr 4 _ (show (4 : Nat) ≠ 14 by decide), snk_fr S (show (6 : Nat) ≠ 14 by decide), snk_fr S (show (7 : Nat) ≠ 14 by decide), snk_fr S (show (8 : Nat) ≠ 14 by decide)]
      exact h.2.1 y h0 h1
    · rw [snk_fr S (by decide)] at h1
      obtain ⟨a9, a10, a11, a12, a13, a14⟩ := h.2.2 t h0 h1
      simp only [hfr 9 _ (show (9 : Nat) ≠ 14 by decide), hfr 10 _ (show (10 : Nat) ≠ 14 by decide), hfr 11 _ (show (11 : Nat) ≠ 14 by decide), hfr 12 _ (show (12 : Nat) ≠ 14 by decide), hfr 13 _ (show (13 : Nat) ≠ 14 by decide), snk_fr S (show (9 : Nat) ≠ 14 by decide), snk_fr S (show (10 : Nat) ≠ 14 by decide), snk_fr S (show (11 : Nat) ≠ 14 by decide), snk_fr S (show (12 : Nat) ≠ 14 by decide), snk_fr S (show (13 : Nat) ≠ 14 by decide)]
      refine ⟨a9, a10, a11, a12, a13, ?_⟩
      rw [h14, a14]
      unfold snk
      by_cases q : snkP S t
      · rw [cif_t ⟨h0, h1, q⟩, cif_t ⟨rfl, h0, h1, q⟩]
      · rw [cif_f (fun z => q z.2.2), cif_f (fun z => q z.2.2.2)]
theorem m_frost {S M : LT} (h : Sm S M) (V : Val S) (hh0 : 0 ≤ S 0 1) : Ok (lp (X5_hourOn_s1 (S 0 1 % 24)) (0, M)) (fun z => Sm (fmS S) z.2 ∧ MK M z.2 ∧ z.2 0 4 = M 0 4 ∧ (∀ j, z.2 17 j = M 17 j)) := by
  have hv := V.1
  refine okW (P := fun z => z.2 = upT M 4 (frz S) (S 0 0)) ?_ ?_
  · refine okLoop (fun s => 0 ≤ s.1 ∧ s.1 ≤ S 0 0 ∧ s.2 = upT M 4 (frz S) s.1) (fun s => (S 0 0 - s.1).toNat) ?_ ⟨by omega, by simp only; omega, (upT_0 M 4 (frz S)).symm⟩
    rintro ⟨y, N⟩ ⟨y0, y1, hN⟩
    simp only at y0 y1 hN
    subst hN
    unfold X5_hourOn_s1
    simp only
    rw [upT_c (show (0 : Nat) ≠ 4 by decide), h.1.1]
    refine okI (fun hlt => ?_) (fun hlt => okS (show upT M 4 (frz S) y = upT M 4 (frz S) (S 0 0) by rw [show y = S 0 0 by omega]))
    obtain ⟨k6, k7, k8⟩ := h.2.1 y y0 (by omega)
    have vy := V.2.1 y y0 (by omega)
    have nx : w32 (y + 1) = y + 1 := w32_eq (by omega) (by omega)
    have mu : (S 0 0 - (y + 1)).toNat < (S 0 0 - y).toNat := by omega
    have fb := fz_b (k := S 6 y) vy.2.2.1 vy.2.2.2.1 hv.2.2.1 hv.2.2.2.1
    have mb := mt_b (k := S 6 y) vy.2.2.1 vy.2.2.2.1 hv.2.2.2.2.1 hv.2.2.2.2.2.1
    have es : ∀ v, v = frz S y → lw (upT M 4 (frz S) y) 4 y v = upT M 4 (frz S) (y + 1) := by
      intro v e
      rw [e, upT_s y0]
    rw [nx, x5_freezes, x5_melts]
    simp only [upT_c (show (0 : Nat) ≠ 4 by decide), upT_c (show (2 : Nat) ≠ 4 by decide), upT_c (show (3 : Nat) ≠ 4 by decide), upT_ge (Int.le_refl y)]
    rw [k6, k7, k8, h.1.2.2.1, h.1.2.2.2.1, w32_eq (x := S 8 y + _) (by omega) (by omega), w32_eq (x := S 8 y - _) (by omega) (by omega), held_v, held_v]
    refine okI (fun q => okG ⟨y0, by omega⟩ (okG ⟨y0, by omega⟩ (okL (okS ⟨⟨by simp only; omega, by simp only; omega, es _ ?_⟩, mu⟩)))) (fun q => okI (fun q2 => okG ⟨y0, by omega⟩ (okG ⟨y0, by omega⟩ (okL (okS ⟨⟨by simp only; omega, by simp only; omega, es _ ?_⟩, mu⟩)))) (fun q2 => okS ⟨⟨by simp only; omega, by simp only; omega, ?_⟩, mu⟩))
    · unfold frz
      rw [cif_t q]
      unfold imax imin
      split <;> (try split) <;> omega
    · unfold frz
      rw [cif_f q, cif_t q2]
      unfold imax imin
      repeat' split
      all_goals omega
    · simp only
      rw [← es (upT M 4 (frz S) y 4 y)]
      · funext i j
        unfold lw
        split
        · rename_i hq; rw [hq.1, hq.2]
        · rfl
      · rw [upT_ge (Int.le_refl y), k8]
        unfold frz
        rw [cif_f q, cif_f q2]
  · rintro ⟨y, z⟩ e
    simp only at e
    subst e
    refine ⟨⟨?_, fun y h0 h1 => ?_, fun t h0 h1 => ?_⟩, fun i j h1 h2 => (by simp only; rw [upT_c (show i ≠ 4 by omega)]), (by simp only; rw [upT_c (show (0 : Nat) ≠ 4 by decide)]), fun j => (by simp only; rw [upT_c (show (17 : Nat) ≠ 4 by decide)])⟩
    · unfold fmS
      simp only [upT_c (show (0 : Nat) ≠ 4 by decide), upT_c (show (0 : Nat) ≠ 8 by decide)]
      exact h.1
    · obtain ⟨k6, k7, k8⟩ := h.2.1 y h0 h1
      unfold fmS
      refine ⟨by simp only; rw [upT_c (by decide), upT_c (by decide), k6], by simp only; rw [upT_c (by decide), upT_c (by decide), k7], ?_⟩
      simp only
      by_cases hy : y < S 0 0
      · rw [upT_in h0 hy, upT_in h0 hy]
      · rw [upT_ge (by omega), upT_ge (by omega), k8]
    · unfold fmS at h1 ⊢
      rw [upT_c (by decide)] at h1
      have := h.2.2 t h0 h1
      simp only [upT_c (show (9 : Nat) ≠ 4 by decide), upT_c (show (10 : Nat) ≠ 4 by decide), upT_c (show (11 : Nat) ≠ 4 by decide), upT_c (show (12 : Nat) ≠ 4 by decide), upT_c (show (13 : Nat) ≠ 4 by decide), upT_c (show (14 : Nat) ≠ 4 by decide), upT_c (show (9 : Nat) ≠ 8 by decide), upT_c (show (10 : Nat) ≠ 8 by decide), upT_c (show (11 : Nat) ≠ 8 by decide), upT_c (show (12 : Nat) ≠ 8 by decide), upT_c (show (13 : Nat) ≠ 8 by decide), upT_c (show (14 : Nat) ≠ 8 by decide)]
      exact this
/-- it stood at its turn in this hour -/
def stdS (S : LT) (t : Int) : Prop := S 14 t = 0 ∧ ¬ 0 < S 13 t ∧ hrS S 12 t = S 12 t ∧ hrS S 14 t ≠ 1
theorem m_hour {S M : LT} (h : Sm S M) (V : Val S) (hh0 : 0 ≤ S 0 1) (hh1 : S 0 1 < 100000) : Ok (X5_hourOn M) (fun M' => Sm (hrS S) M' ∧ MK M M' ∧ (∀ j, 0 ≤ j → j < S 0 4 → (0 ≤ M 17 j ∧ M 17 j < 1000000) → M' 17 j = M 17 j + cif (stdS S j) 1 0)) := by
  have hv := V.1
  unfold X5_hourOn
  have hc : jrem (M 0 4) 24 = S 0 1 % 24 := by rw [h.1.2.1, jrem_nn hh0]
  rw [hc]
  refine okL (okB (m_frost h V hh0) ?_)
  rintro ⟨z1, N⟩ ⟨hN, KN, pN, nN⟩
  simp only at hN KN pN nN ⊢
  have W := Val_fm V
  have c4 : fmS S 0 4 = S 0 4 := by unfold fmS; rw [upT_c (by decide)]
  have f12 : ∀ i, i ≠ 8 → ∀ j, fmS S i j = S i j := fun i hi j => by unfold fmS; rw [upT_c hi]
  refine okB (P := fun z => Sm (trsS (S 0 4).toNat (fmS S)) z.2 ∧ MK M z.2 ∧ z.2 0 4 = M 0 4 ∧ (∀ j, 0 ≤ j → j < S 0 4 → (0 ≤ M 17 j ∧ M 17 j < 1000000) → z.2 17 j = M 17 j + cif (S 14 j = 0 ∧ ¬ 0 < S 13 j ∧ trsS (S 0 4).toNat (fmS S) 12 j = S 12 j ∧ trsS (S 0 4).toNat (fmS S) 14 j ≠ 1) 1 0)) ?_ ?_
  · refine okLoop (fun s => 0 ≤ s.1 ∧ s.1 ≤ S 0 4 ∧ Sm (trsS s.1.toNat (fmS S)) s.2 ∧ MK M s.2 ∧ s.2 0 4 = M 0 4 ∧ (∀ j, 0 ≤ j → j < S 0 4 → (0 ≤ M 17 j ∧ M 17 j < 1000000) → s.2 17 j = M 17 j + cif (j < s.1 ∧ S 14 j = 0 ∧ ¬ 0 < S 13 j ∧ trsS s.1.toNat (fmS S) 12 j = S 12 j ∧ trsS s.1.toNat (fmS S) 14 j ≠ 1) 1 0)) (fun s => (S 0 4 - s.1).toNat) ?_ ⟨Int.le_refl 0, by show 0 ≤ S 0 4; omega, (show Sm (trsS (0 : Int).toNat (fmS S)) N from hN), KN, pN, fun j j0 j1 st => by simp only; rw [cif_f (by omega), nN]; omega⟩
    rintro ⟨t, O⟩ ⟨t0, t1, hO, KO, pO, nO⟩
    simp only at t0 t1 hO KO pO nO
    have hT : ∀ i, i ≠ 8 → i ≠ 12 → i ≠ 13 → i ≠ 14 → ∀ j, trsS t.toNat (fmS S) i j = fmS S i j := fun i a b c d j => trsS_fr _ _ _ a b c d _
    have d4 : trsS t.toNat (fmS S) 0 4 = S 0 4 := by rw [hT 0 (by decide) (by decide) (by decide) (by decide), c4]
    have VT : Val (trsS t.toNat (fmS S)) := Val_trs W _ (by omega)
    have nx : w32 (t + 1) = t + 1 := w32_eq (by omega) (by omega)
    have et : ((t.toNat : Nat) : Int) = t := Int.toNat_of_nonneg t0
    have es : (t + 1).toNat = t.toNat + 1 := by omega
    have mu : (S 0 4 - (t + 1)).toNat < (S 0 4 - t).toNat ∨ ¬ t < S 0 4 := by omega
    unfold X5_hourOn_s2
    simp only
    rw [hO.1.2.2.2.2, d4, nx]
    refine okI (fun hlt => okG ⟨t0, by omega⟩ ?_) (fun hlt => ?_)
    · have mu : (S 0 4 - (t + 1)).toNat < (S 0 4 - t).toNat := by omega
      obtain ⟨-, -, -, -, -, a14⟩ := hO.2.2 t t0 (by omega)
      have sge : ∀ i, i ≠ 8 → trsS t.toNat (fmS S) i t = S i t := fun i hi => by rw [trsS_ge _ _ hi _ _ (by omega), f12 i hi]
      have un : trsS (t.toNat + 1) (fmS S) = trS t (trsS t.toNat (fmS S)) := by
        show trS ((t.toNat : Nat) : Int) _ = _
        rw [et]
      rw [a14, sge 14 (by decide)]
      refine okI (fun hz => okB (m_train hO VT t0 (by omega) (by rw [sge 14 (by decide)]; exact hz)) ?_) (fun hz => okS ⟨⟨by simp only; omega, by simp only; omega, ?_, KO, pO, fun j j0 j1 st => ?_⟩, mu⟩)
      · rintro N' ⟨m1, m2', m3, m4, m5, m6⟩
        rw [sge 13 (by decide)] at m5 m6
        refine okS ⟨⟨by simp only; omega, by simp only; omega, ?_, MK_t KO m2', m3.trans pO, fun j j0 j1 st => ?_⟩, mu⟩
        · simp only; rw [es, un]; exact m1
        · simp only
          rw [es, un]
          by_cases hj : j = t
          · have o17 : O 17 t = M 17 t := by rw [nO t t0 hlt (hj ▸ st), cif_f (by omega)]; omega
            rw [hj]
            by_cases hw : 0 < S 13 t
            · rw [m5 hw, o17, cif_f (fun q => q.2.2.1 hw)]; omega
            · have bd : 0 ≤ M 17 t ∧ M 17 t < 1000000 := hj ▸ st
              rw [m6 hw, o17]
              by_cases hs : stT (trsS t.toNat (fmS S)) (trS t (trsS t.toNat (fmS S))) t
              · have hs' := hs
                unfold stT at hs'
                rw [sge 12 (by decide)] at hs'
                rw [cif_t hs, cif_t ⟨by omega, hz, hw, hs'⟩, w32_eq (by omega) (by omega)]
              · rw [cif_f hs, cif_f, w32_eq (by omega) (by omega)]
                rintro ⟨-, -, -, q⟩
                apply hs
                unfold stT
                rw [sge 12 (by decide)]
                exact q
          · rw [m4 j hj, nO j j0 j1 st, trS_ot _ _ _ _ (by decide) hj, trS_ot _ _ _ _ (by decide) hj]
            have e : ∀ p : Prop, (j < t ∧ p) = (j < t + 1 ∧ p) := fun p => propext ⟨fun q => ⟨by omega, q.2⟩, fun q => ⟨by omega, q.2⟩⟩
            rw [e]
      · have ut : trsS (t.toNat + 1) (fmS S) = trsS t.toNat (fmS S) := by
          rw [un]
          unfold trS
          rw [cif_f (by rw [sge 14 (by decide)]; exact hz)]
        simp only; rw [es, ut]; exact hO
      · have ut : trsS (t.toNat + 1) (fmS S) = trsS t.toNat (fmS S) := by
          rw [un]
          unfold trS
          rw [cif_f (by rw [sge 14 (by decide)]; exact hz)]
        simp only
        rw [es, ut, nO j j0 j1 st]
        by_cases hj : j = t
        · rw [hj, cif_f (by omega), cif_f (fun q => hz q.2.1)]
        · have e : ∀ p : Prop, (j < t ∧ p) = (j < t + 1 ∧ p) := fun p => propext ⟨fun q => ⟨by omega, q.2⟩, fun q => ⟨by omega, q.2⟩⟩
          rw [e]
    · have et : t = S 0 4 := by omega
      subst et
      refine okS ⟨hO, KO, pO, fun j j0 j1 st => ?_⟩
      simp only
      rw [nO j j0 j1 st]
      have e : ∀ p : Prop, (j < S 0 4 ∧ p) = p := fun p => propext ⟨fun q => q.2, fun q => ⟨j1, q⟩⟩
      rw [e]
  rintro ⟨z2, O⟩ ⟨hO, KO, pO, nO⟩
  simp only at hO KO pO nO ⊢
  have VT : Val (trsS (S 0 4).toNat (fmS S)) := Val_trs W _ (by omega)
  refine okB (m_sink hO VT) ?_
  rintro ⟨z3, P⟩ ⟨s1, s2, s3, s4⟩
  simp only at s1 s2 s3 s4 ⊢
  have hP1 : P 0 4 = S 0 1 := by rw [s3, pO, h.1.2.1]
  rw [hP1, w32_eq (x := S 0 1 + 1) (by omega) (by omega)]
  refine okL (okS ⟨?_, MK_t KO (MK_t s2 (fun i j h1 h2 => by unfold lw; rw [if_neg h2])), fun j j0 j1 st => ?_⟩)
  · unfold hrS
    obtain ⟨⟨e0, e1, e2, e3, e4⟩, ey, et⟩ := s1
    refine ⟨?_, fun y h0 h1 => ?_, fun t h0 h1 => ?_⟩
    · refine ⟨?_, ?_, ?_, ?_, ?_⟩
      · rw [lw_j (by decide), lw_j (by decide)]; exact e0
      · rw [lw_s, lw_s]
      · rw [lw_j (by decide), lw_j (by decide)]; exact e2
      · rw [lw_j (by decide), lw_j (by decide)]; exact e3
      · rw [lw_j (by decide), lw_j (by decide)]; exact e4
    · have := ey y h0 h1
      simp only [lw_i (show (2 : Nat) ≠ 0 by decide), lw_i (show (3 : Nat) ≠ 0 by decide), lw_i (show (4 : Nat) ≠ 0 by decide), lw_i (show (6 : Nat) ≠ 0 by decide), lw_i (show (7 : Nat) ≠ 0 by decide), lw_i (show (8 : Nat) ≠ 0 by decide)]
      exact this
    · rw [lw_j (by decide)] at h1
      have := et t h0 h1
      simp only [lw_i (show (9 : Nat) ≠ 0 by decide), lw_i (show (10 : Nat) ≠ 0 by decide), lw_i (show (11 : Nat) ≠ 0 by decide), lw_i (show (12 : Nat) ≠ 0 by decide), lw_i (show (13 : Nat) ≠ 0 by decide), lw_i (show (14 : Nat) ≠ 0 by decide)]
      exact this
  · rw [lw_i (by decide), s4, nO j j0 j1 st]
    congr 1
    have e12 : hrS S 12 j = trsS (S 0 4).toNat (fmS S) 12 j := by unfold hrS; rw [lw_i (by decide), snk_fr _ (by decide)]
    have e14 : (hrS S 14 j ≠ 1) = (trsS (S 0 4).toNat (fmS S) 14 j ≠ 1) := by
      unfold hrS
      rw [lw_i (by decide)]
      generalize trsS (S 0 4).toNat (fmS S) = T
      unfold snk
      by_cases q : (14 : Nat) = 14 ∧ 0 ≤ j ∧ j < T 0 4 ∧ snkP T j
      · rw [cif_t q, q.2.2.2.1]
        exact propext ⟨fun _ => by decide, fun _ => by decide⟩
      · rw [cif_f q]
    unfold stdS
    rw [e12, e14]
