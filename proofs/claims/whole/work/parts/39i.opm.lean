/-! turn, frost, weather, waits, hours, back, many, train, image, restore -/
theorem hw_s {C : GG} {i : Nat} {j v : Int} : hw C (1, 0, i) j v 1 0 = lw (C 1 0) i j v := hw_at _ _ _ _ _ _
theorem Vs_lw {S : LT} (h : Vs S) {i : Nat} {j v : Int} (hi : ¬ (i = 0 ∧ j = 1)) (h2 : i = 6 ∧ 0 ≤ v ∧ v ≤ 5 ∨ i = 7 ∧ 0 ≤ v ∧ v ≤ 9 ∨ i = 8 ∧ 0 ≤ v ∧ v ≤ 99 ∨ i = 9 ∧ 1 ≤ v ∧ v ≤ 60 ∨ i = 10 ∧ 0 ≤ v ∧ v ≤ 9 ∨ i = 11 ∧ 1 ≤ v ∧ v ≤ 3 ∨ i = 12 ∧ -1 ≤ v ∧ v ≤ 15 ∨ i = 13 ∧ 0 ≤ v ∧ v ≤ 48 ∨ i = 14 ∧ 0 ≤ v ∧ v ≤ 3 ∨ i = 0 ∧ j = 1 ∨ i = 0 ∧ (j = 2 ∨ j = 3) ∧ 0 ≤ v ∧ v ≤ 9 ∨ i = 0 ∧ j = 0 ∧ 2 ≤ v ∧ v ≤ 16) : Vs (lw S i j v) := by
  refine ⟨Val_lw h.1 h2, ?_, ?_⟩
  · rw [lw_n (by omega)]; exact h.2.1
  · rw [lw_n (by omega)]; exact h.2.2
theorem OkA_sk {a : Ab} (ha : OkA a) {s : LT} (hs : Vs s) : OkA (aSet (aKeep a) s) := OkA_set (OkA_keep ha) hs
theorem op_frost : Op2 X4_frost X5_frost := by
  rintro C M ⟨a, ha, hc, hm⟩ y v - -
  refine Bo_op (ck_yv ha hc hm (fun hm1 y0 y1 v0 v1 => ?_))
  have hv := ha.1.1.1
  have hak := OkA_keep ha
  have ks := keep_s a
  refine ⟨aSet (aKeep a) (lw a.s 8 y v), a.s 8 y, OkA_sk ha (Vs_lw ha.1 (by omega) (by omega)), ?_, ?_⟩
  · refine okB (c_keep ha hc) ?_
    intro C' hC
    have s0 : Sc a.s (C' 1 0) := by rw [← ks]; exact hC.1
    refine okG ⟨y0, by omega⟩ (okL (okL (okC ((s0.2.1 y y0 (by omega)).2.2) (RC_set hak hC ?_ (fun t l q => hw_nl q)))))
    rw [hw_s]
    exact Sc_lw s0 (by omega)
  · refine okB (m_keep ha hm1) ?_
    intro M' hM
    have s0 : Sm a.s M' := by rw [← ks]; exact hM.1
    exact okG ⟨y0, by omega⟩ (okL (okL (okM ((s0.2.1 y y0 (by omega)).2.2) (RM_set hM (Sm_lw s0 (by omega)) (MF_lw (by omega))))))
theorem op_turn : Op3 X4_turn X5_turn := by
  rintro C M ⟨a, ha, hc, hm⟩ y kd fg - - -
  have hm1 := RM_14 hm 0
  have V := ha.1.1
  have hv := V.1
  have hak := OkA_keep ha
  have ks := keep_s a
  refine Bo_op ?_
  unfold X4_turn X5_turn
  simp only [lt]
  rw [wrN, m_in, m_isY hm1.1 V y]
  by_cases hy : 0 ≤ y ∧ y < a.s 0 0
  · rw [if_pos hy, if_neg (show ¬ (1 : Int) = 0 by decide)]
    refine bo_f_ (fun q => (c_noY hc y).mp q hy) ?_
    by_cases hk : 0 ≤ kd ∧ kd ≤ 5
    · rw [if_pos hk, if_neg (show ¬ (1 : Int) = 0 by decide)]
      refine bo_f_ (by omega) ?_
      rcases out_b fg 0 9 with ⟨q, q1, q2⟩ | q
      · rw [q]
        refine bo_ff (fun z => z rfl) (by decide) ⟨aSet (aKeep a) (lw (lw a.s 6 y kd) 7 y fg), w32 (w32 (10 * a.s 6 y) + a.s 7 y), OkA_sk ha (Vs_lw (Vs_lw ha.1 (by omega) (by omega)) (by omega) (by omega)), ?_, ?_⟩
        · refine okB (c_keep ha hc) ?_
          intro C' hC
          have s0 : Sc a.s (C' 1 0) := by rw [← ks]; exact hC.1
          obtain ⟨k6, k7, k8⟩ := s0.2.1 y hy.1 (by omega)
          refine okG ⟨hy.1, by omega⟩ (okC (by rw [k6, k7]) (RC_set hak hC ?_ (fun t l q => by rw [hw_nl q, hw_nl q])))
          rw [hw_s, hw_s]
          exact Sc_lw (Sc_lw s0 (by omega)) (by omega)
        · refine okB (m_keep ha hm1) ?_
          intro M' hM
          have s0 : Sm a.s M' := by rw [← ks]; exact hM.1
          obtain ⟨k6, k7, k8⟩ := s0.2.1 y hy.1 (by omega)
          exact okG ⟨hy.1, by omega⟩ (okM (by rw [k6, k7]) (RM_set hM (Sm_lw (Sm_lw s0 (by omega)) (by omega)) (MF_t (MF_lw (by omega)) (MF_lw (by omega)))))
      · exact bo_tt (by omega) (by omega) (Bo_ref ha hc hm1 (by omega))
    · rw [if_neg hk, if_pos (rfl : (0 : Int) = 0)]
      exact bo_tt (by omega) (by decide) (Bo_ref ha hc hm1 (by decide))
  · rw [if_neg hy, if_pos (rfl : (0 : Int) = 0)]
    exact bo_tt ((c_noY hc y).mpr hy) (by decide) (Bo_ref ha hc hm1 (by decide))
/-- COLD and NOON anew -/
def cnS (S : LT) (c d : Int) : LT := lw (lw S 0 2 c) 0 3 d
theorem Sm_cn {S M M' : LT} (h : Sm S M) {c d : Int} (h5 : M' 0 5 = c) (h6 : M' 0 6 = d) (f : ∀ i j, ¬ (i = 0 ∧ (j = 5 ∨ j = 6)) → M' i j = M i j) : Sm (cnS S c d) M' := by
  obtain ⟨⟨e0, e1, e2, e3, e4⟩, ey, et⟩ := h
  unfold cnS
  refine ⟨⟨?_, ?_, ?_, ?_, ?_⟩, fun y y0 y1 => ?_, fun t t0 t1 => ?_⟩
  · rw [f 0 0 (by omega), lw_n (by omega), lw_n (by omega)]; exact e0
  · rw [f 0 4 (by omega), lw_n (by omega), lw_n (by omega)]; exact e1
  · rw [h5, lw_n (by omega), lw_s]
  · rw [h6, lw_s]
  · rw [f 0 7 (by omega), lw_n (by omega), lw_n (by omega)]; exact e4
  · rw [f 2 y (by omega), f 3 y (by omega), f 4 y (by omega)]
    simp only [lw_i (show (6 : Nat) ≠ 0 by decide), lw_i (show (7 : Nat) ≠ 0 by decide), lw_i (show (8 : Nat) ≠ 0 by decide)]
    exact ey y y0 y1
  · rw [lw_n (by omega), lw_n (by omega)] at t1
    rw [f 9 t (by omega), f 10 t (by omega), f 11 t (by omega), f 12 t (by omega), f 13 t (by omega), f 14 t (by omega)]
    simp only [lw_i (show (9 : Nat) ≠ 0 by decide), lw_i (show (10 : Nat) ≠ 0 by decide), lw_i (show (11 : Nat) ≠ 0 by decide), lw_i (show (12 : Nat) ≠ 0 by decide), lw_i (show (13 : Nat) ≠ 0 by decide), lw_i (show (14 : Nat) ≠ 0 by decide)]
    exact et t t0 t1
theorem Sc_cn {S M M' : LT} (h : Sc S M) {c d : Int} (h5 : M' 0 2 = c) (h6 : M' 0 3 = d) (f : ∀ i j, ¬ (i = 0 ∧ (j = 2 ∨ j = 3)) → M' i j = M i j) : Sc (cnS S c d) M' := by
  obtain ⟨⟨e0, e1, e2, e3, e4⟩, ey, et⟩ := h
  unfold cnS
  refine ⟨⟨?_, ?_, ?_, ?_, ?_⟩, fun y y0 y1 => ?_, fun t t0 t1 => ?_⟩
  · rw [f 0 0 (by omega), lw_n (by omega), lw_n (by omega)]; exact e0
  · rw [f 0 1 (by omega), lw_n (by omega), lw_n (by omega)]; exact e1
  · rw [h5, lw_n (by omega), lw_s]
  · rw [h6, lw_s]
  · rw [f 0 4 (by omega), lw_n (by omega), lw_n (by omega)]; exact e4
  · rw [f 6 y (by omega), f 7 y (by omega), f 8 y (by omega)]
    simp only [lw_i (show (6 : Nat) ≠ 0 by decide), lw_i (show (7 : Nat) ≠ 0 by decide), lw_i (show (8 : Nat) ≠ 0 by decide)]
    exact ey y y0 y1
  · rw [lw_n (by omega), lw_n (by omega)] at t1
    rw [f 9 t (by omega), f 10 t (by omega), f 11 t (by omega), f 12 t (by omega), f 13 t (by omega), f 14 t (by omega)]
    simp only [lw_i (show (9 : Nat) ≠ 0 by decide), lw_i (show (10 : Nat) ≠ 0 by decide), lw_i (show (11 : Nat) ≠ 0 by decide), lw_i (show (12 : Nat) ≠ 0 by decide), lw_i (show (13 : Nat) ≠ 0 by decide), lw_i (show (14 : Nat) ≠ 0 by decide)]
    exact et t t0 t1
theorem Vs_cn {S : LT} (h : Vs S) {c d : Int} (hc : 0 ≤ c ∧ c ≤ 9) (hd : 0 ≤ d ∧ d ≤ 9) : Vs (cnS S c d) := Vs_lw (Vs_lw h (by omega) (by omega)) (by omega) (by omega)
theorem Vg_cn {S : LT} (h : Vg S) {c d : Int} (hc : 0 ≤ c ∧ c ≤ 9) (hd : 0 ≤ d ∧ d ≤ 9) : Vg (cnS S c d) := Vg_lw (Vg_lw h (by omega) (by omega)) (by omega) (by omega)
theorem op_weather : Op2 X4_weather X5_weather := by
  rintro C M ⟨a, ha, hc, hm⟩ w v - -
  have hm1 := RM_14 hm 0
  have V := ha.1.1
  have hv := V.1
  have hak := OkA_keep ha
  have ks := keep_s a
  refine Bo_op ?_
  unfold X4_weather X5_weather
  simp only [lt]
  rw [wrN, m_in]
  by_cases hw' : 0 ≤ w ∧ w ≤ 1
  · have hw2 : w = 0 ∨ w = 1 := by omega
    rw [if_pos hw', if_pos (show ¬ (1 : Int) = 0 by decide)]
    refine bo_f_ (fun q => (c_nei w).mp q hw2) ?_
    rcases out_b v 0 9 with ⟨q, q1, q2⟩ | q
    · rw [q]
      refine bo_ff (fun z => z rfl) (by decide) ⟨aSet (aKeep a) (cnS a.s (if w = 0 then v else a.s 0 2) (if w = 0 then a.s 0 3 else v)), if w = 0 then a.s 0 2 else a.s 0 3, OkA_sk ha (Vs_cn ha.1 (by split <;> omega) (by split <;> omega)), ?_, ?_⟩
      · refine okB (c_keep ha hc) ?_
        intro C' hC
        have s0 : Sc a.s (C' 1 0) := by rw [← ks]; exact hC.1
        have ev : (if w = 0 then C' 1 0 0 2 else C' 1 0 0 3) = if w = 0 then a.s 0 2 else a.s 0 3 := by rw [s0.1.2.2.1, s0.1.2.2.2.1]
        rw [ev]
        refine okI (fun q => okC (rfl) (RC_set hak hC ?_ (fun t l q => hw_nl q))) (fun q => okC (rfl) (RC_set hak hC ?_ (fun t l q => hw_nl q)))
        · rw [hw_s]
          refine Sc_cn s0 (by rw [if_pos q, lw_s]) (by rw [if_pos q, lw_n (by omega)]; exact s0.1.2.2.2.1) (fun i j z => lw_n (by omega))
        · rw [hw_s]
          refine Sc_cn s0 (by rw [if_neg q, lw_n (by omega)]; exact s0.1.2.2.1) (by rw [if_neg q, lw_s]) (fun i j z => lw_n (by omega))
      · refine okB (m_keep ha hm1) ?_
        intro M' hM
        have s0 : Sm a.s M' := by rw [← ks]; exact hM.1
        have ev : (if w = 0 then M' 0 5 else M' 0 6) = if w = 0 then a.s 0 2 else a.s 0 3 := by rw [s0.1.2.2.1, s0.1.2.2.2.1]
        rw [ev]
        refine okM (rfl) (RM_set hM (Sm_cn s0 ?_ ?_ (fun i j z => by rw [lw_n (by omega), lw_n (by omega)])) (MF_t (MF_lw (by omega)) (MF_lw (by omega))))
        · rw [lw_n (by omega), lw_s, s0.1.2.2.1]
        · rw [lw_s, lw_n (by omega), s0.1.2.2.2.1]
          rcases hw2 with e | e
          · rw [e]; rfl
          · rw [e]; rfl
    · exact bo_tt (by omega) (by omega) (Bo_ref ha hc hm1 (by omega))
  · rw [if_neg hw', if_neg (show ¬ ¬ (0 : Int) = 0 by decide)]
    exact bo_tt ((c_nei w).mpr (by omega)) (by decide) (Bo_ref ha hc hm1 (by decide))
theorem op_waits : Op2 X4_waits X5_waits := by
  rintro C M ⟨a, ha, hc, hm⟩ t v - -
  have hm1 := RM_14 hm 0
  have V := ha.1.1
  have hv := V.1
  have hak := OkA_keep ha
  have ks := keep_s a
  refine Bo_op ?_
  unfold X4_waits X5_waits
  simp only [lt]
  rw [wrN, m_isT hm1.1 V t]
  by_cases ht : 0 ≤ t ∧ t < a.s 0 4
  · have g5 : gd t 5 := ⟨ht.1, by omega⟩
    rw [if_pos ht, if_pos (show ¬ (1 : Int) = 0 by decide), grd_t (show X4_outside_v v 0 48 = 0 → gd t 5 from fun _ => g5)]
    refine bo_f_ (fun q => (c_noT hc t).mp q ht) ?_
    rcases out_b v 0 48 with ⟨q, q1, q2⟩ | q
    · rw [q]
      refine bo_f_ (fun z => z rfl) ?_
      rw [grd_t (k := if ¬ C 1 0 14 t = 0 then _ else _) g5]
      rw [(hc.1.2.2 t ht.1 ht.2).2.2.2.2.2, (hm1.1.2.2 t ht.1 ht.2).2.2.2.2.2]
      by_cases h14 : a.s 14 t = 0
      · rw [if_neg (c := (0 : Int) = 0 ∧ ¬ a.s 14 t = 0) (fun z => z.2 h14)]
        refine bo_ff (fun z => z h14) (by decide) ⟨aSet (aKeep a) (lw a.s 13 t v), a.s 13 t, OkA_sk ha (Vs_lw ha.1 (by omega) (by omega)), ?_, ?_⟩
        · refine okB (c_keep ha hc) ?_
          intro C' hC
          have s0 : Sc a.s (C' 1 0) := by rw [← ks]; exact hC.1
          refine okC ((s0.2.2 t ht.1 ht.2).2.2.2.2.1) (RC_set hak hC ?_ (fun t l q => hw_nl q))
          rw [hw_s]
          exact Sc_lw s0 (by omega)
        · refine okB (m_keep ha hm1) ?_
          intro M' hM
          have s0 : Sm a.s M' := by rw [← ks]; exact hM.1
          exact okG g5 (okM ((s0.2.2 t ht.1 ht.2).2.2.2.2.1) (RM_set hM (Sm_lw s0 (by omega)) (MF_lw (by omega))))
      · rw [if_pos (c := (0 : Int) = 0 ∧ ¬ a.s 14 t = 0) ⟨rfl, h14⟩]
        exact bo_tt h14 (by decide) (Bo_ref ha hc hm1 (by decide))
    · rw [if_neg (c := X4_outside_v v 0 48 = 0 ∧ _) (fun z => by omega)]
      exact bo_tt (by omega) (by omega) (Bo_ref ha hc hm1 (by omega))
  · rw [if_neg ht, if_neg (show ¬ ¬ (0 : Int) = 0 by decide), grd_t (show (-1 : Int) = 0 → gd t 5 from fun z => by omega), if_neg (c := (-1 : Int) = 0 ∧ _) (fun z => by omega)]
    exact bo_tt ((c_noT hc t).mpr ht) (by decide) (Bo_ref ha hc hm1 (by decide))
theorem op_hours : Op1 X4_hours X5_hours := by
  rintro C M ⟨a, ha, hc, hm⟩ n -
  have hm1 := RM_14 hm 0
  have V := Vs_g ha.1
  have hv := V.1.1
  have hb := ha.1.2
  have hak := OkA_keep ha
  have ks := keep_s a
  refine Bo_op ?_
  unfold X4_hours X5_hours
  simp only [lt]
  rw [wrN]
  rcases out_b n 1 72 with ⟨q, q1, q2⟩ | q
  · rw [q, hc.1.1.2.1, hm1.1.1.2.1, w32_eq (x := a.s 0 1 + n) (by omega) (by omega)]
    refine bo_f_ (fun z => z rfl) ?_
    by_cases h9 : 999 < a.s 0 1 + n
    · rw [if_pos (c := (0 : Int) = 0 ∧ 999 < a.s 0 1 + n) ⟨rfl, h9⟩]
      exact bo_tt h9 (by decide) (Bo_ref ha hc hm1 (by decide))
    · rw [if_neg (c := (0 : Int) = 0 ∧ 999 < a.s 0 1 + n) (fun z => h9 z.2)]
      have VG := Val_go V.1 n.toNat
      have gh := go_h a.s n.toNat
      refine bo_ff h9 (by decide) ⟨aSet (aKeep a) (goS n.toNat a.s), w32 (cntS (goS n.toNat a.s) 1 - cntS a.s 1), OkA_sk ha ⟨VG, by omega, by omega⟩, ?_, ?_⟩
      · refine okB (c_keep ha hc) ?_
        intro C' hC
        have s0 : Sc a.s (C' 1 0) := by rw [← ks]; exact hC.1
        refine okB (c_howMany s0 V.1 1) ?_
        rintro r rfl
        have p0 : PL a.s 0 False (C' 1 0) := ⟨s0, fun z => absurd z id⟩
        refine okB (c_go p0 V.1 V.2.1 V.2.2 (n := n) (by omega) (by omega)) ?_
        intro L hL
        simp only [gs_at]
        refine okB (c_howMany hL.1.1 VG 1) ?_
        rintro r rfl
        exact okC (rfl) (RC_set hak hC (by rw [gs_at]; exact hL.1.1) (fun t l q => gs_ne q))
      · refine okB (m_keep ha hm1) ?_
        intro M' hM
        have s0 : Sm a.s M' := by rw [← ks]; exact hM.1
        refine okB (m_howMany s0 V.1 1) ?_
        rintro r rfl
        refine okB (m_goHours s0 V.1 V.2.1 V.2.2 (n := n) (by omega) (by omega)) ?_
        rintro P ⟨p1, p2, -⟩
        refine okB (m_howMany p1 VG 1) ?_
        rintro r rfl
        exact okM (rfl) (RM_set hM p1 (MG_F p2))
  · rw [if_neg (c := X4_outside_v n 1 72 = 0 ∧ _) (fun z => by omega)]
    exact bo_tt (by omega) (by omega) (Bo_ref ha hc hm1 (by omega))
theorem op_back : Op0 X4_back X5_back := by
  rintro C M ⟨a, ha, hc, hm⟩
  have hm1 := RM_14 hm 0
  have b := ha.2.2.1
  refine Bo_op ?_
  unfold X4_back X5_back
  simp only [lt]
  rw [hc.2.2.1.1, hm1.2.2.1.1]
  by_cases h0 : a.n = 0
  · exact bo_tt h0 h0 (Bo_ref ha hc hm1 (by decide))
  · have hp : OkA (aPast a (a.n - 1) a.tu) := OkA_past ha (by omega) (by omega) (fun k q0 q1 => b.2.2 k q0 (by omega))
    have hv := b.2.2 (a.n - 1) (by omega) (by omega)
    refine bo_ff h0 h0 ⟨aSet (aPast a (a.n - 1) a.tu) (a.tu (a.n - 1)), a.n - 1, OkA_set hp hv, ?_, ?_⟩
    · obtain ⟨e4, e5, e6⟩ := hc.2.2.1
      refine okB (P := fun C' => C' 3 0 0 1 = a.n - 1 ∧ RC (aSet (aPast a (a.n - 1) a.tu) (a.tu (a.n - 1))) C') ?_ (fun z q => okS q)
      unfold X3_takeBack
      simp only [lt]
      rw [e4, w32_eq (by omega) (by omega)]
      have ne : ∀ t l, ¬ (t = 3 ∧ l = 0) → hw C (3, 0, 0) 1 (a.n - 1) t l = C t l := fun t l q => hw_nl q
      have at3 : hw C (3, 0, 0) 1 (a.n - 1) 3 0 = lw (C 3 0) 0 1 (a.n - 1) := hw_at _ _ _ _ _ _
      generalize hw C (3, 0, 0) 1 (a.n - 1) = C1 at ne at3
      have hp1 : RC (aPast a (a.n - 1) a.tu) C1 := by
        refine RC_past hc (fun t l q _ => ne t l q) (by rw [at3, lw_s]) ⟨?_, ?_⟩ (fun k k0 k1 => ?_)
        · rw [at3]; exact e5.1
        · rw [at3]; exact e5.2
        · rw [at3, ne 1 _ (by omega)]
          exact e6 k k0 (by omega)
      have c31 : C1 3 0 0 1 = a.n - 1 := hp1.2.2.1.1
      have bn := hp1.2.2.1.2.1.1 (a.n - 1) (by omega) (by omega)
      have sc : Sc (a.tu (a.n - 1)) (C1 1 (C1 3 0 1 (a.n - 1)).toNat) := by
        rw [at3, ne 1 _ (by omega)]
        exact e6 (a.n - 1) (by omega) (by omega)
      rw [c31]
      refine okT (by omega) (okG ⟨by omega, by omega⟩ (okG ⟨by omega, by omega⟩ (okG (by omega) (okB (c_become sc hv.1) ?_))))
      intro L hL
      refine okS ⟨?_, RC_set hp hp1 (by rw [gs_at]; exact hL.1) (fun t l q => gs_ne q)⟩
      have g3 : gs C1 1 0 L 3 0 = C1 3 0 := gs_ne (by omega)
      rw [g3, c31]
    · obtain ⟨e4, e6⟩ := hm1.2.2.1
      have e6' := e6 (a.n - 1) (by omega) (by omega)
      rw [w32_eq (by omega) (by omega)]
      have n34 : lw (lw M 0 14 0) 0 34 (a.n - 1) 0 34 = a.n - 1 := lw_s _ _ _ _
      have hN : RM (aPast a (a.n - 1) a.tu) (lw (lw M 0 14 0) 0 34 (a.n - 1)) := by
        refine RM_past hm1 (Sm_o hm1.1 (by omega)) (fun i j q => lw_n (by omega)) n34 (fun k k0 k1 => ?_)
        simp only [lw_i (show (33 : Nat) ≠ 0 by decide)]
        exact e6 k k0 (by omega)
      have n33 : ∀ j, lw (lw M 0 14 0) 0 34 (a.n - 1) 33 j = M 33 j := fun j => by rw [lw_i (by decide), lw_i (by decide)]
      simp only [lw_i (show (33 : Nat) ≠ 0 by decide)] at e6'
      generalize lw (lw M 0 14 0) 0 34 (a.n - 1) = N at n34 hN n33
      refine okB (P := fun z => (∀ i j, i ≠ 34 → z.2 i j = N i j) ∧ ∀ j, 0 ≤ j → j < 83 → z.2 34 j = N 33 (83 * (a.n - 1) + j)) ?_ ?_
      · refine okLoop (fun s => 0 ≤ s.1 ∧ s.1 ≤ 83 ∧ (∀ i j, i ≠ 34 → s.2 i j = N i j) ∧ ∀ j, 0 ≤ j → j < s.1 → s.2 34 j = N 33 (83 * (a.n - 1) + j)) (fun s => (83 - s.1).toNat) ?_ ⟨Int.le_refl 0, by show (0 : Int) ≤ 83; omega, fun _ _ _ => rfl, fun j a b => by simp only at b; omega⟩
        rintro ⟨k, D⟩ ⟨k0, k1, h1, h2⟩
        simp only at k0 k1 h1 h2
        unfold X5_back_s1
        simp only
        rw [h1 0 34 (by decide), n34, w32_eq (x := k + 1) (by omega) (by omega), w32_eq (x := 83 * (a.n - 1)) (by omega) (by omega), w32_eq (x := 83 * (a.n - 1) + k) (by omega) (by omega), h1 33 _ (by decide)]
        refine okI (fun hlt => okG ⟨by omega, by omega⟩ (okG ⟨k0, hlt⟩ (okL (okS ⟨⟨by simp only; omega, by simp only; omega, fun i j q => ?_, fun j j0 j1 => ?_⟩, by show (83 - (k + 1)).toNat < (83 - k).toNat; omega⟩)))) (fun hlt => okS ⟨h1, fun j j0 j1 => h2 j j0 (by omega)⟩)
        · simp only
          rw [lw_i q, h1 i j q]
        · simp only at j1 ⊢
          by_cases e : j = k
          · rw [e, lw_s]
          · rw [lw_j e]
            exact h2 j j0 (by omega)
      · rintro ⟨k, D⟩ ⟨h1, h2⟩
        simp only at h1 h2
        have sr : ser (a.tu (a.n - 1)) (D 34) := ser_c hv.1 (fun j j0 j1 => by rw [h2 j j0 j1, n33]) e6'
        simp only
        refine okB (m_give hv.1 (to := 34) (by omega) sr) ?_
        rintro P ⟨p1, -, p3⟩
        have fr : MF N P := fun i j q => by rw [p3 i j (by unfold lnC; omega), h1 i j (by omega)]
        refine okM (?_) (RM_set hN p1 fr)
        rw [fr 0 34 (by omega), n34]
/-- a TRAIN on its way beyond n yards -/
def byS (S : LT) (n : Int) : Prop := ∃ t, 0 ≤ t ∧ t < S 0 4 ∧ S 14 t = 0 ∧ n ≤ S 12 t
theorem Sc_0n {S L : LT} (h : Sc S L) (n : Int) : Sc (lw S 0 0 n) (lw L 0 0 n) := by
  obtain ⟨⟨e0, e1, e2, e3, e4⟩, ey, et⟩ := h
  refine ⟨⟨?_, ?_, ?_, ?_, ?_⟩, fun y y0 y1 => ?_, fun t t0 t1 => ?_⟩
  · rw [lw_s, lw_s]
  · rw [lw_j (by decide), lw_j (by decide)]; exact e1
  · rw [lw_j (by decide), lw_j (by decide)]; exact e2
  · rw [lw_j (by decide), lw_j (by decide)]; exact e3
  · rw [lw_j (by decide), lw_j (by decide)]; exact e4
  · rw [lw_i (by decide), lw_i (by decide), lw_i (by decide), lw_i (by decide), lw_i (by decide), lw_i (by decide)]
    exact ey y y0 y1
  · rw [lw_j (by decide)] at t1
    simp only [lw_i (show (9 : Nat) ≠ 0 by decide), lw_i (show (10 : Nat) ≠ 0 by decide), lw_i (show (11 : Nat) ≠ 0 by decide), lw_i (show (12 : Nat) ≠ 0 by decide), lw_i (show (13 : Nat) ≠ 0 by decide), lw_i (show (14 : Nat) ≠ 0 by decide)]
    exact et t t0 t1
theorem Sm_0n {S L : LT} (h : Sm S L) (n : Int) : Sm (lw S 0 0 n) (lw L 0 0 n) := by
  obtain ⟨⟨e0, e1, e2, e3, e4⟩, ey, et⟩ := h
  refine ⟨⟨?_, ?_, ?_, ?_, ?_⟩, fun y y0 y1 => ?_, fun t t0 t1 => ?_⟩
  · rw [lw_s, lw_s]
  · rw [lw_j (by decide), lw_j (by decide)]; exact e1
  · rw [lw_j (by decide), lw_j (by decide)]; exact e2
  · rw [lw_j (by decide), lw_j (by decide)]; exact e3
  · rw [lw_j (by decide), lw_j (by decide)]; exact e4
  · rw [lw_i (by decide), lw_i (by decide), lw_i (by decide), lw_i (by decide), lw_i (by decide), lw_i (by decide)]
    exact ey y y0 y1
  · rw [lw_j (by decide)] at t1
    simp only [lw_i (show (9 : Nat) ≠ 0 by decide), lw_i (show (10 : Nat) ≠ 0 by decide), lw_i (show (11 : Nat) ≠ 0 by decide), lw_i (show (12 : Nat) ≠ 0 by decide), lw_i (show (13 : Nat) ≠ 0 by decide), lw_i (show (14 : Nat) ≠ 0 by decide)]
    exact et t t0 t1
theorem c_becMany {S L : LT} (h : Sc S L) (V : Val S) (n : Int) : Ok (X2_becomeMany L n) (fun z => (z.1 = 0 ∧ z.2 = L ∧ ¬ (2 ≤ n ∧ n ≤ 16 ∧ ¬ byS S n)) ∨ (z.1 = 1 ∧ Sc (lw S 0 0 n) z.2 ∧ 2 ≤ n ∧ n ≤ 16 ∧ ¬ byS S n)) := by
  have hv := V.1
  unfold X2_becomeMany
  refine okI (fun q => okS (Or.inl ⟨rfl, rfl, fun z => by omega⟩)) (fun q => ?_)
  refine okB (P := fun o => match o with
    | .inl _ => ¬ byS S n
    | .inr z => z = (0, L) ∧ byS S n) ?_ ?_
  · refine okLoop (fun s => 0 ≤ s ∧ ∀ t, 0 ≤ t → t < s → ¬ (S 14 t = 0 ∧ n ≤ S 12 t)) (fun s => (S 0 4 - s).toNat) ?_ ⟨Int.le_refl 0, fun y a b => by omega⟩
    rintro t ⟨t0, hI⟩
    unfold X2_becomeMany_s1
    rw [h.1.2.2.2.2]
    refine okI (fun hlt => okG ⟨t0, by omega⟩ ?_) (fun hlt => okS ?_)
    · obtain ⟨-, -, -, a12, -, a14⟩ := h.2.2 t t0 hlt
      rw [a12, a14, w32_eq (by omega) (by omega)]
      refine okI (fun c => okS ⟨rfl, t, t0, hlt, c.1, c.2⟩) (fun c => okS ⟨⟨by omega, fun u u0 u1 => ?_⟩, by show (S 0 4 - (t + 1)).toNat < (S 0 4 - t).toNat; omega⟩)
      by_cases e : u = t
      · rw [e]; exact c
      · exact hI u u0 (by omega)
    · rintro ⟨u, u0, u1, u2, u3⟩
      exact hI u u0 (by omega) ⟨u2, u3⟩
  · rintro (z | z) hz
    · exact okL (okS (Or.inr ⟨rfl, Sc_0n h n, by omega, by omega, hz⟩))
    · obtain ⟨rfl, hb⟩ := hz
      exact okS (Or.inl ⟨rfl, rfl, fun w => w.2.2 hb⟩)
theorem m_isBey {S M : LT} (h : Sm S M) (V : Val S) (n : Int) : Ok (X5_isBeyond M n) (fun r => ¬ r = 0 ↔ byS S n) := by
  have hv := V.1
  unfold X5_isBeyond
  refine okB (P := fun z => ¬ z.1 = 0 ↔ byS S n) ?_ (fun z q => okS q)
  refine okLoop (fun s => 0 ≤ s.2 ∧ s.2 ≤ S 0 4 ∧ (¬ s.1 = 0 ↔ ∃ t, 0 ≤ t ∧ t < s.2 ∧ S 14 t = 0 ∧ n ≤ S 12 t)) (fun s => (S 0 4 - s.2).toNat) ?_ ⟨Int.le_refl 0, by show (0 : Int) ≤ S 0 4; omega, fun q => absurd rfl q, fun q => by obtain ⟨t, t0, t1, -⟩ := q; simp only at t1; omega⟩
  rintro ⟨r, t⟩ ⟨t0, t1, hI⟩
  simp only at t0 t1 hI
  unfold X5_isBeyond_s1
  simp only
  rw [h.1.2.2.2.2, w32_eq (x := t + 1) (by omega) (by omega)]
  refine okI (fun hlt => okG (fun _ => ⟨t0, by omega⟩) (okG (fun _ _ => ⟨t0, by omega⟩) (okL (okS ⟨⟨by simp only; omega, by simp only; omega, ?_⟩, by show (S 0 4 - (t + 1)).toNat < (S 0 4 - t).toNat; omega⟩)))) (fun hlt => okS ?_)
  · obtain ⟨-, -, -, a12, -, a14⟩ := h.2.2 t t0 hlt
    simp only
    rw [a12, a14]
    by_cases q : ¬ r = 0 ∨ (S 14 t = 0 ∧ n ≤ S 12 t)
    · rw [if_pos q]
      refine ⟨fun _ => ?_, fun _ => by decide⟩
      rcases q with q | q
      · obtain ⟨u, u0, u1, u2⟩ := hI.mp q
        exact ⟨u, u0, by omega, u2⟩
      · exact ⟨t, t0, by omega, q⟩
    · rw [if_neg q]
      refine ⟨fun z => absurd rfl z, fun z => ?_⟩
      obtain ⟨u, u0, u1, u2⟩ := z
      by_cases e : u = t
      · rw [e] at u2; exact absurd (Or.inr u2) q
      · exact absurd (Or.inl (hI.mpr ⟨u, u0, by omega, u2⟩)) q
  · have e : t = S 0 4 := by omega
    rw [e] at hI
    exact hI
theorem op_many : Op1 X4_many X5_many := by
  rintro C M ⟨a, ha, hc, hm⟩ n -
  have hm1 := RM_14 hm 0
  have V := ha.1.1
  have hv := V.1
  refine Bo_op ?_
  unfold X4_many X5_many
  simp only [lt]
  rw [wrN]
  rcases out_b n 2 16 with ⟨q, q1, q2⟩ | q
  · rw [q]
    refine bo_f_ (fun z => z rfl) ?_
    rw [if_pos (rfl : (0 : Int) = 0)]
    by_cases hb : byS a.s n
    · refine ⟨aRef a (-3), -3, OkA_ref ha _, ?_, ?_⟩
      · refine okB (c_becMany hc.1 V n) ?_
        rintro ⟨z1, z2⟩ (⟨e1, e2, -⟩ | ⟨-, -, -, -, nb⟩)
        · simp only at e1 e2
          subst e1
          subst e2
          simp only [gs_self]
          exact okF (by decide) (c_ref hc (by decide))
        · exact absurd hb nb
      · refine okB (P := fun z => z = -3) (okB (m_isBey hm1.1 V n) (fun r hr => okT (hr.mpr hb) (okS rfl))) ?_
        rintro z rfl
        exact okT (by decide) (m_ref hm1 (by decide))
    · refine ⟨aPast (aSet a (lw a.s 0 0 n)) 0 a.tu, a.s 0 0, OkA_fgt (a := aSet a (lw a.s 0 0 n)) (OkA_set ha (Vs_lw ha.1 (by omega) (by omega))), ?_, ?_⟩
      · refine okB (c_becMany hc.1 V n) ?_
        rintro ⟨z1, z2⟩ (⟨-, -, nb⟩ | ⟨e1, e2, -, -, -⟩)
        · exact absurd ⟨q1, q2, hb⟩ nb
        · simp only at e1 e2
          subst e1
          simp only
          refine okT (by decide) (okB (c_forget (a := aSet a (lw a.s 0 0 n)) (RC_set ha hc (by rw [gs_at]; exact e2) (fun t l q => gs_ne q))) ?_)
          intro C' hC
          exact okS ⟨hc.1.1.1, hC⟩
      · refine okB (P := fun z => z = 0) (okB (m_isBey hm1.1 V n) (fun r hr => okF (fun z => hb (hr.mp z)) (okS rfl))) ?_
        rintro z rfl
        refine okF (by decide) (okS ⟨hm1.1.1.1, ?_⟩)
        exact m_forget (a := aSet a (lw a.s 0 0 n)) (RM_set hm1 (Sm_0n hm1.1 n) (MF_lw (by omega)))
  · refine bo_t_ (by omega) ?_
    refine ⟨aRef a (X4_outside_v n 2 16), X4_outside_v n 2 16, OkA_ref ha _, c_ref hc (by omega), okB (P := fun z => z = X4_outside_v n 2 16) (okF (by omega) (okS rfl)) ?_⟩
    rintro z rfl
    exact okT (by omega) (m_ref hm1 (by omega))
/-- a TRAIN more -/
def adS (S : LT) (w h p : Int) : LT := lw (lw (lw (lw (lw (lw (lw S 9 (S 0 4) w) 10 (S 0 4) h) 11 (S 0 4) p) 12 (S 0 4) (-1)) 13 (S 0 4) 0) 14 (S 0 4) 0) 0 4 (S 0 4 + 1)
def adC (S : LT) (w h p : Int) : Prop := 1 ≤ w ∧ w ≤ 60 ∧ h ≤ 9 ∧ 1 ≤ p ∧ p ≤ 3 ∧ S 0 4 < 5
theorem ad_0 {S : LT} {w h p j : Int} (hj : j ≠ 4) : adS S w h p 0 j = S 0 j := by
  unfold adS
  rw [lw_n (by omega), lw_i (by decide), lw_i (by decide), lw_i (by decide), lw_i (by decide), lw_i (by decide), lw_i (by decide)]
theorem ad_4 {S : LT} {w h p : Int} : adS S w h p 0 4 = S 0 4 + 1 := by
  unfold adS
  rw [lw_s]
theorem ad_y {S : LT} {w h p : Int} {i : Nat} {j : Int} (hi : i = 6 ∨ i = 7 ∨ i = 8) : adS S w h p i j = S i j := by
  unfold adS
  rw [lw_i (by omega), lw_i (by omega), lw_i (by omega), lw_i (by omega), lw_i (by omega), lw_i (by omega), lw_i (by omega)]
theorem ad_t {S : LT} {w h p : Int} {i : Nat} {j : Int} (hi : i ≠ 0) (hj : j ≠ S 0 4) : adS S w h p i j = S i j := by
  unfold adS
  rw [lw_i hi, lw_j hj, lw_j hj, lw_j hj, lw_j hj, lw_j hj, lw_j hj]
theorem ad_n (S : LT) (w h p : Int) : adS S w h p 9 (S 0 4) = w ∧ adS S w h p 10 (S 0 4) = h ∧ adS S w h p 11 (S 0 4) = p ∧ adS S w h p 12 (S 0 4) = -1 ∧ adS S w h p 13 (S 0 4) = 0 ∧ adS S w h p 14 (S 0 4) = 0 := by
  unfold adS
  refine ⟨?_, ?_, ?_, ?_, ?_, ?_⟩
  · rw [lw_i (by decide), lw_i (by decide), lw_i (by decide), lw_i (by decide), lw_i (by decide), lw_i (by decide), lw_s]
  · rw [lw_i (by decide), lw_i (by decide), lw_i (by decide), lw_i (by decide), lw_i (by decide), lw_s]
  · rw [lw_i (by decide), lw_i (by decide), lw_i (by decide), lw_i (by decide), lw_s]
  · rw [lw_i (by decide), lw_i (by decide), lw_i (by decide), lw_s]
  · rw [lw_i (by decide), lw_i (by decide), lw_s]
  · rw [lw_i (by decide), lw_s]
theorem Val_ad {S : LT} (V : Val S) {w h p : Int} (hc : adC S w h p) (h0 : 0 ≤ h) : Val (adS S w h p) := by
  obtain ⟨w0, w1, h1, p0, p1, t5⟩ := hc
  have hv := V.1
  refine ⟨?_, fun y y0 y1 => ?_, fun t t0 t1 => ?_⟩
  · rw [ad_0 (by decide), ad_0 (by decide), ad_0 (by decide), ad_4]
    omega
  · rw [ad_y (by omega), ad_y (by omega), ad_y (by omega)]
    exact V.2.1 y y0 y1
  · rw [ad_4] at t1
    by_cases e : t = S 0 4
    · obtain ⟨n1, n2, n3, n4, n5, n6⟩ := ad_n S w h p
      rw [e, n1, n2, n3, n4, n5, n6]
      omega
    · rw [ad_t (by decide) e, ad_t (by decide) e, ad_t (by decide) e, ad_t (by decide) e, ad_t (by decide) e, ad_t (by decide) e]
      exact V.2.2 t t0 (by omega)
theorem Vs_ad {S : LT} (V : Vs S) {w h p : Int} (hc : adC S w h p) (h0 : 0 ≤ h) : Vs (adS S w h p) := ⟨Val_ad V.1 hc h0, by rw [ad_0 (by decide)]; exact V.2.1, by rw [ad_0 (by decide)]; exact V.2.2⟩
theorem c_add {S L : LT} (hs : Sc S L) (V : Val S) (w h p : Int) : Ok (X2_addTrain L w h p) (fun z => (z.1 = 0 ∧ z.2 = L ∧ ¬ adC S w h p) ∨ (z.1 = 1 ∧ Sc (adS S w h p) z.2 ∧ adC S w h p)) := by
  have hv := V.1
  obtain ⟨⟨e0, e1, e2, e3, e4⟩, ey, et⟩ := hs
  unfold X2_addTrain adC
  rw [e4]
  refine okI (fun q => okS (Or.inl ⟨rfl, rfl, fun z => by omega⟩)) (fun q => ?_)
  simp only [lt, lw_i (show (0 : Nat) ≠ 9 by decide), lw_i (show (0 : Nat) ≠ 10 by decide), lw_i (show (0 : Nat) ≠ 11 by decide), lw_i (show (0 : Nat) ≠ 12 by decide), lw_i (show (0 : Nat) ≠ 13 by decide), lw_i (show (0 : Nat) ≠ 14 by decide), lw_i (show (0 : Nat) ≠ 16 by decide)]
  rw [e4, w32_eq (by omega) (by omega)]
  have g5 : gd (S 0 4) 5 := ⟨by omega, by omega⟩
  refine okG g5 (okG g5 (okG g5 (okG g5 (okG g5 (okG g5 (okG g5 (okS (Or.inr ⟨rfl, ?_, by omega⟩))))))))
  refine ⟨⟨?_, ?_, ?_, ?_, ?_⟩, fun y y0 y1 => ?_, fun t t0 t1 => ?_⟩
  · rw [ad_0 (by decide), ← e0]; simp [lw]
  · rw [ad_0 (by decide), ← e1]; simp [lw]
  · rw [ad_0 (by decide), ← e2]; simp [lw]
  · rw [ad_0 (by decide), ← e3]; simp [lw]
  · simp only; rw [ad_4, lw_s]
  · rw [ad_y (by omega), ad_y (by omega), ad_y (by omega)]
    have := ey y y0 y1
    simpa [lw] using this
  · rw [ad_4] at t1
    by_cases e : t = S 0 4
    · obtain ⟨n1, n2, n3, n4, n5, n6⟩ := ad_n S w h p
      rw [e, n1, n2, n3, n4, n5, n6]
      simp [lw]
    · rw [ad_t (by decide) e, ad_t (by decide) e, ad_t (by decide) e, ad_t (by decide) e, ad_t (by decide) e, ad_t (by decide) e]
      have := et t t0 (by omega)
      simpa [lw, e] using this
theorem m_add {S L : LT} (hs : Sm S L) (V : Val S) (h4 : S 0 4 < 5) (w h p : Int) : Ok (X5_trainComes L w h p) (fun N => Sm (adS S w h p) N ∧ ∀ i j, ¬ (i = 0 ∧ j = 7) → ¬ (9 ≤ i ∧ i ≤ 14) → N i j = L i j) := by
  have hv := V.1
  obtain ⟨⟨e0, e1, e2, e3, e4⟩, ey, et⟩ := hs
  unfold X5_trainComes
  simp only [lt, lw_i (show (0 : Nat) ≠ 9 by decide), lw_i (show (0 : Nat) ≠ 10 by decide), lw_i (show (0 : Nat) ≠ 11 by decide), lw_i (show (0 : Nat) ≠ 12 by decide), lw_i (show (0 : Nat) ≠ 13 by decide), lw_i (show (0 : Nat) ≠ 14 by decide), lw_i (show (0 : Nat) ≠ 16 by decide)]
  rw [e4, w32_eq (by omega) (by omega)]
  have g5 : gd (S 0 4) 5 := ⟨by omega, by omega⟩
  refine okG g5 (okG g5 (okG g5 (okG g5 (okG g5 (okG g5 (okS ⟨?_, fun i j q1 q2 => ?_⟩))))))
  · refine ⟨⟨?_, ?_, ?_, ?_, ?_⟩, fun y y0 y1 => ?_, fun t t0 t1 => ?_⟩
    · rw [ad_0 (by decide), ← e0]; simp [lw]
    · rw [ad_0 (by decide), ← e1]; simp [lw]
    · rw [ad_0 (by decide), ← e2]; simp [lw]
    · rw [ad_0 (by decide), ← e3]; simp [lw]
    · rw [ad_4, lw_s]
    · rw [ad_y (by omega), ad_y (by omega), ad_y (by omega)]
      have := ey y y0 y1
      simpa [lw] using this
    · rw [ad_4] at t1
      by_cases e : t = S 0 4
      · obtain ⟨n1, n2, n3, n4, n5, n6⟩ := ad_n S w h p
        rw [e, n1, n2, n3, n4, n5, n6]
        simp [lw]
      · rw [ad_t (by decide) e, ad_t (by decide) e, ad_t (by decide) e, ad_t (by decide) e, ad_t (by decide) e, ad_t (by decide) e]
        have := et t t0 (by omega)
        simpa [lw, e] using this
  · rw [lw_n (by omega), lw_i (by omega), lw_i (by omega), lw_i (by omega), lw_i (by omega), lw_i (by omega), lw_i (by omega)]
theorem op_train : Op3 X4_train X5_train := by
  rintro C M ⟨a, ha, hc, hm⟩ w h p - - -
  have hm1 := RM_14 hm 0
  have V := ha.1.1
  have hv := V.1
  refine Bo_op ?_
  unfold X4_train X5_train
  simp only [lt]
  rw [hm1.1.1.2.2.2.2]
  by_cases h1 : (w < 1 ∨ h < 0) ∨ p < 1
  · refine bo_t_ h1 ⟨aRef a (-4), -4, OkA_ref ha _, c_ref hc (by decide), okB (P := fun z => z = -4) (okT h1 (okS rfl)) ?_⟩
    rintro z rfl
    exact okT (by decide) (m_ref hm1 (by decide))
  · refine bo_f_ h1 ?_
    by_cases h2 : ((60 < w ∨ 9 < h) ∨ 3 < p) ∨ a.s 0 4 = 5
    · refine ⟨aRef a (-6), -6, OkA_ref ha _, ?_, okB (P := fun z => z = -6) (okF h1 (okT h2 (okS rfl))) ?_⟩
      · refine okB (c_add hc.1 V w h p) ?_
        rintro ⟨z1, z2⟩ (⟨e1, e2, -⟩ | ⟨-, -, nb⟩)
        · simp only at e1 e2
          subst e1
          subst e2
          simp only [gs_self]
          exact okF (by decide) (c_ref hc (by decide))
        · unfold adC at nb
          omega
      · rintro z rfl
        exact okT (by decide) (m_ref hm1 (by decide))
    · have hC : adC a.s w h p := by unfold adC; omega
      refine ⟨aPast (aSet a (adS a.s w h p)) 0 a.tu, a.s 0 4, OkA_fgt (a := aSet a (adS a.s w h p)) (OkA_set ha (Vs_ad ha.1 hC (by omega))), ?_, okB (P := fun z => z = 0) (okF h1 (okF h2 (okS rfl))) ?_⟩
      · refine okB (c_add hc.1 V w h p) ?_
        rintro ⟨z1, z2⟩ (⟨-, -, nb⟩ | ⟨e1, e2, -⟩)
        · exact absurd hC nb
        · simp only at e1 e2
          subst e1
          simp only
          refine okT (by decide) (okB (c_forget (a := aSet a (adS a.s w h p)) (RC_set ha hc (by rw [gs_at]; exact e2) (fun t l q => gs_ne q))) ?_)
          intro C' hC'
          refine okS ⟨?_, hC'⟩
          have e4 : C' 1 0 0 4 = adS a.s w h p 0 4 := hC'.1.1.2.2.2.2
          simp only
          rw [e4, ad_4, w32_eq (by omega) (by omega)]
          omega
      · rintro z rfl
        refine okF (by decide) (okB (m_add hm1.1 V (by omega) w h p) ?_)
        rintro N ⟨n1, n2⟩
        have e4 : N 0 7 = adS a.s w h p 0 4 := n1.1.2.2.2.2
        refine okM (?_) (m_forget (a := aSet a (adS a.s w h p)) (RM_set hm1 n1 (fun i j q => n2 i j (by omega) (by omega))))
        rw [lw_n (by omega), e4, ad_4, w32_eq (by omega) (by omega)]
        omega
def aIm (a : Ab) : Ab := mkA a.s a.s 1 a.n a.tu a.ln a.tx a.rn a.rw a.rf
theorem op_image : Op0 X4_image X5_image := by
  rintro C M ⟨a, ha, hc, hm⟩
  have hm1 := RM_14 hm 0
  have V := ha.1.1
  refine Bo_op ⟨aIm a, a.s 0 1, ⟨ha.1, ⟨Or.inr rfl, fun _ => ha.1⟩, ha.2.2⟩, ?_, ?_⟩
  · unfold X4_image
    refine okB (c_become hc.1 V) ?_
    intro L hL
    refine okL (okL ?_)
    have ne : ∀ t l, ¬ (t = 0 ∧ l = 0) → hw (gs C 1 2 L) (0, 0, 0) 3 1 t l = gs C 1 2 L t l := fun t l q => hw_nl q
    have g0 : gs C 1 2 L 0 0 = C 0 0 := gs_ne (by omega)
    have at0 : hw (gs C 1 2 L) (0, 0, 0) 3 1 0 0 = lw (C 0 0) 0 3 1 := by rw [hw_at, g0]
    generalize hw (gs C 1 2 L) (0, 0, 0) 3 1 = C' at ne at0
    have gl : ∀ t l, ¬ (t = 0 ∧ l = 0) → ¬ (t = 1 ∧ l = 2) → C' t l = C t l := fun t l q1 q2 => by rw [ne t l q1]; exact gs_ne q2
    obtain ⟨e1, -, ⟨e4, e5, e6⟩, ⟨e7, e8⟩, ⟨e9, e10⟩, e11⟩ := hc
    have s0 : Sc a.s (C' 1 0) := by rw [gl 1 0 (by omega) (by omega)]; exact e1
    refine okC s0.1.2.1 ⟨s0, ⟨by rw [at0, lw_s]; rfl, fun _ => by rw [ne 1 2 (by omega), gs_at]; exact hL.1⟩, ⟨by rw [gl 3 0 (by omega) (by omega)]; exact e4, ⟨by rw [gl 3 0 (by omega) (by omega)]; exact e5.1, by rw [gl 3 0 (by omega) (by omega)]; exact e5.2⟩, fun k q0 q1 => ?_⟩, ⟨by rw [gl 2 0 (by omega) (by omega)]; exact e7, fun k q0 q1 => by rw [gl 2 0 (by omega) (by omega)]; exact e8 k q0 q1⟩, ⟨by rw [at0, lw_n (by omega)]; exact e9, fun k q0 q1 => by rw [at0, lw_n (by omega)]; exact e10 k q0 q1⟩, fun k q0 q1 => by rw [at0, lw_n (by omega)]; exact e11 k q0 q1⟩
    have q1' : k < a.n := q1
    have b := e5.1 k q0 (by have := ha.2.2.1; omega)
    rw [gl 3 0 (by omega) (by omega), gl 1 _ (by omega) (by omega)]
    exact e6 k q0 q1
  · unfold X5_image
    have s1 : Sm a.s (lw (lw M 0 14 0) 0 28 1) := Sm_o hm1.1 (by omega)
    refine okL (okL (okB (m_tell V s1 (to := 28) (by omega)) ?_))
    rintro N ⟨n1, n2, n3⟩
    have fr : ∀ i j, (i = 16 ∨ i = 19 ∨ i = 33 ∨ i = 39 ∨ i = 0 ∧ (j = 19 ∨ j = 34 ∨ j = 39)) → N i j = M i j := fun i j q => by
      rw [n3 i j (by unfold lnC; omega) (by omega), lw_n (by omega), lw_n (by omega)]
    obtain ⟨-, -, ⟨h4, h6⟩, ⟨h7, h8⟩, ⟨h9, h10⟩, h11⟩ := hm
    refine okM n1.1.2.1 ⟨n1, ⟨?_, fun _ => n2⟩, ⟨?_, fun k q0 q1 => ?_⟩, ⟨?_, fun k q0 q1 => ?_⟩, ⟨?_, fun k q0 q1 => ?_⟩, fun k q0 q1 => ?_⟩
    · rw [n3 0 28 (by unfold lnC; omega) (by omega), lw_s]
      rfl
    · rw [fr 0 34 (by omega)]; exact h4
    · simp only [fr 33 _ (show (33 : Nat) = 16 ∨ (33 : Nat) = 19 ∨ (33 : Nat) = 33 ∨ _ from Or.inr (Or.inr (Or.inl rfl)))]
      exact h6 k q0 q1
    · rw [fr 0 19 (by omega)]; exact h7
    · rw [fr 19 k (by omega)]; exact h8 k q0 q1
    · rw [fr 0 39 (by omega)]; exact h9
    · rw [fr 39 k (by omega)]; exact h10 k q0 q1
    · rw [fr 16 k (by omega)]; exact h11 k q0 q1
theorem op_restore : Op0 X4_restore X5_restore := by
  rintro C M ⟨a, ha, hc, hm⟩
  have hm1 := RM_14 hm 0
  refine Bo_op ?_
  unfold X4_restore X5_restore
  simp only [lt]
  rw [hc.2.1.1, hm1.2.1.1]
  by_cases h0 : a.hi = 0
  · exact bo_tt h0 h0 (Bo_ref ha hc hm1 (by decide))
  · have h1 : a.hi = 1 := by have := ha.2.1.1; omega
    have vi := ha.2.1.2 h1
    refine bo_ff h0 h0 ⟨aPast (aSet a a.im) 0 a.tu, a.im 0 1, OkA_fgt (a := aSet a a.im) (OkA_set ha vi), ?_, ?_⟩
    · refine okB (c_become (hc.2.1.2 h1) vi.1) ?_
      intro L hL
      refine okB (c_forget (a := aSet a a.im) (RC_set ha hc (by rw [gs_at]; exact hL.1) (fun t l q => gs_ne q))) ?_
      intro C' hC
      exact okS ⟨hC.1.1.2.1, hC⟩
    · refine okB (m_give vi.1 (to := 28) (by omega) (hm1.2.1.2 h1)) ?_
      rintro N ⟨n1, n2, n3⟩
      have r : RM (aPast (aSet a a.im) 0 a.tu) (lw N 0 34 0) := m_forget (a := aSet a a.im) (RM_set hm1 n1 (fun i j q => n3 i j (by unfold lnC; omega)))
      exact okS ⟨r.1.1.2.1, r⟩
