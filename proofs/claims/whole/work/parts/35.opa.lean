/-! Outcomes weighed -/
def IM (a : Ab) (M P : LT) : Prop := ser a.s (P 27) ∧ MF M P
theorem IM_lw {a : Ab} {M P : LT} (h : IM a M P) {i : Nat} {j v : Int} (hi : ¬ (i = 16 ∨ i = 19 ∨ i = 28 ∨ i = 33 ∨ i = 39 ∨ i = 0 ∧ (j = 19 ∨ j = 28 ∨ j = 34 ∨ j = 39)) ∧ i ≠ 27) : IM a M (lw P i j v) := by
  refine ⟨?_, MF_t h.2 (MF_lw hi.1)⟩
  rw [show lw P i j v 27 = P 27 from funext (fun k => lw_i (Ne.symm hi.2))]
  exact h.1
theorem IM_RM {a : Ab} {M P : LT} (h : IM a M P) (hm : RM a M) (hs : Sm a.s P) : RM a P := RM_F hm hs h.2
theorem f_open {a : Ab} {M : LT} (ha : OkA a) (hm : RM a M) : Ok (X5_open M) (fun N => Sm a.s N ∧ IM a M N) :=
  okW (m_open ha.1.1 hm.1) (fun N q => ⟨q.1, q.2.1, MG_F q.2.2⟩)
theorem f_hours {a : Ab} {S M N : LT} (hs : Sm S N) (hi : IM a M N) (V : Vg S) {n : Int} (n0 : 0 ≤ n) (n1 : n ≤ 100) : Ok (X5_goHours N n) (fun P => Sm (goS n.toNat S) P ∧ IM a M P ∧ ∀ t, 0 ≤ t → t < S 0 4 → P 17 t = stoS S n.toNat t ∧ P 18 t = endS S n.toNat t) :=
  okW (m_goHours hs V.1 V.2.1 V.2.2 n0 n1) (fun P q => ⟨q.1, ⟨by rw [show P 27 = N 27 from funext q.2.2.1]; exact hi.1, MF_t hi.2 (MG_F q.2.1)⟩, q.2.2.2⟩)
theorem f_close {a : Ab} {M P : LT} (ha : OkA a) (hi : IM a M P) : Ok (X5_close P) (fun Q => Sm a.s Q ∧ IM a M Q ∧ (∀ j, Q 17 j = P 17 j) ∧ ∀ j, Q 18 j = P 18 j) :=
  okW (m_close ha.1.1 hi.1) (fun Q q => ⟨q.1, ⟨q.2.1, MF_t hi.2 (MG_F q.2.2.1)⟩, q.2.2.2.1, q.2.2.2.2⟩)
theorem f_thr {a : Ab} {S M N : LT} (ha : OkA a) (hs : Sm S N) (hi : IM a M N) (V : Vg S) {t : Int} (t0 : 0 ≤ t) (t1 : t < S 0 4) : Ok (X5_throughIn N t) (fun z => z.1 = thrS S t ∧ Sm a.s z.2 ∧ IM a M z.2) :=
  okW (m_throughIn ha.1.1 hi.1 hs V.1 V.2.1 V.2.2 t0 t1) (fun z q => ⟨q.1, q.2.1, q.2.2.1, MF_t hi.2 (MG_F q.2.2.2)⟩)
theorem f_by {a : Ab} {S M N : LT} (ha : OkA a) (hs : Sm S N) (hi : IM a M N) (V : Vg S) : Ok (X5_throughBy72 N) (fun z => z.1 = cntS (goS 72 S) 1 ∧ Sm a.s z.2 ∧ IM a M z.2) :=
  okW (m_throughBy ha.1.1 hi.1 hs V.1 V.2.1 V.2.2) (fun z q => ⟨q.1, q.2.1, q.2.2.1, MF_t hi.2 (MG_F q.2.2.2)⟩)
theorem c_ref {a : Ab} {C : GG} (h : RC a C) {v : Int} (v0 : -6 ≤ v ∧ v ≤ -1) : Ok (Option.bind (X4_refuse C v) fun z => some (z.1, z.2)) (fun z => z.1 = v ∧ RC (aRef a v) z.2) := okB (c_refuse h v0.1 v0.2) (fun _ q => okS q)
theorem m_ref {a : Ab} {M : LT} (h : RM a M) {v : Int} (v0 : -6 ≤ v ∧ v ≤ -1) : Ok (Option.bind (X5_refuse M v) fun z => some (z.1, z.2)) (fun z => z.1 = v ∧ RM (aRef a v) z.2) := okB (m_refuse h v0.1 v0.2) (fun _ q => okS q)
theorem c_noY {a : Ab} {C : GG} (h : RC a C) (y : Int) : ¬ X4_noYard_v C y = 0 ↔ ¬ (0 ≤ y ∧ y < a.s 0 0) := by
  unfold X4_noYard_v
  rw [h.1.1.1]
  split <;> omega
theorem c_noT {a : Ab} {C : GG} (h : RC a C) (t : Int) : ¬ X4_noTrain_v C t = 0 ↔ ¬ (0 ≤ t ∧ t < a.s 0 4) := by
  unfold X4_noTrain_v
  rw [h.1.1.2.2.2.2]
  split <;> omega
theorem m_isY {S M : LT} (h : Sm S M) (V : Val S) (y : Int) : X5_isYard_v M y = if 0 ≤ y ∧ y < S 0 0 then 1 else 0 := by
  have hv := V.1
  unfold X5_isYard_v X5_in_v
  rw [h.1.1, w32_eq (by omega) (by omega)]
  split <;> split <;> first | rfl | omega
theorem m_isT {S M : LT} (h : Sm S M) (V : Val S) (t : Int) : X5_isTrain_v M t = if 0 ≤ t ∧ t < S 0 4 then 1 else 0 := by
  have hv := V.1
  unfold X5_isTrain_v X5_in_v
  rw [h.1.2.2.2.2, w32_eq (by omega) (by omega)]
  split <;> split <;> first | rfl | omega
theorem wrN (v lo hi : Int) : X5_wrongNumber_v v lo hi = X4_outside_v v lo hi := rfl
theorem out_b (v lo hi : Int) : X4_outside_v v lo hi = 0 ∧ lo ≤ v ∧ v ≤ hi ∨ X4_outside_v v lo hi = -4 ∨ X4_outside_v v lo hi = -6 := by
  unfold X4_outside_v
  split
  · exact Or.inr (Or.inl rfl)
  · split
    · exact Or.inr (Or.inr rfl)
    · exact Or.inl ⟨rfl, by omega, by omega⟩
theorem op_ref {f : Option (Int × GG)} {m : Option (Int × LT)} {a : Ab} (v : Int) (ha : OkA a) (h1 : Ok f (fun z => z.1 = v ∧ RC (aRef a v) z.2)) (h2 : Ok m (fun z => z.1 = v ∧ RM (aRef a v) z.2)) : ∃ (r : Int) (C' : GG) (M' : LT), f = some (r, C') ∧ m = some (r, M') ∧ Rel C' M' := op_mk (OkA_ref ha v) h1 h2
theorem op_frostIn : Op2 X4_frostIn X5_frostIn := by
  rintro C M ⟨a, ha, hc, hm⟩ y n - -
  have hm1 := RM_14 hm 0
  have V := ha.1.1
  have hv := V.1
  have isY := m_isY hm1.1 V y
  by_cases hy : 0 ≤ y ∧ y < a.s 0 0
  · rw [if_pos hy] at isY
    by_cases hn : X4_outside_v n 0 72 = 0
    · have hb : 0 ≤ n ∧ n ≤ 72 := by rcases out_b n 0 72 with q | q | q <;> omega
      refine op_mk (a := a) (r := goS n.toNat a.s 8 y) ha ?_ ?_
      · unfold X4_frostIn
        refine okF (fun q => (c_noY hc y).mp q hy) (okL (okF (fun q => q hn) (okB (c_goInMind hc.1 (Vs_g ha.1) hb.1 hb.2) ?_)))
        rintro C' ⟨cf, cl⟩
        refine okG ⟨by omega, by omega⟩ (okS ⟨(cl.1.1.2.1 y (by omega) (by omega)).2.2, RC_G ha hc (CF_G cf)⟩)
      · unfold X5_frostIn
        refine okL ?_
        rw [isY, wrN, hn]
        refine okL (okF (by decide) (okB (f_open ha hm1) ?_))
        rintro N ⟨n1, n2⟩
        refine okB (f_hours n1 n2 (Vs_g ha.1) hb.1 (by omega)) ?_
        rintro P ⟨p1, p2, -⟩
        refine okG ⟨by omega, by omega⟩ (okL (okB (f_close ha p2) ?_))
        rintro Q ⟨q1, q2, -⟩
        exact okS ⟨(p1.2.1 y (by omega) (by omega)).2.2, IM_RM q2 hm1 q1⟩
    · have hr : -6 ≤ X4_outside_v n 0 72 ∧ X4_outside_v n 0 72 ≤ -1 := by rcases out_b n 0 72 with q | q | q <;> omega
      refine op_ref (X4_outside_v n 0 72) ha ?_ ?_
      · unfold X4_frostIn
        exact okF (fun q => (c_noY hc y).mp q hy) (okL (okT hn (c_ref hc hr)))
      · unfold X5_frostIn
        refine okL ?_
        rw [isY, wrN]
        refine okL ?_
        rw [if_pos (show ¬ (1 : Int) = 0 by decide)]
        exact okT (by omega) (m_ref hm1 hr)
  · rw [if_neg hy] at isY
    refine op_ref (-1) ha ?_ ?_
    · unfold X4_frostIn
      exact okT ((c_noY hc y).mpr hy) (c_ref hc (by decide))
    · unfold X5_frostIn
      refine okL ?_
      rw [isY]
      refine okL ?_
      rw [if_neg (show ¬ ¬ (0 : Int) = 0 by decide)]
      exact okT (by decide) (m_ref hm1 (by decide))
