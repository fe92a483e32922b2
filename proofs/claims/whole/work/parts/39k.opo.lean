/-! heaviest, needed, noon, noons -/
theorem lw_self (L : LT) (i : Nat) (j : Int) : lw L i j (L i j) = L := by
  funext i' j'
  unfold lw
  split
  · rename_i h; rw [h.1, h.2]
  · rfl
theorem m_heavy0 {a : Ab} {M N : LT} (ha : OkA a) (n1 : Sm a.s N) (n2 : IM a M N) {t : Int} (t0 : 0 ≤ t) (t1 : t < a.s 0 4) (hv : ∀ v : Int, ((1 : Nat) : Int) ≤ v → v ≤ ((60 : Nat) : Int) → Vg (lw a.s 9 t v)) : Ok (lp (X5_heaviest_s1 t 0 60) (-9, 99, 1, N)) (fun z => Lst (thP a.s 9 t t) 1 61 z.1 ∧ Sm a.s z.2.2.2 ∧ IM a M z.2.2.2) := by
  have tv := ha.1.1.1
  refine okLoop (fun s => ∃ k : Nat, s.2.2.1 = (k : Int) ∧ 1 ≤ k ∧ k ≤ 61 ∧ Lst (thP a.s 9 t t) 1 k s.1 ∧ Sm a.s s.2.2.2 ∧ IM a M s.2.2.2) (fun s => (61 - s.2.2.1).toNat) ?_ ⟨1, rfl, by omega, by omega, Or.inl ⟨rfl, fun k h1 h2 => by omega⟩, n1, n2⟩
  rintro ⟨b, l, k', P⟩ ⟨k, e1, hk0, hk, hL, p1, p2⟩
  simp only at e1 hL p1 p2
  subst e1
  unfold X5_heaviest_s1
  simp only
  rw [w32_eq (x := (k : Int) + 1) (by omega) (by omega)]
  have g5 : gd t 5 := ⟨t0, by omega⟩
  refine okI (fun hle => okG (fun _ => g5) (okG g5 (okL (okL (okL ?_))))) (fun hle => okS (by have e : k = 61 := (by omega); subst e; exact ⟨hL, p1, p2⟩))
  have ls := Lst_s hL hk0
  have V2 := hv k (by omega) (by omega)
  have mu : (61 - ((k : Int) + 1)).toNat < (61 - (k : Int)).toNat := by omega
  rw [if_pos trivial, if_neg (show ¬ (0 : Int) = 1 by decide), lw_self, if_neg (show ¬ (0 : Int) = 2 by decide), lw_self]
  refine okB (f_thr ha (Sm_lw p1 (i := 9) (i' := 9) (j := t) (v := k) (by omega)) (IM_lw p2 (by omega)) V2 t0 (by rw [lw_n (by omega)]; exact t1)) ?_
  rintro ⟨r, Q⟩ ⟨q0, q1, q2⟩
  simp only at q0 q1 q2
  refine okL (okL (okS ⟨⟨k + 1, rfl, by omega, by omega, ?_, q1, q2⟩, mu⟩))
  simp only
  rw [if_neg (show ¬ (0 : Int) = 2 by decide), q0]
  by_cases z : thrS (lw a.s 9 t k) t < 99
  · rw [if_pos z]; exact ls.1 z
  · rw [if_neg z]; exact ls.2 z
theorem m_heavy1 {a : Ab} {M N : LT} (ha : OkA a) (n1 : Sm a.s N) (n2 : IM a M N) {t : Int} (t0 : 0 ≤ t) (t1 : t < a.s 0 4) (hv : ∀ v : Int, ((0 : Nat) : Int) ≤ v → v ≤ ((9 : Nat) : Int) → Vg (lw a.s 10 t v)) : Ok (lp (X5_heaviest_s1 t 1 9) (-9, 99, 0, N)) (fun z => Lst (thP a.s 10 t t) 0 10 z.1 ∧ Sm a.s z.2.2.2 ∧ IM a M z.2.2.2) := by
  have tv := ha.1.1.1
  refine okLoop (fun s => ∃ k : Nat, s.2.2.1 = (k : Int) ∧ 0 ≤ k ∧ k ≤ 10 ∧ Lst (thP a.s 10 t t) 0 k s.1 ∧ Sm a.s s.2.2.2 ∧ IM a M s.2.2.2) (fun s => (10 - s.2.2.1).toNat) ?_ ⟨0, rfl, by omega, by omega, Or.inl ⟨rfl, fun k h1 h2 => by omega⟩, n1, n2⟩
  rintro ⟨b, l, k', P⟩ ⟨k, e1, hk0, hk, hL, p1, p2⟩
  simp only at e1 hL p1 p2
  subst e1
  unfold X5_heaviest_s1
  simp only
  rw [w32_eq (x := (k : Int) + 1) (by omega) (by omega)]
  have g5 : gd t 5 := ⟨t0, by omega⟩
  refine okI (fun hle => okG (fun _ => g5) (okG g5 (okL (okL (okL ?_))))) (fun hle => okS (by have e : k = 10 := (by omega); subst e; exact ⟨hL, p1, p2⟩))
  have ls := Lst_s hL hk0
  have V2 := hv k (by omega) (by omega)
  have mu : (10 - ((k : Int) + 1)).toNat < (10 - (k : Int)).toNat := by omega
  rw [if_neg (show ¬ (1 : Int) = 0 by decide), lw_self, if_pos trivial, if_neg (show ¬ (1 : Int) = 2 by decide), lw_self]
  refine okB (f_thr ha (Sm_lw p1 (i := 10) (i' := 10) (j := t) (v := k) (by omega)) (IM_lw p2 (by omega)) V2 t0 (by rw [lw_n (by omega)]; exact t1)) ?_
  rintro ⟨r, Q⟩ ⟨q0, q1, q2⟩
  simp only at q0 q1 q2
  refine okL (okL (okS ⟨⟨k + 1, rfl, by omega, by omega, ?_, q1, q2⟩, mu⟩))
  simp only
  rw [if_neg (show ¬ (1 : Int) = 2 by decide), q0]
  by_cases z : thrS (lw a.s 10 t k) t < 99
  · rw [if_pos z]; exact ls.1 z
  · rw [if_neg z]; exact ls.2 z
theorem m_heavy2 {a : Ab} {M N : LT} (ha : OkA a) (n1 : Sm a.s N) (n2 : IM a M N) {t : Int} (t0 : 0 ≤ t) (t1 : t < a.s 0 4) (hv : ∀ v : Int, 1 ≤ v → v < 1 + ((3 : Nat) : Int) → Vg (lw a.s 11 t v)) : Ok (lp (X5_heaviest_s1 t 2 3) (-9, 99, 1, N)) (fun z => z.1 = (bwN (fun v => thrS (lw a.s 11 t v) t) 1 3).1 ∧ Sm a.s z.2.2.2 ∧ IM a M z.2.2.2) := by
  have tv := ha.1.1.1
  generalize hF : (fun v => thrS (lw a.s 11 t v) t) = F
  have hF' : ∀ v, thrS (lw a.s 11 t v) t = F v := fun v => congrFun hF v
  refine okLoop (fun s => ∃ k : Nat, s.2.2.1 = 1 + (k : Int) ∧ k ≤ 3 ∧ s.1 = (bwN F 1 k).1 ∧ s.2.1 = (bwN F 1 k).2 ∧ Sm a.s s.2.2.2 ∧ IM a M s.2.2.2) (fun s => (4 - s.2.2.1).toNat) ?_ ⟨0, rfl, by omega, rfl, rfl, n1, n2⟩
  rintro ⟨b, l, k', P⟩ ⟨k, e1, hk, e2, e3, p1, p2⟩
  simp only at e1 e2 e3 p1 p2
  subst e1
  subst e2
  subst e3
  unfold X5_heaviest_s1
  simp only
  rw [w32_eq (x := 1 + (k : Int) + 1) (by omega) (by omega)]
  have g5 : gd t 5 := ⟨t0, by omega⟩
  refine okI (fun hle => okG (fun _ => g5) (okG g5 (okL (okL (okL ?_))))) (fun hle => okS (by rw [show 3 = k by omega]; exact ⟨rfl, p1, p2⟩))
  have V2 := hv (1 + k) (by omega) (by omega)
  have mu : (4 - (1 + (k : Int) + 1)).toNat < (4 - (1 + (k : Int))).toNat := by omega
  rw [if_neg (show ¬ (2 : Int) = 0 by decide), lw_self, if_neg (show ¬ (2 : Int) = 1 by decide), lw_self, if_pos trivial]
  refine okB (f_thr ha (Sm_lw p1 (i := 11) (i' := 11) (j := t) (v := 1 + k) (by omega)) (IM_lw p2 (by omega)) V2 t0 (by rw [lw_n (by omega)]; exact t1)) ?_
  rintro ⟨r, Q⟩ ⟨q0, q1, q2⟩
  simp only at q0 q1 q2
  rw [hF'] at q0
  have en : bwN F 1 (k + 1) = bwF (bwN F 1 k) (1 + k) (F (1 + k)) := rfl
  refine okL (okL (okS ⟨⟨k + 1, by simp only; omega, by omega, ?_, ?_, q1, q2⟩, mu⟩))
  · simp only
    rw [if_pos trivial, q0, en]; unfold bwF; split <;> rfl
  · simp only
    rw [q0, en]; unfold bwF; split <;> rfl
theorem op_heaviest : Op2 X4_heaviest X5_heaviest := by
  rintro C M ⟨a, ha, hc, hm⟩ t w - -
  have hm1 := RM_14 hm 0
  have V := Vs_g ha.1
  have tv := V.1.1
  refine Bo_op ?_
  unfold X4_heaviest X5_heaviest
  simp only [lt]
  unfold X5_wrongBit_v
  rw [m_in]
  by_cases ht : 0 ≤ t ∧ t < a.s 0 4
  · refine bo_f_ (fun q => (c_noT hc t).mp q ht) ?_
    by_cases hw : 0 ≤ w ∧ w ≤ 2
    · rw [if_pos hw, if_neg (show ¬ ((0 : Int) = 0 ∧ (1 : Int) = 0) by omega)]
      refine bo_f_ (by omega) ?_
      rw [grd_t (c_ahead hc t V.1).1, grd_t (m_ahead hm1.1 V.1 t 0).1, (c_ahead hc t V.1).2, (m_ahead hm1.1 V.1 t 0).2]
      rcases ah_r a.s t with q | q
      · rw [q]
        obtain ⟨t0, t1, q14, q12⟩ := ah_0 q
        refine bo_ff (fun z => z rfl) (by omega) ?_
        have w3 : w = 0 ∨ w = 1 ∨ w = 2 := by omega
        rcases w3 with rfl | rfl | rfl
        · have hv : ∀ v : Int, ((1 : Nat) : Int) ≤ v → v ≤ ((60 : Nat) : Int) → Vg (lw a.s 9 t v) := fun v v0 v1 => Vg_lw V (by omega) (by omega)
          refine bo_t_ rfl (Bo_rel (Lst (thP a.s 9 t t) 1 61) ha (fun _ _ => Lst_u) ?_ ?_)
          · refine okB (P := fun z => Lst (thP a.s 9 t t) 1 61 z.1 ∧ RC a z.2) ?_ (fun z q => okS q)
            unfold X4_greatestWeight
            refine okB (c_down ha hc t0 t1 (i := 9) (by omega) 1 60 hv (by omega) (by omega) (fun s => rfl)) ?_
            rintro (z | z) hz
            · exact okS ⟨Or.inl ⟨rfl, hz.1⟩, hz.2⟩
            · exact okS hz
          · refine okB (f_open ha hm1) ?_
            rintro N ⟨n1, n2⟩
            exact okB (m_heavy0 ha n1 n2 t0 t1 hv) (fun z q => okS ⟨q.1, IM_RM q.2.2 hm1 q.2.1⟩)
        · have hv : ∀ v : Int, ((0 : Nat) : Int) ≤ v → v ≤ ((9 : Nat) : Int) → Vg (lw a.s 10 t v) := fun v v0 v1 => Vg_lw V (by omega) (by omega)
          refine bo_f_ (by decide) (bo_t_ rfl (Bo_rel (Lst (thP a.s 10 t t) 0 10) ha (fun _ _ => Lst_u) ?_ ?_))
          · refine okB (P := fun z => Lst (thP a.s 10 t t) 0 10 z.1 ∧ RC a z.2) ?_ (fun z q => okS q)
            unfold X4_greatestWarmth
            refine okB (c_down ha hc t0 t1 (i := 10) (by omega) 0 9 hv (by omega) (by omega) (fun s => rfl)) ?_
            rintro (z | z) hz
            · exact okS ⟨Or.inl ⟨rfl, hz.1⟩, hz.2⟩
            · exact okS hz
          · refine okB (f_open ha hm1) ?_
            rintro N ⟨n1, n2⟩
            exact okB (m_heavy1 ha n1 n2 t0 t1 hv) (fun z q => okS ⟨q.1, IM_RM q.2.2 hm1 q.2.1⟩)
        · have hv : ∀ v : Int, 1 ≤ v → v < 1 + ((3 : Nat) : Int) → Vg (lw a.s 11 t v) := fun v v0 v1 => Vg_lw V (by omega) (by omega)
          refine bo_f_ (by decide) (bo_f_ (by decide) ⟨a, (bwN (fun v => thrS (lw a.s 11 t v) t) 1 3).1, ha, ?_, ?_⟩)
          · refine okB (P := fun z => z.1 = (bwN (fun v => thrS (lw a.s 11 t v) t) 1 3).1 ∧ RC a z.2) ?_ (fun z q => okS q)
            unfold X4_soonestPace
            exact okB (c_soon ha hc t0 t1 q14 (i := 11) (by omega) 1 3 (by omega) (by omega) hv (step := X4_soonestPace_s1 t) (fun s => rfl)) (fun z q => okS ⟨q.1, q.2.2⟩)
          · refine okB (f_open ha hm1) ?_
            rintro N ⟨n1, n2⟩
            exact okB (m_heavy2 ha n1 n2 t0 t1 hv) (fun z q => okS ⟨q.1, IM_RM q.2.2 hm1 q.2.1⟩)
      · exact bo_tt (by omega) (by omega) (Bo_ref ha hc hm1 q)
    · rw [if_neg hw, if_pos (show (0 : Int) = 0 ∧ (0 : Int) = 0 by omega)]
      rw [grd_t (m_ahead hm1.1 V.1 t (-2)).1, (m_ahead hm1.1 V.1 t (-2)).2]
      have e : ahW a.s t (-2) = -2 := by unfold ahW; rw [if_pos ht, if_pos (by decide)]
      rw [e]
      exact bo_tt (by omega) (by decide) (Bo_ref ha hc hm1 (by decide))
  · generalize (if (0 : Int) = 0 ∧ (if 0 ≤ w ∧ w ≤ 2 then (1 : Int) else 0) = 0 then (-2 : Int) else 0) = x
    rw [grd_t (m_ahead hm1.1 V.1 t x).1, (m_ahead hm1.1 V.1 t x).2]
    have e : ahW a.s t x = -1 := by unfold ahW; rw [if_neg ht]
    rw [e]
    exact bo_tt ((c_noT hc t).mpr ht) (by decide) (Bo_ref ha hc hm1 (by decide))
theorem op_needed : Op2 X4_needed X5_needed := by
  rintro C M ⟨a, ha, hc, hm⟩ y t - -
  have hm1 := RM_14 hm 0
  have V := Vs_g ha.1
  have tv := V.1.1
  refine Bo_op ?_
  unfold X4_needed X5_needed
  simp only [lt]
  rw [m_isY hm1.1 V.1 y, m_isT hm1.1 V.1 t]
  by_cases hyt : (0 ≤ y ∧ y < a.s 0 0) ∧ 0 ≤ t ∧ t < a.s 0 4
  · obtain ⟨⟨y0, y1⟩, t0, t1⟩ := hyt
    rw [if_pos (c := 0 ≤ y ∧ y < a.s 0 0) ⟨y0, y1⟩, if_pos (c := 0 ≤ t ∧ t < a.s 0 4) ⟨t0, t1⟩]
    have hv : ∀ v : Int, 0 ≤ v → v ≤ 99 → Vg (lw a.s 8 y v) := fun v v0 v1 => Vg_lw V (by omega) (by omega)
    have nx : ∀ {k : Nat}, (∀ i, i < k → ¬ thP a.s 8 y t i) → ¬ thP a.s 8 y t k → ∀ i, i < k + 1 → ¬ thP a.s 8 y t i := fun {k} h q i hi => by
      by_cases e : i = k
      · rw [e]; exact q
      · exact h i (by omega)
    refine bo_ff (fun q => ?_) (by omega) (Bo_rel (Fst (thP a.s 8 y t) 100) ha (fun _ _ => Fst_u) ?_ ?_)
    · rcases q with q | q
      · exact (c_noY hc y).mp q ⟨y0, y1⟩
      · exact (c_noT hc t).mp q ⟨t0, t1⟩
    · refine okB (P := SuQ (fun z => (∀ k, k < 100 → ¬ thP a.s 8 y t k) ∧ RC a z.2) (fun z => Fst (thP a.s 8 y t) 100 z.1 ∧ RC a z.2)) ?_ ?_
      · refine okLoop (fun s => ∃ k : Nat, s.1 = (k : Int) ∧ k ≤ 100 ∧ (∀ i, i < k → ¬ thP a.s 8 y t i) ∧ CF C s.2) (fun s => (100 - s.1).toNat) ?_ ⟨0, rfl, by omega, fun i q => by omega, CF_r C⟩
        rintro ⟨k', D⟩ ⟨k, e1, hk, hI, cf⟩
        simp only at e1 cf
        subst e1
        unfold X4_needed_s1
        simp only
        refine okI (fun hle => ?_) (fun hle => okS ⟨by rw [show 100 = k by omega]; exact hI, RC_G ha hc (CF_G cf)⟩)
        refine c_try hc cf V (by omega) (hv k (by omega) (by omega)) t0 t1 ⟨y0, by omega⟩ ?_
        intro z z1 z2 z3
        rw [z1, w32_eq (x := (k : Int) + 1) (by omega) (by omega)]
        exact okI (fun q => okS ⟨Or.inr ⟨k, by omega, rfl, (show thrS (lw a.s 8 y k) t < 99 from if10.mp q), hI⟩, RC_G ha hc (CF_G z2)⟩) (fun q => okS ⟨⟨k + 1, rfl, by omega, nx hI (fun z => q (if10.mpr z)), z2⟩, by show (100 - ((k : Int) + 1)).toNat < (100 - (k : Int)).toNat; omega⟩)
      · rintro (z | z) hz
        · exact okS ⟨Or.inl ⟨rfl, hz.1⟩, hz.2⟩
        · exact okS hz
    · refine okB (f_open ha hm1) ?_
      rintro N ⟨n1, n2⟩
      refine okB (P := SuQ (fun z => (∀ k, k < 100 → ¬ thP a.s 8 y t k) ∧ RM a z.2) (fun z => Fst (thP a.s 8 y t) 100 z.1 ∧ RM a z.2)) ?_ ?_
      · refine okLoop (fun s => ∃ k : Nat, s.1 = (k : Int) ∧ k ≤ 100 ∧ (∀ i, i < k → ¬ thP a.s 8 y t i) ∧ Sm a.s s.2 ∧ IM a (lw M 0 14 0) s.2) (fun s => (100 - s.1).toNat) ?_ ⟨0, rfl, by omega, fun i q => by omega, n1, n2⟩
        rintro ⟨k', P⟩ ⟨k, e1, hk, hI, p1, p2⟩
        simp only at e1 p1 p2
        subst e1
        unfold X5_needed_s1
        simp only
        refine okI (fun hle => okG ⟨y0, by omega⟩ (okL ?_)) (fun hle => okS ⟨by rw [show 100 = k by omega]; exact hI, IM_RM p2 hm1 p1⟩)
        refine okB (f_thr ha (Sm_lw p1 (i := 8) (i' := 4) (j := y) (v := k) (by omega)) (IM_lw p2 (by omega)) (hv k (by omega) (by omega)) t0 (by rw [lw_n (by omega)]; exact t1)) ?_
        rintro ⟨r, Q⟩ ⟨q0, q1, q2⟩
        simp only at q0 q1 q2
        simp only
        rw [q0, w32_eq (x := (k : Int) + 1) (by omega) (by omega)]
        exact okI (fun q => okS ⟨Or.inr ⟨k, by omega, rfl, q, hI⟩, IM_RM q2 hm1 q1⟩) (fun q => okS ⟨⟨k + 1, rfl, by omega, nx hI q, q1, q2⟩, by show (100 - ((k : Int) + 1)).toNat < (100 - (k : Int)).toNat; omega⟩)
      · rintro (z | z) hz
        · exact okS ⟨Or.inl ⟨rfl, hz.1⟩, hz.2⟩
        · exact okS hz
  · refine bo_tt ?_ ?_ (Bo_ref ha hc hm1 (by decide))
    · by_cases hy : 0 ≤ y ∧ y < a.s 0 0
      · exact Or.inr ((c_noT hc t).mpr (fun z => hyt ⟨hy, z⟩))
      · exact Or.inl ((c_noY hc y).mpr hy)
    · by_cases hy : 0 ≤ y ∧ y < a.s 0 0
      · exact Or.inr (if_neg (fun z => hyt ⟨hy, z⟩))
      · exact Or.inl (if_neg hy)
theorem c_noon1 {a : Ab} {C D : GG} (hc : RC a C) (cf : CF C D) (V : Vg a.s) {v : Int} (v0 : 0 ≤ v) (v1 : v ≤ 9) {t : Int} (t0 : 0 ≤ t) (t1 : t < a.s 0 4) : Ok (X4_getsThroughAtNoon D t v) (fun z => z.1 = (if thrS (lw a.s 0 3 v) t < 99 then 1 else 0) ∧ CF C z.2) := by
  have d0 : D 1 0 = C 1 0 := cf 1 0 (by omega)
  unfold X4_getsThroughAtNoon
  rw [d0]
  refine okB (c_become hc.1 V.1) ?_
  intro L hL
  refine okL (okL ?_)
  rw [hw_gs]
  have e4 : lw a.s 0 3 v 0 4 = a.s 0 4 := lw_n (by omega)
  refine okB (c_gets (S := lw a.s 0 3 v) (by rw [gs_at]; exact PL_lw hL (by omega)) (Vg_lw V (by omega) (by omega)) t0 (by rw [e4]; exact t1)) ?_
  rintro z ⟨z1, z2, -, z4⟩
  exact okS ⟨z1, CF_t (CF_t cf (CF_gs D _)) z2⟩
theorem Sm_03 {S L : LT} (h : Sm S L) (n : Int) : Sm (lw S 0 3 n) (lw L 0 6 n) := by
  obtain ⟨⟨e0, e1, e2, e3, e4⟩, ey, et⟩ := h
  refine ⟨⟨?_, ?_, ?_, ?_, ?_⟩, fun y y0 y1 => ?_, fun t t0 t1 => ?_⟩
  · rw [lw_j (by decide), lw_j (by decide)]; exact e0
  · rw [lw_j (by decide), lw_j (by decide)]; exact e1
  · rw [lw_j (by decide), lw_j (by decide)]; exact e2
  · rw [lw_s, lw_s]
  · rw [lw_j (by decide), lw_j (by decide)]; exact e4
  · rw [lw_i (by decide), lw_i (by decide), lw_i (by decide), lw_i (by decide), lw_i (by decide), lw_i (by decide)]
    exact ey y y0 y1
  · rw [lw_j (by decide)] at t1
    simp only [lw_i (show (9 : Nat) ≠ 0 by decide), lw_i (show (10 : Nat) ≠ 0 by decide), lw_i (show (11 : Nat) ≠ 0 by decide), lw_i (show (12 : Nat) ≠ 0 by decide), lw_i (show (13 : Nat) ≠ 0 by decide), lw_i (show (14 : Nat) ≠ 0 by decide)]
    exact et t t0 t1
theorem op_noon : Op1 X4_noon X5_noon := by
  rintro C M ⟨a, ha, hc, hm⟩ t -
  refine Bo_op (ck_t ha hc hm (fun hm1 t0 t1 => ?_))
  have V := Vs_g ha.1
  have tv := V.1.1
  refine Bo_rel (Lst (thP a.s 0 3 t) 0 10) ha (fun _ _ => Lst_u) ?_ ?_
  · refine okB (P := SuQ (fun z => (∀ k, 0 ≤ k → k < 10 → ¬ thP a.s 0 3 t k) ∧ RC a z.2) (fun z => Lst (thP a.s 0 3 t) 0 10 z.1 ∧ RC a z.2)) ?_ ?_
    · refine okLoop (fun s => -1 ≤ s.1 ∧ s.1 ≤ 9 ∧ CF C s.2 ∧ ∀ k : Nat, s.1 < (k : Int) → k < 10 → ¬ thP a.s 0 3 t k) (fun s => (s.1 + 1).toNat) ?_ ⟨by show (-1 : Int) ≤ 9; omega, by show (9 : Int) ≤ 9; omega, CF_r C, fun k q1 q2 => by simp only at q1; omega⟩
      rintro ⟨v, D⟩ ⟨v0, v1, cf, hI⟩
      simp only at v0 v1 cf hI
      unfold X4_noon_s1
      simp only
      refine okI (fun hle => ?_) (fun hle => okS ⟨fun k k0 k1 => hI k (by omega) k1, RC_G ha hc (CF_G cf)⟩)
      obtain ⟨k, rfl⟩ : ∃ k : Nat, v = (k : Int) := ⟨v.toNat, by omega⟩
      refine okB (c_noon1 hc cf V hle v1 t0 t1) ?_
      rintro z ⟨z1, z2⟩
      rw [z1, w32_eq (by omega) (by omega)]
      refine okI (fun q => okS ⟨Or.inr ⟨k, by omega, by omega, rfl, (show thrS (lw a.s 0 3 k) t < 99 from if10.mp q), fun i' h1 h2 => hI i' (by omega) h2⟩, RC_G ha hc (CF_G z2)⟩) (fun q => okS ⟨⟨by simp only; omega, by simp only; omega, z2, fun k' h1 h2 => ?_⟩, by simp only; omega⟩)
      simp only at h1
      by_cases e : k' = k
      · rw [e]; exact fun z => q (if10.mpr z)
      · exact hI k' (by omega) h2
    · rintro (z | z) hz
      · exact okS ⟨Or.inl ⟨rfl, hz.1⟩, hz.2⟩
      · exact okS hz
  · refine okB (f_open ha hm1) ?_
    rintro N ⟨n1, n2⟩
    refine okB (P := fun z => Lst (thP a.s 0 3 t) 0 10 z.1 ∧ Sm a.s z.2.2 ∧ IM a (lw M 0 14 0) z.2.2) ?_ (fun z q => okS ⟨q.1, IM_RM q.2.2 hm1 q.2.1⟩)
    refine okLoop (fun s => ∃ k : Nat, s.2.1 = (k : Int) ∧ k ≤ 10 ∧ Lst (thP a.s 0 3 t) 0 k s.1 ∧ Sm a.s s.2.2 ∧ IM a (lw M 0 14 0) s.2.2) (fun s => (10 - s.2.1).toNat) ?_ ⟨0, rfl, by omega, Or.inl ⟨rfl, fun k h1 h2 => by omega⟩, n1, n2⟩
    rintro ⟨b, k', P⟩ ⟨k, e1, hk, hL, p1, p2⟩
    simp only at e1 hL p1 p2
    subst e1
    unfold X5_noon_s1
    simp only
    rw [w32_eq (x := (k : Int) + 1) (by omega) (by omega)]
    refine okI (fun hle => okL ?_) (fun hle => okS ⟨by rw [show 10 = k by omega]; exact hL, p1, p2⟩)
    have ls := Lst_s hL (Nat.zero_le k)
    have mu : (10 - ((k : Int) + 1)).toNat < (10 - (k : Int)).toNat := by omega
    refine okB (P := fun z => Lst (thP a.s 0 3 t) 0 (k + 1) z.1 ∧ Sm a.s z.2 ∧ IM a (lw M 0 14 0) z.2) (okB (f_thr ha (Sm_03 p1 k) (IM_lw p2 (by omega)) (Vg_lw V (by omega) (by omega)) t0 (by rw [lw_n (by omega)]; exact t1)) ?_) ?_
    · rintro ⟨r, Q⟩ ⟨q0, q1, q2⟩
      simp only at q0 q1 q2
      simp only
      rw [q0]
      exact okI (fun z => okS ⟨ls.1 z, q1, q2⟩) (fun z => okS ⟨ls.2 z, q1, q2⟩)
    · rintro ⟨r, Q⟩ hq
      exact okS ⟨⟨k + 1, rfl, by omega, hq⟩, mu⟩
/-- how many of the first k noons -/
noncomputable def nnN (S : LT) (t : Int) : Nat → Nat
  | 0 => 0
  | k + 1 => nnN S t k + (if thrS (lw S 0 3 k) t < 99 then 1 else 0)
theorem nn_b (S : LT) (t : Int) : ∀ k, nnN S t k ≤ k
  | 0 => Nat.le_refl 0
  | k + 1 => by
    have := nn_b S t k
    unfold nnN
    split <;> omega
theorem jrem_n (x y : Nat) : jrem (x : Int) (y : Int) = ((x % y : Nat) : Int) := by
  rw [jrem_nn (by omega)]
  rfl
theorem c_gcd (n : Nat) : Ok (X4_commonDivisor (n : Int) 10) (fun r => r = (Nat.gcd n 10 : Nat)) := by
  have gd1 : Nat.gcd n 10 ∣ n := Nat.gcd_dvd_left n 10
  have gd2 : Nat.gcd n 10 ∣ 10 := Nat.gcd_dvd_right n 10
  have gp : 0 < Nat.gcd n 10 := Nat.gcd_pos_of_pos_right n (by decide)
  have gl : Nat.gcd n 10 ≤ 10 := Nat.le_of_dvd (by decide) gd2
  unfold X4_commonDivisor
  refine okB (P := SuQ (fun _ : Int => Nat.gcd n 10 = 1) (fun r : Int => r = ((Nat.gcd n 10 : Nat) : Int))) ?_ ?_
  · refine okLoop (fun s => ∃ d : Nat, s = (d : Int) ∧ 1 ≤ d ∧ d ≤ 10 ∧ Nat.gcd n 10 ≤ d) (fun s => s.toNat) ?_ ⟨10, rfl, by omega, by omega, gl⟩
    rintro d' ⟨d, rfl, d0, d1, hg⟩
    unfold X4_commonDivisor_s1
    rw [jrem_n n d, show (10 : Int) = ((10 : Nat) : Int) from rfl, jrem_n 10 d, w32_eq (by omega) (by omega)]
    refine okI (fun h1 => okG (by omega) (okI (fun q => okS ?_) (fun q => okS ⟨⟨d - 1, by omega, by omega, by omega, ?_⟩, by show ((d : Int) + -1).toNat < (d : Int).toNat; omega⟩))) (fun h1 => okS (by show Nat.gcd n 10 = 1; omega))
    · have e : d ∣ Nat.gcd n 10 := Nat.dvd_gcd (Nat.dvd_of_mod_eq_zero (by omega)) (Nat.dvd_of_mod_eq_zero (by omega))
      have := Nat.le_of_dvd gp e
      show (d : Int) = (Nat.gcd n 10 : Nat)
      omega
    · by_cases e : Nat.gcd n 10 = d
      · rw [e] at gd1 gd2
        exact absurd ⟨by rw [Nat.mod_eq_zero_of_dvd gd1]; rfl, by rw [Nat.mod_eq_zero_of_dvd gd2]; rfl⟩ q
      · omega
  · rintro (z | z) hz
    · have hz' : Nat.gcd n 10 = 1 := hz
      exact okS (by rw [hz']; rfl)
    · exact okS hz
theorem m_gcd (n : Nat) : Ok (X5_divisor (n : Int) 10) (fun r => r = (Nat.gcd n 10 : Nat)) := by
  unfold X5_divisor
  refine okB (P := fun z : Int × Int => z.1 = ((Nat.gcd n 10 : Nat) : Int)) ?_ (fun z q => okS q)
  refine okLoop (fun s => ∃ x y : Nat, s.1 = (x : Int) ∧ s.2 = (y : Int) ∧ Nat.gcd x y = Nat.gcd n 10) (fun s => s.2.toNat) ?_ ⟨n, 10, rfl, rfl, rfl⟩
  rintro ⟨x', y'⟩ ⟨x, y, e1, e2, hg⟩
  simp only at e1 e2
  subst e1
  subst e2
  unfold X5_divisor_s1
  simp only
  have er : lrmi (x : Int) (y : Int) = ((x % y : Nat) : Int) := jrem_n x y
  rw [er]
  refine okI (fun q => okG q (okL (okS ⟨⟨y, x % y, rfl, rfl, ?_⟩, ?_⟩))) (fun q => okS ?_)
  · rw [Nat.gcd_comm, ← Nat.gcd_rec, Nat.gcd_comm]; exact hg
  · have := Nat.mod_lt x (show 0 < y by omega)
    show ((x % y : Nat) : Int).toNat < ((y : Nat) : Int).toNat
    omega
  · have e : y = 0 := by omega
    rw [e, Nat.gcd_zero_right] at hg
    show (x : Int) = _
    rw [hg]
theorem tdiv_b (x y : Nat) : 0 ≤ Int.tdiv (x : Int) (y : Int) ∧ Int.tdiv (x : Int) (y : Int) ≤ x := by
  rw [Int.tdiv_eq_ediv_of_nonneg (by omega)]
  exact ⟨Int.ediv_nonneg (by omega) (by omega), Int.ediv_le_self _ (by omega)⟩
theorem ldvi_jdiv (x y : Nat) (h : x ≤ 10) : ldvi (x : Int) (y : Int) = jdiv (x : Int) (y : Int) := by
  have b := tdiv_b x y
  unfold ldvi jdiv
  rw [w64_eq (by omega) (by omega), w32_eq (by omega) (by omega)]
theorem op_noons : Op2 X4_noons X5_noons := by
  rintro C M ⟨a, ha, hc, hm⟩ t w - -
  have hm1 := RM_14 hm 0
  have V := Vs_g ha.1
  have tv := V.1.1
  refine Bo_op ?_
  unfold X4_noons X5_noons
  simp only [lt]
  unfold X5_wrongBit_v
  rw [m_in, m_isT hm1.1 V.1 t]
  have rf : ∀ v : Int, -6 ≤ v → v ≤ -1 → Bo (Option.bind (X4_refuse C v) fun z => some (w64 (4000000000000000000 - z.1), z.2)) (Option.bind (X5_refuse (lw M 0 14 0) v) fun z => some (w64 (4000000000000000000 - z.1), z.2)) := fun v v0 v1 => ⟨aRef a v, w64 (4000000000000000000 - v), OkA_ref ha v, okB (c_refuse hc v0 v1) (fun z q => okS ⟨by simp only; rw [q.1], q.2⟩), okB (m_refuse hm1 v0 v1) (fun z q => okS ⟨by simp only; rw [q.1], q.2⟩)⟩
  by_cases ht : 0 ≤ t ∧ t < a.s 0 4
  · obtain ⟨t0, t1⟩ := ht
    rw [if_pos (c := 0 ≤ t ∧ t < a.s 0 4) ⟨t0, t1⟩, if_pos (show ¬ (1 : Int) = 0 by decide)]
    refine bo_f_ (fun q => (c_noT hc t).mp q ⟨t0, t1⟩) ?_
    by_cases hw : w = 0 ∨ w = 1
    · rw [if_pos (show 0 ≤ w ∧ w ≤ 1 by omega), if_neg (show ¬ ((0 : Int) = 0 ∧ (1 : Int) = 0) by omega)]
      have nb := nn_b a.s t 10
      have gp : 0 < Nat.gcd (nnN a.s t 10) 10 := Nat.gcd_pos_of_pos_right _ (by decide)
      refine bo_ff (fun z => (c_nei w).mp z hw) (by decide) ⟨a, if w = 0 then jdiv ((nnN a.s t 10 : Nat) : Int) (Nat.gcd (nnN a.s t 10) 10 : Nat) else jdiv 10 (Nat.gcd (nnN a.s t 10) 10 : Nat), ha, ?_, ?_⟩
      · refine okB (P := fun z => z.1 = ((nnN a.s t 10 : Nat) : Int) ∧ z.2.1 = 10 ∧ RC a z.2.2.2) ?_ ?_
        · refine okLoop (fun s => ∃ k : Nat, s.2.2.1 = (k : Int) ∧ k ≤ 10 ∧ s.1 = ((nnN a.s t k : Nat) : Int) ∧ s.2.1 = (k : Int) ∧ CF C s.2.2.2) (fun s => (10 - s.2.2.1).toNat) ?_ ⟨0, rfl, by omega, rfl, rfl, CF_r C⟩
          rintro ⟨b, l, k', D⟩ ⟨k, e1, hk, e2, e3, cf⟩
          simp only at e1 e2 e3 cf
          subst e1
          subst e2
          subst e3
          have kb := nn_b a.s t k
          unfold X4_noons_s1
          simp only
          rw [w32_eq (x := (k : Int) + 1) (by omega) (by omega), w32_eq (x := ((nnN a.s t k : Nat) : Int) + 1) (by omega) (by omega)]
          refine okI (fun hle => okB (c_noon1 hc cf V (v := k) (by omega) hle t0 t1) ?_) (fun hle => okS (by rw [show k = 10 by omega]; exact ⟨rfl, rfl, RC_G ha hc (CF_G cf)⟩))
          rintro z ⟨z1, z2⟩
          rw [z1]
          have en : nnN a.s t (k + 1) = nnN a.s t k + (if thrS (lw a.s 0 3 k) t < 99 then 1 else 0) := rfl
          have mu : (10 - ((k : Int) + 1)).toNat < (10 - (k : Int)).toNat := by omega
          refine okI (fun q => okS ⟨⟨k + 1, rfl, by omega, ?_, rfl, z2⟩, mu⟩) (fun q => okS ⟨⟨k + 1, rfl, by omega, ?_, rfl, z2⟩, mu⟩)
          · rw [en, if_pos (if10.mp q)]; rfl
          · rw [en, if_neg (fun z => q (if10.mpr z))]; rfl
        · rintro ⟨b, l, k, D⟩ ⟨e1, e2, e3⟩
          simp only at e1 e2 e3
          subst e1
          subst e2
          refine okB (c_gcd (nnN a.s t 10)) ?_
          rintro r rfl
          exact okG (fun _ => by omega) (okG (fun _ => by omega) (okS ⟨rfl, e3⟩))
      · refine okB (f_open ha hm1) ?_
        rintro N ⟨n1, n2⟩
        refine okB (P := fun z => z.1 = ((nnN a.s t 10 : Nat) : Int) ∧ Sm a.s z.2.2 ∧ IM a (lw M 0 14 0) z.2.2) ?_ ?_
        · refine okLoop (fun s => ∃ k : Nat, s.2.1 = (k : Int) ∧ k ≤ 10 ∧ s.1 = ((nnN a.s t k : Nat) : Int) ∧ Sm a.s s.2.2 ∧ IM a (lw M 0 14 0) s.2.2) (fun s => (10 - s.2.1).toNat) ?_ ⟨0, rfl, by omega, rfl, n1, n2⟩
          rintro ⟨b, k', P⟩ ⟨k, e1, hk, e2, p1, p2⟩
          simp only at e1 e2 p1 p2
          subst e1
          subst e2
          have kb := nn_b a.s t k
          unfold X5_noons_s1
          simp only
          rw [w32_eq (x := (k : Int) + 1) (by omega) (by omega)]
          refine okI (fun hle => okL ?_) (fun hle => okS (by rw [show 10 = k by omega]; exact ⟨rfl, p1, p2⟩))
          have mu : (10 - ((k : Int) + 1)).toNat < (10 - (k : Int)).toNat := by omega
          refine okB (P := fun z => z.1 = (if thrS (lw a.s 0 3 k) t < 99 then 1 else 0) ∧ Sm a.s z.2 ∧ IM a (lw M 0 14 0) z.2) (okB (f_thr ha (Sm_03 p1 k) (IM_lw p2 (by omega)) (Vg_lw V (by omega) (by omega)) t0 (by rw [lw_n (by omega)]; exact t1)) ?_) ?_
          · rintro ⟨r, Q⟩ ⟨q0, q1, q2⟩
            simp only at q0 q1 q2
            simp only
            rw [q0]
            exact okI (fun z => okS ⟨by rw [if_pos z], q1, q2⟩) (fun z => okS ⟨by rw [if_neg z], q1, q2⟩)
          · rintro ⟨r, Q⟩ ⟨q0, q1, q2⟩
            simp only at q0 q1 q2
            subst q0
            refine okL (okS ⟨⟨k + 1, rfl, by omega, ?_, q1, q2⟩, mu⟩)
            have en : nnN a.s t (k + 1) = nnN a.s t k + (if thrS (lw a.s 0 3 k) t < 99 then 1 else 0) := rfl
            simp only
            rw [en]
            by_cases z : thrS (lw a.s 0 3 k) t < 99
            · rw [if_pos z, if_pos z, w64_eq (by omega) (by omega)]; rfl
            · rw [if_neg z, if_neg z, w64_eq (by omega) (by omega)]; rfl
        · rintro ⟨b, k, P⟩ ⟨e1, p1, p2⟩
          simp only at e1 p1 p2
          subst e1
          simp only
          have rm := IM_RM p2 hm1 p1
          refine okI (fun q => okS ⟨?_, rm⟩) (fun q => okB (m_gcd (nnN a.s t 10)) ?_)
          · have e0 : nnN a.s t 10 = 0 := by omega
            simp only
            rw [e0]
            rcases hw with e | e
            · rw [e]; decide
            · rw [e]; decide
          · rintro r rfl
            refine okG (fun _ => by omega) (okG (fun _ => by omega) (okS ⟨?_, rm⟩))
            simp only
            rw [ldvi_jdiv _ _ nb, show (10 : Int) = ((10 : Nat) : Int) from rfl, ldvi_jdiv 10 _ (by omega)]
    · rw [if_neg (show ¬ (0 ≤ w ∧ w ≤ 1) by omega), if_pos (show (0 : Int) = 0 ∧ (0 : Int) = 0 by omega)]
      exact bo_tt ((c_nei w).mpr hw) (by decide) (rf (-2) (by decide) (by decide))
  · rw [if_neg ht, if_neg (show ¬ ¬ (0 : Int) = 0 by decide)]
    exact bo_tt ((c_noT hc t).mpr ht) (by decide) (rf (-1) (by decide) (by decide))
