/-! strongest, thin, judge -/
def prS (S : LT) (y : Int) : LT := lw S 8 y (imin 99 (S 8 y + 10))
theorem pr_v {S : LT} (V : Val S) {y : Int} (y0 : 0 ≤ y) (y1 : y < 16) : 0 ≤ imin 99 (S 8 y + 10) ∧ imin 99 (S 8 y + 10) ≤ 99 := by
  have := V.2.1 y y0 y1
  unfold imin
  split <;> omega
theorem Val_pr {S : LT} (V : Val S) {y : Int} (y0 : 0 ≤ y) (y1 : y < 16) : Val (prS S y) := Val_lw V (by have := pr_v V y0 y1; omega)
theorem Vg_pr {S : LT} (V : Vg S) {y : Int} (y0 : 0 ≤ y) (y1 : y < 16) : Vg (prS S y) := Vg_lw V (by omega) (by have := pr_v V.1 y0 y1; omega)
theorem c_pour {S L : LT} (h : Sc S L) (V : Val S) {y : Int} (y0 : 0 ≤ y) (y1 : y < 16) : Ok (X2_pour L y) (fun L' => L' = lw L 8 y (imin 99 (S 8 y + 10))) := by
  have := V.2.1 y y0 y1
  unfold X2_pour
  rw [(h.2.1 y y0 y1).2.2, w32_eq (by omega) (by omega)]
  exact okG ⟨y0, y1⟩ (okL (okS rfl))
theorem m_pour {S M : LT} (h : Sm S M) (V : Val S) {y : Int} (y0 : 0 ≤ y) (y1 : y < 16) : Ok (X5_pour M y) (fun M' => M' = lw M 4 y (imin 99 (S 8 y + 10))) := by
  have vy := V.2.1 y y0 y1
  have pv := pr_v V y0 y1
  unfold X5_pour
  rw [(h.2.1 y y0 y1).2.2, w32_eq (by omega) (by omega), held_v]
  have e : imax 0 (imin 99 (S 8 y + 10)) = imin 99 (S 8 y + 10) := by
    generalize imin 99 (S 8 y + 10) = q at pv
    unfold imax
    split <;> omega
  rw [e]
  exact okG ⟨y0, y1⟩ (okL (okS rfl))
def pkN (S : LT) : Nat → LT
  | 0 => S
  | k + 1 => prS (pkN S k) (wkS (pkN S k))
theorem Val_pk {S : LT} (V : Val S) : ∀ k, Val (pkN S k)
  | 0 => V
  | k + 1 => by
    have ih := Val_pk V k
    have := wkS_b ih
    have hv := ih.1
    exact Val_pr ih this.1 (by omega)
theorem op_strongest : Op1 X4_strongest X5_strongest := by
  rintro C M ⟨a, ha, hc, hm⟩ w -
  refine Bo_op (ck_v ha hc hm (fun hm1 w0 w1 => ?_))
  have V := ha.1.1
  refine Bo_rel (Fst (fun k => alS (pkN a.s k) w) 21) ha (fun _ _ => Fst_u) ?_ ?_
  · refine okB (c_mind hc.1 V) ?_
    intro L hL
    refine okL ?_
    refine okB (P := fun o => match o with
      | .inl z => (∀ k, k < 21 → ¬ alS (pkN a.s k) w) ∧ CF C z.2
      | .inr z => Fst (fun k => alS (pkN a.s k) w) 21 z.1 ∧ RC a z.2) ?_ ?_
    · refine okLoop (fun s => ∃ k : Nat, s.1 = (k : Int) ∧ k ≤ 21 ∧ (∀ i, i < k → ¬ alS (pkN a.s i) w) ∧ Sc (pkN a.s k) (s.2 1 1) ∧ CF C s.2) (fun s => (21 - s.1).toNat) ?_ ⟨0, rfl, by omega, fun i q => by omega, by simp only [gs_at]; exact hL.1, CF_gs C L⟩
      rintro ⟨k', D⟩ ⟨k, e1, hk, hI, hD, cf⟩
      simp only at e1 hD cf
      subst e1
      unfold X4_strongest_s1
      simp only
      rw [w32_eq (x := (k : Int) + 1) (by omega) (by omega)]
      have VK := Val_pk V k
      have wb := wkS_b VK
      have hv := VK.1
      refine okI (fun hle => okB (c_all hD VK w) ?_) (fun hle => okS ⟨by rw [show 21 = k by omega]; exact hI, cf⟩)
      intro r hr
      refine okI (fun q => okS ⟨Or.inr ⟨k, by omega, rfl, hr.mp q, hI⟩, RC_G ha hc (CF_G cf)⟩) (fun q => okB (c_weakest hD VK) ?_)
      rintro r' rfl
      refine okB (c_pour hD VK wb.1 (by omega)) ?_
      rintro L3 rfl
      refine okL (okS ⟨⟨k + 1, rfl, by omega, fun i hi => ?_, by simp only [gs_at]; exact Sc_lw hD (by omega), CF_t cf (CF_gs D _)⟩, by show (21 - ((k : Int) + 1)).toNat < (21 - (k : Int)).toNat; omega⟩)
      by_cases e : i = k
      · rw [e]; exact fun z => q (hr.mpr z)
      · exact hI i (by omega)
    · rintro (z | z) hz
      · exact okS ⟨Or.inl ⟨rfl, hz.1⟩, RC_G ha hc (CF_G hz.2)⟩
      · exact okS hz
  · refine okB (f_open ha hm1) ?_
    rintro N ⟨n1, n2⟩
    refine okB (P := fun z => ∃ k : Nat, z.1 = (k : Int) ∧ k ≤ 20 ∧ (∀ i, i < k → ¬ alS (pkN a.s i) w) ∧ Sm (pkN a.s k) z.2 ∧ IM a (lw M 0 14 0) z.2 ∧ (k = 20 ∨ alS (pkN a.s k) w)) ?_ ?_
    · refine okLoop (fun s => ∃ k : Nat, s.1 = (k : Int) ∧ k ≤ 20 ∧ (∀ i, i < k → ¬ alS (pkN a.s i) w) ∧ Sm (pkN a.s k) s.2 ∧ IM a (lw M 0 14 0) s.2) (fun s => (20 - s.1).toNat) ?_ ⟨0, rfl, by omega, fun i q => by omega, (show Sm (pkN a.s 0) N from n1), n2⟩
      rintro ⟨k', P⟩ ⟨k, e1, hk, hI, p1, p2⟩
      simp only at e1 p1 p2
      subst e1
      unfold X5_strongest_s1
      simp only
      rw [w32_eq (x := (k : Int) + 1) (by omega) (by omega)]
      have VK := Val_pk V k
      have wb := wkS_b VK
      have hv := VK.1
      refine okI (fun hlt => okB (m_allB p1 VK w) ?_) (fun hlt => okS ⟨k, rfl, hk, hI, p1, p2, Or.inl (by omega)⟩)
      intro r hr
      refine okI (fun q => okS ⟨k, rfl, hk, hI, p1, p2, Or.inr (hr.mp q)⟩) (fun q => okB (m_weakestYard p1 VK) ?_)
      rintro r' rfl
      refine okB (m_pour p1 VK wb.1 (by omega)) ?_
      rintro L3 rfl
      refine okS ⟨⟨k + 1, rfl, by omega, fun i hi => ?_, Sm_lw p1 (by omega), IM_lw p2 (by omega)⟩, by show (20 - ((k : Int) + 1)).toNat < (20 - (k : Int)).toNat; omega⟩
      by_cases e : i = k
      · rw [e]; exact fun z => q (hr.mpr z)
      · exact hI i (by omega)
    · rintro ⟨k', P⟩ ⟨k, e1, hk, hI, p1, p2, hor⟩
      simp only at e1 p1 p2
      subst e1
      refine okB (m_allB p1 (Val_pk V k) w) ?_
      intro r hr
      refine okB (f_close ha p2) ?_
      rintro Q ⟨q1, q2, -⟩
      refine okS ⟨?_, IM_RM q2 hm1 q1⟩
      simp only
      by_cases q : r = 0
      · rw [if_neg (fun z => z q)]
        have nk : ¬ alS (pkN a.s k) w := fun z => hr.mpr z q
        have e : k = 20 := by
          rcases hor with z | z
          · exact z
          · exact absurd z nk
        refine Or.inl ⟨rfl, fun i hi => ?_⟩
        by_cases ei : i = k
        · rw [ei]; exact nk
        · exact hI i (by omega)
      · rw [if_pos q]
        exact Or.inr ⟨k, by omega, rfl, hr.mp q, hI⟩
theorem op_thin : Op2 X4_thin X5_thin := by
  rintro C M ⟨a, ha, hc, hm⟩ n w - -
  have hm1 := RM_14 hm 0
  have V := Vs_g ha.1
  have hv := V.1.1
  refine Bo_op ?_
  unfold X4_thin X5_thin
  simp only [lt]
  by_cases h1 : n < 0 ∨ w < 1
  · rw [if_pos (c := n < 0 ∨ w < 1) (t := (-4 : Int)) h1]
    exact bo_tt h1 (by decide) (Bo_ref ha hc hm1 (by decide))
  · rw [if_neg (c := n < 0 ∨ w < 1) (t := (-4 : Int)) h1]
    refine bo_f_ h1 ?_
    by_cases h2 : 72 < n ∨ 60 < w
    · rw [if_pos (c := 72 < n ∨ 60 < w) (t := (-6 : Int)) h2]
      exact bo_tt h2 (by decide) (Bo_ref ha hc hm1 (by decide))
    · rw [if_neg (c := 72 < n ∨ 60 < w) (t := (-6 : Int)) h2]
      have VG := Val_go V.1 n.toNat
      have c0 : goS n.toNat a.s 0 0 = a.s 0 0 := go_0 _ (by decide) _
      refine bo_ff h2 (by decide) (Bo_rel (Fst (fun k => ¬ brS (goS n.toNat a.s) w k) (a.s 0 0).toNat) ha (fun _ _ => Fst_u) ?_ ?_)
      · refine okB (c_goInMind hc.1 V (by omega) (by omega)) ?_
        rintro C' ⟨cf, cl⟩
        refine okB (P := fun o => match o with
          | .inl _ => ∀ k : Nat, k < (a.s 0 0).toNat → ¬ ¬ brS (goS n.toNat a.s) w k
          | .inr z => Fst (fun k => ¬ brS (goS n.toNat a.s) w k) (a.s 0 0).toNat z.1 ∧ RC a z.2) ?_ ?_
        · refine okLoop (fun s => ∃ k : Nat, s = (k : Int) ∧ (k : Int) ≤ a.s 0 0 ∧ ∀ i : Nat, i < k → ¬ ¬ brS (goS n.toNat a.s) w i) (fun s => (a.s 0 0 - s).toNat) ?_ ⟨0, rfl, by omega, fun i q => by omega⟩
          rintro k' ⟨k, rfl, hk, hI⟩
          unfold X4_thin_s1
          rw [cl.1.1.1.1, c0, w32_eq (x := (k : Int) + 1) (by omega) (by omega)]
          refine okI (fun hlt => okG ⟨by omega, by omega⟩ (okI (fun q => okS ⟨Or.inr ⟨k, by omega, rfl, (c_br cl.1.1 (by omega) (by omega)).mp q, hI⟩, RC_G ha hc (CF_G cf)⟩) (fun q => okS ⟨⟨k + 1, rfl, by omega, fun i hi => ?_⟩, by show (a.s 0 0 - ((k : Int) + 1)).toNat < (a.s 0 0 - (k : Int)).toNat; omega⟩))) (fun hlt => okS (by rw [show (a.s 0 0).toNat = k by omega]; exact hI))
          by_cases e : i = k
          · rw [e]; exact fun z => q ((c_br cl.1.1 (by omega) (by omega)).mpr z)
          · exact hI i (by omega)
        · rintro (z | z) hz
          · exact okS ⟨Or.inl ⟨rfl, hz⟩, RC_G ha hc (CF_G cf)⟩
          · exact okS hz
      · refine okB (f_open ha hm1) ?_
        rintro N ⟨n1, n2⟩
        refine okB (f_hours n1 n2 V (by omega) (by omega)) ?_
        rintro P ⟨p1, p2, -⟩
        rw [p1.1.1, c0, w32_eq (x := a.s 0 0 - 1) (by omega) (by omega)]
        refine okB (P := fun z => Fst (fun k => ¬ brS (goS n.toNat a.s) w k) (a.s 0 0).toNat z.1) ?_ ?_
        · refine okLoop (fun s => -1 ≤ s.2 ∧ s.2 < a.s 0 0 ∧ ((s.1 = -9 ∧ ∀ k : Nat, s.2 < (k : Int) → (k : Int) < a.s 0 0 → ¬ ¬ brS (goS n.toNat a.s) w k) ∨ ∃ k : Nat, s.1 = (k : Int) ∧ s.2 < (k : Int) ∧ (k : Int) < a.s 0 0 ∧ ¬ brS (goS n.toNat a.s) w k ∧ ∀ i : Nat, s.2 < (i : Int) → i < k → ¬ ¬ brS (goS n.toNat a.s) w i)) (fun s => (s.2 + 1).toNat) ?_ ⟨by show -1 ≤ a.s 0 0 - 1; omega, by show a.s 0 0 - 1 < a.s 0 0; omega, Or.inl ⟨rfl, fun k q1 q2 => by simp only at q1; omega⟩⟩
          rintro ⟨r, y⟩ ⟨y0, y1, hI⟩
          simp only at y0 y1 hI
          unfold X5_thin_s1
          simp only
          rw [w32_eq (x := y + (-1)) (by omega) (by omega)]
          refine okI (fun hle => okG ⟨⟨hle, by omega⟩, ⟨hle, by omega⟩⟩ (okL (okS ⟨⟨by simp only; omega, by simp only; omega, ?_⟩, by show (y + -1 + 1).toNat < (y + 1).toNat; omega⟩))) (fun hle => okS ?_)
          · simp only
            have mb := m_br p1 (w := w) hle (show y < 16 by omega)
            by_cases q : X5_bears_v P y w = 0
            · rw [if_neg (fun z => z q)]
              refine Or.inr ⟨y.toNat, by omega, by omega, by omega, ?_, fun i q1 q2 => by omega⟩
              rw [show ((y.toNat : Nat) : Int) = y by omega]
              exact mb.mp q
            · rw [if_pos q]
              have by' : ¬ ¬ brS (goS n.toNat a.s) w y := fun z => q (mb.mpr z)
              rcases hI with ⟨e, hI⟩ | ⟨k, e, k1, k2, k3, k4⟩
              · refine Or.inl ⟨e, fun k q1 q2 => ?_⟩
                by_cases ek : (k : Int) = y
                · rw [ek]; exact by'
                · exact hI k (by omega) q2
              · refine Or.inr ⟨k, e, by omega, k2, k3, fun i q1 q2 => ?_⟩
                by_cases ek : (i : Int) = y
                · rw [ek]; exact by'
                · exact k4 i (by omega) q2
          · have ey : y = -1 := by omega
            subst ey
            rcases hI with ⟨e, hI⟩ | ⟨k, e, k1, k2, k3, k4⟩
            · exact Or.inl ⟨e, fun k q => hI k (by omega) (by omega)⟩
            · exact Or.inr ⟨k, by omega, e, k3, fun i q => k4 i (by omega) q⟩
        · rintro ⟨r, y⟩ hF
          refine okB (f_close ha p2) ?_
          rintro Q ⟨q1, q2, -⟩
          exact okS ⟨hF, IM_RM q2 hm1 q1⟩
