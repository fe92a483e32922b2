/-! day, thin, judge, lasts, thaw, strongest -/
theorem Val_0 {S : LT} (V : Val S) : Val (lw S 0 4 0) := by
  have hv := V.1
  refine ⟨⟨?_, ?_, ?_, ?_, ?_, ?_, ?_, ?_⟩, fun y y0 y1 => ?_, fun t t0 t1 => ?_⟩
  · rw [lw_j (by decide)]; omega
  · rw [lw_j (by decide)]; omega
  · rw [lw_j (by decide)]; omega
  · rw [lw_j (by decide)]; omega
  · rw [lw_j (by decide)]; omega
  · rw [lw_j (by decide)]; omega
  · rw [lw_s]; omega
  · rw [lw_s]; omega
  · rw [lw_i (by decide), lw_i (by decide), lw_i (by decide)]
    exact V.2.1 y y0 y1
  · rw [lw_s] at t1; omega
theorem Sc_0 {S L : LT} (h : Sc S L) : Sc (lw S 0 4 0) (lw L 0 4 0) := by
  obtain ⟨⟨e0, e1, e2, e3, e4⟩, ey, et⟩ := h
  refine ⟨⟨?_, ?_, ?_, ?_, ?_⟩, fun y y0 y1 => ?_, fun t t0 t1 => ?_⟩
  · rw [lw_j (by decide), lw_j (by decide)]; exact e0
  · rw [lw_j (by decide), lw_j (by decide)]; exact e1
  · rw [lw_j (by decide), lw_j (by decide)]; exact e2
  · rw [lw_j (by decide), lw_j (by decide)]; exact e3
  · rw [lw_s, lw_s]
  · rw [lw_i (by decide), lw_i (by decide), lw_i (by decide), lw_i (by decide), lw_i (by decide), lw_i (by decide)]
    exact ey y y0 y1
  · rw [lw_s] at t1; omega
theorem Sm_0 {S L : LT} (h : Sm S L) : Sm (lw S 0 4 0) (lw L 0 7 0) := by
  obtain ⟨⟨e0, e1, e2, e3, e4⟩, ey, et⟩ := h
  refine ⟨⟨?_, ?_, ?_, ?_, ?_⟩, fun y y0 y1 => ?_, fun t t0 t1 => ?_⟩
  · rw [lw_j (by decide), lw_j (by decide)]; exact e0
  · rw [lw_j (by decide), lw_j (by decide)]; exact e1
  · rw [lw_j (by decide), lw_j (by decide)]; exact e2
  · rw [lw_j (by decide), lw_j (by decide)]; exact e3
  · rw [lw_s, lw_s]
  · rw [lw_i (by decide), lw_i (by decide), lw_i (by decide), lw_i (by decide), lw_i (by decide), lw_i (by decide)]
    exact ey y y0 y1
  · rw [lw_s] at t1; omega
theorem op_day : Op0 X4_day X5_day := by
  rintro C M ⟨a, ha, hc, hm⟩
  have hm1 := RM_14 hm 0
  have V := Vs_g ha.1
  have V0 : Vg (lw a.s 0 4 0) := ⟨Val_0 V.1, by rw [lw_j (by decide)]; exact V.2.1, by rw [lw_j (by decide)]; exact V.2.2⟩
  have VG := Val_go V0.1 24
  refine Bo_op ⟨a, w32 (fsS (goS 24 (lw a.s 0 4 0)) - fsS a.s), ha, ?_, ?_⟩
  · unfold X4_day
    refine okB (c_mind hc.1 V.1) ?_
    intro L hL
    refine okL (okL ?_)
    simp only [hw_gs, gs_at]
    have h0 : PL (lw a.s 0 4 0) 0 True (lw L 0 4 0) := by
      refine ⟨Sc_0 hL.1, fun _ => ⟨by rw [lw_j (by decide)]; exact (hL.2 trivial).1, fun j j0 j1 => ?_⟩⟩
      rw [lw_s] at j1
      omega
    refine okB (c_go h0 V0.1 V0.2.1 V0.2.2 (n := 24) (by omega) (by omega)) ?_
    intro L2 h2
    refine okL ?_
    simp only [gs_gs, gs_at]
    refine okB (c_allFrost h2.1.1 VG) ?_
    rintro r rfl
    have e10 : gs C 1 1 L2 1 0 = C 1 0 := gs_ne (by omega)
    rw [e10]
    refine okB (c_allFrost hc.1 V.1) ?_
    rintro r rfl
    exact okS ⟨rfl, RC_G ha hc (CF_G (CF_gs C L2))⟩
  · unfold X5_day
    refine okL (okB (f_open ha hm1) ?_)
    rintro N ⟨n1, n2⟩
    refine okB (m_allFrost n1 V.1) ?_
    rintro r rfl
    refine okL (okB (f_hours (Sm_0 n1) (IM_lw n2 (by omega)) V0 (n := 24) (by omega) (by omega)) ?_)
    rintro P ⟨p1, p2, -⟩
    refine okB (m_allFrost p1 VG) ?_
    rintro r rfl
    refine okB (f_close ha p2) ?_
    rintro Q ⟨q1, q2, -⟩
    exact okS ⟨rfl, IM_RM q2 hm1 q1⟩
/-- the first of 0..n that p holds for, else -9 -/
def Fst (p : Nat → Prop) (n : Nat) (r : Int) : Prop := (r = -9 ∧ ∀ k, k < n → ¬ p k) ∨ ∃ k : Nat, k < n ∧ r = (k : Int) ∧ p k ∧ ∀ i, i < k → ¬ p i
theorem Fst_u {p : Nat → Prop} {n : Nat} {r r' : Int} (h : Fst p n r) (h' : Fst p n r') : r = r' := by
  rcases h with ⟨e, h⟩ | ⟨k, k1, e, k2, k3⟩ <;> rcases h' with ⟨e', h'⟩ | ⟨k', l1, e', l2, l3⟩
  · rw [e, e']
  · exact absurd l2 (h k' l1)
  · exact absurd k2 (h' k k1)
  · have : k = k' := by
      by_cases q : k < k'
      · exact absurd k2 (l3 k q)
      · by_cases q2 : k' < k
        · exact absurd l2 (k3 k' q2)
        · omega
    rw [e, e', this]
def brS (S : LT) (w : Int) (y : Int) : Prop := wantS S y w ≤ S 8 y
theorem c_br {S L : LT} (h : Sc S L) {y w : Int} (y0 : 0 ≤ y) (y1 : y < 16) : X2_bears_v L y w = 0 ↔ ¬ brS S w y := by
  obtain ⟨a, b, c⟩ := h.2.1 y y0 y1
  unfold X2_bears_v brS wantS
  rw [a, b, c]
  split <;> omega
theorem m_br {S M : LT} (h : Sm S M) {y w : Int} (y0 : 0 ≤ y) (y1 : y < 16) : X5_bears_v M y w = 0 ↔ ¬ brS S w y := by
  obtain ⟨a, b, c⟩ := h.2.1 y y0 y1
  unfold X5_bears_v brS wantS
  rw [x5_wants, a, b, c]
  split <;> omega
theorem op_lasts : Op2 X4_lasts X5_lasts := by
  rintro C M ⟨a, ha, hc, hm⟩ y w - -
  refine Bo_op (ck_yv ha hc hm (fun hm1 y0 y1 w0 w1 => ?_))
  have V := Vs_g ha.1
  have hv := V.1.1
  have g16 : gd y 16 := ⟨y0, by omega⟩
  refine Bo_rel (Fst (fun k => ¬ brS (goS k a.s) w y) 73) ha (fun _ _ => Fst_u) ?_ ?_
  · refine okB (c_mind hc.1 V.1) ?_
    intro L hL
    refine okL ?_
    simp only [gs_at]
    refine okB (c_feelP hL V.1) ?_
    intro L2 hL2
    refine okL ?_
    simp only [gs_gs]
    refine okB (P := fun o => match o with
      | .inl z => (∀ k, k < 73 → ¬ ¬ brS (goS k a.s) w y) ∧ CF C z.2
      | .inr z => Fst (fun k => ¬ brS (goS k a.s) w y) 73 z.1 ∧ RC a z.2) ?_ ?_
    · refine okLoop (fun s => ∃ k : Nat, s.1 = (k : Int) ∧ k ≤ 73 ∧ (∀ i, i < k → ¬ ¬ brS (goS i a.s) w y) ∧ CL a.s k True (s.2 1 1) ∧ CF C s.2) (fun s => (73 - s.1).toNat) ?_ ⟨0, rfl, by omega, fun i q => by omega, by simp only [gs_at]; exact hL2, CF_gs C L2⟩
      rintro ⟨k', D⟩ ⟨k, e1, hk, hI, hD, cf⟩
      simp only at e1 hD cf
      subst e1
      unfold X4_lasts_s1
      simp only
      rw [w32_eq (x := (k : Int) + 1) (by omega) (by omega)]
      refine okI (fun hle => okG g16 (okI (fun q => okS ?_) (fun q => okB (c_step hD V.1 V.2.1 V.2.2 (by omega)) ?_))) (fun hle => okS ⟨by rw [show 73 = k by omega]; exact hI, cf⟩)
      · exact ⟨Or.inr ⟨k, by omega, rfl, (c_br hD.1.1 y0 (by omega)).mp q, hI⟩, RC_G ha hc (CF_G cf)⟩
      · intro L3 h3
        refine okL (okS ⟨⟨k + 1, rfl, by omega, fun i hi => ?_, by simp only [gs_at]; exact h3, CF_t cf (CF_gs D L3)⟩, by show (73 - ((k : Int) + 1)).toNat < (73 - (k : Int)).toNat; omega⟩)
        by_cases e : i = k
        · rw [e]; exact fun z => q ((c_br hD.1.1 y0 (by omega)).mpr z)
        · exact hI i (by omega)
    · rintro (z | z) hz
      · exact okS ⟨Or.inl ⟨rfl, hz.1⟩, RC_G ha hc (CF_G hz.2)⟩
      · exact okS hz
  · refine okB (f_open ha hm1) ?_
    rintro N ⟨n1, n2⟩
    refine okB (P := fun z => Fst (fun k => ¬ brS (goS k a.s) w y) 73 z.1 ∧ IM a (lw M 0 14 0) z.2.2) ?_ ?_
    · refine okLoop (fun s => ∃ k : Nat, s.2.1 = (k : Int) ∧ k ≤ 73 ∧ IM a (lw M 0 14 0) s.2.2 ∧ Sm (goS (k - 1) a.s) s.2.2 ∧ ((s.1 = -9 ∧ ∀ i, i < k → ¬ ¬ brS (goS i a.s) w y) ∨ (0 ≤ s.1 ∧ Fst (fun k => ¬ brS (goS k a.s) w y) 73 s.1))) (fun s => (73 - s.2.1).toNat) ?_ ⟨0, rfl, by omega, n2, (show Sm (goS (0 - 1) a.s) N from n1), Or.inl ⟨rfl, fun i q => by omega⟩⟩
      rintro ⟨r, k', P⟩ ⟨k, e1, hk, p2, p1, hI⟩
      simp only at e1 p2 p1 hI
      subst e1
      unfold X5_lasts_s1
      simp only
      rw [w32_eq (x := (k : Int) + 1) (by omega) (by omega)]
      refine okI (fun hle => ?_) (fun hle => okS ?_)
      · obtain ⟨hle, hr⟩ := hle
        have hI' : ∀ i, i < k → ¬ ¬ brS (goS i a.s) w y := by
          rcases hI with q | q
          · exact q.2
          · omega
        refine okB (P := fun z => IM a (lw M 0 14 0) z ∧ Sm (goS k a.s) z) (okI (fun q => ?_) (fun q => okS ⟨p2, by rw [show k - 1 = k by omega] at p1; exact p1⟩)) ?_
        · have ch := go_h a.s (k - 1)
          refine okB (m_hour p1 (Val_go V.1 _) (by have := V.2.1; omega) (by have := V.2.2; omega)) ?_
          rintro Q ⟨q1, q2, -⟩
          have e : goS k a.s = hrS (goS (k - 1) a.s) := by
            obtain ⟨j, rfl⟩ : ∃ j, k = j + 1 := ⟨k - 1, by omega⟩
            rfl
          refine okS ⟨⟨?_, MF_t p2.2 (MG_F (MK_G q2))⟩, by rw [e]; exact q1⟩
          rw [show Q 27 = P 27 from funext (fun j => q2 27 j (by omega) (by omega))]
          exact p2.1
        · rintro Q ⟨q2, q1⟩
          refine okG ⟨g16, g16⟩ (okL (okS ⟨⟨k + 1, rfl, by omega, q2, q1, ?_⟩, by show (73 - ((k : Int) + 1)).toNat < (73 - (k : Int)).toNat; omega⟩))
          simp only
          by_cases q : brS (goS k a.s) w y
          · rw [if_pos (fun z => (m_br q1 y0 (by omega)).mp z q)]
            refine Or.inl ⟨rfl, fun i hi => ?_⟩
            by_cases e : i = k
            · rw [e]; exact fun z => z q
            · exact hI' i (by omega)
          · rw [if_neg (fun z => z ((m_br q1 y0 (by omega)).mpr q))]
            exact Or.inr ⟨by omega, Or.inr ⟨k, by omega, rfl, q, hI'⟩⟩
      · refine ⟨?_, p2⟩
        rcases hI with q | q
        · exact Or.inl ⟨q.1, by rw [show 73 = k by have := q.1; omega]; exact q.2⟩
        · exact q.2
    · rintro ⟨r, k, P⟩ ⟨hF, p2⟩
      refine okB (f_close ha p2) ?_
      rintro Q ⟨q1, q2, -⟩
      exact okS ⟨hF, IM_RM q2 hm1 q1⟩
