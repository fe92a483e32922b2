/-! thaw, strongest -/
def noS (S : LT) (w : Int) : Prop := ∀ y, 0 ≤ y → y < S 0 0 → ¬ brS S w y
def alS (S : LT) (w : Int) : Prop := ∀ y, 0 ≤ y → y < S 0 0 → brS S w y
theorem c_none {S L : LT} (h : Sc S L) (V : Val S) (w : Int) : Ok (X2_noneBears L w) (fun r => ¬ r = 0 ↔ noS S w) := by
  have hv := V.1
  unfold X2_noneBears
  refine okB (P := fun o => match o with
    | .inl _ => noS S w
    | .inr r => r = 0 ∧ ¬ noS S w) ?_ ?_
  · refine okLoop (fun s => 0 ≤ s ∧ ∀ y, 0 ≤ y → y < s → ¬ brS S w y) (fun s => (S 0 0 - s).toNat) ?_ ⟨Int.le_refl 0, fun y a b => by omega⟩
    rintro y ⟨y0, hI⟩
    unfold X2_noneBears_s1
    rw [h.1.1]
    refine okI (fun hlt => okG ⟨y0, by omega⟩ (okI (fun q => okS ⟨rfl, fun z => ?_⟩) (fun q => okS ⟨⟨?_, fun u u0 u1 => ?_⟩, ?_⟩))) (fun hlt => okS (fun u u0 u1 => hI u u0 (by omega)))
    · exact q ((c_br h y0 (by omega)).mpr (z y y0 hlt))
    · rw [w32_eq (by omega) (by omega)]; omega
    · rw [w32_eq (by omega) (by omega)] at u1
      by_cases e : u = y
      · rw [e]
        refine (c_br h y0 (by omega)).mp ?_
        by_cases z : X2_bears_v L y w = 0
        · exact z
        · exact absurd z q
      · exact hI u u0 (by omega)
    · rw [w32_eq (by omega) (by omega)]
      show (S 0 0 - (y + 1)).toNat < (S 0 0 - y).toNat
      omega
  · rintro (z | z) hz
    · exact okS ⟨fun _ => hz, fun _ => by decide⟩
    · exact okS ⟨fun q => absurd hz.1 q, fun q => absurd q hz.2⟩
theorem c_all {S L : LT} (h : Sc S L) (V : Val S) (w : Int) : Ok (X2_allBear L w) (fun r => ¬ r = 0 ↔ alS S w) := by
  have hv := V.1
  unfold X2_allBear
  refine okB (P := fun o => match o with
    | .inl _ => alS S w
    | .inr r => r = 0 ∧ ¬ alS S w) ?_ ?_
  · refine okLoop (fun s => 0 ≤ s ∧ ∀ y, 0 ≤ y → y < s → brS S w y) (fun s => (S 0 0 - s).toNat) ?_ ⟨Int.le_refl 0, fun y a b => by omega⟩
    rintro y ⟨y0, hI⟩
    unfold X2_allBear_s1
    rw [h.1.1]
    refine okI (fun hlt => okG ⟨y0, by omega⟩ (okI (fun q => okS ⟨rfl, fun z => ?_⟩) (fun q => okS ⟨⟨?_, fun u u0 u1 => ?_⟩, ?_⟩))) (fun hlt => okS (fun u u0 u1 => hI u u0 (by omega)))
    · exact (c_br h y0 (by omega)).mp q (z y y0 hlt)
    · rw [w32_eq (by omega) (by omega)]; omega
    · rw [w32_eq (by omega) (by omega)] at u1
      by_cases e : u = y
      · rw [e]
        by_cases z : brS S w y
        · exact z
        · exact absurd ((c_br h y0 (by omega)).mpr z) q
      · exact hI u u0 (by omega)
    · rw [w32_eq (by omega) (by omega)]
      show (S 0 0 - (y + 1)).toNat < (S 0 0 - y).toNat
      omega
  · rintro (z | z) hz
    · exact okS ⟨fun _ => hz, fun _ => by decide⟩
    · exact okS ⟨fun q => absurd hz.1 q, fun q => absurd q hz.2⟩
theorem m_any {S M : LT} (h : Sm S M) (V : Val S) : Ok (lp (X5_thaw_s1 M) (0, 0)) (fun z => z.1 = 0 ↔ noS S 1) := by
  have hv := V.1
  refine okLoop (fun s => 0 ≤ s.2 ∧ s.2 ≤ S 0 0 ∧ (s.1 = 0 ↔ ∀ y, 0 ≤ y → y < s.2 → ¬ brS S 1 y)) (fun s => (S 0 0 - s.2).toNat) ?_ ⟨Int.le_refl 0, by show (0 : Int) ≤ S 0 0; omega, fun _ y a b => by simp only at b; omega, fun _ => rfl⟩
  rintro ⟨r, y⟩ ⟨y0, y1, hI⟩
  simp only at y0 y1 hI
  unfold X5_thaw_s1
  simp only
  rw [h.1.1, w32_eq (x := y + 1) (by omega) (by omega)]
  refine okI (fun hlt => okG (fun _ => ⟨⟨y0, by omega⟩, ⟨y0, by omega⟩⟩) (okL (okS ⟨⟨by simp only; omega, by simp only; omega, ?_⟩, by show (S 0 0 - (y + 1)).toNat < (S 0 0 - y).toNat; omega⟩))) (fun hlt => okS ?_)
  · simp only
    have mb := m_br h (w := 1) y0 (show y < 16 by omega)
    by_cases e : r = 0
    · by_cases q : X5_bears_v M y 1 = 0
      · rw [if_neg (fun z => by rcases z with z | z; exact z e; exact z q)]
        refine ⟨fun _ u u0 u1 => ?_, fun _ => rfl⟩
        by_cases eu : u = y
        · rw [eu]; exact mb.mp q
        · exact hI.mp e u u0 (by omega)
      · rw [if_pos (Or.inr q)]
        refine ⟨fun z => absurd z (by decide), fun z => absurd (mb.mpr (z y y0 (by omega))) q⟩
    · rw [if_pos (Or.inl e)]
      refine ⟨fun z => absurd z (by decide), fun z => absurd (hI.mpr (fun u u0 u1 => z u u0 (by omega))) e⟩
  · have e : y = S 0 0 := by omega
    rw [e] at hI
    exact hI
theorem m_allB {S M : LT} (h : Sm S M) (V : Val S) (w : Int) : Ok (X5_allBear M w) (fun r => ¬ r = 0 ↔ alS S w) := by
  have hv := V.1
  unfold X5_allBear
  refine okB (P := fun z => ¬ z.1 = 0 ↔ alS S w) ?_ (fun z q => okS q)
  refine okLoop (fun s => 0 ≤ s.2 ∧ s.2 ≤ S 0 0 ∧ (¬ s.1 = 0 ↔ ∀ y, 0 ≤ y → y < s.2 → brS S w y)) (fun s => (S 0 0 - s.2).toNat) ?_ ⟨Int.le_refl 0, by show (0 : Int) ≤ S 0 0; omega, fun _ y a b => by simp only at b; omega, fun _ => by decide⟩
  rintro ⟨r, y⟩ ⟨y0, y1, hI⟩
  simp only at y0 y1 hI
  unfold X5_allBear_s1
  simp only
  rw [h.1.1, w32_eq (x := y + 1) (by omega) (by omega)]
  refine okI (fun hlt => okG (fun _ => ⟨⟨y0, by omega⟩, ⟨y0, by omega⟩⟩) (okL (okS ⟨⟨by simp only; omega, by simp only; omega, ?_⟩, by show (S 0 0 - (y + 1)).toNat < (S 0 0 - y).toNat; omega⟩))) (fun hlt => okS ?_)
  · simp only
    have mb := m_br h (w := w) y0 (show y < 16 by omega)
    by_cases e : r = 0
    · rw [if_neg (fun z => z.1 e)]
      refine ⟨fun z => absurd rfl z, fun z => absurd e (hI.mpr (fun u u0 u1 => z u u0 (by omega)))⟩
    · by_cases q : X5_bears_v M y w = 0
      · rw [if_neg (fun z => z.2 q)]
        exact ⟨fun z => absurd rfl z, fun z => absurd (z y y0 (by omega)) (mb.mp q)⟩
      · rw [if_pos ⟨e, q⟩]
        refine ⟨fun _ u u0 u1 => ?_, fun _ => by decide⟩
        by_cases eu : u = y
        · rw [eu]
          by_cases z : brS S w y
          · exact z
          · exact absurd (mb.mpr z) q
        · exact hI.mp e u u0 (by omega)
  · have e : y = S 0 0 := by omega
    rw [e] at hI
    exact hI
theorem op_thaw : Op0 X4_thaw X5_thaw := by
  rintro C M ⟨a, ha, hc, hm⟩
  have hm1 := RM_14 hm 0
  have V := Vs_g ha.1
  refine Bo_op (Bo_rel (Fst (fun k => noS (goS k a.s) 1) 73) ha (fun _ _ => Fst_u) ?_ ?_)
  · unfold X4_thaw
    refine okB (c_mind hc.1 V.1) ?_
    intro L hL
    refine okL ?_
    simp only [gs_at]
    refine okB (c_feelP hL V.1) ?_
    intro L2 hL2
    refine okL ?_
    simp only [gs_gs]
    refine okB (P := fun o => match o with
      | .inl z => (∀ k, k < 73 → ¬ noS (goS k a.s) 1) ∧ CF C z.2
      | .inr z => Fst (fun k => noS (goS k a.s) 1) 73 z.1 ∧ RC a z.2) ?_ ?_
    · refine okLoop (fun s => ∃ k : Nat, s.1 = (k : Int) ∧ k ≤ 73 ∧ (∀ i, i < k → ¬ noS (goS i a.s) 1) ∧ CL a.s k True (s.2 1 1) ∧ CF C s.2) (fun s => (73 - s.1).toNat) ?_ ⟨0, rfl, by omega, fun i q => by omega, by simp only [gs_at]; exact hL2, CF_gs C L2⟩
      rintro ⟨k', D⟩ ⟨k, e1, hk, hI, hD, cf⟩
      simp only at e1 hD cf
      subst e1
      unfold X4_thaw_s1
      simp only
      rw [w32_eq (x := (k : Int) + 1) (by omega) (by omega)]
      refine okI (fun hle => okB (c_none hD.1.1 (Val_go V.1 k) 1) ?_) (fun hle => okS ⟨by rw [show 73 = k by omega]; exact hI, cf⟩)
      intro r hr
      refine okI (fun q => okS ?_) (fun q => okB (c_step hD V.1 V.2.1 V.2.2 (by omega)) ?_)
      · exact ⟨Or.inr ⟨k, by omega, rfl, hr.mp q, hI⟩, RC_G ha hc (CF_G cf)⟩
      · intro L3 h3
        refine okL (okS ⟨⟨k + 1, rfl, by omega, fun i hi => ?_, by simp only [gs_at]; exact h3, CF_t cf (CF_gs D L3)⟩, by show (73 - ((k : Int) + 1)).toNat < (73 - (k : Int)).toNat; omega⟩)
        by_cases e : i = k
        · rw [e]; exact fun z => q (hr.mpr z)
        · exact hI i (by omega)
    · rintro (z | z) hz
      · exact okS ⟨Or.inl ⟨rfl, hz.1⟩, RC_G ha hc (CF_G hz.2)⟩
      · exact okS hz
  · unfold X5_thaw
    refine okL (okB (f_open ha hm1) ?_)
    rintro N ⟨n1, n2⟩
    refine okB (P := fun z => Fst (fun k => noS (goS k a.s) 1) 73 z.1 ∧ IM a (lw M 0 14 0) z.2.2) ?_ ?_
    · refine okLoop (fun s => ∃ k : Nat, s.2.1 = (k : Int) ∧ k ≤ 73 ∧ IM a (lw M 0 14 0) s.2.2 ∧ Sm (goS (k - 1) a.s) s.2.2 ∧ ((s.1 = -9 ∧ ∀ i, i < k → ¬ noS (goS i a.s) 1) ∨ (0 ≤ s.1 ∧ Fst (fun k => noS (goS k a.s) 1) 73 s.1))) (fun s => (73 - s.2.1).toNat) ?_ ⟨0, rfl, by omega, n2, (show Sm (goS (0 - 1) a.s) N from n1), Or.inl ⟨rfl, fun i q => by omega⟩⟩
      rintro ⟨r, k', P⟩ ⟨k, e1, hk, p2, p1, hI⟩
      simp only at e1 p2 p1 hI
      subst e1
      unfold X5_thaw_s2
      simp only
      rw [w32_eq (x := (k : Int) + 1) (by omega) (by omega)]
      refine okI (fun hle => ?_) (fun hle => okS ?_)
      · obtain ⟨hle, hr⟩ := hle
        have hI' : ∀ i, i < k → ¬ noS (goS i a.s) 1 := by
          rcases hI with q | q
          · exact q.2
          · omega
        refine okB (P := fun z => IM a (lw M 0 14 0) z ∧ Sm (goS k a.s) z) (okI (fun q => ?_) (fun q => okS ⟨p2, by rw [show k - 1 = k by omega] at p1; exact p1⟩)) ?_
        · have ch := go_h a.s (k - 1)
          refine okB (m_hour p1 (Val_go V.1 _) (by have := V.2.1; omega) (by have := V.2.2; omega)) ?_
          rintro Q ⟨q1, q2, -⟩
          have e : goS k a.s = hrS (goS (k - 1) a.s) := by
            obtain ⟨j, rfl⟩ : ∃ j, k = j + 1 := ⟨k - 1, by omega⟩
            rfl
          refine okS ⟨⟨?_, MF_t p2.2 (MG_F (MK_G q2))⟩, by rw [e]; exact q1⟩
          rw [show Q 27 = P 27 from funext (fun j => q2 27 j (by omega) (by omega))]
          exact p2.1
        · rintro Q ⟨q2, q1⟩
          refine okB (m_any q1 (Val_go V.1 k)) ?_
          rintro ⟨c, c'⟩ hcn
          simp only at hcn
          refine okL (okS ⟨⟨k + 1, rfl, by omega, q2, q1, ?_⟩, by show (73 - ((k : Int) + 1)).toNat < (73 - (k : Int)).toNat; omega⟩)
          simp only
          by_cases q : c = 0
          · rw [if_neg (fun z => z q)]
            exact Or.inr ⟨by omega, Or.inr ⟨k, by omega, rfl, hcn.mp q, hI'⟩⟩
          · rw [if_pos q]
            refine Or.inl ⟨rfl, fun i hi => ?_⟩
            by_cases e : i = k
            · rw [e]; exact fun z => q (hcn.mpr z)
            · exact hI' i (by omega)
      · refine ⟨?_, p2⟩
        rcases hI with q | q
        · exact Or.inl ⟨q.1, by rw [show 73 = k by have := q.1; omega]; exact q.2⟩
        · exact q.2
    · rintro ⟨r, k, P⟩ ⟨hF, p2⟩
      refine okB (f_close ha p2) ?_
      rintro Q ⟨q1, q2, -⟩
      exact okS ⟨hF, IM_RM q2 hm1 q1⟩
