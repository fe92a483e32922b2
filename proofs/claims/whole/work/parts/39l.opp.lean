/-! key, pourFirst, judge, lots, blocker, timetable -/
/-- the most, and by which; more than m0 -/
def kyN (m0 : Int) (f : Nat → Int) : Nat → Int × Int
  | 0 => (m0, -9)
  | k + 1 => if (kyN m0 f k).1 < f k then (f k, k) else kyN m0 f k
noncomputable def keF (S : LT) (k : Nat) : Int := cntS (goS 72 (lw (lw S 6 k 0) 7 k 0)) 1
noncomputable def poF (S : LT) (k : Nat) : Int := cntS (goS 72 (prS S k)) 1
theorem op_key : Op0 X4_key X5_key := by
  rintro C M ⟨a, ha, hc, hm⟩
  have hm1 := RM_14 hm 0
  have V := Vs_g ha.1
  have tv := V.1.1
  refine Bo_op ⟨a, (kyN (cntS (goS 72 a.s) 1) (keF a.s) (a.s 0 0).toNat).2, ha, ?_, ?_⟩
  · unfold X4_key
    refine okB (c_become hc.1 V.1) ?_
    intro L hL
    refine okL (okB (c_thr (S := a.s) (by rw [gs_at]; exact hL) V) ?_)
    rintro ⟨r, D0⟩ ⟨e, cf0, -⟩
    simp only at e cf0
    subst e
    refine okB (P := fun z => z.2.1 = (kyN (cntS (goS 72 a.s) 1) (keF a.s) (a.s 0 0).toNat).2 ∧ RC a z.2.2.2) ?_ (fun z q => okS q)
    refine okLoop (fun s => ∃ k : Nat, s.2.2.1 = (k : Int) ∧ (k : Int) ≤ a.s 0 0 ∧ (s.1, s.2.1) = kyN (cntS (goS 72 a.s) 1) (keF a.s) k ∧ CF C s.2.2.2) (fun s => (a.s 0 0 - s.2.2.1).toNat) ?_ ⟨0, rfl, by omega, rfl, CF_t (CF_gs C L) cf0⟩
    rintro ⟨b, l, k', D⟩ ⟨k, e1, hk, e2, cf⟩
    simp only at e1 e2 cf
    subst e1
    have d0 : D 1 0 = C 1 0 := cf 1 0 (by omega)
    unfold X4_key_s1
    simp only
    rw [d0, hc.1.1.1, w32_eq (x := (k : Int) + 1) (by omega) (by omega)]
    have mu : (k : Int) < a.s 0 0 → (a.s 0 0 - ((k : Int) + 1)).toNat < (a.s 0 0 - (k : Int)).toNat := fun _ => by omega
    refine okI (fun hlt => okB (c_become hc.1 V.1) ?_) (fun hlt => okS ⟨by rw [show (a.s 0 0).toNat = k by omega, ← e2], RC_G ha hc (CF_G cf)⟩)
    intro L hL
    refine okL (okG ⟨by omega, by omega⟩ (okL (okL ?_)))
    rw [hw_gs, hw_gs]
    refine okB (c_thr (S := lw (lw a.s 6 k 0) 7 k 0) (by rw [gs_at]; exact PL_lw (PL_lw hL (by omega)) (by omega)) (Vg_lw (Vg_lw V (by omega) (by omega)) (by omega) (by omega))) ?_
    rintro ⟨r, D1⟩ ⟨e, cf1, -⟩
    simp only at e cf1
    have er : r = keF a.s k := e
    subst er
    have cf2 := CF_t (CF_t cf (CF_gs D _)) cf1
    have en : kyN (cntS (goS 72 a.s) 1) (keF a.s) (k + 1) = if (kyN (cntS (goS 72 a.s) 1) (keF a.s) k).1 < keF a.s k then (keF a.s k, (k : Int)) else kyN (cntS (goS 72 a.s) 1) (keF a.s) k := rfl
    rw [← e2] at en
    simp only at en
    refine okI (fun q => okS ⟨⟨k + 1, rfl, by omega, ?_, cf2⟩, mu (by omega)⟩) (fun q => okS ⟨⟨k + 1, rfl, by omega, ?_, cf2⟩, mu (by omega)⟩)
    · rw [en, if_pos q]
    · rw [en, if_neg q]
  · unfold X5_key
    refine okL (okB (f_open ha hm1) ?_)
    rintro N ⟨n1, n2⟩
    refine okB (f_by ha n1 n2 V) ?_
    rintro ⟨r, N1⟩ ⟨e, n3, n4⟩
    simp only at e n3 n4
    subst e
    refine okB (P := fun z => z.2.1 = (kyN (cntS (goS 72 a.s) 1) (keF a.s) (a.s 0 0).toNat).2 ∧ Sm a.s z.2.2.2 ∧ IM a (lw M 0 14 0) z.2.2.2) ?_ (fun z q => okS ⟨q.1, IM_RM q.2.2 hm1 q.2.1⟩)
    refine okLoop (fun s => ∃ k : Nat, s.2.2.1 = (k : Int) ∧ (k : Int) ≤ a.s 0 0 ∧ (s.1, s.2.1) = kyN (cntS (goS 72 a.s) 1) (keF a.s) k ∧ Sm a.s s.2.2.2 ∧ IM a (lw M 0 14 0) s.2.2.2) (fun s => (a.s 0 0 - s.2.2.1).toNat) ?_ ⟨0, rfl, by omega, rfl, n3, n4⟩
    rintro ⟨b, l, k', P⟩ ⟨k, e1, hk, e2, p1, p2⟩
    simp only at e1 e2 p1 p2
    subst e1
    unfold X5_key_s1
    simp only
    rw [p1.1.1, w32_eq (x := (k : Int) + 1) (by omega) (by omega)]
    have mu : (k : Int) < a.s 0 0 → (a.s 0 0 - ((k : Int) + 1)).toNat < (a.s 0 0 - (k : Int)).toNat := fun _ => by omega
    refine okI (fun hlt => okG ⟨by omega, by omega⟩ (okL (okL ?_))) (fun hlt => okS ⟨by rw [show (a.s 0 0).toNat = k by omega, ← e2], p1, p2⟩)
    refine okB (f_by ha (Sm_lw (Sm_lw p1 (i := 6) (i' := 2) (j := k) (v := 0) (by omega)) (i := 7) (i' := 3) (j := k) (v := 0) (by omega)) (IM_lw (IM_lw p2 (by omega)) (by omega)) (Vg_lw (Vg_lw V (by omega) (by omega)) (by omega) (by omega))) ?_
    rintro ⟨r, P1⟩ ⟨e, q1, q2⟩
    simp only at e q1 q2
    have er : r = keF a.s k := e
    subst er
    have en : kyN (cntS (goS 72 a.s) 1) (keF a.s) (k + 1) = if (kyN (cntS (goS 72 a.s) 1) (keF a.s) k).1 < keF a.s k then (keF a.s k, (k : Int)) else kyN (cntS (goS 72 a.s) 1) (keF a.s) k := rfl
    rw [← e2] at en
    simp only at en
    refine okL (okL (okS ⟨⟨k + 1, rfl, by omega, ?_, q1, q2⟩, mu (by omega)⟩))
    simp only
    rw [en]
    split <;> rfl
theorem op_pourFirst : Op0 X4_pourFirst X5_pourFirst := by
  rintro C M ⟨a, ha, hc, hm⟩
  have hm1 := RM_14 hm 0
  have V := Vs_g ha.1
  have tv := V.1.1
  refine Bo_op ⟨a, (kyN (cntS (goS 72 a.s) 1) (poF a.s) (a.s 0 0).toNat).2, ha, ?_, ?_⟩
  · unfold X4_pourFirst
    refine okB (c_become hc.1 V.1) ?_
    intro L hL
    refine okL (okB (c_thr (S := a.s) (by rw [gs_at]; exact hL) V) ?_)
    rintro ⟨r, D0⟩ ⟨e, cf0, -⟩
    simp only at e cf0
    subst e
    refine okB (P := fun z => z.2.1 = (kyN (cntS (goS 72 a.s) 1) (poF a.s) (a.s 0 0).toNat).2 ∧ RC a z.2.2.2) ?_ (fun z q => okS q)
    refine okLoop (fun s => ∃ k : Nat, s.2.2.1 = (k : Int) ∧ (k : Int) ≤ a.s 0 0 ∧ (s.1, s.2.1) = kyN (cntS (goS 72 a.s) 1) (poF a.s) k ∧ CF C s.2.2.2) (fun s => (a.s 0 0 - s.2.2.1).toNat) ?_ ⟨0, rfl, by omega, rfl, CF_t (CF_gs C L) cf0⟩
    rintro ⟨b, l, k', D⟩ ⟨k, e1, hk, e2, cf⟩
    simp only at e1 e2 cf
    subst e1
    have d0 : D 1 0 = C 1 0 := cf 1 0 (by omega)
    unfold X4_pourFirst_s1
    simp only
    rw [d0, hc.1.1.1, w32_eq (x := (k : Int) + 1) (by omega) (by omega)]
    have mu : (k : Int) < a.s 0 0 → (a.s 0 0 - ((k : Int) + 1)).toNat < (a.s 0 0 - (k : Int)).toNat := fun _ => by omega
    refine okI (fun hlt => okB (c_become hc.1 V.1) ?_) (fun hlt => okS ⟨by rw [show (a.s 0 0).toNat = k by omega, ← e2], RC_G ha hc (CF_G cf)⟩)
    intro L hL
    refine okL ?_
    simp only [gs_at]
    refine okB (c_pour (S := a.s) hL.1 V.1 (y := k) (by omega) (by omega)) ?_
    rintro L2 rfl
    refine okL ?_
    rw [gs_gs]
    refine okB (c_thr (S := prS a.s k) (by rw [gs_at]; exact PL_lw hL (by omega)) (Vg_pr V (by omega) (by omega))) ?_
    rintro ⟨r, D1⟩ ⟨e, cf1, -⟩
    simp only at e cf1
    have er : r = poF a.s k := e
    subst er
    have cf2 := CF_t (CF_t cf (CF_gs D _)) cf1
    have en : kyN (cntS (goS 72 a.s) 1) (poF a.s) (k + 1) = if (kyN (cntS (goS 72 a.s) 1) (poF a.s) k).1 < poF a.s k then (poF a.s k, (k : Int)) else kyN (cntS (goS 72 a.s) 1) (poF a.s) k := rfl
    rw [← e2] at en
    simp only at en
    refine okI (fun q => okS ⟨⟨k + 1, rfl, by omega, ?_, cf2⟩, mu (by omega)⟩) (fun q => okS ⟨⟨k + 1, rfl, by omega, ?_, cf2⟩, mu (by omega)⟩)
    · rw [en, if_pos q]
    · rw [en, if_neg q]
  · unfold X5_pourFirst
    refine okL (okB (f_open ha hm1) ?_)
    rintro N ⟨n1, n2⟩
    refine okB (f_by ha n1 n2 V) ?_
    rintro ⟨r, N1⟩ ⟨e, n3, n4⟩
    simp only at e n3 n4
    subst e
    refine okB (P := fun z => z.2.1 = (kyN (cntS (goS 72 a.s) 1) (poF a.s) (a.s 0 0).toNat).2 ∧ Sm a.s z.2.2.2 ∧ IM a (lw M 0 14 0) z.2.2.2) ?_ (fun z q => okS ⟨q.1, IM_RM q.2.2 hm1 q.2.1⟩)
    refine okLoop (fun s => ∃ k : Nat, s.2.2.1 = (k : Int) ∧ (k : Int) ≤ a.s 0 0 ∧ (s.1, s.2.1) = kyN (cntS (goS 72 a.s) 1) (poF a.s) k ∧ Sm a.s s.2.2.2 ∧ IM a (lw M 0 14 0) s.2.2.2) (fun s => (a.s 0 0 - s.2.2.1).toNat) ?_ ⟨0, rfl, by omega, rfl, n3, n4⟩
    rintro ⟨b, l, k', P⟩ ⟨k, e1, hk, e2, p1, p2⟩
    simp only at e1 e2 p1 p2
    subst e1
    unfold X5_pourFirst_s1
    simp only
    rw [p1.1.1, w32_eq (x := (k : Int) + 1) (by omega) (by omega)]
    have mu : (k : Int) < a.s 0 0 → (a.s 0 0 - ((k : Int) + 1)).toNat < (a.s 0 0 - (k : Int)).toNat := fun _ => by omega
    refine okI (fun hlt => okB (m_pour (S := a.s) p1 V.1 (y := k) (by omega) (by omega)) ?_) (fun hlt => okS ⟨by rw [show (a.s 0 0).toNat = k by omega, ← e2], p1, p2⟩)
    rintro P2 rfl
    refine okB (f_by (S := prS a.s k) ha (Sm_lw p1 (by omega)) (IM_lw p2 (by omega)) (Vg_pr V (by omega) (by omega))) ?_
    rintro ⟨r, P1⟩ ⟨e, q1, q2⟩
    simp only at e q1 q2
    have er : r = poF a.s k := e
    subst er
    have en : kyN (cntS (goS 72 a.s) 1) (poF a.s) (k + 1) = if (kyN (cntS (goS 72 a.s) 1) (poF a.s) k).1 < poF a.s k then (poF a.s k, (k : Int)) else kyN (cntS (goS 72 a.s) 1) (poF a.s) k := rfl
    rw [← e2] at en
    simp only at en
    refine okL (okL (okS ⟨⟨k + 1, rfl, by omega, ?_, q1, q2⟩, mu (by omega)⟩))
    simp only
    rw [en]
    split <;> rfl
def juP (a : Ab) (S : LT) (k : Nat) : Prop := ¬ ((k : Int) < S 0 0 ∧ S 8 k = a.rw k)
theorem op_judge : Op1 X4_judge X5_judge := by
  rintro C M ⟨a, ha, hc, hm⟩ n -
  refine Bo_op (ck_v ha hc hm (fun hm1 n0 n1 => ?_))
  have V := Vs_g ha.1
  have tv := V.1.1
  have VG := Val_go V.1 n.toNat
  have gv := VG.1
  have b9 := ha.2.2.2.2
  have ha' : OkA (aRow a 0 a.rw) := ⟨ha.1, ha.2.1, ha.2.2.1, ha.2.2.2.1, Int.le_refl 0, by show (0 : Int) ≤ 16; omega, fun k q0 q1 => absurd (show k < 0 from q1) (by omega)⟩
  refine Bo_rel (Fst (juP a (goS n.toNat a.s)) a.rn.toNat) ha' (fun _ _ => Fst_u) ?_ ?_
  · refine okB (c_goInMind hc.1 V n0 n1) ?_
    rintro D ⟨cf, cl⟩
    have hd := RC_G ha hc (CF_G cf)
    have h9 := hd.2.2.2.2.1
    refine okB (P := fun z => Fst (juP a (goS n.toNat a.s)) a.rn.toNat z.1) ?_ ?_
    · refine okLoop (fun s => ∃ k : Nat, s.2 = (k : Int) ∧ (k : Int) ≤ a.rn ∧ ((s.1 = -9 ∧ ∀ i, i < k → ¬ juP a (goS n.toNat a.s) i) ∨ (0 ≤ s.1 ∧ Fst (juP a (goS n.toNat a.s)) a.rn.toNat s.1))) (fun s => (a.rn - s.2).toNat) ?_ ⟨0, rfl, by omega, Or.inl ⟨rfl, fun i q => by omega⟩⟩
      rintro ⟨r, k'⟩ ⟨k, e1, hk, hI⟩
      simp only at e1 hI
      subst e1
      unfold X4_judge_s1
      simp only
      rw [h9.1, cl.1.1.1.1, w32_eq (x := (k : Int) + 1) (by omega) (by omega)]
      have mu : (k : Int) < a.rn → (a.rn - ((k : Int) + 1)).toNat < (a.rn - (k : Int)).toNat := fun _ => by omega
      refine okI (fun hle => okG (fun _ => ⟨by omega, by omega⟩) ?_) (fun hle => okS ?_)
      · obtain ⟨hle, hr⟩ := hle
        have hI' : ∀ i, i < k → ¬ juP a (goS n.toNat a.s) i := by
          rcases hI with q | q
          · exact q.2
          · omega
        rw [h9.2 k (by omega) hle]
        by_cases q : (goS n.toNat a.s) 0 0 ≤ (k : Int)
        · refine okT (Or.inl q) (okS ⟨⟨k + 1, rfl, by omega, Or.inr ⟨by simp only; omega, Or.inr ⟨k, by omega, rfl, fun z => by omega, hI'⟩⟩⟩, mu (by omega)⟩)
        · rw [(cl.1.1.2.1 k (by omega) (by omega)).2.2]
          by_cases q2 : goS n.toNat a.s 8 k = a.rw k
          · refine okF (fun z => by rcases z with z | z; exact q z; exact z q2) (okS ⟨⟨k + 1, rfl, by omega, Or.inl ⟨hr, fun i hi => ?_⟩⟩, mu (by omega)⟩)
            by_cases e : i = k
            · rw [e]; exact fun z => z ⟨by omega, q2⟩
            · exact hI' i (by omega)
          · exact okT (Or.inr q2) (okS ⟨⟨k + 1, rfl, by omega, Or.inr ⟨by simp only; omega, Or.inr ⟨k, by omega, rfl, fun z => q2 z.2, hI'⟩⟩⟩, mu (by omega)⟩)
      · rcases hI with q | q
        · exact Or.inl ⟨q.1, by rw [show a.rn.toNat = k by have := q.1; omega]; exact q.2⟩
        · exact q.2
    · rintro ⟨r, k⟩ hF
      refine okL (okS ⟨hF, RC_row hd 0 a.rw (fun t l i j q => ?_) ?_ (fun k q0 q1 => by omega)⟩)
      · simp only [hw]
        rw [if_neg (by omega)]
      · simp [hw]
  · have m9 := hm1.2.2.2.2.1
    have hm9 : RM (aRow a 0 a.rw) (lw (lw M 0 14 0) 0 39 0) := RM_row hm1 0 a.rw (fun i j q => lw_n (by omega)) (lw_s _ _ _ _) (fun k q0 q1 => by omega)
    rw [m9.1]
    refine okL (okL (okB (f_open ha' hm9) ?_))
    rintro N ⟨n1', n2⟩
    refine okB (f_hours (S := a.s) n1' n2 V n0 (by omega)) ?_
    rintro P ⟨p1, p2, -⟩
    have r39 : ∀ k, 0 ≤ k → k < a.rn → P 39 k = a.rw k := fun k q0 q1 => by
      rw [p2.2 39 k (by omega), lw_i (by decide)]
      exact m9.2 k q0 q1
    refine okB (P := fun z => Fst (juP a (goS n.toNat a.s)) a.rn.toNat z.1) ?_ ?_
    · refine okLoop (fun s => ∃ k : Nat, s.2 = (k : Int) ∧ (k : Int) ≤ a.rn ∧ ((s.1 = -9 ∧ ∀ i, i < k → ¬ juP a (goS n.toNat a.s) i) ∨ (0 ≤ s.1 ∧ Fst (juP a (goS n.toNat a.s)) a.rn.toNat s.1))) (fun s => (a.rn - s.2).toNat) ?_ ⟨0, rfl, by omega, Or.inl ⟨rfl, fun i q => by omega⟩⟩
      rintro ⟨r, k'⟩ ⟨k, e1, hk, hI⟩
      simp only at e1 hI
      subst e1
      unfold X5_judge_s1
      simp only
      rw [p1.1.1, w32_eq (x := (k : Int) + 1) (by omega) (by omega)]
      have mu : (k : Int) < a.rn → (a.rn - ((k : Int) + 1)).toNat < (a.rn - (k : Int)).toNat := fun _ => by omega
      refine okI (fun hle => okG (fun _ => ⟨by omega, by omega⟩) (okL ?_)) (fun hle => okS ?_)
      · obtain ⟨hle, hr⟩ := hle
        have hI' : r = -9 ∧ ∀ i, i < k → ¬ juP a (goS n.toNat a.s) i := by
          rcases hI with q | q
          · exact q
          · omega
        rw [r39 k (by omega) hle, (p1.2.1 k (by omega) (by omega)).2.2]
        refine okS ⟨⟨k + 1, rfl, by omega, ?_⟩, mu (by omega)⟩
        simp only
        by_cases q : (k : Int) < goS n.toNat a.s 0 0 ∧ goS n.toNat a.s 8 k = a.rw k
        · rw [if_pos q]
          refine Or.inl ⟨rfl, fun i hi => ?_⟩
          by_cases e : i = k
          · rw [e]; exact fun z => z q
          · exact hI'.2 i (by omega)
        · rw [if_neg q]
          exact Or.inr ⟨by omega, Or.inr ⟨k, by omega, rfl, q, hI'.2⟩⟩
      · rcases hI with q | q
        · exact Or.inl ⟨q.1, by rw [show a.rn.toNat = k by have := q.1; omega]; exact q.2⟩
        · exact q.2
    · rintro ⟨r, k⟩ hF
      refine okB (f_close ha' p2) ?_
      rintro Q ⟨q1, q2, -⟩
      exact okS ⟨hF, IM_RM q2 hm9 q1⟩
theorem b_and_nn (x : Int) : 0 ≤ b_and x 2147483647 ∧ b_and x 2147483647 < 2147483648 := by
  have e : b_and x 2147483647 = ((Int32.ofInt x).toBitVec &&& 2147483647#32).toInt := rfl
  have l : ((Int32.ofInt x).toBitVec &&& 2147483647#32).toNat ≤ 2147483647 := by
    rw [BitVec.toNat_and]
    exact Nat.and_le_right
  rw [e, BitVec.toInt_eq_toNat_of_lt (by omega)]
  omega
theorem dr_b (x : Int) : 0 ≤ X4_drawn_v x 10 ∧ X4_drawn_v x 10 ≤ 9 := by
  have b := b_and_nn x
  have e : X4_drawn_v x 10 = jrem (jdiv (b_and x 2147483647) 65536) 10 := rfl
  rw [e, jdiv_nn b.1 b.2 (by omega), jrem_nn (Int.ediv_nonneg b.1 (by omega))]
  omega
def loS (S : LT) (z : Int) : LT := cnS S (X4_drawn_v (X4_nextSeed_v z) 10) (X4_drawn_v (X4_nextSeed_v (X4_nextSeed_v z)) 10)
/-- seed and sum behind k winters -/
noncomputable def loN (S : LT) (z st : Int) : Nat → Int × Int
  | 0 => (z, 0)
  | k + 1 => (X4_nextSeed_v (X4_nextSeed_v (loN S z st k).1), w32 ((loN S z st k).2 + cntS (goS 48 (loS S (loN S z st k).1)) st))
theorem Vg_lo {S : LT} (h : Vg S) (z : Int) : Vg (loS S z) := Vg_cn h (dr_b _) (dr_b _)
theorem Sc_loL {S L : LT} (h : PL S 0 True L) (c d : Int) : PL (cnS S c d) 0 True (lw (lw L 0 2 c) 0 3 d) := PL_lw (PL_lw h (by omega)) (by omega)
theorem op_lots : Op3 X4_lots X5_lots := by
  rintro C M ⟨a, ha, hc, hm⟩ n z what - - -
  refine Bo_op (ck_two ha hc hm (fun hm1 n0 n1 hw => ?_))
  have V := Vs_g ha.1
  have tv := V.1.1
  refine ⟨a, (loN a.s z (what + 1) n.toNat).2, ha, ?_, ?_⟩
  · refine okB (P := fun y => y.2.1 = (loN a.s z (what + 1) n.toNat).2 ∧ RC a y.2.2.2) ?_ (fun y q => okS q)
    refine okLoop (fun s => ∃ k : Nat, s.2.2.1 = (k : Int) ∧ (k : Int) ≤ n ∧ (s.1, s.2.1) = loN a.s z (what + 1) k ∧ CF C s.2.2.2) (fun s => (n - s.2.2.1).toNat) ?_ ⟨0, rfl, by omega, rfl, CF_r C⟩
    rintro ⟨sd, sm, k', D⟩ ⟨k, e1, hk, e2, cf⟩
    simp only at e1 e2 cf
    subst e1
    have d0 : D 1 0 = C 1 0 := cf 1 0 (by omega)
    unfold X4_lots_s1
    simp only
    rw [d0, w32_eq (x := (k : Int) + 1) (by omega) (by omega)]
    have mu : (k : Int) < n → (n - ((k : Int) + 1)).toNat < (n - (k : Int)).toNat := fun _ => by omega
    refine okI (fun hlt => okB (c_become hc.1 V.1) ?_) (fun hlt => okS ⟨by rw [show n.toNat = k by omega, ← e2], RC_G ha hc (CF_G cf)⟩)
    intro L hL
    have dc : ∀ x, X4_drawn_c x 10 := fun x => by unfold X4_drawn_c; decide
    refine okL (okL (okG (dc _) (okL (okL (okG (dc _) (okL ?_))))))
    rw [hw_gs, hw_gs]
    simp only [gs_at]
    have VL := Vg_lo V sd
    have hL2 := Sc_loL hL (X4_drawn_v (X4_nextSeed_v sd) 10) (X4_drawn_v (X4_nextSeed_v (X4_nextSeed_v sd)) 10)
    refine okB (c_any (S := loS a.s sd) hL2 VL.1 VL.2.1 VL.2.2 (n := 48) (by omega) (by omega)) ?_
    rintro L3 ⟨m, hm48, hL3, hor⟩
    obtain ⟨-, ec⟩ := any_end VL.1 (m := m) (n := 48) (by omega) (by rcases hor with q | q; exact Or.inl (by omega); exact Or.inr q)
    refine okL ?_
    simp only [gs_at]
    have e : (if what = 0 then (1 : Int) else 2) = what + 1 := by split <;> omega
    rw [e]
    refine okB (c_howMany hL3.1.1 (Val_go VL.1 m) _) ?_
    rintro r rfl
    refine okL (okS ⟨⟨k + 1, rfl, by omega, ?_, CF_t (CF_t cf (CF_gs D _)) (CF_gs _ _)⟩, mu (by omega)⟩)
    simp only
    rw [← ec (what + 1)]
    show _ = (X4_nextSeed_v (X4_nextSeed_v (loN a.s z (what + 1) k).1), w32 ((loN a.s z (what + 1) k).2 + cntS (goS 48 (loS a.s (loN a.s z (what + 1) k).1)) (what + 1)))
    rw [← e2]
  · have s0 : Sm a.s (lw (lw M 0 14 0) 0 40 z) := Sm_o hm1.1 (by omega)
    refine okL (okB (m_open V.1 s0) ?_)
    rintro N ⟨n1', n2, n3⟩
    have n40 : N 0 40 = z := by rw [n3 0 40 (by unfold lnC; omega) (by omega) (by omega) (by omega), lw_s]
    have nF : MF (lw M 0 14 0) N := MF_t (MF_lw (i := 0) (j := 40) (v := z) (by omega)) (MG_F n3)
    refine okB (P := fun y => y.1 = (loN a.s z (what + 1) n.toNat).2 ∧ Sm a.s y.2.2 ∧ IM a (lw M 0 14 0) y.2.2) ?_ (fun y q => okS ⟨q.1, IM_RM q.2.2 hm1 q.2.1⟩)
    refine okLoop (fun s => ∃ k : Nat, s.2.1 = (k : Int) ∧ (k : Int) ≤ n ∧ (s.2.2 0 40, s.1) = loN a.s z (what + 1) k ∧ Sm a.s s.2.2 ∧ IM a (lw M 0 14 0) s.2.2) (fun s => (n - s.2.1).toNat) ?_ ⟨0, rfl, by omega, by simp only; rw [n40]; rfl, n1', n2, nF⟩
    rintro ⟨sm, k', P⟩ ⟨k, e1, hk, e2, p1, p2⟩
    simp only at e1 e2 p1 p2
    subst e1
    unfold X5_lots_s1
    simp only
    rw [w32_eq (x := (k : Int) + 1) (by omega) (by omega), w32_eq (x := what + 1) (by omega) (by omega)]
    have mu : (k : Int) < n → (n - ((k : Int) + 1)).toNat < (n - (k : Int)).toNat := fun _ => by omega
    refine okI (fun hlt => ?_) (fun hlt => okS ⟨by rw [show n.toNat = k by omega, ← e2], p1, p2⟩)
    generalize hsd : P 0 40 = sd at e2
    have dw : ∀ (Q : LT) (x : Int), Q 0 40 = x → Ok (X5_drawBelow Q 10) (fun y => y.1 = X4_drawn_v (X4_nextSeed_v x) 10 ∧ y.2 = lw Q 0 40 (X4_nextSeed_v x)) := fun Q x hx => by
      unfold X5_drawBelow
      rw [hx]
      exact okL (okG (by decide) (okS ⟨by simp only; rw [lw_s]; rfl, rfl⟩))
    refine okB (dw P sd hsd) ?_
    rintro ⟨c1, P1⟩ ⟨q1, q2⟩
    simp only at q1 q2
    subst q1
    subst q2
    refine okL (okB (dw _ (X4_nextSeed_v sd) (by simp only; rw [lw_j (by decide), lw_s])) ?_)
    rintro ⟨c2, P2⟩ ⟨q1, q2⟩
    simp only at q1 q2
    subst q1
    subst q2
    have VL := Vg_lo V sd
    refine okL ?_
    simp only
    generalize hP3 : lw (lw (lw (lw P 0 40 (X4_nextSeed_v sd)) 0 5 (X4_drawn_v (X4_nextSeed_v sd) 10)) 0 40 (X4_nextSeed_v (X4_nextSeed_v sd))) 0 6 (X4_drawn_v (X4_nextSeed_v (X4_nextSeed_v sd)) 10) = P3
    have fr : ∀ i j, ¬ (i = 0 ∧ (j = 5 ∨ j = 6 ∨ j = 40)) → P3 i j = P i j := fun i j q => by
      rw [← hP3, lw_n (by omega), lw_n (by omega), lw_n (by omega), lw_n (by omega)]
    have s3 : Sm (loS a.s sd) P3 := by
      have := Sm_o (i := 0) (j := 40) (v := P3 0 40) p1 (by omega)
      refine Sm_cn this ?_ ?_ (fun i j q => ?_)
      · rw [← hP3, lw_n (by omega), lw_n (by omega), lw_s]
      · rw [← hP3, lw_s]
      · by_cases e : i = 0 ∧ j = 40
        · rw [e.1, e.2, lw_s]
        · rw [lw_n e, fr i j (by omega)]
    have s40 : P3 0 40 = X4_nextSeed_v (X4_nextSeed_v sd) := by rw [← hP3, lw_n (by omega), lw_s]
    have s27 : P3 27 = P 27 := funext (fun j => fr 27 j (by omega))
    have sF : MF P P3 := fun i j q => fr i j (by omega)
    refine okB (m_goHours s3 VL.1 VL.2.1 VL.2.2 (n := 48) (by omega) (by omega)) ?_
    rintro P4 ⟨r1, r2, r3, -⟩
    refine okB (m_howMany r1 (Val_go VL.1 _) _) ?_
    rintro r rfl
    refine okL (okB (m_close V.1 (by rw [show P4 27 = P3 27 from funext r3, s27]; exact p2.1)) ?_)
    rintro P5 ⟨t1, t2, t3, -⟩
    refine okS ⟨⟨k + 1, rfl, by omega, ?_, t1, t2, MF_t p2.2 (MF_t sF (MF_t (MG_F r2) (MG_F t3)))⟩, mu (by omega)⟩
    simp only
    rw [t3 0 40 (by unfold lnC; omega) (by omega) (by omega) (by omega), r2 0 40 (by unfold lnC; omega) (by omega) (by omega) (by omega), s40]
    show _ = (X4_nextSeed_v (X4_nextSeed_v (loN a.s z (what + 1) k).1), w32 ((loN a.s z (what + 1) k).2 + cntS (goS 48 (loS a.s (loN a.s z (what + 1) k).1)) (what + 1)))
    rw [← e2]
    rfl
