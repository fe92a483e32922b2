/-! trainIn, stands, lowest, mean, thin, day -/
theorem Bo_rel {f : Option (Int × GG)} {m : Option (Int × LT)} {a : Ab} (Q : Int → Prop) (ha : OkA a) (u : ∀ r r', Q r → Q r' → r = r') (h1 : Ok f (fun z => Q z.1 ∧ RC a z.2)) (h2 : Ok m (fun z => Q z.1 ∧ RM a z.2)) : Bo f m := by
  obtain ⟨z, e1, q1, q2⟩ := h1
  obtain ⟨w, e2, p1, p2⟩ := h2
  exact ⟨a, z.1, ha, ⟨z, e1, rfl, q2⟩, ⟨w, e2, u _ _ p1 q1, p2⟩⟩
theorem op_trainIn : Op3 X4_trainIn X5_trainIn := by
  rintro C M ⟨a, ha, hc, hm⟩ t n what - - -
  refine Bo_op ?_
  have hm1 := RM_14 hm 0
  have V := Vs_g ha.1
  have hv := V.1.1
  unfold X4_trainIn X5_trainIn
  simp only [lt]
  unfold X5_wrongBit_v
  rw [wrN, m_in, m_isT hm1.1 ha.1.1 t]
  by_cases ht : 0 ≤ t ∧ t < a.s 0 4
  · rw [if_pos ht, if_pos (show ¬ (1 : Int) = 0 by decide)]
    refine bo_f_ (fun q => (c_noT hc t).mp q ht) ?_
    rcases out_b n 0 72 with ⟨q, q1, q2⟩ | q
    · rw [q]
      refine bo_f_ (fun z => z rfl) ?_
      by_cases hw : 0 ≤ what ∧ what ≤ 2
      · rw [if_pos hw, if_neg (show ¬ ((0 : Int) = 0 ∧ (1 : Int) = 0) by omega)]
        refine bo_ff (by omega) (by omega) ⟨a, if what = 0 then goS n.toNat a.s 14 t else if what = 1 then goS n.toNat a.s 12 t else endS a.s n.toNat t, ha, ?_, ?_⟩
        · refine okB (c_goInMind hc.1 V q1 q2) ?_
          rintro C' ⟨cf, cl⟩
          have c4 : goS n.toNat a.s 0 4 = a.s 0 4 := go_0 _ (by decide) _
          obtain ⟨-, -, -, b12, -, b14⟩ := cl.1.1.2.2 t ht.1 (by omega)
          have b16 := (cl.1.2 trivial).2 t ht.1 ht.2
          rw [b12, b14, b16]
          have g5 : gd t 5 := ⟨ht.1, by omega⟩
          refine okI (fun w => okG g5 (okS ⟨by simp only; rw [if_pos w], RC_G ha hc (CF_G cf)⟩)) (fun w => okG (fun _ => g5) (okG (fun _ => g5) (okS ⟨by simp only; rw [if_neg w], RC_G ha hc (CF_G cf)⟩)))
        · refine okB (f_open ha hm1) ?_
          rintro N ⟨n1', n2⟩
          refine okB (f_hours n1' n2 V q1 (by omega)) ?_
          rintro P ⟨p1, p2, p3⟩
          have c4 : goS n.toNat a.s 0 4 = a.s 0 4 := go_0 _ (by decide) _
          obtain ⟨-, -, -, b12, -, b14⟩ := p1.2.2 t ht.1 (by omega)
          rw [b12, b14, (p3 t ht.1 ht.2).2]
          have g5 : gd t 5 := ⟨ht.1, by omega⟩
          refine okG (fun _ => g5) (okG (fun _ _ => g5) (okG (fun _ _ => g5) (okB (f_close ha p2) ?_)))
          rintro Q ⟨r1, r2, -⟩
          exact okS ⟨rfl, IM_RM r2 hm1 r1⟩
      · rw [if_neg hw, if_pos (show (0 : Int) = 0 ∧ (0 : Int) = 0 by omega)]
        exact bo_tt (by omega) (by decide) (Bo_ref ha hc hm1 (by decide))
    · rw [if_neg (show ¬ (X4_outside_v n 0 72 = 0 ∧ _) by omega)]
      exact bo_tt (by omega) (by omega) (Bo_ref ha hc hm1 (by omega))
  · rw [if_neg ht, if_neg (show ¬ ¬ (0 : Int) = 0 by decide), if_neg (show ¬ ((-1 : Int) = 0 ∧ _) by omega)]
    exact bo_tt ((c_noT hc t).mpr ht) (by decide) (Bo_ref ha hc hm1 (by decide))
theorem sto_stop {S : LT} {t : Int} {m : Nat} (h : goS m S 14 t ≠ 0) : ∀ n, m ≤ n → stoS S n t = stoS S m t := by
  intro n hn
  obtain ⟨k, rfl⟩ : ∃ k, n = m + k := ⟨n - m, by omega⟩
  induction k with
  | zero => rfl
  | succ k ih =>
    show stoS S (m + k) t + cif (stdS (goS (m + k) S) t) 1 0 = _
    rw [ih (by omega), cif_f]
    · omega
    · intro q
      have := q.1
      rw [(go_off h (m + k) (by omega)).1] at this
      exact h this
theorem op_stands : Op1 X4_stands X5_stands := by
  rintro C M ⟨a, ha, hc, hm⟩ t -
  refine Bo_op (ck_t ha hc hm (fun hm1 t0 t1 => ?_))
  have V := Vs_g ha.1
  have hv := V.1.1
  refine ⟨a, stoS a.s 72 t, ha, ?_, ?_⟩
  · refine okB (c_mind hc.1 V.1) ?_
    intro L hL
    refine okL ?_
    simp only [gs_at]
    refine okB (c_feelP hL V.1) ?_
    intro L2 hL2
    refine okL ?_
    simp only [gs_gs]
    refine okB (P := fun z => z.1 = stoS a.s 72 t ∧ CF C z.2.2) ?_ (fun z q => okS ⟨q.1, RC_G ha hc (CF_G q.2)⟩)
    refine okLoop (fun s => ∃ k : Nat, s.2.1 = (k : Int) ∧ k ≤ 72 ∧ s.1 = stoS a.s k t ∧ stpN a.s t k = k ∧ CL a.s k True (s.2.2 1 1) ∧ CF C s.2.2) (fun s => (72 - s.2.1).toNat) ?_ ⟨0, rfl, by omega, rfl, rfl, by simp only [gs_at]; exact hL2, CF_gs C L2⟩
    rintro ⟨c, k', D⟩ ⟨k, e1, hk, e2, hs, hD, cf⟩
    simp only at e1 e2 hD cf
    subst e1
    subst e2
    unfold X4_stands_s1
    simp only
    have c4 : goS k a.s 0 4 = a.s 0 4 := go_0 _ (by decide) _
    obtain ⟨-, -, -, b12, b13, b14⟩ := hD.1.1.2.2 t t0 (by omega)
    have g5 : gd t 5 := ⟨t0, by omega⟩
    have sb := sto_b a.s t k
    simp only [b12, b13, b14]
    rw [w32_eq (x := (k : Int) + 1) (by omega) (by omega), w32_eq (x := stoS a.s k t + 1) (by omega) (by omega)]
    refine okG (fun _ => g5) (okI (fun q => okG g5 (okL (okL (okB (c_step hD V.1 V.2.1 V.2.2 (by omega)) ?_)))) (fun q => okS ?_))
    · intro L3 h3
      refine okL ?_
      have d4 : goS (k + 1) a.s 0 4 = a.s 0 4 := go_0 _ (by decide) _
      obtain ⟨-, -, -, c12, -, c14⟩ := h3.1.1.2.2 t t0 (by omega)
      simp only [gs_at]
      rw [c12, c14]
      have mu : (72 - ((k : Int) + 1)).toNat < (72 - (k : Int)).toNat := by omega
      have st : ((if 0 < goS k a.s 13 t then (1 : Int) else 0) = 0 ∧ ¬ goS (k + 1) a.s 14 t = 1) ∧ goS (k + 1) a.s 12 t = goS k a.s 12 t ↔ stdS (goS k a.s) t := by
        unfold stdS
        show _ ↔ goS k a.s 14 t = 0 ∧ ¬ 0 < goS k a.s 13 t ∧ goS (k + 1) a.s 12 t = goS k a.s 12 t ∧ goS (k + 1) a.s 14 t ≠ 1
        by_cases w : 0 < goS k a.s 13 t
        · rw [if_pos w]; exact ⟨fun z => absurd z.1.1 (by decide), fun z => absurd w z.2.1⟩
        · rw [if_neg w]; exact ⟨fun z => ⟨q.2, w, z.2, z.1.2⟩, fun z => ⟨⟨rfl, z.2.2.2⟩, z.2.2.1⟩⟩
      refine okI (fun w => okS ⟨⟨k + 1, rfl, by omega, ?_, stpN_on hs q.2, by simp only [gs_at]; exact h3, CF_t cf (CF_gs D L3)⟩, mu⟩) (fun w => okS ⟨⟨k + 1, rfl, by omega, ?_, stpN_on hs q.2, by simp only [gs_at]; exact h3, CF_t cf (CF_gs D L3)⟩, mu⟩)
      · show _ = stoS a.s k t + cif (stdS (goS k a.s) t) 1 0
        rw [cif_t (st.mp w)]
      · show _ = stoS a.s k t + cif (stdS (goS k a.s) t) 1 0
        rw [cif_f (fun z => w (st.mpr z))]
        show stoS a.s k t = _
        omega
    · refine ⟨?_, cf⟩
      show stoS a.s k t = _
      by_cases e : k = 72
      · rw [e]
      · exact (sto_stop (fun z => q ⟨by omega, z⟩) 72 hk).symm
  · refine okB (f_open ha hm1) ?_
    rintro N ⟨n1', n2⟩
    refine okB (f_hours n1' n2 V (n := 72) (by omega) (by omega)) ?_
    rintro P ⟨p1, p2, p3⟩
    refine okB (f_close ha p2) ?_
    rintro Q ⟨r1, r2, r3, -⟩
    refine okG ⟨t0, by omega⟩ (okS ⟨?_, IM_RM r2 hm1 r1⟩)
    show Q 17 t = _
    rw [r3 t, (p3 t t0 t1).1]
    rfl
