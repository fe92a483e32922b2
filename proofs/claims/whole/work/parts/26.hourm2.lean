theorem m_train {S M : LT} (h : Sm S M) (V : Val S) {t : Int} (t0 : 0 ≤ t) (t1 : t < S 0 4) (hw : S 14 t = 0) : Ok (X5_trainOn M t) (fun M' => Sm (trS t S) M' ∧ MK M M' ∧ M' 0 4 = M 0 4 ∧ (∀ j, j ≠ t → M' 17 j = M 17 j) ∧ (0 < S 13 t → M' 17 t = M 17 t) ∧ (¬ 0 < S 13 t → M' 17 t = w32 (M 17 t + cif (stT S (trS t S) t) 1 0))) := by
  have hv := V.1
  obtain ⟨-, -, -, -, a13, a14⟩ := h.2.2 t t0 t1
  have bd0 := V.2.2 t t0 t1
  unfold X5_trainOn
  refine okG ⟨t0, by omega⟩ (okI (fun hc => okL (okS ?_)) (fun hc => ?_))
  · rw [a13] at hc
    have e : trS t S = lw S 13 t (S 13 t - 1) := by unfold trS; rw [cif_t hw, cif_t hc]
    rw [e, a13, w32_eq (by omega) (by omega)]
    exact ⟨Sm_lw h (by omega), MK_lw (by omega), lw_i (by decide), fun j _ => lw_i (by decide), fun _ => lw_i (by decide), fun q => absurd hc q⟩
  · rw [a13] at hc
    have e : trS t S = mvS t (S 11 t).toNat S := by unfold trS; rw [cif_t hw, cif_f hc]
    rw [e]
    generalize hT : mvS t (S 11 t).toNat S = T
    refine okB (P := fun z => Sm T z.2.2.2 ∧ MK M z.2.2.2 ∧ z.2.2.2 0 4 = M 0 4 ∧ (∀ j, z.2.2.2 17 j = M 17 j) ∧ (z.1 = 0 ↔ stT S T t)) ?_ ?_
    · refine okLoop (fun s => ∃ S' : LT, Sm S' s.2.2.2 ∧ Val S' ∧ S' 0 4 = S 0 4 ∧ S' 11 t = S 11 t ∧ 0 ≤ s.2.2.1 ∧ s.2.2.1 ≤ S 11 t ∧ 0 ≤ s.1 ∧ s.1 ≤ s.2.2.1 ∧ MK M s.2.2.2 ∧ s.2.2.2 0 4 = M 0 4 ∧ (∀ j, s.2.2.2 17 j = M 17 j) ∧ ((s.2.1 = 1 ∧ S' 14 t = 0 ∧ mvS t (S 11 t - s.2.2.1).toNat S' = T) ∨ (s.2.1 = 0 ∧ S' = T)) ∧ (s.1 = 0 ↔ stT S S' t) ∧ S 12 t ≤ S' 12 t) (fun s => (S 11 t - s.2.2.1).toNat) ?_ ?_
      · rintro ⟨gone, goes, k, N⟩ ⟨S', hS, V', c4, c11, k0, k1, n0, n1, hk, hp, h17, hor, hg, hat⟩
        simp only at hS k0 k1 n0 n1 hk hp h17 hor hg
        have hv' := V'.1
        have t1' : t < S' 0 4 := by omega
        obtain ⟨b9, b10, b11, b12, b13, b14⟩ := hS.2.2 t t0 t1'
        have bd := V'.2.2 t t0 t1'
        have nx : w32 (k + 1) = k + 1 := w32_eq (by omega) (by omega)
        have ng : w32 (gone + 1) = gone + 1 := w32_eq (by omega) (by omega)
        unfold X5_trainOn_s1
        simp only
        rw [b11, c11, b12, b9, w32_eq (x := S' 12 t + 1) (by omega) (by omega), hS.1.1, nx, ng]
        refine okI (fun hlt => ?_) (fun hlt => ?_)
        · obtain ⟨hlt, hgo⟩ := hlt
          rcases hor with ⟨hg1, c14, hm⟩ | ⟨hg0, -⟩
          rotate_left
          · exact absurd hg0 hgo
          have mu : (S 11 t - (k + 1)).toNat < (S 11 t - k).toNat := by omega
          refine okL (okI (fun hge => ?_) (fun hge => ?_))
          · have em : T = lw S' 14 t 1 := by
              rw [← hm, show (S 11 t - k).toNat = (S 11 t - k - 1).toNat + 1 by omega]
              unfold mvS
              rw [cif_t hge]
            refine okL (okS ⟨⟨T, ?_, ?_, ?_, ?_, by simp only; omega, by simp only; omega, by simp only; omega, by simp only; omega, MK_t hk (MK_lw (by omega)), ?_, fun j => ?_, Or.inr ⟨rfl, rfl⟩, ?_, ?_⟩, mu⟩)
            · rw [em]; exact Sm_lw hS (by omega)
            · rw [em]; exact Val_lw V' (by omega)
            · rw [em, lw_i (by decide)]; exact c4
            · rw [em, lw_i (by decide)]; exact c11
            · simp only; rw [lw_i (by decide), hp]
            · simp only; rw [lw_i (by decide), h17]
            · simp only
              refine ⟨fun q => by omega, fun q => ?_⟩
              exfalso
              apply q.2
              rw [em, lw_s]
            · rw [em, lw_i (by decide)]; exact hat
          · have y0 : 0 ≤ S' 12 t + 1 := by omega
            have y1 : S' 12 t + 1 < 16 := by omega
            obtain ⟨q6, q7, q8⟩ := hS.2.1 _ y0 y1
            have eb : X5_bears_v N (S' 12 t + 1) (S' 9 t) = if wantS S' (S' 12 t + 1) (S' 9 t) ≤ S' 8 (S' 12 t + 1) then 1 else 0 := by
              unfold X5_bears_v
              rw [x5_wants, q6, q7, q8]
              rfl
            have stay : ¬ (wantS S' (S' 12 t + 1) (S' 9 t) ≤ S' 8 (S' 12 t + 1) ∧ ¬ takenS S' (S' 12 t + 1)) → T = S' := by
              intro hno
              rw [← hm, mvS_no hge hno]
            have fin : T = S' → LpQ (fun s : Int × Int × Int × LT => ∃ S' : LT, Sm S' s.2.2.2 ∧ Val S' ∧ S' 0 4 = S 0 4 ∧ S' 11 t = S 11 t ∧ 0 ≤ s.2.2.1 ∧ s.2.2.1 ≤ S 11 t ∧ 0 ≤ s.1 ∧ s.1 ≤ s.2.2.1 ∧ MK M s.2.2.2 ∧ s.2.2.2 0 4 = M 0 4 ∧ (∀ j, s.2.2.2 17 j = M 17 j) ∧ ((s.2.1 = 1 ∧ S' 14 t = 0 ∧ mvS t (S 11 t - s.2.2.1).toNat S' = T) ∨ (s.2.1 = 0 ∧ S' = T)) ∧ (s.1 = 0 ↔ stT S S' t) ∧ S 12 t ≤ S' 12 t) (fun s => (S 11 t - s.2.2.1).toNat) (S 11 t - k).toNat (fun z : Int × Int × Int × LT => Sm T z.2.2.2 ∧ MK M z.2.2.2 ∧ z.2.2.2 0 4 = M 0 4 ∧ (∀ j, z.2.2.2 17 j = M 17 j) ∧ (z.1 = 0 ↔ stT S T t)) (Sum.inl ((gone, 0, k + 1, N) : Int × Int × Int × LT)) := by
              intro hTS
              exact ⟨⟨S', hS, V', c4, c11, by simp only; omega, by simp only; omega, n0, by simp only; omega, hk, hp, h17, Or.inr ⟨rfl, hTS.symm⟩, hg, hat⟩, mu⟩
            rw [eb]
            refine okG ⟨⟨y0, y1⟩, ⟨y0, y1⟩⟩ (okI (fun hb => okB (m_free (t := t) hS V' y0 y1 (by omega)) ?_) (fun hb => okS (fin (stay (fun q => hb ?_)))))
            · have hb' : wantS S' (S' 12 t + 1) (S' 9 t) ≤ S' 8 (S' 12 t + 1) := by
                by_cases q : wantS S' (S' 12 t + 1) (S' 9 t) ≤ S' 8 (S' 12 t + 1)
                · exact q
                · rw [if_neg q] at hb; exact absurd rfl hb
              rintro r (⟨rfl, ht⟩ | ⟨rfl, ht⟩)
              · exact okF (by decide) (okS (fin (stay (fun q => q.2 ht))))
              · refine okT (by decide) (okL (okG ⟨y0, y1⟩ (okL (okS ⟨⟨lw (lw S' 12 t (S' 12 t + 1)) 8 (S' 12 t + 1) (imax 0 (S' 8 (S' 12 t + 1) - S' 10 t)), ?_, ?_, ?_, ?_, by simp only; omega, by simp only; omega, by simp only; omega, by simp only; omega, MK_t hk (MK_t (MK_lw (by omega)) (MK_lw (by omega))), ?_, fun j => ?_, Or.inl ⟨hg1, ?_, ?_⟩, ?_, ?_⟩, mu⟩))))
                · have e8 : lw N 12 t (S' 12 t + 1) 4 (S' 12 t + 1) = S' 8 (S' 12 t + 1) := by rw [lw_i (by decide), q8]
                  have e10 : lw N 12 t (S' 12 t + 1) 10 t = S' 10 t := by rw [lw_i (by decide), b10]
                  have by' := V'.2.1 _ y0 y1
                  simp only
                  rw [e8, e10, w32_eq (x := S' 8 (S' 12 t + 1) - S' 10 t) (by omega) (by omega), held_v]
                  have em : imin 99 (S' 8 (S' 12 t + 1) - S' 10 t) = S' 8 (S' 12 t + 1) - S' 10 t := by
                    unfold imin
                    split
                    · rfl
                    · omega
                  rw [em]
                  exact Sm_lw (Sm_lw hS (by omega)) (by omega)
                · have by' := V'.2.1 _ y0 y1
                  refine Val_lw (Val_lw V' (by omega)) ?_
                  unfold imax
                  split <;> omega
                · rw [lw_i (by decide), lw_i (by decide)]; exact c4
                · rw [lw_i (by decide), lw_i (by decide)]; exact c11
                · simp only; rw [lw_i (by decide), lw_i (by decide), hp]
                · simp only; rw [lw_i (by decide), lw_i (by decide), h17]
                · rw [lw_i (by decide), lw_i (by decide)]; exact c14
                · simp only
                  rw [← hm, show (S 11 t - k).toNat = (S 11 t - (k + 1)).toNat + 1 by omega]
                  conv => rhs; unfold mvS
                  rw [cif_f hge, cif_t ⟨hb', ht⟩]
                · simp only
                  refine ⟨fun q => by omega, fun q => ?_⟩
                  exfalso
                  have := q.1
                  rw [lw_i (by decide), lw_s] at this
                  omega
                · rw [lw_i (by decide), lw_s]; omega
            · rw [if_pos q.1]; decide
        · refine okS ?_
          have hTS : S' = T := by
            rcases hor with ⟨hg1, c14, hm⟩ | ⟨-, q⟩
            · have : ¬ k < S 11 t := fun q => hlt ⟨q, by rw [hg1]; decide⟩
              rw [show (S 11 t - k).toNat = 0 by omega] at hm
              exact hm
            · exact q
          rw [← hTS]
          exact ⟨hS, hk, hp, h17, hg⟩
      · refine ⟨S, h, V, rfl, rfl, Int.le_refl 0, by show 0 ≤ S 11 t; omega, Int.le_refl 0, Int.le_refl 0, MK_r M, rfl, fun _ => rfl, Or.inl ⟨rfl, hw, by simp only [Int.sub_zero]; exact hT⟩, ⟨fun _ => ⟨rfl, by rw [hw]; decide⟩, fun _ => rfl⟩, Int.le_refl _⟩
    · rintro ⟨gone, goes, k, N⟩ ⟨hS, hk, hp, h17, hg⟩
      simp only at hS hk hp h17 hg ⊢
      refine okL (okS ⟨Sm_o hS (by omega), MK_t hk (MK_lw (by omega)), by rw [lw_i (by decide)]; exact hp, fun j hj => by rw [lw_j hj, h17], fun q => absurd q hc, fun _ => ?_⟩)
      rw [lw_s, h17]
      by_cases q : gone = 0
      · rw [if_pos q, cif_t (hg.mp q)]
      · rw [if_neg q, cif_f (fun z => q (hg.mpr z))]
