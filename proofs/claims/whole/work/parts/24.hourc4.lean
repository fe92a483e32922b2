theorem imin_r {a b : Int} (h : a = b) : imin 99 a = imin 99 b := by rw [h]
/-- the class's hour -/
theorem c_hour {S L : LT} (h : Sc S L) (V : Val S) (F : Feel L) (hh0 : 0 ≤ S 0 1) (hh1 : S 0 1 < 100000) : Ok (X2_passHour L) (fun L' => Sc (hrS S) L' ∧ Feel L' ∧ L' 0 14 = w32 (L 0 14 + 1) ∧ (∀ j, 0 ≤ j → j < S 0 4 → L' 16 j = if S 14 j = 0 ∧ hrS S 14 j ≠ 0 then w32 (L 0 14 + 1) else L 16 j)) := by
  have hv := V.1
  unfold X2_passHour
  refine okLn (fun L2 e2 => okLn (fun c ec => ?_))
  have h2 : Sc S L2 := by rw [e2]; exact Sc_o h (by omega)
  have K2 : Kp L L2 := by rw [e2]; exact Kp_lw (by omega)
  have F2 : Feel L2 := Kp_feel K2 F
  have p2 : L2 0 14 = w32 (L 0 14 + 1) := by rw [e2, lw_s]
  have n2 : ∀ j, L2 16 j = L 16 j := fun j => by rw [e2, lw_i (by decide)]
  have hc : c = S 0 1 % 24 := by rw [ec, h2.1.2.1, jrem_nn hh0]
  have m2 : L2 0 0 = S 0 0 := h2.1.1
  have W := Val_fm V
  -- the frost
  refine okB (P := fun z => Sc (fmS S) z ∧ Kp L2 z ∧ z 0 14 = L2 0 14 ∧ (∀ j, z 16 j = L2 16 j) ∧ z 0 1 = L2 0 1) ?_ ?_
  · have up : ∀ f : Int → Int, (∀ y, 0 ≤ y → y < S 0 0 → f y = frz S y) → Sc (fmS S) (upT L2 8 f (S 0 0)) ∧ Kp L2 (upT L2 8 f (S 0 0)) ∧ upT L2 8 f (S 0 0) 0 14 = L2 0 14 ∧ (∀ j, upT L2 8 f (S 0 0) 16 j = L2 16 j) ∧ upT L2 8 f (S 0 0) 0 1 = L2 0 1 := by
      intro f hf
      refine ⟨⟨?_, fun y h0 h1 => ?_, fun t h0 h1 => ?_⟩, ⟨fun i hi j => upT_c (by omega), fun j _ _ => upT_c (by decide)⟩, upT_c (by decide), fun j => upT_c (by decide), upT_c (by decide)⟩
      · unfold fmS
        simp only [upT_c (show (0 : Nat) ≠ 8 by decide)]
        exact h2.1
      · unfold fmS
        obtain ⟨a, b, d⟩ := h2.2.1 y h0 h1
        refine ⟨by rw [upT_c (by decide), upT_c (by decide), a], by rw [upT_c (by decide), upT_c (by decide), b], ?_⟩
        by_cases hy : y < S 0 0
        · rw [upT_in h0 hy, upT_in h0 hy, hf y h0 hy]
        · rw [upT_ge (by omega), upT_ge (by omega), d]
      · unfold fmS at h1 ⊢
        rw [upT_c (by decide)] at h1
        have := h2.2.2 t h0 h1
        simp only [upT_c (show (9 : Nat) ≠ 8 by decide), upT_c (show (10 : Nat) ≠ 8 by decide), upT_c (show (11 : Nat) ≠ 8 by decide), upT_c (show (12 : Nat) ≠ 8 by decide), upT_c (show (13 : Nat) ≠ 8 by decide), upT_c (show (14 : Nat) ≠ 8 by decide)]
        exact this
    have facts : ∀ y, 0 ≤ y → y < S 0 0 → L2 8 y = S 8 y ∧ L2 17 y = X0_freezes_v (S 6 y) (S 7 y) (S 0 2) ∧ L2 18 y = X0_melts_v (S 6 y) (S 7 y) (S 0 3) ∧ (0 ≤ S 8 y ∧ S 8 y ≤ 99) ∧ (0 ≤ X0_freezes_v (S 6 y) (S 7 y) (S 0 2) ∧ X0_freezes_v (S 6 y) (S 7 y) (S 0 2) ≤ 18) ∧ (0 ≤ X0_melts_v (S 6 y) (S 7 y) (S 0 3) ∧ X0_melts_v (S 6 y) (S 7 y) (S 0 3) ≤ 18) := by
      intro y h0 h1
      obtain ⟨a, b, d⟩ := h2.2.1 y h0 (by omega)
      obtain ⟨f1, f2⟩ := F2 y h0 (by omega)
      have vy := V.2.1 y h0 (by omega)
      rw [a, b, h2.1.2.2.1] at f1
      rw [a, b, h2.1.2.2.2.1] at f2
      exact ⟨d, f1, f2, ⟨vy.2.2.2.2.1, vy.2.2.2.2.2⟩, fz_b vy.2.2.1 vy.2.2.2.1 hv.2.2.1 hv.2.2.2.1, mt_b vy.2.2.1 vy.2.2.2.1 hv.2.2.2.2.1 hv.2.2.2.2.2.1⟩
    rw [hc]
    refine okI (fun q => okB (c_freeze (by omega) (by omega)) ?_) (fun q => okI (fun q2 => okB (c_melt (by omega) (by omega)) ?_) (fun q2 => okS ?_))
    · rintro z rfl
      refine okS ?_
      rw [m2]
      refine up _ (fun y h0 h1 => ?_)
      obtain ⟨a, b, d, e, f, g⟩ := facts y h0 h1
      unfold frz
      rw [cif_t q, a, b, w32_eq (by omega) (by omega)]
    · rintro z rfl
      refine okS ?_
      rw [m2]
      refine up _ (fun y h0 h1 => ?_)
      obtain ⟨a, b, d, e, f, g⟩ := facts y h0 h1
      unfold frz
      rw [cif_f q, cif_t q2, a, d, w32_eq (by omega) (by omega)]
    · have := up (fun y => L2 8 y) (fun y h0 h1 => by
        obtain ⟨a, -⟩ := facts y h0 h1
        unfold frz
        rw [cif_f q, cif_f q2, a])
      have e : upT L2 8 (fun y => L2 8 y) (S 0 0) = L2 := by
        funext i j
        unfold upT
        split
        · rename_i hq; rw [hq.1]
        · rfl
      rw [e] at this
      exact this
  rintro M ⟨hM, KM, pM, nM, hM1⟩
  have c4 : fmS S 0 4 = S 0 4 := by unfold fmS; rw [upT_c (by decide)]
  have f14 : ∀ j, fmS S 14 j = S 14 j := fun j => by unfold fmS; rw [upT_c (by decide)]
  -- the trains
  refine okB (P := fun z => Sc (trsS (S 0 4).toNat (fmS S)) z.2 ∧ Kp L2 z.2 ∧ z.2 0 14 = L2 0 14 ∧ (∀ j, z.2 16 j = if 0 ≤ j ∧ j < S 0 4 ∧ S 14 j = 0 ∧ trsS (S 0 4).toNat (fmS S) 14 j ≠ 0 then L2 0 14 else L2 16 j) ∧ z.2 0 1 = L2 0 1) ?_ ?_
  · refine okLoop (fun s => 0 ≤ s.1 ∧ s.1 ≤ S 0 4 ∧ Sc (trsS s.1.toNat (fmS S)) s.2 ∧ Kp L2 s.2 ∧ s.2 0 14 = L2 0 14 ∧ (∀ j, s.2 16 j = if 0 ≤ j ∧ j < s.1 ∧ S 14 j = 0 ∧ trsS s.1.toNat (fmS S) 14 j ≠ 0 then L2 0 14 else L2 16 j) ∧ s.2 0 1 = L2 0 1) (fun s => (S 0 4 - s.1).toNat) ?_ ⟨Int.le_refl 0, by show 0 ≤ S 0 4; omega, (show Sc (trsS (0 : Int).toNat (fmS S)) M from hM), KM, pM, fun j => by rw [if_neg (by simp only; omega)]; exact nM j, hM1⟩
    rintro ⟨t, N⟩ ⟨t0, t1, hN, KN, pN, nN, hN1⟩
    simp only at t0 t1 hN KN pN nN hN1
    have hT : ∀ i, i ≠ 8 → i ≠ 12 → i ≠ 13 → i ≠ 14 → ∀ j, trsS t.toNat (fmS S) i j = fmS S i j := fun i a b c d j => trsS_fr _ _ _ a b c d _
    have d4 : trsS t.toNat (fmS S) 0 4 = S 0 4 := by rw [hT 0 (by decide) (by decide) (by decide) (by decide), c4]
    have VT : Val (trsS t.toNat (fmS S)) := Val_trs W _ (by omega)
    have nx : w32 (t + 1) = t + 1 := w32_eq (by omega) (by omega)
    have et : ((t.toNat : Nat) : Int) = t := Int.toNat_of_nonneg t0
    have es : (t + 1).toNat = t.toNat + 1 := by omega
    unfold X2_passHour_s1
    simp only
    rw [hN.1.2.2.2.2, d4, nx]
    refine okI (fun hlt => okG ⟨t0, by omega⟩ ?_) (fun hlt => ?_)
    · obtain ⟨-, -, -, -, -, a14⟩ := hN.2.2 t t0 (by omega)
      have s14 : trsS t.toNat (fmS S) 14 t = S 14 t := by rw [trsS_ge _ _ (by decide) _ _ (by omega), f14]
      have un : trsS (t.toNat + 1) (fmS S) = trS t (trsS t.toNat (fmS S)) := by
        show trS ((t.toNat : Nat) : Int) _ = _
        rw [et]
      rw [a14]
      refine okI (fun hz => okB (c_move hN VT t0 (by omega) hz) ?_) (fun hz => okS ⟨?_, by show (S 0 4 - (t + 1)).toNat < (S 0 4 - t).toNat; omega⟩)
      · rintro N' ⟨m1, m2', m3, m4, m5⟩
        refine okS ⟨⟨by simp only; omega, by simp only; omega, ?_, Kp_t KN m2', m3.trans pN, fun j => ?_, m5.trans hN1⟩, by show (S 0 4 - (t + 1)).toNat < (S 0 4 - t).toNat; omega⟩
        · simp only; rw [es, un]; exact m1
        · simp only
          rw [m4, es, un]
          by_cases hj : j = t
          · subst hj
            by_cases hq : trS j (trsS j.toNat (fmS S)) 14 j ≠ 0
            · rw [if_pos ⟨rfl, hq⟩, if_pos ⟨t0, by omega, by rw [← s14]; exact hz, hq⟩, pN]
            · rw [if_neg (fun z => hq z.2), if_neg (fun z => hq z.2.2.2), nN, if_neg (by omega)]
          · rw [if_neg (fun z => hj z.1), nN, trS_ot _ _ _ _ (by decide) hj]
            by_cases hq : 0 ≤ j ∧ j < t ∧ S 14 j = 0 ∧ trsS t.toNat (fmS S) 14 j ≠ 0
            · rw [if_pos hq, if_pos ⟨hq.1, by omega, hq.2.2⟩]
            · rw [if_neg hq, if_neg (fun z => hq ⟨z.1, by omega, z.2.2⟩)]
      · have ut : trsS (t.toNat + 1) (fmS S) = trsS t.toNat (fmS S) := by
          rw [un]
          unfold trS
          rw [cif_f hz]
        refine ⟨by simp only; omega, by simp only; omega, ?_, KN, pN, fun j => ?_, hN1⟩
        · simp only; rw [es, ut]; exact hN
        · simp only
          rw [es, ut, nN]
          by_cases hq : 0 ≤ j ∧ j < t ∧ S 14 j = 0 ∧ trsS t.toNat (fmS S) 14 j ≠ 0
          · rw [if_pos hq, if_pos ⟨hq.1, by omega, hq.2.2⟩]
          · rw [if_neg hq, if_neg (fun z => hq ⟨z.1, by
              by_cases hj : j = t
              · subst hj; exact absurd (s14.trans z.2.2.1) hz
              · omega, z.2.2⟩)]
    · have et : t = S 0 4 := by omega
      subst et
      exact okS ⟨hN, KN, pN, nN, hN1⟩
  rintro ⟨z1, N⟩ ⟨hN, KN, pN, nN, hN1⟩
  simp only at hN KN pN nN hN1 ⊢
  have VT : Val (trsS (S 0 4).toNat (fmS S)) := Val_trs W _ (by omega)
  have d4 : trsS (S 0 4).toNat (fmS S) 0 4 = S 0 4 := by rw [trsS_fr _ _ _ (by decide) (by decide) (by decide) (by decide), c4]
  refine okB (c_sink hN VT) ?_
  rintro O ⟨s1, s2, s3, s4, s5⟩
  refine okL (okS ?_)
  have hO1 : O 0 1 = S 0 1 := by rw [s5, hN1, h2.1.2.1]
  rw [hO1, w32_eq (x := S 0 1 + 1) (by omega) (by omega)]
  refine ⟨Sc_lw s1 (by omega), Kp_feel (Kp_t KN (Kp_t s2 (Kp_lw (by omega)))) F2, ?_, fun j j0 j1 => ?_⟩
  · rw [lw_j (by decide), s3, pN, p2]
  · rw [lw_i (by decide), s4, d4, nN, pN, p2, n2]
    have e14 : hrS S 14 j = snk (trsS (S 0 4).toNat (fmS S)) 14 j := by unfold hrS; rw [lw_i (by decide)]
    rw [e14]
    generalize hT : trsS (S 0 4).toNat (fmS S) = T at *
    have on : ∀ n : Nat, (n : Int) ≤ S 0 4 → trsS n (fmS S) 14 j = 0 → S 14 j = 0 := by
      intro n hn
      induction n with
      | zero => intro q; rw [← f14]; exact q
      | succ n ih =>
        intro q
        refine ih (by omega) ?_
        by_cases hz : trsS n (fmS S) 14 j = 0
        · exact hz
        · exfalso
          apply hz
          unfold trsS at q
          by_cases hj : j = n
          · rw [← hj] at q
            unfold trS at q
            rw [cif_f hz] at q
            exact q
          · rw [trS_ot _ _ _ _ (by decide) hj] at q
            exact q
    by_cases hp : snkP T j
    · have z0 : S 14 j = 0 := on (S 0 4).toNat (by omega) (by rw [hT]; exact hp.1)
      rw [cif_t ⟨j0, j1, hp⟩, if_pos]
      refine ⟨z0, ?_⟩
      unfold snk
      rw [cif_t ⟨rfl, j0, by rw [d4]; exact j1, hp⟩]
      decide
    · have e : snk T 14 j = T 14 j := by
        unfold snk
        rw [cif_f (fun q => hp q.2.2.2)]
      rw [cif_f (fun q => hp q.2.2), e]
      by_cases hq : S 14 j = 0 ∧ T 14 j ≠ 0
      · rw [if_pos hq, if_pos ⟨j0, j1, hq⟩]
      · rw [if_neg hq, if_neg (fun z => hq z.2.2)]
