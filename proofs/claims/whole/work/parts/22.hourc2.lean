theorem c_taken {S L : LT} (h : Sc S L) (V : Val S) {y : Int} (y0 : 0 ≤ y) (y1 : y < 16) : Ok (X2_isTaken L y) (fun r => (r = 1 ∧ takenS S y) ∨ (r = 0 ∧ ¬ takenS S y)) := by
  obtain ⟨⟨e0, e1, e2, e3, e4⟩, ey, et⟩ := h
  have v := V.1
  obtain ⟨k6, k7, k8⟩ := ey y y0 y1
  unfold X2_isTaken
  refine okG ⟨y0, y1⟩ (okI (fun hc => okS (Or.inr ⟨rfl, fun q => ?_⟩)) (fun hc => ?_))
  · rw [k6] at hc
    rcases hc with hc | hc
    · exact q.1 hc
    · exact q.2.1 hc
  · rw [k6] at hc
    have n3 : S 6 y ≠ 3 := fun q => hc (Or.inl q)
    have n4 : S 6 y ≠ 4 := fun q => hc (Or.inr q)
    refine okB (P := fun o => (∃ z, o = Sum.inl z ∧ ¬ takenS S y) ∨ (o = Sum.inr 1 ∧ takenS S y)) ?_ ?_
    · refine okLoop (fun s => 0 ≤ s ∧ s ≤ S 0 4 ∧ ∀ t, 0 ≤ t → t < s → ¬ (S 14 t = 0 ∧ S 12 t = y)) (fun s => (S 0 4 - s).toNat) ?_ ⟨by omega, by omega, fun t h0 h1 => by omega⟩
      rintro t ⟨t0, t1, hn⟩
      unfold X2_isTaken_s1
      rw [e4]
      refine okI (fun hlt => okG ⟨t0, by omega⟩ ?_) (fun hlt => okS ?_)
      · obtain ⟨-, -, -, a12, -, a14⟩ := et t t0 hlt
        rw [a12, a14]
        refine okI (fun q => okS (Or.inr ⟨rfl, n3, n4, t, t0, hlt, q⟩)) (fun q => okS ⟨⟨?_, ?_, ?_⟩, ?_⟩)
        · rw [w32_eq (by omega) (by omega)]; omega
        · rw [w32_eq (by omega) (by omega)]; omega
        · intro t' h0 h1
          rw [w32_eq (by omega) (by omega)] at h1
          by_cases ht : t' = t
          · subst ht; exact q
          · exact hn t' h0 (by omega)
        · show (S 0 4 - w32 (t + 1)).toNat < (S 0 4 - t).toNat
          rw [w32_eq (by omega) (by omega)]; omega
      · refine Or.inl ⟨t, rfl, fun q => ?_⟩
        obtain ⟨-, -, t', h0, h1, h2⟩ := q
        exact hn t' h0 (by omega) h2
    · rintro o (⟨z, rfl, hz⟩ | ⟨rfl, hz⟩)
      · exact okS (Or.inr ⟨rfl, hz⟩)
      · exact okS (Or.inl ⟨rfl, hz⟩)
theorem Sc_lw {S L : LT} (h : Sc S L) {i : Nat} {j v : Int} (hi : i = 6 ∨ i = 7 ∨ i = 8 ∨ i = 9 ∨ i = 10 ∨ i = 11 ∨ i = 12 ∨ i = 13 ∨ i = 14 ∨ i = 0 ∧ j ≠ 4) : Sc (lw S i j v) (lw L i j v) := by
  obtain ⟨⟨e0, e1, e2, e3, e4⟩, ey, et⟩ := h
  refine ⟨?_, fun y h0 h1 => ?_, fun t h0 h1 => ?_⟩
  · unfold lw
    refine ⟨?_, ?_, ?_, ?_, ?_⟩ <;> split <;> first | rfl | assumption
  · obtain ⟨a, b, c⟩ := ey y h0 h1
    unfold lw
    refine ⟨?_, ?_, ?_⟩ <;> split <;> first | rfl | assumption
  · have ht : t < S 0 4 := by
      unfold lw at h1
      split at h1 <;> omega
    obtain ⟨a, b, c, d, e, f⟩ := et t h0 ht
    unfold lw
    refine ⟨?_, ?_, ?_, ?_, ?_, ?_⟩ <;> split <;> first | rfl | assumption
/-- what a line has beside its numbers stays -/
theorem Sc_o {S L : LT} (h : Sc S L) {i : Nat} {j v : Int} (hi : i = 16 ∨ i = 17 ∨ i = 18 ∨ i = 0 ∧ j = 14) : Sc S (lw L i j v) := by
  obtain ⟨⟨e0, e1, e2, e3, e4⟩, ey, et⟩ := h
  refine ⟨?_, fun y h0 h1 => ?_, fun t h0 h1 => ?_⟩
  · unfold lw
    refine ⟨?_, ?_, ?_, ?_, ?_⟩ <;> rw [if_neg (by omega)] <;> assumption
  · have := ey y h0 h1
    unfold lw
    rw [if_neg (by omega), if_neg (by omega), if_neg (by omega)]
    exact this
  · have := et t h0 h1
    unfold lw
    rw [if_neg (by omega), if_neg (by omega), if_neg (by omega), if_neg (by omega), if_neg (by omega), if_neg (by omega)]
    exact this
/-- beside its numbers: kinds, weather, what was felt, the clock of the mind -/
def Kp (L L' : LT) : Prop := (∀ i, i = 6 ∨ i = 7 ∨ i = 17 ∨ i = 18 → ∀ j, L' i j = L i j) ∧ ∀ j, j ≠ 1 → j ≠ 14 → L' 0 j = L 0 j
theorem Kp_r (L : LT) : Kp L L := ⟨fun _ _ _ => rfl, fun _ _ _ => rfl⟩
theorem Kp_t {A B C : LT} (h1 : Kp A B) (h2 : Kp B C) : Kp A C := ⟨fun i hi j => (h2.1 i hi j).trans (h1.1 i hi j), fun j a b => (h2.2 j a b).trans (h1.2 j a b)⟩
theorem Kp_lw {L : LT} {i : Nat} {j v : Int} (h : i = 8 ∨ i = 12 ∨ i = 13 ∨ i = 14 ∨ i = 16 ∨ i = 0 ∧ (j = 1 ∨ j = 14)) : Kp L (lw L i j v) := by
  refine ⟨fun i' hi j' => ?_, fun j' h1 h2 => ?_⟩
  · unfold lw; rw [if_neg (by omega)]
  · unfold lw; rw [if_neg (by omega)]
theorem Kp_feel {L L' : LT} (h : Kp L L') (f : Feel L) : Feel L' := by
  intro y h0 h1
  rw [h.2 0 (by decide) (by decide)] at h1
  rw [h.1 17 (by omega), h.1 18 (by omega), h.1 6 (by omega), h.1 7 (by omega), h.2 2 (by decide) (by decide), h.2 3 (by decide) (by decide)]
  exact f y h0 h1
theorem mvS_no {t : Int} {S : LT} {k : Nat} (h1 : ¬ S 0 0 ≤ S 12 t + 1) (h2 : ¬ (wantS S (S 12 t + 1) (S 9 t) ≤ S 8 (S 12 t + 1) ∧ ¬ takenS S (S 12 t + 1))) : mvS t k S = S := by
  cases k with
  | zero => rfl
  | succ k => unfold mvS; rw [cif_f h1, cif_f h2]
/-- a train's turn -/
theorem c_move {S L : LT} (h : Sc S L) (V : Val S) {t : Int} (t0 : 0 ≤ t) (t1 : t < S 0 4) (hw : S 14 t = 0) : Ok (X2_moveTrain L t) (fun L' => Sc (trS t S) L' ∧ Kp L L' ∧ L' 0 14 = L 0 14 ∧ (∀ j, L' 16 j = if j = t ∧ trS t S 14 t ≠ 0 then L 0 14 else L 16 j) ∧ L' 0 1 = L 0 1) := by
  have hv := V.1
  obtain ⟨-, -, -, -, a13, a14⟩ := h.2.2 t t0 t1
  unfold X2_moveTrain
  refine okG ⟨t0, by omega⟩ (okI (fun hc => okL (okS ?_)) (fun hc => ?_))
  · rw [a13] at hc
    have e : trS t S = lw S 13 t (S 13 t - 1) := by unfold trS; rw [cif_t hw, cif_t hc]
    have b := V.2.2 t t0 t1
    rw [e, a13, w32_eq (by omega) (by omega)]
    refine ⟨Sc_lw h (by omega), Kp_lw (by omega), lw_i (by decide), fun j => ?_, lw_i (by decide)⟩
    rw [lw_i (by decide), lw_i (by decide), hw, if_neg (by simp)]
  · rw [a13] at hc
    have e : trS t S = mvS t (S 11 t).toNat S := by unfold trS; rw [cif_t hw, cif_f hc]
    rw [e]
    refine okB (P := fun o => ∃ L', (o = Sum.inr L' ∨ ∃ k, o = Sum.inl (k, L')) ∧ Sc (mvS t (S 11 t).toNat S) L' ∧ Kp L L' ∧ L' 0 14 = L 0 14 ∧ (∀ j, L' 16 j = if j = t ∧ mvS t (S 11 t).toNat S 14 t ≠ 0 then L 0 14 else L 16 j) ∧ L' 0 1 = L 0 1) ?_ ?_
    · refine okLoop (fun s => ∃ S' : LT, Sc S' s.2 ∧ Val S' ∧ S' 0 4 = S 0 4 ∧ S' 11 t = S 11 t ∧ S' 14 t = 0 ∧ 0 ≤ s.1 ∧ s.1 ≤ S 11 t ∧ mvS t (S 11 t - s.1).toNat S' = mvS t (S 11 t).toNat S ∧ Kp L s.2 ∧ s.2 0 14 = L 0 14 ∧ (∀ j, s.2 16 j = L 16 j) ∧ s.2 0 1 = L 0 1) (fun s => (S 11 t - s.1).toNat) ?_ ?_
      · rintro ⟨k, M⟩ ⟨S', hS, V', c4, c11, c14, k0, k1, hm, hk, hp, h16, hh⟩
        simp only at hS k0 k1 hm hk hp h16 hh
        have hv' := V'.1
        have t1' : t < S' 0 4 := by omega
        obtain ⟨b9, b10, b11, b12, b13, b14⟩ := hS.2.2 t t0 t1'
        have bd := V'.2.2 t t0 t1'
        unfold X2_moveTrain_s1
        simp only
        rw [b11, c11, b12, b9, w32_eq (x := S' 12 t + 1) (by omega) (by omega), hS.1.1]
        refine okI (fun hlt => okL (okI (fun hge => ?_) (fun hge => ?_))) (fun hlt => ?_)
        · -- beyond the line
          have em : mvS t (S 11 t).toNat S = lw S' 14 t 1 := by
            rw [← hm, show (S 11 t - k).toNat = (S 11 t - k - 1).toNat + 1 by omega]
            unfold mvS
            rw [cif_t hge]
          refine okL (okL (okS ⟨_, Or.inl rfl, ?_⟩))
          rw [em]
          refine ⟨Sc_o (Sc_lw hS (by omega)) (by omega), Kp_t hk (Kp_t (Kp_lw (by omega)) (Kp_lw (by omega))), ?_, fun j => ?_, ?_⟩
          · rw [lw_i (by decide), lw_i (by decide), hp]
          · by_cases hj : j = t
            · subst hj
              rw [lw_s, lw_s, if_pos ⟨rfl, by decide⟩, lw_i (by decide), hp]
            · rw [lw_j hj, lw_i (by decide), h16, if_neg (fun q => hj q.1)]
          · rw [lw_i (by decide), lw_i (by decide), hh]
        · have y0 : 0 ≤ S' 12 t + 1 := by omega
          have y1 : S' 12 t + 1 < 16 := by omega
          obtain ⟨q6, q7, q8⟩ := hS.2.1 _ y0 y1
          have stay : ¬ (wantS S' (S' 12 t + 1) (S' 9 t) ≤ S' 8 (S' 12 t + 1) ∧ ¬ takenS S' (S' 12 t + 1)) → Sc (mvS t (S 11 t).toNat S) M ∧ Kp L M ∧ M 0 14 = L 0 14 ∧ (∀ j, M 16 j = if j = t ∧ mvS t (S 11 t).toNat S 14 t ≠ 0 then L 0 14 else L 16 j) ∧ M 0 1 = L 0 1 := by
            intro hno
            rw [← hm, mvS_no hge hno]
            refine ⟨hS, hk, hp, fun j => ?_, hh⟩
            rw [if_neg (fun q => q.2 c14)]
            exact h16 j
          refine okG ⟨y0, y1⟩ ?_
          rw [q6, q7, q8]
          refine okI (fun hl => okS ⟨_, Or.inl rfl, stay (fun q => ?_)⟩) (fun hl => okB (c_taken hS V' y0 y1) ?_)
          · have := q.1
            unfold wantS at this
            omega
          · rintro r (⟨rfl, ht⟩ | ⟨rfl, ht⟩)
            · exact okT (by decide) (okS ⟨_, Or.inl rfl, stay (fun q => q.2 ht)⟩)
            · refine okF (by decide) (okL (okL (okS ⟨⟨lw (lw S' 12 t (S' 12 t + 1)) 8 (S' 12 t + 1) (imax 0 (S' 8 (S' 12 t + 1) - S' 10 t)), ?_, ?_, ?_, ?_, ?_, ?_, ?_, ?_, ?_, ?_, ?_, ?_⟩, ?_⟩)))
              · have e8 : lw M 12 t (S' 12 t + 1) 8 (S' 12 t + 1) = S' 8 (S' 12 t + 1) := by rw [lw_i (by decide), q8]
                have e10 : lw M 12 t (S' 12 t + 1) 10 t = S' 10 t := by rw [lw_i (by decide), b10]
                have by' := V'.2.1 _ y0 y1
                simp only
                rw [e8, e10, w32_eq (x := S' 8 (S' 12 t + 1) - S' 10 t) (by omega) (by omega)]
                exact Sc_lw (Sc_lw hS (by omega)) (by omega)
              · have by' := V'.2.1 _ y0 y1
                refine Val_lw (Val_lw V' (by omega)) ?_
                unfold imax
                split <;> omega
              · rw [lw_i (by decide), lw_i (by decide)]; exact c4
              · rw [lw_i (by decide), lw_i (by decide)]; exact c11
              · rw [lw_i (by decide), lw_i (by decide)]; exact c14
              · simp only; rw [w32_eq (by omega) (by omega)]; omega
              · simp only; rw [w32_eq (by omega) (by omega)]; omega
              · simp only
                rw [w32_eq (x := k + 1) (by omega) (by omega), ← hm, show (S 11 t - k).toNat = (S 11 t - (k + 1)).toNat + 1 by omega]
                conv => rhs; unfold mvS
                rw [cif_f hge, cif_t ⟨by unfold wantS; omega, ht⟩]
              · exact Kp_t hk (Kp_t (Kp_lw (by omega)) (Kp_lw (by omega)))
              · simp only; rw [lw_i (by decide), lw_i (by decide), hp]
              · intro j; simp only; rw [lw_i (by decide), lw_i (by decide), h16]
              · simp only; rw [lw_i (by decide), lw_i (by decide), hh]
              · simp only; rw [w32_eq (by omega) (by omega)]; omega
        · refine okS ⟨M, Or.inr ⟨k, rfl⟩, ?_⟩
          have em : mvS t (S 11 t).toNat S = S' := by
            rw [← hm, show (S 11 t - k).toNat = 0 by omega]
            rfl
          rw [em]
          refine ⟨hS, hk, hp, fun j => ?_, hh⟩
          rw [if_neg (fun q => q.2 c14)]
          exact h16 j
      · have b := V.2.2 t t0 t1
        exact ⟨S, h, V, rfl, rfl, hw, by omega, by simp only; omega, by simp, Kp_r L, rfl, fun _ => rfl, rfl⟩
    · rintro o ⟨L', ho, hL⟩
      rcases ho with rfl | ⟨k, rfl⟩
      · exact okS hL
      · exact okS hL
