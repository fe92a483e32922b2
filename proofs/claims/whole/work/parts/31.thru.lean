/-! How many; until a train is through -/
def cntN (S : LT) (st : Int) : Nat → Int
  | 0 => 0
  | k + 1 => cntN S st k + (if S 14 k = st then 1 else 0)
def cntS (S : LT) (st : Int) : Int := cntN S st (S 0 4).toNat
theorem cnt_b (S : LT) (st : Int) : ∀ k : Nat, 0 ≤ cntN S st k ∧ cntN S st k ≤ k
  | 0 => ⟨Int.le_refl 0, Int.le_refl 0⟩
  | k + 1 => by
    have := cnt_b S st k
    unfold cntN
    split <;> omega
theorem cntS_b {S : LT} (V : Val S) (st : Int) : 0 ≤ cntS S st ∧ cntS S st ≤ 5 := by
  have h := V.1
  have := cnt_b S st (S 0 4).toNat
  unfold cntS
  omega
theorem cnt_c {S S' : LT} {st : Int} : ∀ {k : Nat}, (∀ t : Nat, t < k → (S 14 t = st ↔ S' 14 t = st)) → cntN S st k = cntN S' st k
  | 0, _ => rfl
  | k + 1, h => by
    unfold cntN
    rw [cnt_c (k := k) (fun t q => h t (by omega))]
    have := h k (by omega)
    by_cases e : S 14 k = st
    · rw [if_pos e, if_pos (this.mp e)]
    · rw [if_neg e, if_neg (fun z => e (this.mpr z))]
theorem cntS_c {S S' : LT} {st : Int} (V : Val S) (h4 : S' 0 4 = S 0 4) (h : ∀ t, 0 ≤ t → t < S 0 4 → (S 14 t = st ↔ S' 14 t = st)) : cntS S st = cntS S' st := by
  unfold cntS
  rw [h4]
  exact cnt_c (fun t q => h t (by omega) (by have := V.1; omega))
theorem m_howMany {S M : LT} (h : Sm S M) (V : Val S) (st : Int) : Ok (X5_howMany M st) (fun r => r = cntS S st) := by
  have hv := V.1
  unfold X5_howMany
  refine okB (P := fun z => z.1 = cntS S st) ?_ (fun z q => okS q)
  refine okLoop (fun s => ∃ q : Nat, s.1 = cntN S st q ∧ s.2 = (q : Int) ∧ (q : Int) ≤ S 0 4) (fun s => (S 0 4 - s.2).toNat) ?_ ⟨0, rfl, rfl, by omega⟩
  rintro ⟨c', q'⟩ ⟨q, e1, e2, hq⟩
  simp only at e1 e2
  subst e1
  subst e2
  unfold X5_howMany_s1
  simp only
  have b := cnt_b S st q
  rw [h.1.2.2.2.2, w32_eq (x := (q : Int) + 1) (by omega) (by omega)]
  refine okI (fun hlt => okG ⟨by omega, by omega⟩ (okL (okS ⟨⟨q + 1, ?_, rfl, by omega⟩, by show (S 0 4 - ((q : Int) + 1)).toNat < (S 0 4 - (q : Int)).toNat; omega⟩))) (fun hlt => okS ?_)
  · obtain ⟨-, -, -, -, -, a14⟩ := h.2.2 q (by omega) hlt
    simp only
    rw [a14]
    show _ = cntN S st q + _
    rw [w32_eq] <;> (split <;> omega)
  · show cntN S st q = _
    unfold cntS
    congr 1
    omega
theorem c_howMany {S L : LT} (h : Sc S L) (V : Val S) (st : Int) : Ok (X2_howMany L st) (fun r => r = cntS S st) := by
  have hv := V.1
  unfold X2_howMany
  refine okB (P := fun z => z.1 = cntS S st) ?_ (fun z q => okS q)
  refine okLoop (fun s => ∃ q : Nat, s.1 = cntN S st q ∧ s.2 = (q : Int) ∧ (q : Int) ≤ S 0 4) (fun s => (S 0 4 - s.2).toNat) ?_ ⟨0, rfl, rfl, by omega⟩
  rintro ⟨c', q'⟩ ⟨q, e1, e2, hq⟩
  simp only at e1 e2
  subst e1
  subst e2
  unfold X2_howMany_s1
  simp only
  have b := cnt_b S st q
  rw [h.1.2.2.2.2, w32_eq (x := (q : Int) + 1) (by omega) (by omega)]
  have mu : (S 0 4 - ((q : Int) + 1)).toNat < (S 0 4 - (q : Int)).toNat ∨ ¬ (q : Int) < S 0 4 := by omega
  refine okI (fun hlt => okG ⟨by omega, by omega⟩ ?_) (fun hlt => okS ?_)
  · obtain ⟨-, -, -, -, -, a14⟩ := h.2.2 q (by omega) hlt
    have mu' : (S 0 4 - ((q : Int) + 1)).toNat < (S 0 4 - (q : Int)).toNat := by omega
    rw [a14]
    refine okI (fun e => okS ⟨⟨q + 1, ?_, rfl, by omega⟩, mu'⟩) (fun e => okS ⟨⟨q + 1, ?_, rfl, by omega⟩, mu'⟩)
    · show w32 _ = cntN S st q + _
      rw [if_pos e, w32_eq (by omega) (by omega)]
    · show _ = cntN S st q + _
      rw [if_neg e]
      show cntN S st q = _
      omega
  · show cntN S st q = _
    unfold cntS
    congr 1
    omega
/-- the hours until a train is no longer on its way, n at the most -/
noncomputable def stpN (S : LT) (t : Int) : Nat → Nat
  | 0 => 0
  | n + 1 => cif (goS (stpN S t n) S 14 t = 0) (stpN S t n + 1) (stpN S t n)
theorem stpN_le (S : LT) (t : Int) : ∀ n, stpN S t n ≤ n
  | 0 => Nat.le_refl 0
  | n + 1 => by
    have := stpN_le S t n
    unfold stpN
    by_cases h : goS (stpN S t n) S 14 t = 0
    · rw [cif_t h]; omega
    · rw [cif_f h]; omega
theorem stpN_on {S : LT} {t : Int} {k : Nat} (h : stpN S t k = k) (h2 : goS k S 14 t = 0) : stpN S t (k + 1) = k + 1 := by
  unfold stpN
  rw [h, cif_t h2]
theorem stpN_off {S : LT} {t : Int} {k : Nat} (h : stpN S t k = k) (h2 : goS k S 14 t ≠ 0) : ∀ n, k ≤ n → stpN S t n = k := by
  intro n
  induction n with
  | zero => intro q; have : k = 0 := by omega
            rw [← h, this]
  | succ n ih =>
    intro q
    by_cases e : n + 1 = k
    · rw [e]; exact h
    · unfold stpN
      rw [ih (by omega), cif_f h2]
/-- .. and at which hour it came through, 99 for never -/
noncomputable def thrS (S : LT) (t : Int) : Int := if goS (stpN S t 72) S 14 t = 1 then (stpN S t 72 : Nat) else 99
theorem m_throughIn {S0 S M : LT} (V0 : Val S0) (h0 : ser S0 (M 27)) (h : Sm S M) (V : Val S) (hh0 : 0 ≤ S 0 1) (hh1 : S 0 1 < 5000) {t : Int} (t0 : 0 ≤ t) (t1 : t < S 0 4) : Ok (X5_throughIn M t) (fun z => z.1 = thrS S t ∧ Sm S0 z.2 ∧ ser S0 (z.2 27) ∧ MG M z.2) := by
  have hv := V.1
  unfold X5_throughIn
  refine okB (P := fun z => z.1 = ((stpN S t 72 : Nat) : Int) ∧ Sm (goS (stpN S t 72) S) z.2 ∧ MG M z.2 ∧ ∀ j, z.2 27 j = M 27 j) ?_ ?_
  · refine okLoop (fun s => ∃ k : Nat, s.1 = (k : Int) ∧ k ≤ 72 ∧ stpN S t k = k ∧ Sm (goS k S) s.2 ∧ MG M s.2 ∧ ∀ j, s.2 27 j = M 27 j) (fun s => (72 - s.1).toNat) ?_ ⟨0, rfl, by omega, rfl, (show Sm (goS 0 S) M from h), MG_r M, fun _ => rfl⟩
    rintro ⟨k', N⟩ ⟨k, e, hk, hs, hN, gN, c27⟩
    simp only at e hN gN c27
    subst e
    unfold X5_throughIn_s1
    simp only
    have c4 : goS k S 0 4 = S 0 4 := go_0 S (by decide) k
    have ch := go_h S k
    obtain ⟨-, -, -, -, -, a14⟩ := hN.2.2 t t0 (by omega)
    rw [a14, w32_eq (x := (k : Int) + 1) (by omega) (by omega)]
    refine okG (fun _ => ⟨t0, by omega⟩) (okI (fun q => okB (m_hour hN (Val_go V k) (by omega) (by omega)) ?_) (fun q => okS ?_))
    · rintro P ⟨p1, p2, -⟩
      refine okS ⟨⟨k + 1, rfl, by omega, stpN_on hs q.2, p1, MG_t gN (MK_G p2), fun j => ?_⟩, by show (72 - ((k : Int) + 1)).toNat < (72 - (k : Int)).toNat; omega⟩
      simp only
      rw [p2 27 j (by omega) (by omega), c27]
    · have e : stpN S t 72 = k := by
        by_cases e : k = 72
        · rw [e] at hs; rw [e]; exact hs
        · exact stpN_off hs (fun z => q ⟨by omega, z⟩) 72 hk
      rw [e]
      exact ⟨rfl, hN, gN, c27⟩
  · rintro ⟨k, N⟩ ⟨e, hN, gN, c27⟩
    simp only at e hN gN c27
    have c4 : goS (stpN S t 72) S 0 4 = S 0 4 := go_0 S (by decide) _
    obtain ⟨-, -, -, -, -, a14⟩ := hN.2.2 t t0 (by omega)
    simp only
    rw [a14, e]
    refine okG ⟨t0, by omega⟩ (okL (okB (m_close V0 (by rw [show N 27 = M 27 from funext c27]; exact h0)) ?_))
    rintro P ⟨p1, p2, p3, -, -⟩
    exact okS ⟨rfl, p1, p2, MG_t gN p3⟩
theorem m_throughBy {S0 S M : LT} (V0 : Val S0) (h0 : ser S0 (M 27)) (h : Sm S M) (V : Val S) (hh0 : 0 ≤ S 0 1) (hh1 : S 0 1 < 5000) : Ok (X5_throughBy72 M) (fun z => z.1 = cntS (goS 72 S) 1 ∧ Sm S0 z.2 ∧ ser S0 (z.2 27) ∧ MG M z.2) := by
  unfold X5_throughBy72
  refine okB (m_goHours h V hh0 hh1 (n := 72) (by omega) (by omega)) ?_
  rintro N ⟨n1, n2, n3, -⟩
  refine okB (m_howMany n1 (Val_go V _) 1) ?_
  rintro r rfl
  refine okB (m_close V0 (by rw [show N 27 = M 27 from funext n3]; exact h0)) ?_
  rintro P ⟨p1, p2, p3, -, -⟩
  exact okS ⟨rfl, p1, p2, MG_t n2 p3⟩
