/-! Hours of the model -/
noncomputable def endS (S : LT) : Nat → Int → Int
  | 0, _ => -9
  | n + 1, t => cif (goS n S 14 t = 0 ∧ goS (n + 1) S 14 t ≠ 0) ((n : Int) + 1) (endS S n t)
noncomputable def stoS (S : LT) : Nat → Int → Int
  | 0, _ => 0
  | n + 1, t => stoS S n t + cif (stdS (goS n S) t) 1 0
theorem go_0 (S : LT) {j : Int} (h : j ≠ 1) : ∀ n, goS n S 0 j = S 0 j
  | 0 => rfl
  | n + 1 => by show hrS (goS n S) 0 j = _; rw [hr_0 _ h, go_0 S h n]
theorem go_h (S : LT) : ∀ n : Nat, goS n S 0 1 = S 0 1 + n
  | 0 => by show S 0 1 = _; omega
  | n + 1 => by show hrS (goS n S) 0 1 = _; rw [hr_h, go_h S n]; omega
theorem Val_go {S : LT} (V : Val S) : ∀ n, Val (goS n S)
  | 0 => V
  | n + 1 => Val_hr (Val_go V n)
theorem sto_b (S : LT) (t : Int) : ∀ n : Nat, 0 ≤ stoS S n t ∧ stoS S n t ≤ n
  | 0 => ⟨Int.le_refl 0, Int.le_refl 0⟩
  | n + 1 => by
    have := sto_b S t n
    unfold stoS
    by_cases h : stdS (goS n S) t
    · rw [cif_t h]; omega
    · rw [cif_f h]; omega
theorem m_bits {S M : LT} (h : Sm S M) (V : Val S) (k : Int) : Ok (lp (X5_goHours_s2 (k, M)) (0, 0)) (fun z => ∃ b : Nat, z.1 = (b : Int) ∧ b < 32 ∧ ∀ j : Nat, j < 5 → (b.testBit j = true ↔ (j : Int) < S 0 4 ∧ S 14 j ≠ 0)) := by
  have hv := V.1
  refine okLoop (fun s => ∃ b q : Nat, s.1 = (b : Int) ∧ s.2 = (q : Int) ∧ (q : Int) ≤ S 0 4 ∧ b < 32 ∧ ∀ j : Nat, j < 5 → (b.testBit j = true ↔ j < q ∧ S 14 j ≠ 0)) (fun s => (S 0 4 - s.2).toNat) ?_ ⟨0, 0, rfl, rfl, by omega, by omega, fun j _ => ⟨fun e => (by simp at e), fun e => by omega⟩⟩
  rintro ⟨b', q'⟩ ⟨b, q, e1, e2, hq, hb, hI⟩
  simp only at e1 e2
  subst e1
  subst e2
  unfold X5_goHours_s2
  simp only
  rw [h.1.2.2.2.2]
  refine okI (fun hlt => okG ⟨by omega, by omega⟩ (okL ?_)) (fun hlt => okS ⟨b, rfl, hb, fun j hj => ?_⟩)
  · obtain ⟨-, -, -, -, -, a14⟩ := h.2.2 q (by omega) hlt
    rw [a14, w32_eq (x := (q : Int) + 1) (by omega) (by omega)]
    have mu : (S 0 4 - ((q : Int) + 1)).toNat < (S 0 4 - (q : Int)).toNat := by omega
    by_cases e : S 14 q = 0
    · rw [if_neg (fun z => z e)]
      have eb : b_or (b : Int) 0 = (b : Int) := by
        have := (b_or_n (n := b) (m := 0) (by omega) (by omega)).1
        rw [Nat.or_zero] at this
        exact this
      rw [eb]
      refine okS ⟨⟨b, q + 1, rfl, rfl, by omega, hb, fun j hj => ?_⟩, mu⟩
      rw [hI j hj]
      refine ⟨fun z => ⟨by omega, z.2⟩, fun z => ⟨?_, z.2⟩⟩
      by_cases ej : j = q
      · rw [ej] at z; exact absurd e z.2
      · omega
    · rw [if_pos e]
      have sh : b_shl 1 (q : Int) = ((2 ^ q : Nat) : Int) := b_shl_n ⟨q, by omega⟩
      have hp : 2 ^ q < 2 ^ 5 := Nat.pow_lt_pow_right (by omega) (by omega)
      obtain ⟨o1, o2⟩ := b_or_n (n := b) (m := 2 ^ q) (by omega) (by omega)
      rw [sh, o1]
      have hl : b ||| 2 ^ q < 2 ^ 5 := Nat.or_lt_two_pow (by omega) hp
      refine okS ⟨⟨b ||| 2 ^ q, q + 1, rfl, rfl, by omega, by omega, fun j hj => ?_⟩, mu⟩
      rw [Nat.testBit_or, Nat.testBit_two_pow, Bool.or_eq_true, decide_eq_true_iff, hI j hj]
      refine ⟨fun z => ?_, fun z => ?_⟩
      · rcases z with z | z
        · exact ⟨by omega, z.2⟩
        · rw [← z]; exact ⟨by omega, e⟩
      · by_cases ej : q = j
        · exact Or.inr ej
        · exact Or.inl ⟨by omega, z.2⟩
  · rw [hI j hj]
    refine ⟨fun z => ⟨by omega, z.2⟩, fun z => ⟨by omega, z.2⟩⟩
theorem m_goHours {S M : LT} (h : Sm S M) (V : Val S) (hh0 : 0 ≤ S 0 1) (hh1 : S 0 1 < 5000) {n : Int} (n0 : 0 ≤ n) (n1 : n ≤ 100) : Ok (X5_goHours M n) (fun M' => Sm (goS n.toNat S) M' ∧ MG M M' ∧ (∀ j, M' 27 j = M 27 j) ∧ ∀ t, 0 ≤ t → t < S 0 4 → M' 17 t = stoS S n.toNat t ∧ M' 18 t = endS S n.toNat t) := by
  have hv := V.1
  unfold X5_goHours
  refine okB (P := fun z => Sm S z.2 ∧ MG M z.2 ∧ (∀ j, z.2 27 j = M 27 j) ∧ ∀ t, 0 ≤ t → t < 5 → z.2 17 t = 0 ∧ z.2 18 t = -9) ?_ ?_
  · refine okLoop (fun s => 0 ≤ s.1 ∧ s.1 ≤ 5 ∧ Sm S s.2 ∧ MG M s.2 ∧ (∀ j, s.2 27 j = M 27 j) ∧ ∀ t, 0 ≤ t → t < s.1 → s.2 17 t = 0 ∧ s.2 18 t = -9) (fun s => (5 - s.1).toNat) ?_ ⟨Int.le_refl 0, by show (0 : Int) ≤ 5; omega, h, MG_r M, fun _ => rfl, fun t a b => by simp only at b; omega⟩
    rintro ⟨t, N⟩ ⟨t0, t1, hN, gN, k27, hI⟩
    simp only at t0 t1 hN gN k27 hI
    unfold X5_goHours_s1
    simp only
    rw [w32_eq (x := t + 1) (by omega) (by omega)]
    refine okI (fun hlt => okG ⟨t0, hlt⟩ (okL (okL (okS ⟨⟨by simp only; omega, by simp only; omega, Sm_o (Sm_o hN (by omega)) (by omega), MG_t gN (MG_t (MG_lw (by omega)) (MG_lw (by omega))), fun j => ?_, fun u u0 u1 => ?_⟩, by show (5 - (t + 1)).toNat < (5 - t).toNat; omega⟩)))) (fun hlt => okS ?_)
    · simp only
      rw [lw_i (by decide), lw_i (by decide), k27]
    · simp only at u1 ⊢
      by_cases e : u = t
      · rw [e, lw_s, lw_i (by decide), lw_s]; exact ⟨rfl, rfl⟩
      · rw [lw_i (by decide), lw_j e, lw_j e, lw_i (by decide)]
        exact hI u u0 (by omega)
    · have e : t = 5 := by omega
      rw [e] at hI
      exact ⟨hN, gN, k27, hI⟩
  rintro ⟨z1, N⟩ ⟨hN, gN, k27, hI⟩
  simp only at hN gN k27 hI
  refine okB (P := fun z => Sm (goS n.toNat S) z.2 ∧ MG M z.2 ∧ (∀ j, z.2 27 j = M 27 j) ∧ ∀ t, 0 ≤ t → t < S 0 4 → z.2 17 t = stoS S n.toNat t ∧ z.2 18 t = endS S n.toNat t) ?_ (fun z q => okS q)
  refine okLoop (fun s => 1 ≤ s.1 ∧ s.1 ≤ n + 1 ∧ Sm (goS (s.1 - 1).toNat S) s.2 ∧ MG M s.2 ∧ (∀ j, s.2 27 j = M 27 j) ∧ ∀ t, 0 ≤ t → t < S 0 4 → s.2 17 t = stoS S (s.1 - 1).toNat t ∧ s.2 18 t = endS S (s.1 - 1).toNat t) (fun s => (n + 1 - s.1).toNat) ?_ ⟨Int.le_refl 1, by show (1 : Int) ≤ n + 1; omega, (show Sm (goS ((1 : Int) - 1).toNat S) N from hN), gN, k27, fun t a b => hI t a (by omega)⟩
  rintro ⟨k, O⟩ ⟨k0, k1, hO, gO, c27, hJ⟩
  simp only at k0 k1 hO gO c27 hJ
  unfold X5_goHours_s4
  simp only
  obtain ⟨m, rfl⟩ : ∃ m : Nat, k = (m : Int) + 1 := ⟨(k - 1).toNat, by omega⟩
  have em : ((m : Int) + 1 - 1).toNat = m := by omega
  rw [em] at hO hJ
  refine okI (fun hle => ?_) (fun hle => ?_)
  · have VO := Val_go V m
    have c4 : goS m S 0 4 = S 0 4 := go_0 S (by decide) m
    have ch := go_h S m
    refine okB (m_bits hO VO _) ?_
    rintro ⟨b', q⟩ ⟨b, e, hb, hB⟩
    simp only at e
    subst e
    refine okB (m_hour hO VO (by omega) (by omega)) ?_
    rintro P ⟨p1, p2, p3⟩
    have p1' : Sm (goS (m + 1) S) P := p1
    have d4 : goS (m + 1) S 0 4 = S 0 4 := go_0 S (by decide) _
    have i18 : ∀ j, P 18 j = O 18 j := fun j => p2 18 j (by omega) (by omega)
    refine okB (P := fun z => Sm (goS (m + 1) S) z.2 ∧ MG P z.2 ∧ (∀ j, z.2 27 j = P 27 j) ∧ (∀ j, z.2 17 j = P 17 j) ∧ ∀ t, 0 ≤ t → t < S 0 4 → z.2 18 t = endS S (m + 1) t) ?_ ?_
    · refine okLoop (fun s => 0 ≤ s.1 ∧ s.1 ≤ S 0 4 ∧ Sm (goS (m + 1) S) s.2 ∧ MG P s.2 ∧ (∀ j, s.2 27 j = P 27 j) ∧ (∀ j, s.2 17 j = P 17 j) ∧ (∀ t, 0 ≤ t → t < s.1 → s.2 18 t = endS S (m + 1) t) ∧ (∀ t, s.1 ≤ t → s.2 18 t = O 18 t)) (fun s => (S 0 4 - s.1).toNat) ?_ ⟨Int.le_refl 0, by show (0 : Int) ≤ S 0 4; omega, p1', MG_r P, fun _ => rfl, fun _ => rfl, fun t a b => by simp only at b; omega, fun t _ => i18 t⟩
      rintro ⟨t, Q⟩ ⟨t0, t1, hQ, gQ, q27, q17, qd, qn⟩
      simp only at t0 t1 hQ gQ q27 q17 qd qn
      unfold X5_goHours_s3
      simp only
      rw [hQ.1.2.2.2.2, d4, w32_eq (x := t + 1) (by omega) (by omega)]
      refine okI (fun hlt => okG ⟨t0, by omega⟩ (okL (okS ⟨⟨by simp only; omega, by simp only; omega, Sm_o hQ (by omega), MG_t gQ (MG_lw (by omega)), fun j => ?_, fun j => ?_, fun u u0 u1 => ?_, fun u u0 => ?_⟩, by show (S 0 4 - (t + 1)).toNat < (S 0 4 - t).toNat; omega⟩))) (fun hlt => okS ?_)
      · simp only; rw [lw_i (by decide), q27]
      · simp only; rw [lw_i (by decide), q17]
      · simp only at u1 ⊢
        by_cases e : u = t
        · rw [e, lw_s]
          obtain ⟨-, -, -, -, -, a14⟩ := hQ.2.2 t t0 (by omega)
          rw [a14, qn t (Int.le_refl t), (hJ t t0 hlt).2]
          obtain ⟨tn, rfl⟩ : ∃ tn : Nat, t = (tn : Int) := ⟨t.toNat, by omega⟩
          have hb' := hB tn (by omega)
          rw [c4] at hb'
          rw [hb_n (by omega) (by omega)]
          show _ = cif (goS m S 14 tn = 0 ∧ goS (m + 1) S 14 tn ≠ 0) ((m : Int) + 1) (endS S m tn)
          by_cases z0 : goS m S 14 tn = 0
          · have nb : ¬ b.testBit tn = true := fun z => (hb'.mp z).2 z0
            rw [if_neg (c := b.testBit tn = true) nb]
            by_cases z1 : goS (m + 1) S 14 tn = 0
            · rw [if_neg (fun z => z.1 z1), cif_f (fun z => z.2 z1)]
            · rw [if_pos ⟨z1, rfl⟩, cif_t ⟨z0, z1⟩]
          · have nb : b.testBit tn = true := hb'.mpr ⟨hlt, z0⟩
            rw [if_pos (c := b.testBit tn = true) nb, if_neg (fun z => absurd z.2 (by decide)), cif_f (fun z => z0 z.1)]
        · rw [lw_j e]
          exact qd u u0 (by omega)
      · simp only at u0 ⊢
        rw [lw_j (by omega)]
        exact qn u (by omega)
      · have e : t = S 0 4 := by omega
        subst e
        exact ⟨hQ, gQ, q27, q17, qd⟩
    · rintro ⟨z3, Q⟩ ⟨hQ, gQ, q27, q17, qd⟩
      simp only at hQ gQ q27 q17 qd
      rw [w32_eq (x := (m : Int) + 1 + 1) (by omega) (by omega)]
      have em2 : ((m : Int) + 1 + 1 - 1).toNat = m + 1 := by omega
      refine okS ⟨⟨by simp only; omega, by simp only; omega, by simp only; rw [em2]; exact hQ, MG_t gO (MG_t (MK_G p2) gQ), fun j => ?_, fun t t0 t1 => ?_⟩, by show (n + 1 - ((m : Int) + 1 + 1)).toNat < (n + 1 - ((m : Int) + 1)).toNat; omega⟩
      · simp only
        rw [q27, p2 27 j (by omega) (by omega), c27]
      · simp only
        rw [em2, qd t t0 t1, q17, p3 t t0 (by omega) (by rw [(hJ t t0 t1).1]; have := sto_b S t m; omega), (hJ t t0 t1).1]
        exact ⟨rfl, rfl⟩
  · have e : (m : Int) = n := by omega
    have e2 : n.toNat = m := by omega
    rw [e2]
    exact okS ⟨hO, gO, c27, hJ⟩
