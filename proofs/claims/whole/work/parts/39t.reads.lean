/-! The model reads a line -/
theorem St_26 {a : Ab} {q : Int} {j : Nat} {P : LT} (h : St a q j P) (x v : Int) : St a q j (lw P 26 x v) := by
  obtain ⟨⟨h1, h2⟩, h3, h4⟩ := h
  refine ⟨⟨by rw [lw_i (by decide)]; exact h1, fun i i0 i1 => by rw [lw_i (by decide)]; exact h2 i i0 i1⟩, by rw [lw_i (by decide)]; exact h3, by rw [lw_i (by decide)]; exact h4⟩
theorem m_dw {α : Type} {a : Ab} {P : LT} (ha : OkA a) {q : Int} {j : Nat} (q0 : 0 ≤ q) (q1 : q ≤ 1000) (hj : j ≤ 10) (h : St a q j P) (d : Nat) (hd : d = 1 ∨ d = 2) {x : Int} (hx : gd x 196) {K : LT → Option α} {Q : α → Prop} (hK : ∀ P', St a q (j + d) P' → (∀ c i, ¬ (c = 0 ∧ (i = 20 ∨ i = 21)) → ¬ (c = 26 ∧ i = x) → P' c i = P c i) → (ndN a q (j + d) = j + d → P' 26 x = nmN a (q + j) d) → Ok (K P') Q) : Ok (Option.bind (X5_readDigits P d) fun z => grd (gd x 196) <| lt (lw z.2 26 x z.1 : LT) K) Q := by
  refine okB (m_digits ha q0 q1 hj h d hd) ?_
  rintro ⟨v, R⟩ ⟨h1, h2, h3⟩
  refine okG hx (okL ?_)
  refine hK _ (St_26 h1 _ _) (fun c i n1 n2 => ?_) (fun e => ?_)
  · rw [lw_n n2]; exact h2 c i n1
  · rw [lw_s]; exact h3 e
def NU (a : Ab) (c q i : Int) (P : LT) : Prop :=
  (c = 121 → P 26 i = nmN a q 2 ∧ P 26 (i + 1) = nmN a (q + 2) 1 ∧ P 26 (i + 2) = nmN a (q + 3) 1 ∧ P 26 (i + 3) = nmN a (q + 4) 2) ∧
  (c = 116 → P 26 i = nmN a q 2 ∧ P 26 (i + 1) = nmN a (q + 2) 1 ∧ P 26 (i + 2) = nmN a (q + 3) 1) ∧
  (c = 119 → P 26 i = nmN a q 1 ∧ P 26 (i + 1) = nmN a (q + 1) 2) ∧
  (c = 99 → P 26 i = nmN a q 1 ∧ P 26 (i + 1) = nmN a (q + 1) 1) ∧
  (c = 110 ∨ c = 104 → P 26 i = nmN a q 2)
theorem NU_c {a : Ab} {c q i : Int} {P P' : LT} (h : NU a c q i P) (f : ∀ j, i ≤ j → j ≤ i + 3 → P' 26 j = P 26 j) : NU a c q i P' := by
  unfold NU at h ⊢
  rw [f i (by omega) (by omega), f (i + 1) (by omega) (by omega), f (i + 2) (by omega) (by omega), f (i + 3) (by omega) (by omega)]
  exact h
theorem m_rn {a : Ab} {P : LT} (ha : OkA a) {c q i : Int} (q0 : 0 ≤ q) (q1 : q ≤ 1000) (h : St a q 0 P) (hc : ¬ dbV c = 0) (i0 : 0 ≤ i) (i1 : i + 3 < 196) : Ok (X5_readNumbers P c i) (fun P' => St a q (dbV c).toNat P' ∧ (ndN a q (dbV c).toNat = (dbV c).toNat → NU a c q i P') ∧ ∀ x j, ¬ (x = 0 ∧ (j = 20 ∨ j = 21)) → ¬ (x = 26 ∧ i ≤ j ∧ j ≤ i + 3) → P' x j = P x j) := by
  have hd := db_c c
  have z0 : q + ((0 : Nat) : Int) = q := by omega
  unfold X5_readNumbers
  rw [w32_eq (x := i + 1) (by omega) (by omega), w32_eq (x := i + 2) (by omega) (by omega), w32_eq (x := i + 3) (by omega) (by omega)]
  refine okI (fun e => ?_) (fun n1 => okI (fun e => ?_) (fun n2 => okI (fun e => ?_) (fun n3 => okI (fun e => ?_) (fun n4 => ?_))))
  · have ed : dbV c = 6 := by omega
    rw [ed]
    refine m_dw ha q0 q1 (by omega) h 2 (by omega) ⟨by omega, by omega⟩ (fun P1 s1 f1 v1 => ?_)
    refine m_dw ha q0 q1 (by omega) s1 1 (by omega) ⟨by omega, by omega⟩ (fun P2 s2 f2 v2 => ?_)
    refine m_dw ha q0 q1 (by omega) s2 1 (by omega) ⟨by omega, by omega⟩ (fun P3 s3 f3 v3 => ?_)
    refine m_dw ha q0 q1 (by omega) s3 2 (by omega) ⟨by omega, by omega⟩ (fun P4 s4 f4 v4 => okS ⟨s4, fun hn => ?_, fun x j m1 m2 => ?_⟩)
    · have pr := fun j (hj : j ≤ 6) => (nd_pre (k := 6) hn j hj).1
      refine ⟨fun _ => ⟨?_, ?_, ?_, ?_⟩, fun z => by omega, fun z => by omega, fun z => by omega, fun z => by omega⟩
      · rw [f4 26 i (by omega) (by omega), f3 26 i (by omega) (by omega), f2 26 i (by omega) (by omega), v1 (pr 2 (by omega)), z0]
      · rw [f4 26 _ (by omega) (by omega), f3 26 _ (by omega) (by omega), v2 (pr 3 (by omega))]; rfl
      · rw [f4 26 _ (by omega) (by omega), v3 (pr 4 (by omega))]; rfl
      · rw [v4 (pr 6 (by omega))]; rfl
    · rw [f4 x j m1 (by omega), f3 x j m1 (by omega), f2 x j m1 (by omega), f1 x j m1 (by omega)]
  · have ed : dbV c = 4 := by omega
    rw [ed]
    refine m_dw ha q0 q1 (by omega) h 2 (by omega) ⟨by omega, by omega⟩ (fun P1 s1 f1 v1 => ?_)
    refine m_dw ha q0 q1 (by omega) s1 1 (by omega) ⟨by omega, by omega⟩ (fun P2 s2 f2 v2 => ?_)
    refine m_dw ha q0 q1 (by omega) s2 1 (by omega) ⟨by omega, by omega⟩ (fun P3 s3 f3 v3 => okS ⟨s3, fun hn => ?_, fun x j m1 m2 => ?_⟩)
    · have pr := fun j (hj : j ≤ 4) => (nd_pre (k := 4) hn j hj).1
      refine ⟨fun z => by omega, fun _ => ⟨?_, ?_, ?_⟩, fun z => by omega, fun z => by omega, fun z => by omega⟩
      · rw [f3 26 i (by omega) (by omega), f2 26 i (by omega) (by omega), v1 (pr 2 (by omega)), z0]
      · rw [f3 26 _ (by omega) (by omega), v2 (pr 3 (by omega))]; rfl
      · rw [v3 (pr 4 (by omega))]; rfl
    · rw [f3 x j m1 (by omega), f2 x j m1 (by omega), f1 x j m1 (by omega)]
  · have ed : dbV c = 3 := by omega
    rw [ed]
    refine m_dw ha q0 q1 (by omega) h 1 (by omega) ⟨by omega, by omega⟩ (fun P1 s1 f1 v1 => ?_)
    refine m_dw ha q0 q1 (by omega) s1 2 (by omega) ⟨by omega, by omega⟩ (fun P2 s2 f2 v2 => okS ⟨s2, fun hn => ?_, fun x j m1 m2 => ?_⟩)
    · have pr := fun j (hj : j ≤ 3) => (nd_pre (k := 3) hn j hj).1
      refine ⟨fun z => by omega, fun z => by omega, fun _ => ⟨?_, ?_⟩, fun z => by omega, fun z => by omega⟩
      · rw [f2 26 i (by omega) (by omega), v1 (pr 1 (by omega)), z0]
      · rw [v2 (pr 3 (by omega))]; rfl
    · rw [f2 x j m1 (by omega), f1 x j m1 (by omega)]
  · have ed : dbV c = 2 := by omega
    rw [ed]
    refine m_dw ha q0 q1 (by omega) h 1 (by omega) ⟨by omega, by omega⟩ (fun P1 s1 f1 v1 => ?_)
    refine m_dw ha q0 q1 (by omega) s1 1 (by omega) ⟨by omega, by omega⟩ (fun P2 s2 f2 v2 => okS ⟨s2, fun hn => ?_, fun x j m1 m2 => ?_⟩)
    · have pr := fun j (hj : j ≤ 2) => (nd_pre (k := 2) hn j hj).1
      refine ⟨fun z => by omega, fun z => by omega, fun z => by omega, fun _ => ⟨?_, ?_⟩, fun z => by omega⟩
      · rw [f2 26 i (by omega) (by omega), v1 (pr 1 (by omega)), z0]
      · rw [v2 (pr 2 (by omega))]; rfl
    · rw [f2 x j m1 (by omega), f1 x j m1 (by omega)]
  · have ed : dbV c = 2 := by omega
    rw [ed]
    refine m_dw ha q0 q1 (by omega) h 2 (by omega) ⟨by omega, by omega⟩ (fun P1 s1 f1 v1 => okS ⟨s1, fun hn => ?_, fun x j m1 m2 => f1 x j m1 (by omega)⟩)
    refine ⟨fun z => by omega, fun z => by omega, fun z => by omega, fun z => by omega, fun _ => ?_⟩
    rw [v1 hn, z0]
theorem m_rs {a : Ab} {P : LT} (ha : OkA a) {p : Int} {k : Nat} (p0 : 0 ≤ p) (p1 : p ≤ 900) (hk : k ≤ 40) (hL : LtS a P) (h20 : P 0 20 = p) (h21 : P 0 21 = 0) (h22 : P 0 22 = (k : Int)) : Ok (X5_readStatement P) (fun P' => LtS a P' ∧ P' 0 22 = (k : Int) + 1 ∧ (bsA a p = -1 → P' 0 21 = 0 ∧ P' 0 20 = p + dbV (ltA a p) + 2 ∧ P' 24 k = p ∧ P' 25 k = ltA a p ∧ NU a (ltA a p) (p + 1) (4 * k) P') ∧ (0 ≤ bsA a p → P' 0 21 = 1 ∧ P' 0 20 = bsA a p) ∧ ∀ x j, ¬ (x = 0 ∧ (j = 20 ∨ j = 21 ∨ j = 22)) → ¬ (x = 24 ∧ j = (k : Int)) → ¬ (x = 25 ∧ j = (k : Int)) → ¬ (x = 26 ∧ 4 * (k : Int) ≤ j) → P' x j = P x j) := by
  have mh := m_here ha hL (by omega)
  rw [h20] at mh
  have hd := db_c (ltA a p)
  unfold X5_readStatement
  rw [mh.1, h20, h22]
  refine okL (okG mh.2 (okL (okG ⟨by omega, by omega⟩ (okLn (fun R1 e1 => okLn (fun R2 e2 => okLn (fun R3 e3 => okLn (fun R4 e4 => ?_))))))))
  have g21 : R2 0 21 = 0 := by rw [e2, lw_i (by decide), e1, lw_i (by decide)]; exact h21
  have g20 : R2 0 20 = p := by rw [e2, lw_i (by decide), e1, lw_i (by decide)]; exact h20
  have k21 : R3 0 21 = if dbV (ltA a p) = 0 then 1 else 0 := by
    rw [e3, lw_s]
    by_cases q : dbV (ltA a p) = 0
    · rw [if_pos q]
      exact if_pos (Or.inr ((db_l _).mpr q))
    · rw [if_neg q]
      refine if_neg (fun z => ?_)
      rcases z with z | z
      · exact z g21
      · exact q ((db_l _).mp z)
  have k20 : R3 0 20 = p := by rw [e3, lw_j (by decide)]; exact g20
  have f3 : ∀ x j, ¬ (x = 0 ∧ (j = 20 ∨ j = 21 ∨ j = 22)) → ¬ (x = 24 ∧ j = (k : Int)) → ¬ (x = 25 ∧ j = (k : Int)) → R4 x j = P x j := fun x j m1 m2 m3 => by
    rw [e4, lw_n (by omega), e3, lw_n (by omega), e2, lw_n (by omega), e1, lw_n (by omega)]
  have t24 : R4 24 k = p := by rw [e4, lw_i (by decide), e3, lw_i (by decide), e2, lw_i (by decide), e1, lw_s]
  have t25 : R4 25 k = ltA a p := by rw [e4, lw_i (by decide), e3, lw_i (by decide), e2, lw_s]
  have t22 : R4 0 22 = (k : Int) := by rw [e4, lw_j (by decide), e3, lw_j (by decide), e2, lw_i (by decide), e1, lw_i (by decide)]; exact h22
  have t21 : R4 0 21 = if dbV (ltA a p) = 0 then 1 else 0 := by rw [e4, lw_j (by decide)]; exact k21
  have tL : LtS a R4 := ⟨by rw [f3 0 19 (by omega) (by omega) (by omega)]; exact hL.1, fun i i0 i1 => by rw [f3 19 i (by omega) (by omega) (by omega)]; exact hL.2 i i0 i1⟩
  by_cases hl : dbV (ltA a p) = 0
  · rw [if_pos hl] at t21 k21
    have t20 : R4 0 20 = p := by
      rw [e4, lw_s, if_pos (by rw [k21]; decide), k20, w32_eq (by omega) (by omega)]
      omega
    have eb : bsA a p = p := by unfold bsA; rw [cif_t hl]
    refine okB (P := fun z => z = R4) (okF (by rw [t21]; decide) (okS rfl)) ?_
    rintro z rfl
    refine okG (fun w => absurd (show ¬ z 0 21 = 0 by rw [t21]; decide) w) (okLn (fun S1 q1 => okLn (fun S2 q2 => okLn (fun S3 q3 => okS ?_))))
    have s21 : S1 0 21 = 1 := by rw [q1, lw_s]; exact if_pos (Or.inl (by rw [t21]; decide))
    have s20 : S2 0 20 = p := by
      rw [q2, lw_s, if_pos (by rw [s21]; decide), q1, lw_j (by decide), t20, w32_eq (by omega) (by omega)]
      omega
    have fz : ∀ x j, ¬ (x = 0 ∧ (j = 20 ∨ j = 21 ∨ j = 22)) → S3 x j = z x j := fun x j m => by rw [q3, lw_n (by omega), q2, lw_n (by omega), q1, lw_n (by omega)]
    refine ⟨⟨by rw [fz 0 19 (by omega)]; exact tL.1, fun i i0 i1 => by rw [fz 19 i (by omega)]; exact tL.2 i i0 i1⟩, ?_, fun w => by omega, fun _ => ⟨?_, ?_⟩, fun x j m1 m2 m3 m4 => ?_⟩
    · rw [q3, lw_s, q2, lw_j (by decide), q1, lw_j (by decide), t22, w32_eq (by omega) (by omega)]
    · rw [q3, lw_j (by decide), q2, lw_j (by decide)]; exact s21
    · rw [q3, lw_j (by decide), s20, eb]
    · rw [fz x j m1, f3 x j m1 m2 m3]
  · rw [if_neg hl] at t21 k21
    have t20 : R4 0 20 = p + 1 := by
      rw [e4, lw_s, if_neg (by rw [k21]; decide), k20, w32_eq (by omega) (by omega)]
    have st : St a (p + 1) 0 R4 := ⟨tL, by rw [t20]; unfold ndN; omega, by rw [t21]; rfl⟩
    rw [w32_eq (x := 4 * (k : Int)) (by omega) (by omega)]
    refine okB (okT t21 (okB (m_rn ha (c := ltA a p) (q := p + 1) (i := 4 * (k : Int)) (by omega) (by omega) st hl (by omega) (by omega)) (fun z w => okS w))) ?_
    rintro z ⟨⟨zL, z20, z21⟩, zN, zF⟩
    have nl := nd_le a (p + 1) (dbV (ltA a p)).toNat
    have mz := m_here ha zL (by omega)
    rw [z20] at mz
    refine okG (fun _ => mz.2) (okLn (fun S1 q1 => okLn (fun S2 q2 => okLn (fun S3 q3 => okS ?_))))
    have fz : ∀ x j, ¬ (x = 0 ∧ (j = 20 ∨ j = 21 ∨ j = 22)) → S3 x j = z x j := fun x j m => by rw [q3, lw_n (by omega), q2, lw_n (by omega), q1, lw_n (by omega)]
    have g22 : S3 0 22 = (k : Int) + 1 := by
      rw [q3, lw_s, q2, lw_j (by decide), q1, lw_j (by decide), zF 0 22 (by omega) (by omega), t22, w32_eq (by omega) (by omega)]
    have gL : LtS a S3 := ⟨by rw [fz 0 19 (by omega)]; exact zL.1, fun i i0 i1 => by rw [fz 19 i (by omega)]; exact zL.2 i i0 i1⟩
    have gF : ∀ x j, ¬ (x = 0 ∧ (j = 20 ∨ j = 21 ∨ j = 22)) → ¬ (x = 24 ∧ j = (k : Int)) → ¬ (x = 25 ∧ j = (k : Int)) → ¬ (x = 26 ∧ 4 * (k : Int) ≤ j) → S3 x j = P x j := fun x j m1 m2 m3 m4 => by
      rw [fz x j m1, zF x j (by omega) (by omega), f3 x j m1 m2 m3]
    have s3_21 : S3 0 21 = S1 0 21 := by rw [q3, lw_j (by decide), q2, lw_j (by decide)]
    have s3_20 : S3 0 20 = S2 0 20 := by rw [q3, lw_j (by decide)]
    have s1_20 : S1 0 20 = p + 1 + (ndN a (p + 1) (dbV (ltA a p)).toNat : Int) := by rw [q1, lw_j (by decide)]; exact z20
    by_cases hn : ndN a (p + 1) (dbV (ltA a p)).toNat = (dbV (ltA a p)).toNat
    · rw [if_pos hn] at z21
      have ep : p + 1 + ((dbV (ltA a p)).toNat : Int) = p + 1 + dbV (ltA a p) := by omega
      rw [hn, ep] at s1_20 mz
      by_cases h59 : ltA a (p + 1 + dbV (ltA a p)) = 59
      · have eb : bsA a p = -1 := by unfold bsA; rw [cif_f hl, cif_t hn, if_pos h59]
        have s21 : S1 0 21 = 0 := by
          rw [q1, lw_s]
          refine if_neg (fun w => ?_)
          rcases w with w | w
          · exact w z21
          · exact w (by rw [mz.1]; exact h59)
        have s20 : S2 0 20 = p + dbV (ltA a p) + 2 := by
          rw [q2, lw_s, if_neg (by rw [s21]; decide), s1_20, w32_eq (by omega) (by omega)]
          omega
        refine ⟨gL, g22, fun _ => ⟨by rw [s3_21, s21], by rw [s3_20, s20], ?_, ?_, ?_⟩, fun w => by omega, gF⟩
        · rw [fz 24 k (by omega), zF 24 k (by omega) (by omega)]; exact t24
        · rw [fz 25 k (by omega), zF 25 k (by omega) (by omega)]; exact t25
        · exact NU_c (zN hn) (fun j _ _ => fz 26 j (by omega))
      · have eb : bsA a p = p + 1 + dbV (ltA a p) := by unfold bsA; rw [cif_f hl, cif_t hn, if_neg h59]
        have s21 : S1 0 21 = 1 := by
          rw [q1, lw_s]
          exact if_pos (Or.inr (by rw [mz.1]; exact h59))
        have s20 : S2 0 20 = p + 1 + dbV (ltA a p) := by
          rw [q2, lw_s, if_pos (by rw [s21]; decide), s1_20, w32_eq (by omega) (by omega)]
          omega
        exact ⟨gL, g22, fun w => by omega, fun _ => ⟨by rw [s3_21, s21], by rw [s3_20, s20, eb]⟩, gF⟩
    · rw [if_neg hn] at z21
      have eb : bsA a p = p + 1 + ndN a (p + 1) (dbV (ltA a p)).toNat := by unfold bsA; rw [cif_f hl, cif_f hn]
      have s21 : S1 0 21 = 1 := by
        rw [q1, lw_s]
        exact if_pos (Or.inl (by rw [z21]; decide))
      have s20 : S2 0 20 = p + 1 + ndN a (p + 1) (dbV (ltA a p)).toNat := by
        rw [q2, lw_s, if_pos (by rw [s21]; decide), s1_20, w32_eq (by omega) (by omega)]
        omega
      exact ⟨gL, g22, fun w => by omega, fun _ => ⟨by rw [s3_21, s21], by rw [s3_20, s20, eb]⟩, gF⟩
/-- the statements' table -/
def TB (a : Ab) (k : Nat) (P : LT) : Prop := ∀ i : Nat, i < k → P 24 i = pN a i ∧ P 25 i = ltA a (pN a i) ∧ NU a (ltA a (pN a i)) (pN a i + 1) (4 * i) P
def FRL (P P' : LT) : Prop := ∀ x j, ¬ (x = 0 ∧ (j = 20 ∨ j = 21 ∨ j = 22)) → x ≠ 24 → x ≠ 25 → x ≠ 26 → P' x j = P x j
theorem FRL_t {A B C : LT} (h1 : FRL A B) (h2 : FRL B C) : FRL A C := fun x j a b c d => (h2 x j a b c d).trans (h1 x j a b c d)
theorem m_bad {a : Ab} {P : LT} (ha : OkA a) {k : Nat} {r : Int} (hB : Bad a k r) (hL : LtS a P) (h20 : P 0 20 = 0) (h21 : P 0 21 = 0) (h22 : P 0 22 = 0) : Ok (lp (X5_line_s1) P) (fun P' => P' 0 21 = 1 ∧ P' 0 20 = r ∧ FRL P P') := by
  obtain ⟨k24, hI, hr, r0⟩ := hB
  refine okLoop (fun P' => LtS a P' ∧ FRL P P' ∧ ((∃ j : Nat, j ≤ k ∧ P' 0 22 = (j : Int) ∧ P' 0 21 = 0 ∧ P' 0 20 = pN a j) ∨ (P' 0 21 = 1 ∧ P' 0 20 = r ∧ P' 0 22 = (k : Int) + 1))) (fun P' => ((k : Int) + 2 - P' 0 22).toNat) ?_ ⟨hL, fun _ _ _ _ _ _ => rfl, Or.inl ⟨0, Nat.zero_le _, h22, h21, h20⟩⟩
  rintro Q ⟨qL, qF, h | ⟨g1, g2, g3⟩⟩
  · obtain ⟨j, jk, g1, g2, g3⟩ := h
    have pb := p_b a j
    unfold X5_line_s1
    have hc : Q 0 21 = 0 ∧ (Q 0 22 = 0 ∨ Q 0 20 < Q 0 19) := by
      refine ⟨g2, ?_⟩
      by_cases e : j = 0
      · exact Or.inl (by rw [g1, e]; rfl)
      · obtain ⟨i, rfl⟩ : ∃ i, j = i + 1 := ⟨j - 1, by omega⟩
        exact Or.inr (by rw [g3, qL.1]; exact (hI i (by omega)).2)
    refine okT hc (okB (m_rs ha (p := pN a j) (k := j) pb.1 (by omega) (by omega) qL g3 g2 g1) ?_)
    rintro P' ⟨r1, r2, r3, r4, r5⟩
    have fr : FRL Q P' := fun x i a b c d => r5 x i a (fun z => b z.1) (fun z => c z.1) (fun z => d z.1)
    refine okS ⟨⟨r1, FRL_t qF fr, ?_⟩, ?_⟩
    · by_cases e : j = k
      · subst e
        obtain ⟨t1, t2⟩ := r4 (by omega)
        exact Or.inr ⟨t1, by rw [t2, hr], r2⟩
      · obtain ⟨t1, t2, -⟩ := r3 (hI j (by omega)).1
        exact Or.inl ⟨j + 1, by omega, by rw [r2]; rfl, t1, t2⟩
    · show ((k : Int) + 2 - P' 0 22).toNat < ((k : Int) + 2 - Q 0 22).toNat
      rw [r2, g1]
      omega
  · unfold X5_line_s1
    exact okF (fun z => by omega) (okS ⟨g1, g2, qF⟩)
theorem m_good {a : Ab} {P : LT} (ha : OkA a) {K : Nat} (hG : Good a K) (hL : LtS a P) (h20 : P 0 20 = 0) (h21 : P 0 21 = 0) (h22 : P 0 22 = 0) : Ok (lp (X5_line_s1) P) (fun P' => P' 0 21 = 0 ∧ P' 0 22 = (K : Int) ∧ TB a K P' ∧ FRL P P') := by
  obtain ⟨K1, K24, hI, hJ, hE⟩ := hG
  refine okLoop (fun P' => LtS a P' ∧ FRL P P' ∧ ∃ j : Nat, j ≤ K ∧ P' 0 22 = (j : Int) ∧ P' 0 21 = 0 ∧ P' 0 20 = pN a j ∧ TB a j P') (fun P' => ((K : Int) + 1 - P' 0 22).toNat) ?_ ⟨hL, fun _ _ _ _ _ _ => rfl, 0, Nat.zero_le _, h22, h21, h20, fun i q => by omega⟩
  rintro Q ⟨qL, qF, j, jk, g1, g2, g3, g4⟩
  have pb := p_b a j
  unfold X5_line_s1
  by_cases e : j = K
  · subst e
    exact okF (fun z => by
      rcases z.2 with z | z
      · omega
      · rw [g3, qL.1] at z; omega) (okS ⟨g2, g1, g4, qF⟩)
  · have hc : Q 0 21 = 0 ∧ (Q 0 22 = 0 ∨ Q 0 20 < Q 0 19) := by
      refine ⟨g2, ?_⟩
      by_cases e : j = 0
      · exact Or.inl (by rw [g1, e]; rfl)
      · obtain ⟨i, rfl⟩ : ∃ i, j = i + 1 := ⟨j - 1, by omega⟩
        exact Or.inr (by rw [g3, qL.1]; exact hJ i (by omega))
    refine okT hc (okB (m_rs ha (p := pN a j) (k := j) pb.1 (by omega) (by omega) qL g3 g2 g1) ?_)
    rintro P' ⟨r1, r2, r3, r4, r5⟩
    have fr : FRL Q P' := fun x i a b c d => r5 x i a (fun z => b z.1) (fun z => c z.1) (fun z => d z.1)
    obtain ⟨t1, t2, t3, t4, t5⟩ := r3 (hI j (by omega))
    refine okS ⟨⟨r1, FRL_t qF fr, j + 1, by omega, by rw [r2]; rfl, t1, t2, fun i hi => ?_⟩, ?_⟩
    · by_cases ei : i = j
      · rw [ei]; exact ⟨t3, t4, t5⟩
      · obtain ⟨u1, u2, u3⟩ := g4 i (by omega)
        refine ⟨?_, ?_, NU_c u3 (fun x _ _ => r5 26 x (by omega) (by omega) (by omega) (by omega))⟩
        · rw [r5 24 i (by omega) (by omega) (by omega) (by omega)]; exact u1
        · rw [r5 25 i (by omega) (by omega) (by omega) (by omega)]; exact u2
    · show ((K : Int) + 1 - P' 0 22).toNat < ((K : Int) + 1 - Q 0 22).toNat
      rw [r2, g1]
      omega
