/-! The letters of a line -/
def ltA (a : Ab) (q : Int) : Int := if 0 ≤ q ∧ q < a.ln then a.tx q else -1
theorem lt_b {a : Ab} (ha : OkA a) (q : Int) : -1 ≤ ltA a q ∧ ltA a q ≤ 255 := by
  unfold ltA
  by_cases h : 0 ≤ q ∧ q < a.ln
  · rw [if_pos h]
    have := ha.2.2.2.1.2.2 q h.1 h.2
    omega
  · rw [if_neg h]; omega
theorem lt_in {a : Ab} {q : Int} (h : ltA a q ≠ -1) : 0 ≤ q ∧ q < a.ln := by
  unfold ltA at h
  by_cases e : 0 ≤ q ∧ q < a.ln
  · exact e
  · rw [if_neg e] at h; exact absurd rfl h
abbrev dbV (c : Int) : Int := X1_digitsBehind_v c
theorem db_c (c : Int) : dbV c = 0 ∨ c = 110 ∧ dbV c = 2 ∨ c = 99 ∧ dbV c = 2 ∨ c = 104 ∧ dbV c = 2 ∨ c = 119 ∧ dbV c = 3 ∨ c = 116 ∧ dbV c = 4 ∨ c = 121 ∧ dbV c = 6 := by
  unfold dbV X1_digitsBehind_v
  by_cases h1 : c = 110
  · rw [if_pos h1]; omega
  rw [if_neg h1]
  by_cases h2 : c = 99
  · rw [if_pos h2]; omega
  rw [if_neg h2]
  by_cases h3 : c = 104
  · rw [if_pos h3]; omega
  rw [if_neg h3]
  by_cases h4 : c = 119
  · rw [if_pos h4]; omega
  rw [if_neg h4]
  by_cases h5 : c = 116
  · rw [if_pos h5]; omega
  rw [if_neg h5]
  by_cases h6 : c = 121
  · rw [if_pos h6]; omega
  rw [if_neg h6]
  exact Or.inl rfl
theorem db_l (c : Int) : X5_isLetter_v c = 0 ↔ dbV c = 0 := by
  have h := db_c c
  unfold X5_isLetter_v
  by_cases q : ((((c = 110 ∨ c = 121) ∨ c = 116) ∨ c = 119) ∨ c = 99) ∨ c = 104
  · rw [if_pos q]
    refine ⟨fun z => absurd z (by decide), fun z => ?_⟩
    exfalso
    rcases q with ((((e | e) | e) | e) | e) | e <;> (rw [e] at z; revert z; decide)
  · rw [if_neg q]
    refine ⟨fun _ => by omega, fun _ => rfl⟩
def isD (c : Int) : Prop := 48 ≤ c ∧ c ≤ 57
theorem isD_v (c : Int) : X1_isDigit_v c = 0 ↔ ¬ isD c := by
  unfold X1_isDigit_v isD
  split <;> omega
/-- how many digits lead, of j at most -/
noncomputable def ndN (a : Ab) (q : Int) : Nat → Nat
  | 0 => 0
  | j + 1 => cif (ndN a q j = j ∧ isD (ltA a (q + j))) (j + 1) (ndN a q j)
theorem nd_le (a : Ab) (q : Int) : ∀ j, ndN a q j ≤ j
  | 0 => Nat.le_refl 0
  | j + 1 => by
    have := nd_le a q j
    unfold ndN
    by_cases h : ndN a q j = j ∧ isD (ltA a (q + j))
    · rw [cif_t h]; omega
    · rw [cif_f h]; omega
theorem nd_on {a : Ab} {q : Int} {j : Nat} (h : ndN a q j = j) (h2 : isD (ltA a (q + j))) : ndN a q (j + 1) = j + 1 := by
  unfold ndN
  rw [cif_t ⟨h, h2⟩]
theorem nd_off {a : Ab} {q : Int} {j : Nat} (h : ndN a q j = j) (h2 : ¬ isD (ltA a (q + j))) : ∀ k, j + 1 ≤ k → ndN a q k = j := by
  intro k hk
  obtain ⟨i, rfl⟩ : ∃ i, k = j + 1 + i := ⟨k - (j + 1), by omega⟩
  induction i with
  | zero =>
    show ndN a q (j + 1) = j
    unfold ndN
    rw [cif_f (fun z => h2 z.2), h]
  | succ i ih =>
    have e := ih (by omega)
    show ndN a q (j + 1 + i + 1) = j
    unfold ndN
    rw [cif_f (fun z => by rw [e] at z; omega), e]
theorem nd_pre {a : Ab} {q : Int} : ∀ {k : Nat}, ndN a q k = k → ∀ j, j ≤ k → ndN a q j = j ∧ (j < k → isD (ltA a (q + j)))
  | 0, h, j, hj => by
    have e : j = 0 := by omega
    rw [e]
    exact ⟨rfl, fun z => by omega⟩
  | k + 1, h, j, hj => by
    have hl := nd_le a q k
    have hc : ndN a q k = k ∧ isD (ltA a (q + k)) := by
      unfold ndN at h
      by_cases c : ndN a q k = k ∧ isD (ltA a (q + k))
      · exact c
      · rw [cif_f c] at h; omega
    by_cases e : j = k + 1
    · rw [e]; exact ⟨h, fun z => by omega⟩
    · by_cases e2 : j = k
      · rw [e2]; exact ⟨hc.1, fun _ => hc.2⟩
      · have := nd_pre hc.1 j (by omega)
        exact ⟨this.1, fun _ => this.2 (by omega)⟩
/-- where a statement breaks, -1 nowhere -/
noncomputable def bsA (a : Ab) (p : Int) : Int := cif (dbV (ltA a p) = 0) p (cif (ndN a (p + 1) (dbV (ltA a p)).toNat = (dbV (ltA a p)).toNat) (if ltA a (p + 1 + dbV (ltA a p)) = 59 then -1 else p + 1 + dbV (ltA a p)) (p + 1 + ndN a (p + 1) (dbV (ltA a p)).toNat))
theorem bs_b {a : Ab} {p : Int} (p0 : 0 ≤ p) : bsA a p = -1 ∨ 0 ≤ bsA a p := by
  have hd := db_c (ltA a p)
  unfold bsA
  by_cases h : dbV (ltA a p) = 0
  · rw [cif_t h]; omega
  · rw [cif_f h]
    by_cases h2 : ndN a (p + 1) (dbV (ltA a p)).toNat = (dbV (ltA a p)).toNat
    · rw [cif_t h2]; split <;> omega
    · rw [cif_f h2]; omega
theorem bs_ok {a : Ab} {p : Int} (p0 : 0 ≤ p) (h : bsA a p = -1) : ¬ dbV (ltA a p) = 0 ∧ ndN a (p + 1) (dbV (ltA a p)).toNat = (dbV (ltA a p)).toNat ∧ ltA a (p + 1 + dbV (ltA a p)) = 59 ∧ p < a.ln ∧ p + dbV (ltA a p) + 2 ≤ a.ln := by
  have hd := db_c (ltA a p)
  unfold bsA at h
  by_cases c1 : dbV (ltA a p) = 0
  · rw [cif_t c1] at h; omega
  · rw [cif_f c1] at h
    by_cases c2 : ndN a (p + 1) (dbV (ltA a p)).toNat = (dbV (ltA a p)).toNat
    · rw [cif_t c2] at h
      by_cases c3 : ltA a (p + 1 + dbV (ltA a p)) = 59
      · have i1 := lt_in (a := a) (q := p + 1 + dbV (ltA a p)) (by rw [c3]; decide)
        have i2 := lt_in (a := a) (q := p) (fun z => c1 (by rw [z]; decide))
        exact ⟨c1, c2, c3, i2.2, by omega⟩
      · rw [if_neg c3] at h; omega
    · rw [cif_f c2] at h
      omega
/-- where the k-th statement begins -/
def pN (a : Ab) : Nat → Int
  | 0 => 0
  | k + 1 => pN a k + dbV (ltA a (pN a k)) + 2
theorem p_b (a : Ab) : ∀ k : Nat, 0 ≤ pN a k ∧ pN a k ≤ 8 * k
  | 0 => ⟨Int.le_refl 0, Int.le_refl 0⟩
  | k + 1 => by
    have := p_b a k
    have hd := db_c (ltA a (pN a k))
    unfold pN
    omega
theorem p_ge {a : Ab} : ∀ k : Nat, (∀ i, i < k → bsA a (pN a i) = -1) → 4 * (k : Int) ≤ pN a k
  | 0, _ => Int.le_refl 0
  | k + 1, h => by
    have ih := p_ge k (fun i q => h i (by omega))
    have b := bs_ok (p_b a k).1 (h k (by omega))
    have hd := db_c (ltA a (pN a k))
    unfold pN
    omega
theorem c_lt {a : Ab} {C : GG} (ha : OkA a) (hc : RC a C) (q : Int) : X1_letterAt_v (C 2 0) q = ltA a q ∧ X1_letterAt_c (C 2 0) q := by
  have h9 := hc.2.2.2.1
  have b9 := ha.2.2.2.1
  unfold X1_letterAt_v X1_letterAt_c ltA
  rw [h9.1]
  refine ⟨?_, fun z => ⟨z.1, by omega⟩⟩
  by_cases h : 0 ≤ q ∧ q < a.ln
  · rw [if_pos h, if_pos h]
    exact h9.2 q h.1 h.2
  · rw [if_neg h, if_neg h]
theorem c_bs {a : Ab} {C : GG} (ha : OkA a) (hc : RC a C) {p : Int} (p0 : 0 ≤ p) (p1 : p ≤ 1000) : Ok (X1_brokenStatementAt (C 2 0) p) (fun r => r = bsA a p) := by
  have hd := db_c (ltA a p)
  unfold X1_brokenStatementAt
  rw [(c_lt ha hc p).1]
  refine okG (c_lt ha hc p).2 (okL ?_)
  unfold bsA
  refine okI (fun h => okS (by rw [cif_t h])) (fun h => ?_)
  rw [cif_f h]
  generalize hdd : dbV (ltA a p) = d at hd h
  have hdd' : X1_digitsBehind_v (ltA a p) = d := hdd
  rw [hdd', w32_eq (x := p + 1) (by omega) (by omega), w32_eq (x := p + 1 + d) (by omega) (by omega)]
  refine okL (okL ?_)
  refine okB (P := SuQ (fun _ : Int => ndN a (p + 1) d.toNat = d.toNat) (fun r : Int => ¬ ndN a (p + 1) d.toNat = d.toNat ∧ r = p + 1 + ndN a (p + 1) d.toNat)) ?_ ?_
  · refine okLoop (fun s => ∃ k : Nat, s = p + 1 + (k : Int) ∧ k ≤ d.toNat ∧ ndN a (p + 1) k = k) (fun s => (p + 1 + d - s).toNat) ?_ ⟨0, by omega, by omega, rfl⟩
    rintro s ⟨k, rfl, hk, hn⟩
    unfold X1_brokenStatementAt_s1
    rw [(c_lt ha hc _).1, w32_eq (x := p + 1 + (k : Int) + 1) (by omega) (by omega)]
    refine okI (fun hlt => okG (c_lt ha hc _).2 ?_) (fun hlt => okS ?_)
    · have iv := isD_v (ltA a (p + 1 + (k : Int)))
      refine okI (fun q => okS ?_) (fun q => okS ⟨⟨k + 1, by omega, by omega, nd_on hn ?_⟩, by show (p + 1 + d - (p + 1 + (k : Int) + 1)).toNat < (p + 1 + d - (p + 1 + (k : Int))).toNat; omega⟩)
      · have e := nd_off hn (iv.mp q) d.toNat (by omega)
        show ¬ ndN a (p + 1) d.toNat = d.toNat ∧ p + 1 + (k : Int) = p + 1 + ndN a (p + 1) d.toNat
        rw [e]
        exact ⟨by omega, rfl⟩
      · by_cases z : isD (ltA a (p + 1 + (k : Int)))
        · exact z
        · exact absurd (iv.mpr z) q
    · show ndN a (p + 1) d.toNat = d.toNat
      rw [show d.toNat = k by omega]
      exact hn
  · rintro (z | z) hz
    · have hz' : ndN a (p + 1) d.toNat = d.toNat := hz
      refine okG (c_lt ha hc _).2 (okS ?_)
      rw [cif_t hz', (c_lt ha hc _).1]
    · obtain ⟨h1, h2⟩ : ¬ ndN a (p + 1) d.toNat = d.toNat ∧ z = p + 1 + ndN a (p + 1) d.toNat := hz
      exact okS (by rw [cif_f h1]; exact h2)
/-- the outcome of reading: broken in the k-th, or K whole statements -/
def Bad (a : Ab) (k : Nat) (r : Int) : Prop := k < 24 ∧ (∀ i, i < k → bsA a (pN a i) = -1 ∧ pN a (i + 1) < a.ln) ∧ bsA a (pN a k) = r ∧ 0 ≤ r
def Good (a : Ab) (K : Nat) : Prop := 1 ≤ K ∧ K ≤ 24 ∧ (∀ i, i < K → bsA a (pN a i) = -1) ∧ (∀ i, i + 1 < K → pN a (i + 1) < a.ln) ∧ a.ln ≤ pN a K
theorem c_brk {a : Ab} {C : GG} (ha : OkA a) (hc : RC a C) : Ok (X1_brokenAt (C 2 0)) (fun r => (∃ k, Bad a k r) ∨ (r = -1 ∧ ∃ K, Good a K)) := by
  have b9 := ha.2.2.2.1
  have h9 := hc.2.2.2.1
  unfold X1_brokenAt
  refine okB (P := SuQ (fun _ : Int × Int => False) (fun r : Int => (∃ k, Bad a k r) ∨ (r = -1 ∧ ∃ K, Good a K))) ?_ ?_
  · refine okLoop (fun s => ∃ k : Nat, s.1 = pN a k ∧ s.2 = (k : Int) ∧ k ≤ 24 ∧ ∀ i, i < k → bsA a (pN a i) = -1 ∧ pN a (i + 1) < a.ln) (fun s => (24 - s.2).toNat) ?_ ⟨0, rfl, rfl, by omega, fun i q => by omega⟩
    rintro ⟨p, j⟩ ⟨k, e1, e2, hk, hI⟩
    simp only at e1 e2
    subst e1
    subst e2
    have pb := p_b a k
    unfold X1_brokenAt_s1
    simp only
    rw [w32_eq (x := (k : Int) + 1) (by omega) (by omega)]
    refine okI (fun hlt => okB (c_bs ha hc pb.1 (by omega)) ?_) (fun hlt => okS ?_)
    · rintro r rfl
      have bb := bs_b (a := a) pb.1
      refine okI (fun q => okS (Or.inl ⟨k, by omega, hI, rfl, q⟩)) (fun q => ?_)
      have e : bsA a (pN a k) = -1 := by omega
      have hd := db_c (ltA a (pN a k))
      have en : pN a (k + 1) = pN a k + dbV (ltA a (pN a k)) + 2 := rfl
      unfold X1_lengthAt_c X1_lengthAt_v
      rw [(c_lt ha hc _).1, h9.1]
      have ex : w32 (pN a k + w32 (X1_digitsBehind_v (ltA a (pN a k)) + 2)) = pN a (k + 1) := by
        rw [en, w32_eq (x := X1_digitsBehind_v (ltA a (pN a k)) + 2) (by show -2147483648 ≤ dbV (ltA a (pN a k)) + 2; omega) (by show dbV (ltA a (pN a k)) + 2 < 2147483648; omega), w32_eq (by show -2147483648 ≤ pN a k + (dbV (ltA a (pN a k)) + 2); omega) (by show pN a k + (dbV (ltA a (pN a k)) + 2) < 2147483648; omega)]
        show pN a k + (dbV (ltA a (pN a k)) + 2) = _
        omega
      rw [ex]
      refine okG (c_lt ha hc _).2 (okL (okI (fun h => okS (Or.inr ⟨rfl, k + 1, by omega, by omega, fun i hi => ?_, fun i hi => (hI i (by omega)).2, h⟩)) (fun h => okS ⟨⟨k + 1, rfl, rfl, by omega, fun i hi => ?_⟩, by show (24 - ((k : Int) + 1)).toNat < (24 - (k : Int)).toNat; omega⟩)))
      · by_cases ei : i = k
        · rw [ei]; exact e
        · exact (hI i (by omega)).1
      · by_cases ei : i = k
        · rw [ei]; exact ⟨e, by omega⟩
        · exact hI i (by omega)
    · have e : k = 24 := by omega
      subst e
      have g := p_ge 24 (fun i hi => (hI i hi).1)
      have l := (hI 23 (by omega)).2
      have l' : pN a 24 < a.ln := l
      show False
      omega
  · rintro (z | z) hz
    · exact absurd hz id
    · exact okS hz
/-- a number told -/
def nmN (a : Ab) (p : Int) : Nat → Int
  | 0 => 0
  | d + 1 => 10 * nmN a p d + ltA a (p + d) - 48
theorem nm_1 (a : Ab) (p : Int) : nmN a p 1 = ltA a p - 48 := by
  unfold nmN nmN
  rw [show p + ((0 : Nat) : Int) = p by omega]
  omega
theorem nm_2 (a : Ab) (p : Int) : nmN a p 2 = 10 * (ltA a p - 48) + ltA a (p + 1) - 48 := by
  have e := nm_1 a p
  show 10 * nmN a p 1 + ltA a (p + ((1 : Nat) : Int)) - 48 = _
  rw [e]
  rfl
theorem c_num {a : Ab} {C : GG} (ha : OkA a) (hc : RC a C) {p : Int} (p0 : 0 ≤ p) (p1 : p ≤ 1000) (d : Nat) (hd : d = 1 ∨ d = 2) : Ok (X1_number (C 2 0) p d) (fun r => r = nmN a p d) := by
  unfold X1_number
  refine okB (P := fun z => z.1 = nmN a p d) ?_ (fun z q => okS q)
  refine okLoop (fun s => ∃ k : Nat, s.1 = nmN a p k ∧ s.2 = p + (k : Int) ∧ k ≤ d) (fun s => (p + d - s.2).toNat) ?_ ⟨0, rfl, by show p = p + ((0 : Nat) : Int); omega, by omega⟩
  rintro ⟨v, i⟩ ⟨k, e1, e2, hk⟩
  simp only at e1 e2
  subst e1
  subst e2
  have lb := lt_b ha (p + (k : Int))
  have nb : -1000 ≤ nmN a p k ∧ nmN a p k ≤ 100000 ∨ k = 2 := by
    have hk' : k = 0 ∨ k = 1 ∨ k = 2 := by omega
    rcases hk' with e | e | e
    · rw [e]; left; unfold nmN; omega
    · rw [e, nm_1]; left; have := lt_b ha p; omega
    · exact Or.inr e
  have en : nmN a p (k + 1) = 10 * nmN a p k + ltA a (p + k) - 48 := rfl
  unfold X1_number_s1
  simp only
  rw [w32_eq (x := p + (d : Int)) (by omega) (by omega), w32_eq (x := p + (k : Int) + 1) (by omega) (by omega), (c_lt ha hc _).1]
  refine okI (fun hlt => okG (c_lt ha hc _).2 (okL (okS ⟨⟨k + 1, ?_, by show p + (k : Int) + 1 = p + ((k + 1 : Nat) : Int); omega, by omega⟩, by show (p + d - (p + (k : Int) + 1)).toNat < (p + d - (p + (k : Int))).toNat; omega⟩))) (fun hlt => okS ?_)
  · simp only
    rw [w32_eq (x := 10 * nmN a p k) (by omega) (by omega), w32_eq (x := 10 * nmN a p k + ltA a (p + k)) (by omega) (by omega), en]
    exact w32_eq (by omega) (by omega)
  · show nmN a p k = nmN a p d
    rw [show d = k by omega]
/-- the model's letters -/
def LtS (a : Ab) (P : LT) : Prop := P 0 19 = a.ln ∧ ∀ i, 0 ≤ i → i < a.ln → P 19 i = a.tx i
def St (a : Ab) (q : Int) (j : Nat) (P : LT) : Prop := LtS a P ∧ P 0 20 = q + ndN a q j ∧ P 0 21 = (if ndN a q j = j then 0 else 1)
/-- only where it reads and whether it is broken -/
def F2 (P P' : LT) : Prop := ∀ i j, ¬ (i = 0 ∧ (j = 20 ∨ j = 21)) → P' i j = P i j
theorem F2_t {A B C : LT} (h1 : F2 A B) (h2 : F2 B C) : F2 A C := fun i j q => (h2 i j q).trans (h1 i j q)
theorem LtS_2 {a : Ab} {P P' : LT} (h : LtS a P) (f : F2 P P') : LtS a P' := ⟨by rw [f 0 19 (by omega)]; exact h.1, fun i i0 i1 => by rw [f 19 i (by omega)]; exact h.2 i i0 i1⟩
theorem m_here {a : Ab} {P : LT} (ha : OkA a) (h : LtS a P) (h0 : 0 ≤ P 0 20) : X5_here_v P = ltA a (P 0 20) ∧ X5_here_c P := by
  have b9 := ha.2.2.2.1
  unfold X5_here_v X5_here_c ltA
  rw [h.1]
  refine ⟨?_, fun z => ⟨h0, by omega⟩⟩
  by_cases e : P 0 20 < a.ln
  · rw [if_pos e, if_pos ⟨h0, e⟩]
    exact h.2 _ h0 e
  · rw [if_neg e, if_neg (fun z => e z.2)]
theorem m_digits {a : Ab} {P : LT} (ha : OkA a) {q : Int} {j : Nat} (q0 : 0 ≤ q) (q1 : q ≤ 1000) (hj : j ≤ 10) (h : St a q j P) (d : Nat) (hd : d = 1 ∨ d = 2) : Ok (X5_readDigits P d) (fun z => St a q (j + d) z.2 ∧ F2 P z.2 ∧ (ndN a q (j + d) = j + d → z.1 = nmN a (q + j) d)) := by
  unfold X5_readDigits
  refine okB (P := fun z => St a q (j + d) z.2.2 ∧ F2 P z.2.2 ∧ (ndN a q (j + d) = j + d → z.1 = nmN a (q + j) d)) ?_ (fun z q => okS q)
  refine okLoop (fun s => ∃ k : Nat, s.2.1 = (k : Int) ∧ k ≤ d ∧ St a q (j + k) s.2.2 ∧ F2 P s.2.2 ∧ (ndN a q (j + k) = j + k → s.1 = nmN a (q + j) k)) (fun s => ((d : Int) - s.2.1).toNat) ?_ ⟨0, rfl, by omega, h, fun _ _ _ => rfl, fun _ => rfl⟩
  rintro ⟨v, k', Q⟩ ⟨k, e1, hk, hS, hF, hv⟩
  simp only at e1 hS hF hv
  subst e1
  have nl := nd_le a q (j + k)
  obtain ⟨hL, s20, s21⟩ := hS
  have mh := m_here ha hL (by omega)
  rw [s20] at mh
  unfold X5_readDigits_s1
  simp only
  rw [w32_eq (x := (k : Int) + 1) (by omega) (by omega)]
  have mu : (k : Int) < (d : Int) → ((d : Int) - ((k : Int) + 1)).toNat < ((d : Int) - (k : Int)).toNat := fun _ => by omega
  refine okI (fun hlt => okG (fun _ => mh.2) (okLn (fun R hR => ?_))) (fun hlt => okS (by rw [show d = k by omega]; exact ⟨⟨hL, s20, s21⟩, hF, hv⟩))
  have rf : ∀ i c, ¬ (i = 0 ∧ c = 21) → R i c = Q i c := fun i c z => by rw [hR, lw_n z]
  have r20 : R 0 20 = q + (ndN a q (j + k) : Int) := by rw [rf 0 20 (by omega), s20]
  have i57 : ¬ X5_in_v (ltA a (q + (ndN a q (j + k) : Int))) 48 57 = 0 ↔ isD (ltA a (q + (ndN a q (j + k) : Int))) := by
    rw [m_in]
    exact if10
  by_cases hn : ndN a q (j + k) = j + k
  · rw [if_pos hn] at s21
    have hv' := hv hn
    rw [hn] at r20 i57
    by_cases hD : isD (ltA a (q + ((j + k : Nat) : Int)))
    · have r21 : R 0 21 = 0 := by
        rw [hR, lw_s]
        refine if_neg (fun z => ?_)
        rcases z with z | z
        · exact z s21
        · rw [mh.1, hn] at z
          exact i57.mpr hD z
      have li := lt_in (a := a) (q := q + ((j + k : Nat) : Int)) (fun z => by rw [z] at hD; unfold isD at hD; omega)
      have l19 : R 19 (q + ((j + k : Nat) : Int)) = ltA a (q + ((j + k : Nat) : Int)) := by
        rw [rf 19 _ (by omega), hL.2 _ li.1 li.2]
        unfold ltA
        rw [if_pos li]
      have b9 := ha.2.2.2.1
      have en : nmN a (q + j) (k + 1) = 10 * nmN a (q + j) k + ltA a (q + j + k) - 48 := rfl
      have eq2 : q + (j : Int) + (k : Int) = q + ((j + k : Nat) : Int) := by omega
      have nb : -1000 ≤ nmN a (q + j) k ∧ nmN a (q + j) k ≤ 100000 := by
        have hk' : k = 0 ∨ k = 1 := by omega
        rcases hk' with e | e
        · rw [e]; unfold nmN; omega
        · rw [e, nm_1]; have := lt_b ha (q + j); omega
      have lb := lt_b ha (q + ((j + k : Nat) : Int))
      refine okG (fun _ => by rw [r20]; exact ⟨by omega, by omega⟩) (okLn (fun x hx => okLn (fun R2 hR2 => okS ⟨⟨k + 1, rfl, by omega, ⟨LtS_2 (LtS_2 hL (P' := R) (fun i c z => rf i c (by omega))) (fun i c z => ?_), ?_, ?_⟩, F2_t hF (fun i c z => ?_), fun _ => ?_⟩, mu hlt⟩)))
      · simp only; rw [hR2, lw_n (by omega)]
      · simp only
        rw [hR2, lw_s, if_neg (fun z => z r21), r20, w32_eq (by omega) (by omega), show j + (k + 1) = j + k + 1 by omega, nd_on hn hD]
        omega
      · simp only
        rw [hR2, lw_n (by omega), r21, show j + (k + 1) = j + k + 1 by omega, nd_on hn hD, if_pos rfl]
      · simp only; rw [hR2, lw_n (by omega), rf i c (by omega)]
      · simp only
        rw [hx, if_neg (fun z => z r21), r20, l19, en, eq2, hv', w32_eq (x := 10 * nmN a (q + j) k) (by omega) (by omega), w32_eq (x := 10 * nmN a (q + j) k + ltA a (q + ((j + k : Nat) : Int))) (by omega) (by omega)]
        exact w32_eq (by omega) (by omega)
    · have r21 : R 0 21 = 1 := by
        rw [hR, lw_s]
        refine if_pos (Or.inr ?_)
        rw [mh.1, hn]
        by_cases z : X5_in_v (ltA a (q + ((j + k : Nat) : Int))) 48 57 = 0
        · exact z
        · exact absurd (i57.mp z) hD
      have nf := nd_off hn hD (j + (k + 1)) (by omega)
      refine okG (fun z => absurd (show ¬ R 0 21 = 0 by rw [r21]; decide) z) (okLn (fun x hx => okLn (fun R2 hR2 => okS ⟨⟨k + 1, rfl, by omega, ⟨LtS_2 (LtS_2 hL (P' := R) (fun i c z => rf i c (by omega))) (fun i c z => ?_), ?_, ?_⟩, F2_t hF (fun i c z => ?_), fun z => ?_⟩, mu hlt⟩)))
      · simp only; rw [hR2, lw_n (by omega)]
      · simp only
        rw [hR2, lw_s, if_pos (by rw [r21]; decide), r20, w32_eq (by omega) (by omega), nf]
        omega
      · simp only
        rw [hR2, lw_n (by omega), r21, nf, if_neg (by omega)]
      · simp only; rw [hR2, lw_n (by omega), rf i c (by omega)]
      · rw [nf] at z
        omega
  · rw [if_neg hn] at s21
    have r21 : R 0 21 = 1 := by
      rw [hR, lw_s]
      exact if_pos (Or.inl (by rw [s21]; decide))
    have nf : ndN a q (j + (k + 1)) = ndN a q (j + k) := by
      show ndN a q (j + k + 1) = _
      have e : ndN a q (j + k + 1) = cif (ndN a q (j + k) = j + k ∧ isD (ltA a (q + ((j + k : Nat) : Int)))) (j + k + 1) (ndN a q (j + k)) := rfl
      rw [e, cif_f (fun z => hn z.1)]
    refine okG (fun z => absurd (show ¬ R 0 21 = 0 by rw [r21]; decide) z) (okLn (fun x hx => okLn (fun R2 hR2 => okS ⟨⟨k + 1, rfl, by omega, ⟨LtS_2 (LtS_2 hL (P' := R) (fun i c z => rf i c (by omega))) (fun i c z => ?_), ?_, ?_⟩, F2_t hF (fun i c z => ?_), fun z => ?_⟩, mu hlt⟩)))
    · simp only; rw [hR2, lw_n (by omega)]
    · simp only
      rw [hR2, lw_s, if_pos (by rw [r21]; decide), r20, w32_eq (by omega) (by omega), nf]
      omega
    · simp only
      rw [hR2, lw_n (by omega), r21, nf, if_neg (by omega)]
    · simp only; rw [hR2, lw_n (by omega), rf i c (by omega)]
    · rw [nf] at z
      omega
