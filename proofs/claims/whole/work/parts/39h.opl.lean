/-! What can be taken back; calls that change the line -/
def aSet (a : Ab) (s : LT) : Ab := mkA s a.im a.hi a.n a.tu a.ln a.tx a.rn a.rw a.rf
def aPast (a : Ab) (n : Int) (tu : Int → LT) : Ab := mkA a.s a.im a.hi n tu a.ln a.tx a.rn a.rw a.rf
theorem OkA_set {a : Ab} (h : OkA a) {s : LT} (hs : Vs s) : OkA (aSet a s) := ⟨hs, h.2⟩
theorem OkA_past {a : Ab} (h : OkA a) {n : Int} {tu : Int → LT} (n0 : 0 ≤ n) (n1 : n ≤ 8) (ht : ∀ k, 0 ≤ k → k < n → Vs (tu k)) : OkA (aPast a n tu) := ⟨h.1, h.2.1, ⟨n0, n1, ht⟩, h.2.2.2⟩
theorem OkA_fgt {a : Ab} (h : OkA a) : OkA (aPast a 0 a.tu) := OkA_past h (Int.le_refl 0) (by omega) (fun k q0 q1 => by omega)
theorem RC_set {a : Ab} (ha : OkA a) {C C' : GG} {s : LT} (h : RC a C) (hs : Sc s (C' 1 0)) (g : ∀ t l, ¬ (t = 1 ∧ l = 0) → C' t l = C t l) : RC (aSet a s) C' := by
  obtain ⟨-, ⟨e2, e3⟩, ⟨e4, e5, e6⟩, ⟨e7, e8⟩, ⟨e9, e10⟩, e11⟩ := h
  have g3 : C' 3 0 = C 3 0 := g 3 0 (by omega)
  have g0 : C' 0 0 = C 0 0 := g 0 0 (by omega)
  have g2 : C' 2 0 = C 2 0 := g 2 0 (by omega)
  refine ⟨hs, ⟨by rw [g0]; exact e2, fun q => by rw [g 1 2 (by omega)]; exact e3 q⟩, ⟨by rw [g3]; exact e4, ⟨by rw [g3]; exact e5.1, by rw [g3]; exact e5.2⟩, fun k q0 q1 => ?_⟩, ⟨by rw [g2]; exact e7, fun k q0 q1 => by rw [g2]; exact e8 k q0 q1⟩, ⟨by rw [g0]; exact e9, fun k q0 q1 => by rw [g0]; exact e10 k q0 q1⟩, fun k q0 q1 => by rw [g0]; exact e11 k q0 q1⟩
  have q1' : k < a.n := q1
  have b := e5.1 k q0 (by have := ha.2.2.1; omega)
  rw [g3, g 1 _ (by omega)]
  exact e6 k q0 q1
theorem RM_set {a : Ab} {M M' : LT} {s : LT} (h : RM a M) (hs : Sm s M') (f : MF M M') : RM (aSet a s) M' := by
  obtain ⟨h1, ⟨h2, h3⟩, ⟨h4, h6⟩, ⟨h7, h8⟩, ⟨h9, h10⟩, h11⟩ := h
  have f28 : M' 28 = M 28 := funext (fun j => f 28 j (by omega))
  have f33 : ∀ j, M' 33 j = M 33 j := fun j => f 33 j (by omega)
  refine ⟨hs, ⟨?_, fun q => ?_⟩, ⟨?_, fun k q0 q1 => ?_⟩, ⟨?_, fun k q0 q1 => ?_⟩, ⟨?_, fun k q0 q1 => ?_⟩, fun k q0 q1 => ?_⟩
  · rw [f 0 28 (by omega)]; exact h2
  · rw [f28]; exact h3 q
  · rw [f 0 34 (by omega)]; exact h4
  · simp only [f33]; exact h6 k q0 q1
  · rw [f 0 19 (by omega)]; exact h7
  · rw [f 19 k (by omega)]; exact h8 k q0 q1
  · rw [f 0 39 (by omega)]; exact h9
  · rw [f 39 k (by omega)]; exact h10 k q0 q1
  · rw [f 16 k (by omega)]; exact h11 k q0 q1
theorem RC_past {a : Ab} {C C' : GG} {n : Int} {tu : Int → LT} (h : RC a C) (g : ∀ t l, ¬ (t = 3 ∧ l = 0) → ¬ (t = 1 ∧ 3 ≤ l) → C' t l = C t l) (h1 : C' 3 0 0 1 = n) (h2 : arr C') (h3 : ∀ k, 0 ≤ k → k < n → Sc (tu k) (C' 1 (C' 3 0 1 k).toNat)) : RC (aPast a n tu) C' := by
  obtain ⟨e1, ⟨e2, e3⟩, -, ⟨e7, e8⟩, ⟨e9, e10⟩, e11⟩ := h
  have g0 : C' 0 0 = C 0 0 := g 0 0 (by omega) (by omega)
  have g2 : C' 2 0 = C 2 0 := g 2 0 (by omega) (by omega)
  exact ⟨by rw [g 1 0 (by omega) (by omega)]; exact e1, ⟨by rw [g0]; exact e2, fun q => by rw [g 1 2 (by omega) (by omega)]; exact e3 q⟩, ⟨h1, h2, h3⟩, ⟨by rw [g2]; exact e7, fun k q0 q1 => by rw [g2]; exact e8 k q0 q1⟩, ⟨by rw [g0]; exact e9, fun k q0 q1 => by rw [g0]; exact e10 k q0 q1⟩, fun k q0 q1 => by rw [g0]; exact e11 k q0 q1⟩
def MP (M M' : LT) : Prop := ∀ i j, (i = 16 ∨ i = 19 ∨ i = 28 ∨ i = 39 ∨ i = 0 ∧ (j = 19 ∨ j = 28 ∨ j = 39)) → M' i j = M i j
theorem MP_t {A B C : LT} (h1 : MP A B) (h2 : MP B C) : MP A C := fun i j q => (h2 i j q).trans (h1 i j q)
theorem RM_past {a : Ab} {M M' : LT} {n : Int} {tu : Int → LT} (h : RM a M) (hs : Sm a.s M') (f : MP M M') (h1 : M' 0 34 = n) (h2 : ∀ k, 0 ≤ k → k < n → ser (tu k) (fun j => M' 33 (83 * k + j))) : RM (aPast a n tu) M' := by
  obtain ⟨-, ⟨e2, e3⟩, -, ⟨h7, h8⟩, ⟨h9, h10⟩, h11⟩ := h
  have f28 : M' 28 = M 28 := funext (fun j => f 28 j (by omega))
  refine ⟨hs, ⟨?_, fun q => ?_⟩, ⟨h1, h2⟩, ⟨?_, fun k q0 q1 => ?_⟩, ⟨?_, fun k q0 q1 => ?_⟩, fun k q0 q1 => ?_⟩
  · rw [f 0 28 (by omega)]; exact e2
  · rw [f28]; exact e3 q
  · rw [f 0 19 (by omega)]; exact h7
  · rw [f 19 k (by omega)]; exact h8 k q0 q1
  · rw [f 0 39 (by omega)]; exact h9
  · rw [f 39 k (by omega)]; exact h10 k q0 q1
  · rw [f 16 k (by omega)]; exact h11 k q0 q1
theorem c_forget {a : Ab} {C : GG} (hc : RC a C) : Ok (X3_forget C) (fun C' => RC (aPast a 0 a.tu) C') := by
  unfold X3_forget
  refine okL (okS ?_)
  have ne : ∀ t l, ¬ (t = 3 ∧ l = 0) → hw C (3, 0, 0) 1 0 t l = C t l := fun t l q => hw_nl q
  have at3 : hw C (3, 0, 0) 1 0 3 0 = lw (C 3 0) 0 1 0 := hw_at _ _ _ _ _ _
  generalize hw C (3, 0, 0) 1 0 = C' at ne at3
  refine RC_past hc (fun t l q _ => ne t l q) (by rw [at3, lw_s]) ⟨?_, ?_⟩ (fun k q0 q1 => by omega)
  · rw [at3]; exact hc.2.2.1.2.1.1
  · rw [at3]; exact hc.2.2.1.2.1.2
theorem m_forget {a : Ab} {M : LT} (hm : RM a M) : RM (aPast a 0 a.tu) (lw M 0 34 0) := by
  refine RM_past hm (Sm_o hm.1 (by omega)) (fun i j q => lw_n (by omega)) (lw_s _ _ _ _) (fun k q0 q1 => by omega)
theorem ser_c {S : LT} {f f' : Int → Int} (V : Val S) (e : ∀ j, 0 ≤ j → j < 83 → f' j = f j) (h : ser S f) : ser S f' := by
  have hv := V.1
  obtain ⟨⟨h0, h1, h2, h3, h4⟩, hy, ht⟩ := h
  refine ⟨⟨by rw [e 0 (by omega) (by omega)]; exact h0, by rw [e 1 (by omega) (by omega)]; exact h1, by rw [e 2 (by omega) (by omega)]; exact h2, by rw [e 3 (by omega) (by omega)]; exact h3, by rw [e 4 (by omega) (by omega)]; exact h4⟩, fun y y0 y1 => ?_, fun t t0 t1 => ?_⟩
  · rw [e (5 + 3 * y) (by omega) (by omega), e (6 + 3 * y) (by omega) (by omega), e (7 + 3 * y) (by omega) (by omega)]
    exact hy y y0 y1
  · rw [e (53 + 6 * t) (by omega) (by omega), e (54 + 6 * t) (by omega) (by omega), e (55 + 6 * t) (by omega) (by omega), e (56 + 6 * t) (by omega) (by omega), e (57 + 6 * t) (by omega) (by omega), e (58 + 6 * t) (by omega) (by omega)]
    exact ht t t0 t1
def aDrop (a : Ab) : Ab := aPast a 7 (fun k => a.tu (k + 1))
theorem c_drop {a : Ab} {C : GG} (hc : RC a C) (h8 : a.n = 8) : Ok (X3_dropOldest C) (fun C' => RC (aDrop a) C') := by
  obtain ⟨e4, e5, e6⟩ := hc.2.2.1
  have b0 := e5.1 0 (by omega) (by omega)
  unfold X3_dropOldest
  refine okG (by omega) (okG ⟨by omega, by omega⟩ ?_)
  refine okB (P := fun z => (∀ t l i j, ¬ (t = 3 ∧ l = 0 ∧ i = 1) → z.2 t l i j = C t l i j) ∧ ∀ j, 0 ≤ j → j < 7 → z.2 3 0 1 j = C 3 0 1 (j + 1)) ?_ ?_
  · refine okLoop (fun s => 1 ≤ s.1 ∧ s.1 ≤ 8 ∧ (∀ t l i j, ¬ (t = 3 ∧ l = 0 ∧ i = 1) → s.2 t l i j = C t l i j) ∧ (∀ j, 0 ≤ j → j < s.1 - 1 → s.2 3 0 1 j = C 3 0 1 (j + 1)) ∧ ∀ j, s.1 - 1 ≤ j → s.2 3 0 1 j = C 3 0 1 j) (fun s => (8 - s.1).toNat) ?_ ⟨by show (1 : Int) ≤ 1; omega, by show (1 : Int) ≤ 8; omega, fun _ _ _ _ _ => rfl, fun j a b => by simp only at b; omega, fun _ _ => rfl⟩
    rintro ⟨k, D⟩ ⟨k0, k1, h1, h2, h3⟩
    simp only at k0 k1 h1 h2 h3
    unfold X3_dropOldest_s1
    simp only
    rw [w32_eq (x := k + 1) (by omega) (by omega), w32_eq (x := k - 1) (by omega) (by omega)]
    refine okI (fun hlt => ?_) (fun hlt => okS ⟨h1, fun j j0 j1 => h2 j j0 (by omega)⟩)
    have bk := e5.1 k (by omega) hlt
    have ek := h3 k (by omega)
    refine okG ⟨by omega, by omega⟩ (okG (by rw [ek]; exact ⟨by omega, by omega⟩) (okG ⟨by omega, by omega⟩ (okL (okS ⟨⟨by simp only; omega, by simp only; omega, fun t l i j q => ?_, fun j j0 j1 => ?_, fun j j0 => ?_⟩, by show (8 - (k + 1)).toNat < (8 - k).toNat; omega⟩))))
    · simp only [hw]
      rw [if_neg (fun z => q ⟨z.1, z.2.1, z.2.2.1⟩)]
      exact h1 t l i j q
    · simp only at j1
      simp only [hw]
      by_cases e : j = k - 1
      · rw [if_pos ⟨trivial, trivial, trivial, e⟩, ek, e, show k - 1 + 1 = k by omega]
      · rw [if_neg (fun z => e z.2.2.2)]
        exact h2 j j0 (by omega)
    · simp only at j0
      simp only [hw]
      rw [if_neg (fun z => by have := z.2.2.2; omega)]
      exact h3 j (by omega)
  · rintro ⟨k, D⟩ ⟨h1, h2⟩
    simp only at h1 h2
    simp only
    have e1 : hw D (3, 0, 1) 7 (C 3 0 1 0) 3 0 0 1 = 8 := by
      simp only [hw]
      rw [if_neg (by omega), h1 3 0 0 1 (by omega), e4, h8]
    refine okG (by omega) (okL (okL (okS ?_)))
    rw [e1, w32_eq (by omega) (by omega)]
    have at3 : ∀ j, 0 ≤ j → j < 8 → hw (hw D (3, 0, 1) 7 (C 3 0 1 0)) (3, 0, 0) 1 (8 - 1) 3 0 1 j = if j = 7 then C 3 0 1 0 else C 3 0 1 (j + 1) := by
      intro j j0 j1
      simp only [hw]
      rw [if_neg (by omega)]
      by_cases e : j = 7
      · rw [if_pos ⟨trivial, trivial, trivial, e⟩, if_pos e]
      · rw [if_neg (fun z => e z.2.2.2), if_neg e]
        exact h2 j j0 (by omega)
    have fr : ∀ t l, ¬ (t = 3 ∧ l = 0) → hw (hw D (3, 0, 1) 7 (C 3 0 1 0)) (3, 0, 0) 1 (8 - 1) t l = C t l := by
      intro t l q
      rw [hw_nl q, hw_nl q]
      funext i j
      exact h1 t l i j (fun z => q ⟨z.1, z.2.1⟩)
    refine RC_past hc (fun t l q _ => fr t l q) (by simp [hw]) ⟨fun k k0 k1 => ?_, fun i j i0 i1 j0 j1 q => ?_⟩ (fun k k0 k1 => ?_)
    · rw [at3 k k0 k1]
      by_cases e : k = 7
      · rw [if_pos e]; exact b0
      · rw [if_neg e]; exact e5.1 (k + 1) (by omega) (by omega)
    · rw [at3 i i0 i1, at3 j j0 j1] at q
      by_cases ei : i = 7
      · rw [if_pos ei] at q
        by_cases ej : j = 7
        · omega
        · rw [if_neg ej] at q
          have := e5.2 _ _ (by omega) (by omega) (by omega) (by omega) q
          omega
      · rw [if_neg ei] at q
        by_cases ej : j = 7
        · rw [if_pos ej] at q
          have := e5.2 _ _ (by omega) (by omega) (by omega) (by omega) q
          omega
        · rw [if_neg ej] at q
          have := e5.2 _ _ (by omega) (by omega) (by omega) (by omega) q
          omega
    · rw [at3 k k0 (by omega), if_neg (by omega), fr 1 _ (by omega)]
      exact e6 (k + 1) (by omega) (by omega)
def aKeep1 (a : Ab) : Ab := aPast a (a.n + 1) (fun k => if k = a.n then a.s else a.tu k)
noncomputable def aKeep (a : Ab) : Ab := cif (a.n = 8) (aKeep1 (aDrop a)) (aKeep1 a)
theorem OkA_drop {a : Ab} (ha : OkA a) (h8 : a.n = 8) : OkA (aDrop a) := OkA_past ha (by omega) (by omega) (fun k q0 q1 => ha.2.2.1.2.2 (k + 1) (by omega) (by omega))
theorem OkA_keep1 {a : Ab} (ha : OkA a) (h8 : a.n < 8) : OkA (aKeep1 a) := by
  have b := ha.2.2.1
  refine OkA_past ha (by omega) (by omega) (fun k q0 q1 => ?_)
  by_cases e : k = a.n
  · rw [if_pos e]; exact ha.1
  · rw [if_neg e]; exact b.2.2 k q0 (by omega)
theorem c_keep1 {a : Ab} {C : GG} (ha : OkA a) (hc : RC a C) (h8 : a.n < 8) : Ok (grd (gd (C 3 0 0 1) 8) (grd (gd (C 3 0 1 (C 3 0 0 1)) 11) (grd (¬ 0 = ((C 3 0 1 (C 3 0 0 1)).toNat)) (Option.bind (X2_become (C 1 ((C 3 0 1 (C 3 0 0 1)).toNat)) (C 1 0)) fun z14 => lt (gs C 1 ((C 3 0 1 (C 3 0 0 1)).toNat) z14 : GG) fun C15 => lt (hw C15 (3, 0, 0) 1 (w32 ((C15 3 0 0 1) + 1)) : GG) fun C18 => some C18)))) (fun C' => RC (aKeep1 a) C') := by
  obtain ⟨e4, e5, e6⟩ := hc.2.2.1
  have b := ha.2.2.1
  rw [e4]
  have bn := e5.1 a.n b.1 h8
  generalize hl : (C 3 0 1 a.n).toNat = l
  have l3 : 3 ≤ l := by omega
  refine okG ⟨b.1, h8⟩ (okG ⟨by omega, by omega⟩ (okG (by omega) (okB (c_become hc.1 ha.1.1) ?_)))
  intro L hL
  have g3 : gs C 1 l L 3 0 = C 3 0 := gs_ne (by omega)
  refine okL (okL (okS ?_))
  rw [g3, e4, w32_eq (by omega) (by omega)]
  have at3 : hw (gs C 1 l L) (3, 0, 0) 1 (a.n + 1) 3 0 = lw (C 3 0) 0 1 (a.n + 1) := by rw [hw_at, g3]
  have ne : ∀ t l', ¬ (t = 3 ∧ l' = 0) → hw (gs C 1 l L) (3, 0, 0) 1 (a.n + 1) t l' = gs C 1 l L t l' := fun t l q => hw_nl q
  generalize hw (gs C 1 l L) (3, 0, 0) 1 (a.n + 1) = C' at at3 ne
  refine RC_past hc (fun t l' q1 q2 => ?_) (by rw [at3, lw_s]) ⟨?_, ?_⟩ (fun k k0 k1 => ?_)
  · rw [ne t l' q1]
    exact gs_ne (fun z => q2 ⟨z.1, by omega⟩)
  · rw [at3]; exact e5.1
  · rw [at3]; exact e5.2
  · rw [at3, ne 1 _ (by omega), lw_i (by decide)]
    by_cases e : k = a.n
    · rw [e, hl, gs_at, if_pos rfl]
      exact hL.1
    · have bk := e5.1 k k0 (by omega)
      have nl : ¬ (C 3 0 1 k).toNat = l := fun z => e (e5.2 k a.n k0 (by omega) b.1 h8 (by omega))
      rw [gs_ne (fun z => nl z.2), if_neg e]
      exact e6 k k0 (by omega)
theorem OkA_keep {a : Ab} (ha : OkA a) : OkA (aKeep a) := by
  have b := ha.2.2.1
  unfold aKeep
  by_cases h8 : a.n = 8
  · rw [cif_t h8]
    exact OkA_keep1 (OkA_drop ha h8) (show (7 : Int) < 8 by omega)
  · rw [cif_f h8]
    exact OkA_keep1 ha (by omega)
theorem keep_s (a : Ab) : (aKeep a).s = a.s := by
  unfold aKeep
  by_cases h8 : a.n = 8
  · rw [cif_t h8]; rfl
  · rw [cif_f h8]; rfl
theorem c_keep {a : Ab} {C : GG} (ha : OkA a) (hc : RC a C) : Ok (X3_keep C 0) (fun C' => RC (aKeep a) C') := by
  have b := ha.2.2.1
  obtain ⟨e4, -, -⟩ := hc.2.2.1
  unfold X3_keep aKeep
  rw [e4]
  by_cases h8 : a.n = 8
  · rw [cif_t h8]
    refine okB (P := fun C' => RC (aDrop a) C') (okT h8 (okB (c_drop hc h8) (fun z q => okS q))) ?_
    intro z hz
    exact c_keep1 (OkA_drop ha h8) hz (show (7 : Int) < 8 by omega)
  · rw [cif_f h8]
    refine okB (P := fun C' => C' = C) (okF h8 (okS rfl)) ?_
    rintro z rfl
    exact c_keep1 ha hc (by omega)
theorem m_keep1 {a : Ab} {M : LT} (ha : OkA a) (hm : RM a M) (h8 : a.n < 8) : Ok (Option.bind (X5_carryAll M 34 1) fun z24 => Option.bind (lp (X5_keepTurn_s2) (0, z24)) fun z29 => lt (lw z29.2 0 34 (w32 ((z29.2 0 34) + 1)) : LT) fun L40 => some L40) (fun M' => RM (aKeep1 a) M') := by
  have b := ha.2.2.1
  have V := ha.1.1
  refine okB (m_tell V hm.1 (to := 34) (by omega)) ?_
  rintro N ⟨n1, n2, n3⟩
  have e34 : N 0 34 = a.n := by rw [n3 0 34 (by unfold lnC; omega) (by omega)]; exact hm.2.2.1.1
  refine okB (P := fun z => (∀ i j, i ≠ 33 → z.2 i j = N i j) ∧ (∀ j, 0 ≤ j → j < 83 → z.2 33 (83 * a.n + j) = N 34 j) ∧ ∀ j, j < 83 * a.n → z.2 33 j = N 33 j) ?_ ?_
  · refine okLoop (fun s => 0 ≤ s.1 ∧ s.1 ≤ 83 ∧ (∀ i j, i ≠ 33 → s.2 i j = N i j) ∧ (∀ j, 0 ≤ j → j < s.1 → s.2 33 (83 * a.n + j) = N 34 j) ∧ ∀ j, j < 83 * a.n → s.2 33 j = N 33 j) (fun s => (83 - s.1).toNat) ?_ ⟨Int.le_refl 0, by show (0 : Int) ≤ 83; omega, fun _ _ _ => rfl, fun j a b => by simp only at b; omega, fun _ _ => rfl⟩
    rintro ⟨k, D⟩ ⟨k0, k1, h1, h2, h3⟩
    simp only at k0 k1 h1 h2 h3
    unfold X5_keepTurn_s2
    simp only
    rw [h1 0 34 (by decide), e34, w32_eq (x := k + 1) (by omega) (by omega), w32_eq (x := 83 * a.n) (by omega) (by omega), w32_eq (x := 83 * a.n + k) (by omega) (by omega), h1 34 k (by decide)]
    refine okI (fun hlt => okG ⟨k0, hlt⟩ (okG ⟨by omega, by omega⟩ (okL (okS ⟨⟨by simp only; omega, by simp only; omega, fun i j q => ?_, fun j j0 j1 => ?_, fun j j0 => ?_⟩, by show (83 - (k + 1)).toNat < (83 - k).toNat; omega⟩)))) (fun hlt => okS ⟨h1, fun j j0 j1 => h2 j j0 (by omega), h3⟩)
    · simp only
      rw [lw_i q, h1 i j q]
    · simp only at j1 ⊢
      by_cases e : j = k
      · rw [e, lw_s]
      · rw [lw_j (by omega)]
        exact h2 j j0 (by omega)
    · simp only
      rw [lw_j (by omega)]
      exact h3 j j0
  · rintro ⟨k, D⟩ ⟨h1, h2, h3⟩
    simp only at h1 h2 h3
    simp only
    rw [h1 0 34 (by decide), e34, w32_eq (by omega) (by omega)]
    refine okL (okS ?_)
    refine RM_past hm ?_ (fun i j q => ?_) (lw_s _ _ _ _) (fun k k0 k1 => ?_)
    · have : Sm a.s D := by
        obtain ⟨w1, w2, w3⟩ := n1
        refine ⟨?_, fun y y0 y1 => ?_, fun t t0 t1 => ?_⟩
        · simp only [h1 0 _ (show (0 : Nat) ≠ 33 by decide)]; exact w1
        · rw [h1 2 _ (by decide), h1 3 _ (by decide), h1 4 _ (by decide)]; exact w2 y y0 y1
        · rw [h1 9 _ (by decide), h1 10 _ (by decide), h1 11 _ (by decide), h1 12 _ (by decide), h1 13 _ (by decide), h1 14 _ (by decide)]; exact w3 t t0 t1
      exact Sm_o this (by omega)
    · rw [lw_n (by omega), h1 i j (by omega), n3 i j (by unfold lnC; omega) (by omega)]
    · by_cases e : k = a.n
      · rw [if_pos e, e]
        refine ser_c V (fun j j0 j1 => ?_) n2
        rw [lw_i (by decide)]
        exact h2 j j0 j1
      · rw [if_neg e]
        refine ser_c (b.2.2 k k0 (by omega)).1 (fun j j0 j1 => ?_) (hm.2.2.1.2 k k0 (by omega))
        rw [lw_i (by decide), h3 _ (by omega), n3 33 _ (by unfold lnC; omega) (by decide)]
theorem m_keep {a : Ab} {M : LT} (ha : OkA a) (hm : RM a M) : Ok (X5_keepTurn M) (fun M' => RM (aKeep a) M') := by
  have b := ha.2.2.1
  obtain ⟨e4, e6⟩ := hm.2.2.1
  unfold X5_keepTurn aKeep
  rw [e4]
  by_cases h8 : a.n = 8
  · rw [cif_t h8]
    refine okB (P := fun M' => RM (aDrop a) M') (okT h8 ?_) ?_
    · refine okB (P := fun z => (∀ i j, i ≠ 33 → z.2 i j = M i j) ∧ ∀ j, 0 ≤ j → j < 581 → z.2 33 j = M 33 (j + 83)) ?_ ?_
      · refine okLoop (fun s => 83 ≤ s.1 ∧ s.1 ≤ 664 ∧ (∀ i j, i ≠ 33 → s.2 i j = M i j) ∧ (∀ j, 0 ≤ j → j < s.1 - 83 → s.2 33 j = M 33 (j + 83)) ∧ ∀ j, s.1 - 83 ≤ j → s.2 33 j = M 33 j) (fun s => (664 - s.1).toNat) ?_ ⟨by show (83 : Int) ≤ 83; omega, by show (83 : Int) ≤ 664; omega, fun _ _ _ => rfl, fun j a b => by simp only at b; omega, fun _ _ => rfl⟩
        rintro ⟨k, D⟩ ⟨k0, k1, h1, h2, h3⟩
        simp only at k0 k1 h1 h2 h3
        unfold X5_keepTurn_s1
        simp only
        rw [w32_eq (x := k + 1) (by omega) (by omega), w32_eq (x := k - 83) (by omega) (by omega), h3 k (by omega)]
        refine okI (fun hlt => okG ⟨by omega, hlt⟩ (okG ⟨by omega, by omega⟩ (okL (okS ⟨⟨by simp only; omega, by simp only; omega, fun i j q => ?_, fun j j0 j1 => ?_, fun j j0 => ?_⟩, by show (664 - (k + 1)).toNat < (664 - k).toNat; omega⟩)))) (fun hlt => okS ⟨h1, fun j j0 j1 => h2 j j0 (by omega)⟩)
        · simp only
          rw [lw_i q, h1 i j q]
        · simp only at j1 ⊢
          by_cases e : j = k - 83
          · rw [e, lw_s, show k - 83 + 83 = k by omega]
          · rw [lw_j e]
            exact h2 j j0 (by omega)
        · simp only at j0 ⊢
          rw [lw_j (by omega)]
          exact h3 j (by omega)
      · rintro ⟨k, D⟩ ⟨h1, h2⟩
        simp only at h1 h2
        simp only
        rw [h1 0 34 (by decide), e4, h8, w32_eq (by omega) (by omega)]
        refine okL (okS ?_)
        refine RM_past hm ?_ (fun i j q => ?_) (lw_s _ _ _ _) (fun k k0 k1 => ?_)
        · have : Sm a.s D := by
            obtain ⟨w1, w2, w3⟩ := hm.1
            refine ⟨?_, fun y y0 y1 => ?_, fun t t0 t1 => ?_⟩
            · simp only [h1 0 _ (show (0 : Nat) ≠ 33 by decide)]; exact w1
            · rw [h1 2 _ (by decide), h1 3 _ (by decide), h1 4 _ (by decide)]; exact w2 y y0 y1
            · rw [h1 9 _ (by decide), h1 10 _ (by decide), h1 11 _ (by decide), h1 12 _ (by decide), h1 13 _ (by decide), h1 14 _ (by decide)]; exact w3 t t0 t1
          exact Sm_o this (by omega)
        · rw [lw_n (by omega), h1 i j (by omega)]
        · refine ser_c (b.2.2 (k + 1) (by omega) (by omega)).1 (fun j j0 j1 => ?_) (e6 (k + 1) (by omega) (by omega))
          rw [lw_i (by decide), h2 _ (by omega) (by omega), show 83 * k + j + 83 = 83 * (k + 1) + j by omega]
    · intro z hz
      exact m_keep1 (OkA_drop ha h8) hz (show (7 : Int) < 8 by omega)
  · rw [cif_f h8]
    refine okB (P := fun C' => C' = M) (okF h8 (okS rfl)) ?_
    rintro z rfl
    exact m_keep1 ha hm (by omega)
