/-! Scans over the yards -/
/-- the weakest yard among 0..k -/
def wkN (S : LT) : Nat → Nat
  | 0 => 0
  | k + 1 => if S 8 (k + 1 : Nat) < S 8 (wkN S k) then k + 1 else wkN S k
def wkS (S : LT) : Int := wkN S (S 0 0 - 1).toNat
theorem wkN_le (S : LT) : ∀ k, wkN S k ≤ k
  | 0 => Nat.le_refl 0
  | k + 1 => by
    have := wkN_le S k
    unfold wkN
    split <;> omega
theorem wkN_min (S : LT) : ∀ k (j : Nat), j ≤ k → S 8 (wkN S k) ≤ S 8 j
  | 0, j, h => by rw [show j = 0 by omega]; exact Int.le_refl _
  | k + 1, j, h => by
    have ih := wkN_min S k
    unfold wkN
    split
    · by_cases e : j = k + 1
      · rw [e]; exact Int.le_refl _
      · have := ih j (by omega); omega
    · by_cases e : j = k + 1
      · rw [e]; omega
      · exact ih j (by omega)
theorem wkS_b {S : LT} (V : Val S) : 0 ≤ wkS S ∧ wkS S < S 0 0 := by
  have hv := V.1
  have := wkN_le S (S 0 0 - 1).toNat
  unfold wkS
  omega
theorem c_weakest {S L : LT} (h : Sc S L) (V : Val S) : Ok (X2_weakest L) (fun r => r = wkS S) := by
  have hv := V.1
  unfold X2_weakest
  refine okB (P := fun z => z.1 = wkS S) ?_ (fun z q => okS q)
  refine okLoop (fun s => ∃ k : Nat, s.1 = (wkN S k : Int) ∧ s.2 = (k : Int) + 1 ∧ (k : Int) + 1 ≤ S 0 0) (fun s => (S 0 0 - s.2).toNat) ?_ ⟨0, rfl, rfl, by omega⟩
  rintro ⟨b, i⟩ ⟨k, e1, e2, hk⟩
  simp only at e1 e2
  subst e1
  subst e2
  have wl := wkN_le S k
  unfold X2_weakest_s1
  simp only
  rw [h.1.1, w32_eq (x := (k : Int) + 1 + 1) (by omega) (by omega)]
  refine okI (fun hlt => okG ⟨by omega, by omega⟩ (okG ⟨by omega, by omega⟩ ?_)) (fun hlt => okS ?_)
  · have k8 := (h.2.1 ((k : Int) + 1) (by omega) (by omega)).2.2
    have w8 := (h.2.1 (wkN S k : Int) (by omega) (by omega)).2.2
    rw [k8, w8]
    have mu : (S 0 0 - ((k : Int) + 1 + 1)).toNat < (S 0 0 - ((k : Int) + 1)).toNat := by omega
    refine okI (fun q => okS ⟨⟨k + 1, ?_, by simp, by omega⟩, mu⟩) (fun q => okS ⟨⟨k + 1, ?_, by simp, by omega⟩, mu⟩)
    · show (k : Int) + 1 = ((if S 8 ((k + 1 : Nat) : Int) < S 8 (wkN S k) then k + 1 else wkN S k : Nat) : Int)
      rw [if_pos (by exact q)]
      omega
    · show (wkN S k : Int) = ((if S 8 ((k + 1 : Nat) : Int) < S 8 (wkN S k) then k + 1 else wkN S k : Nat) : Int)
      rw [if_neg (by exact q)]
  · show (wkN S k : Int) = wkS S
    unfold wkS
    rw [show (S 0 0 - 1).toNat = k by omega]
theorem m_weakest {S M : LT} (h : Sm S M) (V : Val S) : Ok (lp (X5_lowest_s1 M) (0, 1)) (fun z => z.1 = wkS S) := by
  have hv := V.1
  refine okLoop (fun s => ∃ k : Nat, s.1 = (wkN S k : Int) ∧ s.2 = (k : Int) + 1 ∧ (k : Int) + 1 ≤ S 0 0) (fun s => (S 0 0 - s.2).toNat) ?_ ⟨0, rfl, rfl, by omega⟩
  rintro ⟨b, i⟩ ⟨k, e1, e2, hk⟩
  simp only at e1 e2
  subst e1
  subst e2
  have wl := wkN_le S k
  unfold X5_lowest_s1
  simp only
  rw [h.1.1, w32_eq (x := (k : Int) + 1 + 1) (by omega) (by omega)]
  refine okI (fun hlt => okG ⟨by omega, by omega⟩ (okG ⟨by omega, by omega⟩ (okL (okS ⟨⟨k + 1, ?_, by simp, by omega⟩, by show (S 0 0 - ((k : Int) + 1 + 1)).toNat < (S 0 0 - ((k : Int) + 1)).toNat; omega⟩)))) (fun hlt => okS ?_)
  · have k8 := (h.2.1 ((k : Int) + 1) (by omega) (by omega)).2.2
    have w8 := (h.2.1 (wkN S k : Int) (by omega) (by omega)).2.2
    simp only
    rw [k8, w8]
    show _ = ((if S 8 ((k + 1 : Nat) : Int) < S 8 (wkN S k) then k + 1 else wkN S k : Nat) : Int)
    by_cases q : S 8 ((k : Int) + 1) < S 8 (wkN S k)
    · rw [if_pos q, if_pos (by exact q)]
      omega
    · rw [if_neg q, if_neg (by exact q)]
  · show (wkN S k : Int) = wkS S
    unfold wkS
    rw [show (S 0 0 - 1).toNat = k by omega]
theorem m_weakestYard {S M : LT} (h : Sm S M) (V : Val S) : Ok (X5_weakestYard M) (fun r => r = wkS S) := by
  unfold X5_weakestYard
  exact okB (m_weakest h V) (fun z q => okS q)
theorem op_lowest : Op2 X4_lowest X5_lowest := by
  rintro C M ⟨a, ha, hc, hm⟩ n what - -
  refine Bo_op (ck_two ha hc hm (fun hm1 n0 n1 hw => ?_))
  have V := Vs_g ha.1
  have hv := V.1.1
  have VG := Val_go V.1 n.toNat
  have wb := wkS_b VG
  have c0 : goS n.toNat a.s 0 0 = a.s 0 0 := go_0 _ (by decide) _
  refine ⟨a, if what = 0 then goS n.toNat a.s 8 (wkS (goS n.toNat a.s)) else wkS (goS n.toNat a.s), ha, ?_, ?_⟩
  · refine okB (c_goInMind hc.1 V n0 n1) ?_
    rintro C' ⟨cf, cl⟩
    refine okB (c_weakest cl.1.1 VG) ?_
    rintro r rfl
    have k8 := (cl.1.1.2.1 (wkS (goS n.toNat a.s)) wb.1 (by omega)).2.2
    rw [k8]
    exact okG (fun _ => ⟨wb.1, by omega⟩) (okS ⟨rfl, RC_G ha hc (CF_G cf)⟩)
  · refine okB (f_open ha hm1) ?_
    rintro N ⟨n1', n2⟩
    refine okB (f_hours n1' n2 V n0 (by omega)) ?_
    rintro P ⟨p1, p2, -⟩
    refine okB (m_weakest p1 VG) ?_
    rintro ⟨r, r'⟩ e
    simp only at e
    subst e
    have k8 := (p1.2.1 (wkS (goS n.toNat a.s)) wb.1 (by omega)).2.2
    simp only
    rw [k8]
    refine okG (fun _ => ⟨wb.1, by omega⟩) (okL (okB (f_close ha p2) ?_))
    rintro Q ⟨q1, q2, -⟩
    exact okS ⟨rfl, IM_RM q2 hm1 q1⟩
/-- all frost of the first k yards, and the greatest -/
def fsN (S : LT) : Nat → Int
  | 0 => 0
  | k + 1 => fsN S k + S 8 k
def gfN (S : LT) : Nat → Int
  | 0 => 0
  | k + 1 => if gfN S k < S 8 k then S 8 k else gfN S k
def lfN (S : LT) : Nat → Int
  | 0 => 99
  | k + 1 => if S 8 k < lfN S k then S 8 k else lfN S k
theorem fs_b {S : LT} (V : Val S) : ∀ k : Nat, k ≤ 16 → 0 ≤ fsN S k ∧ fsN S k ≤ 99 * k
  | 0, _ => ⟨Int.le_refl 0, Int.le_refl 0⟩
  | k + 1, h => by
    have ih := fs_b V k (by omega)
    have := V.2.1 k (by omega) (by omega)
    unfold fsN
    omega
def fsS (S : LT) : Int := fsN S (S 0 0).toNat
theorem fsS_b {S : LT} (V : Val S) : 0 ≤ fsS S ∧ fsS S ≤ 1584 := by
  have hv := V.1
  have := fs_b V (S 0 0).toNat (by omega)
  unfold fsS
  omega
theorem c_allFrost {S L : LT} (h : Sc S L) (V : Val S) : Ok (X2_allFrost L) (fun r => r = fsS S) := by
  have hv := V.1
  unfold X2_allFrost
  refine okB (P := fun z => z.1 = fsS S) ?_ (fun z q => okS q)
  refine okLoop (fun s => ∃ k : Nat, s.1 = fsN S k ∧ s.2 = (k : Int) ∧ (k : Int) ≤ S 0 0) (fun s => (S 0 0 - s.2).toNat) ?_ ⟨0, rfl, rfl, by omega⟩
  rintro ⟨b, i⟩ ⟨k, e1, e2, hk⟩
  simp only at e1 e2
  subst e1
  subst e2
  unfold X2_allFrost_s1
  simp only
  have fb := fs_b V k (by omega)
  rw [h.1.1, w32_eq (x := (k : Int) + 1) (by omega) (by omega)]
  refine okI (fun hlt => okG ⟨by omega, by omega⟩ (okL (okS ⟨⟨k + 1, ?_, by simp, by omega⟩, by show (S 0 0 - ((k : Int) + 1)).toNat < (S 0 0 - (k : Int)).toNat; omega⟩))) (fun hlt => okS ?_)
  · have k8 := (h.2.1 (k : Int) (by omega) (by omega)).2.2
    have vb := V.2.1 k (by omega) (by omega)
    simp only
    rw [k8, w32_eq (by omega) (by omega)]
    rfl
  · show fsN S k = fsS S
    unfold fsS
    rw [show (S 0 0).toNat = k by omega]
theorem m_allFrost {S M : LT} (h : Sm S M) (V : Val S) : Ok (X5_allFrost M) (fun r => r = fsS S) := by
  have hv := V.1
  unfold X5_allFrost
  refine okB (P := fun z => z.1 = fsS S) ?_ (fun z q => okS q)
  refine okLoop (fun s => ∃ k : Nat, s.1 = fsN S k ∧ s.2 = (k : Int) ∧ (k : Int) ≤ S 0 0) (fun s => (S 0 0 - s.2).toNat) ?_ ⟨0, rfl, rfl, by omega⟩
  rintro ⟨b, i⟩ ⟨k, e1, e2, hk⟩
  simp only at e1 e2
  subst e1
  subst e2
  unfold X5_allFrost_s1
  simp only
  have fb := fs_b V k (by omega)
  rw [h.1.1, w32_eq (x := (k : Int) + 1) (by omega) (by omega)]
  refine okI (fun hlt => okG ⟨by omega, by omega⟩ (okL (okS ⟨⟨k + 1, ?_, by simp, by omega⟩, by show (S 0 0 - ((k : Int) + 1)).toNat < (S 0 0 - (k : Int)).toNat; omega⟩))) (fun hlt => okS ?_)
  · have k8 := (h.2.1 (k : Int) (by omega) (by omega)).2.2
    have vb := V.2.1 k (by omega) (by omega)
    simp only
    rw [k8, w32_eq (by omega) (by omega)]
    rfl
  · show fsN S k = fsS S
    unfold fsS
    rw [show (S 0 0).toNat = k by omega]
def gfS (S : LT) : Int := gfN S (S 0 0).toNat
theorem gf_b {S : LT} (V : Val S) : ∀ k : Nat, k ≤ 16 → 0 ≤ gfN S k ∧ gfN S k ≤ 99
  | 0, _ => ⟨Int.le_refl 0, by unfold gfN; omega⟩
  | k + 1, h => by
    have ih := gf_b V k (by omega)
    have := V.2.1 k (by omega) (by omega)
    unfold gfN
    split <;> omega
theorem c_greatest {S L : LT} (h : Sc S L) (V : Val S) : Ok (X2_greatestFrost L) (fun r => r = gfS S) := by
  have hv := V.1
  unfold X2_greatestFrost
  refine okB (P := fun z => z.1 = gfS S) ?_ (fun z q => okS q)
  refine okLoop (fun s => ∃ k : Nat, s.1 = gfN S k ∧ s.2 = (k : Int) ∧ (k : Int) ≤ S 0 0) (fun s => (S 0 0 - s.2).toNat) ?_ ⟨0, rfl, rfl, by omega⟩
  rintro ⟨b, i⟩ ⟨k, e1, e2, hk⟩
  simp only at e1 e2
  subst e1
  subst e2
  unfold X2_greatestFrost_s1
  simp only
  rw [h.1.1, w32_eq (x := (k : Int) + 1) (by omega) (by omega)]
  refine okI (fun hlt => okG ⟨by omega, by omega⟩ (okL (okS ⟨⟨k + 1, ?_, by simp, by omega⟩, by show (S 0 0 - ((k : Int) + 1)).toNat < (S 0 0 - (k : Int)).toNat; omega⟩))) (fun hlt => okS ?_)
  · have k8 := (h.2.1 (k : Int) (by omega) (by omega)).2.2
    simp only
    rw [k8]
    rfl
  · show gfN S k = gfS S
    unfold gfS
    rw [show (S 0 0).toNat = k by omega]
def lfS (S : LT) : Int := lfN S (S 0 0).toNat
theorem m_meanLoop {S M : LT} (h : Sm S M) (V : Val S) : Ok (lp (X5_mean_s1 M) (99, 0, 0)) (fun z => z.1 = lfS S ∧ z.2.1 = gfS S) := by
  have hv := V.1
  refine okLoop (fun s => ∃ k : Nat, s.1 = lfN S k ∧ s.2.1 = gfN S k ∧ s.2.2 = (k : Int) ∧ (k : Int) ≤ S 0 0) (fun s => (S 0 0 - s.2.2).toNat) ?_ ⟨0, rfl, rfl, rfl, by omega⟩
  rintro ⟨b, c, i⟩ ⟨k, e1, e3, e2, hk⟩
  simp only at e1 e2 e3
  subst e1
  subst e2
  subst e3
  unfold X5_mean_s1
  simp only
  rw [h.1.1, w32_eq (x := (k : Int) + 1) (by omega) (by omega)]
  refine okI (fun hlt => okG ⟨by omega, by omega⟩ (okL (okL (okS ⟨⟨k + 1, ?_, ?_, by simp, by omega⟩, by show (S 0 0 - ((k : Int) + 1)).toNat < (S 0 0 - (k : Int)).toNat; omega⟩)))) (fun hlt => okS ?_)
  · have k8 := (h.2.1 (k : Int) (by omega) (by omega)).2.2
    simp only
    rw [k8]
    rfl
  · have k8 := (h.2.1 (k : Int) (by omega) (by omega)).2.2
    simp only
    rw [k8]
    rfl
  · show lfN S k = lfS S ∧ gfN S k = gfS S
    unfold lfS gfS
    rw [show (S 0 0).toNat = k by omega]
    exact ⟨rfl, rfl⟩
theorem lf_min (S : LT) : ∀ k (j : Nat), j < k → lfN S k ≤ S 8 j
  | 0, j, h => by omega
  | k + 1, j, h => by
    have ih := lf_min S k
    unfold lfN
    split
    · by_cases e : j = k
      · rw [e]; exact Int.le_refl _
      · have := ih j (by omega); omega
    · by_cases e : j = k
      · rw [e]; omega
      · exact ih j (by omega)
theorem lf_at {S : LT} (V : Val S) : ∀ k : Nat, k < 16 → ∃ j : Nat, j ≤ k ∧ lfN S (k + 1) = S 8 j
  | 0, _ => by
    refine ⟨0, Nat.le_refl 0, ?_⟩
    have := V.2.1 0 (by omega) (by omega)
    unfold lfN lfN
    split
    · rfl
    · show (99 : Int) = S 8 0
      simp only [Int.natCast_zero] at *
      omega
  | k + 1, h => by
    obtain ⟨j, h1, h2⟩ := lf_at V k (by omega)
    unfold lfN
    split
    · exact ⟨k + 1, Nat.le_refl _, rfl⟩
    · exact ⟨j, by omega, h2⟩
theorem lf_wk {S : LT} (V : Val S) : lfS S = S 8 (wkS S) := by
  have hv := V.1
  obtain ⟨k, hk⟩ : ∃ k : Nat, (S 0 0).toNat = k + 1 := ⟨(S 0 0).toNat - 1, by omega⟩
  have e2 : (S 0 0 - 1).toNat = k := by omega
  unfold lfS wkS
  rw [hk, e2]
  obtain ⟨j, j1, j2⟩ := lf_at V k (by omega)
  have h1 := wkN_min S k j j1
  have h2 := lf_min S (k + 1) (wkN S k) (by have := wkN_le S k; omega)
  omega
theorem op_mean : Op2 X4_mean X5_mean := by
  rintro C M ⟨a, ha, hc, hm⟩ n what - -
  refine Bo_op (ck_two ha hc hm (fun hm1 n0 n1 hw => ?_))
  have V := Vs_g ha.1
  have hv := V.1.1
  have VG := Val_go V.1 n.toNat
  have wb := wkS_b VG
  have c0 : goS n.toNat a.s 0 0 = a.s 0 0 := go_0 _ (by decide) _
  refine ⟨a, if what = 1 then w32 (gfS (goS n.toNat a.s) - lfS (goS n.toNat a.s)) else jdiv (fsS (goS n.toNat a.s)) (a.s 0 0), ha, ?_, ?_⟩
  · refine okB (c_goInMind hc.1 V n0 n1) ?_
    rintro C' ⟨cf, cl⟩
    refine okI (fun q => okB (c_greatest cl.1.1 VG) ?_) (fun q => okB (c_allFrost cl.1.1 VG) ?_)
    · rintro r rfl
      refine okB (c_weakest cl.1.1 VG) ?_
      rintro r rfl
      have k8 := (cl.1.1.2.1 (wkS (goS n.toNat a.s)) wb.1 (by omega)).2.2
      rw [k8, lf_wk VG, if_pos q]
      exact okG ⟨wb.1, by omega⟩ (okS ⟨rfl, RC_G ha hc (CF_G cf)⟩)
    · rintro r rfl
      have e : imax 1 (C' 1 1 0 0) = a.s 0 0 := by
        rw [cl.1.1.1.1, c0]
        unfold imax
        rw [if_pos (by omega)]
      rw [e, if_neg q]
      exact okG (by omega) (okS ⟨rfl, RC_G ha hc (CF_G cf)⟩)
  · refine okB (f_open ha hm1) ?_
    rintro N ⟨n1', n2⟩
    refine okB (f_hours n1' n2 V n0 (by omega)) ?_
    rintro P ⟨p1, p2, -⟩
    refine okB (m_meanLoop p1 VG) ?_
    rintro ⟨r1, r2, r3⟩ ⟨e1, e2⟩
    simp only at e1 e2
    subst e1
    subst e2
    refine okB (P := fun z => z = if what = 1 then w32 (gfS (goS n.toNat a.s) - lfS (goS n.toNat a.s)) else jdiv (fsS (goS n.toNat a.s)) (a.s 0 0)) (okI (fun q => okB (m_allFrost p1 VG) ?_) (fun q => okS ?_)) ?_
    · rintro r rfl
      rw [p1.1.1, c0, if_neg (show ¬ what = 1 by omega)]
      exact okG (by omega) (okS rfl)
    · rw [if_pos (show what = 1 by omega)]
    · rintro z rfl
      refine okB (f_close ha p2) ?_
      rintro Q ⟨q1, q2, -⟩
      exact okS ⟨rfl, IM_RM q2 hm1 q1⟩
