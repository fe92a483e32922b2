/-! The class's hour is hrS -/
theorem fz_v {k f c : Int} (f0 : 0 ≤ f) (f9 : f ≤ 9) (c0 : 0 ≤ c) (c9 : c ≤ 9) : X0_freezes_v k f c = if k = 1 then c / 2 else if k = 3 then c + f else if k = 4 then imax 0 (c + f - 2) else c := by
  unfold X0_freezes_v
  rw [w32_eq (x := c + f) (by omega) (by omega), w32_eq (x := c + f - 2) (by omega) (by omega), jdiv2 c0 (by omega)]
theorem mt_v {k f n : Int} (f0 : 0 ≤ f) (f9 : f ≤ 9) (n0 : 0 ≤ n) (n9 : n ≤ 9) : X0_melts_v k f n = if k = 1 then 2 * n else if k = 2 then imax 0 (n - f / 2) else if k = 5 then imax 0 (n - f / 2) / 2 else if k = 4 then n + 1 else n := by
  unfold X0_melts_v
  rw [jdiv2 f0 (by omega), w32_eq (x := 2 * n) (by omega) (by omega), w32_eq (x := n - f / 2) (by omega) (by omega), w32_eq (x := n + 1) (by omega) (by omega)]
  rw [jdiv2 (by unfold imax; split <;> omega) (by unfold imax; split <;> omega)]
theorem wt_v {k f w : Int} (f0 : 0 ≤ f) (f9 : f ≤ 9) (w0 : 0 ≤ w) (w9 : w ≤ 100) : X0_wants_v k f w = if k = 1 then w + w / 2 else if k = 2 then w + f else if k = 5 then w + f else if k = 3 then w / 2 else if k = 4 then w / 2 else w := by
  unfold X0_wants_v
  rw [jdiv2 w0 (by omega), w32_eq (x := w + w / 2) (by omega) (by omega), w32_eq (x := w + f) (by omega) (by omega)]
theorem fz_b {k f c : Int} (f0 : 0 ≤ f) (f9 : f ≤ 9) (c0 : 0 ≤ c) (c9 : c ≤ 9) : 0 ≤ X0_freezes_v k f c ∧ X0_freezes_v k f c ≤ 18 := by
  rw [fz_v f0 f9 c0 c9]
  unfold imax
  repeat' split
  all_goals omega
theorem mt_b {k f n : Int} (f0 : 0 ≤ f) (f9 : f ≤ 9) (n0 : 0 ≤ n) (n9 : n ≤ 9) : 0 ≤ X0_melts_v k f n ∧ X0_melts_v k f n ≤ 18 := by
  rw [mt_v f0 f9 n0 n9]
  unfold imax
  repeat' split
  all_goals omega
theorem wt_b {k f w : Int} (f0 : 0 ≤ f) (f9 : f ≤ 9) (w0 : 0 ≤ w) (w9 : w ≤ 100) : 0 ≤ X0_wants_v k f w ∧ X0_wants_v k f w ≤ 150 := by
  rw [wt_v f0 f9 w0 w9]
  repeat' split
  all_goals omega
def Feel (L : LT) : Prop := ∀ y, 0 ≤ y → y < L 0 0 → L 17 y = X0_freezes_v (L 6 y) (L 7 y) (L 0 2) ∧ L 18 y = X0_melts_v (L 6 y) (L 7 y) (L 0 3)
theorem w32_s {x a b : Int} (h0 : 0 ≤ x) (h1 : x < 1000000) : w32 (x + 1) = x + 1 := w32_eq (by omega) (by omega)
theorem c_feel {L : LT} (h0 : 0 ≤ L 0 0) (h1 : L 0 0 ≤ 16) : Ok (X2_feelWeather L) (fun L' => Feel L' ∧ ∀ i j, i ≠ 17 → i ≠ 18 → L' i j = L i j) := by
  unfold X2_feelWeather
  refine okB (P := fun z => Feel z.2 ∧ ∀ i j, i ≠ 17 → i ≠ 18 → z.2 i j = L i j) ?_ (fun z h => okS h)
  refine okLoop (fun s => 0 ≤ s.1 ∧ s.1 ≤ L 0 0 ∧ (∀ i j, i ≠ 17 → i ≠ 18 → s.2 i j = L i j) ∧ ∀ y, 0 ≤ y → y < s.1 → s.2 17 y = X0_freezes_v (L 6 y) (L 7 y) (L 0 2) ∧ s.2 18 y = X0_melts_v (L 6 y) (L 7 y) (L 0 3)) (fun s => (L 0 0 - s.1).toNat) ?_ ⟨by omega, h0, fun _ _ _ _ => rfl, fun y h1 h2 => by simp at h2; omega⟩
  rintro ⟨y, M⟩ ⟨i0, i1, hfr, hin⟩
  simp only at i0 i1 hfr hin
  unfold X2_feelWeather_s1
  simp only
  have em := hfr 0 0 (by decide) (by decide)
  refine okI (fun hc => ?_) (fun hc => ?_)
  · refine okG ⟨i0, by omega⟩ (okL (okL (okS ⟨⟨?_, ?_, ?_, ?_⟩, ?_⟩)))
    · simp only; rw [w32_eq (by omega) (by omega)]; omega
    · simp only; rw [w32_eq (by omega) (by omega)]; omega
    · intro i j h17 h18
      simp only
      rw [lw_i h18, lw_i h17, hfr i j h17 h18]
    · intro y' h0' h1'
      simp only at h1' ⊢
      rw [w32_eq (by omega) (by omega)] at h1'
      rw [lw_i (by decide)]
      have e6 := hfr 6 y (by decide) (by decide)
      have e7 := hfr 7 y (by decide) (by decide)
      have e2 := hfr 0 2 (by decide) (by decide)
      have e3 := hfr 0 3 (by decide) (by decide)
      by_cases hy : y' = y
      · subst hy
        rw [lw_s, lw_s, lw_i (by decide), lw_i (by decide), lw_i (by decide), e6, e7, e2, e3]
        exact ⟨rfl, rfl⟩
      · rw [lw_j hy, lw_j hy, lw_i (by decide)]
        exact hin y' h0' (by omega)
    · simp only; rw [w32_eq (by omega) (by omega)]; omega
  · refine okS ⟨fun y' h0' h1' => ?_, hfr⟩
    simp only at h1' ⊢
    have e6 := hfr 6 y' (by decide) (by decide)
    have e7 := hfr 7 y' (by decide) (by decide)
    have e2 := hfr 0 2 (by decide) (by decide)
    have e3 := hfr 0 3 (by decide) (by decide)
    rw [e6, e7, e2, e3]
    exact hin y' h0' (by omega)
theorem c_freeze {L : LT} (h0 : 0 ≤ L 0 0) (h1 : L 0 0 ≤ 16) : Ok (X2_freezeAll L) (fun L' => L' = upT L 8 (fun y => imin 99 (w32 (L 8 y + L 17 y))) (L 0 0)) := by
  unfold X2_freezeAll
  refine okB (P := fun z => z.2 = upT L 8 (fun y => imin 99 (w32 (L 8 y + L 17 y))) (L 0 0)) ?_ (fun z h => okS h)
  refine okLoop (fun s => 0 ≤ s.1 ∧ s.1 ≤ L 0 0 ∧ s.2 = upT L 8 (fun y => imin 99 (w32 (L 8 y + L 17 y))) s.1) (fun s => (L 0 0 - s.1).toNat) ?_ ⟨by omega, h0, (upT_0 _ _ _).symm⟩
  rintro ⟨y, M⟩ ⟨i0, i1, hM⟩
  simp only at i0 i1 hM
  unfold X2_freezeAll_s1
  simp only
  have em : M 0 0 = L 0 0 := by rw [hM, upT_c (by decide)]
  refine okI (fun hc => ?_) (fun hc => ?_)
  · refine okG ⟨i0, by omega⟩ (okL (okS ⟨⟨?_, ?_, ?_⟩, ?_⟩))
    · simp only; rw [w32_eq (by omega) (by omega)]; omega
    · simp only; rw [w32_eq (by omega) (by omega)]; omega
    · simp only
      rw [w32_eq (x := y + 1) (by omega) (by omega), ← upT_s i0, hM, upT_ge (Int.le_refl _), upT_c (by decide)]
    · simp only; rw [w32_eq (by omega) (by omega)]; omega
  · refine okS ?_
    have : y = L 0 0 := by omega
    subst this
    exact hM
theorem c_melt {L : LT} (h0 : 0 ≤ L 0 0) (h1 : L 0 0 ≤ 16) : Ok (X2_meltAll L) (fun L' => L' = upT L 8 (fun y => imax 0 (w32 (L 8 y - L 18 y))) (L 0 0)) := by
  unfold X2_meltAll
  refine okB (P := fun z => z.2 = upT L 8 (fun y => imax 0 (w32 (L 8 y - L 18 y))) (L 0 0)) ?_ (fun z h => okS h)
  refine okLoop (fun s => 0 ≤ s.1 ∧ s.1 ≤ L 0 0 ∧ s.2 = upT L 8 (fun y => imax 0 (w32 (L 8 y - L 18 y))) s.1) (fun s => (L 0 0 - s.1).toNat) ?_ ⟨by omega, h0, (upT_0 _ _ _).symm⟩
  rintro ⟨y, M⟩ ⟨i0, i1, hM⟩
  simp only at i0 i1 hM
  unfold X2_meltAll_s1
  simp only
  have em : M 0 0 = L 0 0 := by rw [hM, upT_c (by decide)]
  refine okI (fun hc => ?_) (fun hc => ?_)
  · refine okG ⟨i0, by omega⟩ (okL (okS ⟨⟨?_, ?_, ?_⟩, ?_⟩))
    · simp only; rw [w32_eq (by omega) (by omega)]; omega
    · simp only; rw [w32_eq (by omega) (by omega)]; omega
    · simp only
      rw [w32_eq (x := y + 1) (by omega) (by omega), ← upT_s i0, hM, upT_ge (Int.le_refl _), upT_c (by decide)]
    · simp only; rw [w32_eq (by omega) (by omega)]; omega
  · refine okS ?_
    have : y = L 0 0 := by omega
    subst this
    exact hM
theorem imin_b {a b : Int} : imin a b = if b < a then b else a := rfl
theorem imax_b {a b : Int} : imax a b = if a < b then b else a := rfl
theorem frz_b {S : LT} (V : Val S) {y : Int} (h0 : 0 ≤ y) (h1 : y < 16) : 0 ≤ frz S y ∧ frz S y ≤ 99 := by
  obtain ⟨⟨v1, v2, v3, v4, v5, v6, v7, v8⟩, vy, vt⟩ := V
  obtain ⟨k0, k5, f0, f9, r0, r9⟩ := vy y h0 h1
  have a := fz_b (k := S 6 y) f0 f9 v3 v4
  have b := mt_b (k := S 6 y) f0 f9 v5 v6
  unfold frz cif imin imax
  repeat' split
  all_goals omega
theorem Val_fm {S : LT} (V : Val S) : Val (fmS S) := by
  have hb := fun y h0 h1 => frz_b V (y := y) h0 h1
  obtain ⟨v0, vy, vt⟩ := V
  unfold fmS
  refine ⟨by simp only [upT_c (show (0 : Nat) ≠ 8 by decide)]; exact v0, fun y h0 h1 => ?_, fun t h0 h1 => ?_⟩
  · rw [upT_c (by decide), upT_c (by decide)]
    obtain ⟨k0, k5, f0, f9, r0, r9⟩ := vy y h0 h1
    refine ⟨k0, k5, f0, f9, ?_⟩
    unfold upT
    split
    · exact hb y h0 h1
    · exact ⟨r0, r9⟩
  · rw [upT_c (by decide)] at h1
    simp only [upT_c (show (9 : Nat) ≠ 8 by decide), upT_c (show (10 : Nat) ≠ 8 by decide), upT_c (show (11 : Nat) ≠ 8 by decide), upT_c (show (12 : Nat) ≠ 8 by decide), upT_c (show (13 : Nat) ≠ 8 by decide), upT_c (show (14 : Nat) ≠ 8 by decide)]
    exact vt t h0 h1
/-- a change of one place keeps what is bounded -/
theorem Val_lw {S : LT} (V : Val S) {i : Nat} {j v : Int} (h : i = 6 ∧ 0 ≤ v ∧ v ≤ 5 ∨ i = 7 ∧ 0 ≤ v ∧ v ≤ 9 ∨ i = 8 ∧ 0 ≤ v ∧ v ≤ 99 ∨ i = 9 ∧ 1 ≤ v ∧ v ≤ 60 ∨ i = 10 ∧ 0 ≤ v ∧ v ≤ 9 ∨ i = 11 ∧ 1 ≤ v ∧ v ≤ 3 ∨ i = 12 ∧ -1 ≤ v ∧ v ≤ 15 ∨ i = 13 ∧ 0 ≤ v ∧ v ≤ 48 ∨ i = 14 ∧ 0 ≤ v ∧ v ≤ 3 ∨ i = 0 ∧ j = 1 ∨ i = 0 ∧ (j = 2 ∨ j = 3) ∧ 0 ≤ v ∧ v ≤ 9 ∨ i = 0 ∧ j = 0 ∧ 2 ≤ v ∧ v ≤ 16) : Val (lw S i j v) := by
  obtain ⟨⟨v1, v2, v3, v4, v5, v6, v7, v8⟩, vy, vt⟩ := V
  refine ⟨?_, fun y h0 h1 => ?_, fun t h0 h1 => ?_⟩
  · unfold lw
    refine ⟨?_, ?_, ?_, ?_, ?_, ?_, ?_, ?_⟩ <;> split <;> omega
  · have := vy y h0 h1
    unfold lw
    refine ⟨?_, ?_, ?_, ?_, ?_, ?_⟩ <;> split <;> omega
  · have ht : t < S 0 4 := by
      unfold lw at h1
      split at h1 <;> omega
    have := vt t h0 ht
    unfold lw
    refine ⟨?_, ?_, ?_, ?_, ?_, ?_, ?_, ?_, ?_, ?_, ?_, ?_⟩ <;> split <;> omega
theorem Val_mv (t : Int) (t0 : 0 ≤ t) : ∀ (k : Nat) (S : LT), Val S → t < S 0 4 → Val (mvS t k S)
  | 0, S, V, _ => V
  | k + 1, S, V, ht => by
    unfold mvS
    by_cases h : S 0 0 ≤ S 12 t + 1
    · rw [cif_t h]
      exact Val_lw V (by omega)
    · rw [cif_f h]
      by_cases h2 : wantS S (S 12 t + 1) (S 9 t) ≤ S 8 (S 12 t + 1) ∧ ¬ takenS S (S 12 t + 1)
      · rw [cif_t h2]
        have a := V.2.2 t t0 ht
        have m := V.1
        have y := V.2.1 (S 12 t + 1) (by omega) (by omega)
        refine Val_mv t t0 k _ (Val_lw (Val_lw V (by omega)) ?_) (by rw [lw_i (by decide), lw_i (by decide)]; exact ht)
        unfold imax
        split <;> omega
      · rw [cif_f h2]; exact V
theorem Val_tr (t : Int) (t0 : 0 ≤ t) {S : LT} (V : Val S) (ht : t < S 0 4) : Val (trS t S) := by
  unfold trS
  by_cases h : S 14 t = 0
  · rw [cif_t h]
    by_cases h2 : 0 < S 13 t
    · rw [cif_t h2]
      have a := V.2.2 t t0 ht
      exact Val_lw V (by omega)
    · rw [cif_f h2]
      exact Val_mv t t0 _ S V ht
  · rw [cif_f h]; exact V
theorem Val_trs {S : LT} (V : Val S) : ∀ n : Nat, (n : Int) ≤ S 0 4 → Val (trsS n S)
  | 0, _ => V
  | n + 1, h => by
    unfold trsS
    exact Val_tr _ (by omega) (Val_trs V n (by omega)) (by rw [trsS_fr S 0 4 (by decide) (by decide) (by decide) (by decide)]; omega)
theorem snk_fr (S : LT) {i : Nat} {j : Int} (h : i ≠ 14) : snk S i j = S i j := by unfold snk; rw [cif_f (fun q => h q.1)]
theorem Val_snk {S : LT} (V : Val S) : Val (snk S) := by
  obtain ⟨v0, vy, vt⟩ := V
  refine ⟨by simp only [snk_fr S (show (0 : Nat) ≠ 14 by decide)]; exact v0, fun y h0 h1 => ?_, fun t h0 h1 => ?_⟩
  · simp only [snk_fr S (show (6 : Nat) ≠ 14 by decide), snk_fr S (show (7 : Nat) ≠ 14 by decide), snk_fr S (show (8 : Nat) ≠ 14 by decide)]
    exact vy y h0 h1
  · rw [snk_fr S (by decide)] at h1
    simp only [snk_fr S (show (9 : Nat) ≠ 14 by decide), snk_fr S (show (10 : Nat) ≠ 14 by decide), snk_fr S (show (11 : Nat) ≠ 14 by decide), snk_fr S (show (12 : Nat) ≠ 14 by decide), snk_fr S (show (13 : Nat) ≠ 14 by decide)]
    have a := vt t h0 h1
    refine ⟨a.1, a.2.1, a.2.2.1, a.2.2.2.1, a.2.2.2.2.1, a.2.2.2.2.2.1, a.2.2.2.2.2.2.1, a.2.2.2.2.2.2.2.1, a.2.2.2.2.2.2.2.2.1, a.2.2.2.2.2.2.2.2.2.1, ?_⟩
    unfold snk cif
    split <;> omega
theorem hr_0 (S : LT) {j : Int} (h : j ≠ 1) : hrS S 0 j = S 0 j := by
  unfold hrS fmS
  rw [lw_j h, snk_fr _ (by decide), trsS_fr _ _ _ (by decide) (by decide) (by decide) (by decide), upT_c (by decide)]
theorem hr_fr (S : LT) {i : Nat} (j : Int) (h0 : i ≠ 0) (h8 : i ≠ 8) (h12 : i ≠ 12) (h13 : i ≠ 13) (h14 : i ≠ 14) : hrS S i j = S i j := by
  unfold hrS fmS
  rw [lw_i h0, snk_fr _ h14, trsS_fr _ _ _ h8 h12 h13 h14, upT_c h8]
theorem hr_h (S : LT) : hrS S 0 1 = S 0 1 + 1 := by unfold hrS; rw [lw_s]
theorem Val_hr {S : LT} (V : Val S) : Val (hrS S) := by
  have e : fmS S 0 4 = S 0 4 := by unfold fmS; rw [upT_c (by decide)]
  unfold hrS
  refine Val_lw (Val_snk (Val_trs (Val_fm V) _ ?_)) (by omega)
  have := V.1
  rw [e]
  omega
