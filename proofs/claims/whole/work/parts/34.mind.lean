/-! The start; the mind -/
def gI40 (j : Int) : Int := if 0 ≤ j ∧ j < 16 then 40 else 0
def gIln (j : Int) : Int := if 0 ≤ j ∧ j < 8 then j + 3 else -1
def gI1 (i : Nat) (j : Int) : Int := match i with
  | 0 => if j = 0 then 8 else if j = 2 then 3 else if j = 3 then 4 else 0
  | 8 => gI40 j
  | _ => 0
def gI4 (i : Nat) (j : Int) : Int := match i with
  | 0 => if j = 0 then 8 else if j = 5 then 3 else if j = 6 then 4 else if j = 31 then -1 else 0
  | 4 => gI40 j
  | _ => 0
def gI : GG := fun t _ i j => match t with
  | 1 => gI1 i j
  | 3 => match i with
    | 1 => gIln j
    | _ => 0
  | 4 => gI4 i j
  | _ => 0
def sc (xs : Nat → Int32) (y : Int) : Int := (xs y.toNat).toInt
def Op0 (f : GG → Option (Int × GG)) (m : LT → Option (Int × LT)) : Prop := ∀ (C : GG) (M : LT), Rel C M → ∃ (r : Int) (C' : GG) (M' : LT), f C = some (r, C') ∧ m M = some (r, M') ∧ Rel C' M'
def OpR0 (f : GG → Option Int) (m : LT → Option (Int × LT)) : Prop := ∀ (C : GG) (M : LT), Rel C M → ∃ (r : Int) (M' : LT), f C = some r ∧ m M = some (r, M') ∧ Rel C M'
def Op1 (f : GG → Int → Option (Int × GG)) (m : LT → Int → Option (Int × LT)) : Prop := ∀ (C : GG) (M : LT), Rel C M → ∀ (a : Int), Rg a → ∃ (r : Int) (C' : GG) (M' : LT), f C a = some (r, C') ∧ m M a = some (r, M') ∧ Rel C' M'
def OpR1 (f : GG → Int → Option Int) (m : LT → Int → Option (Int × LT)) : Prop := ∀ (C : GG) (M : LT), Rel C M → ∀ (a : Int), Rg a → ∃ (r : Int) (M' : LT), f C a = some r ∧ m M a = some (r, M') ∧ Rel C M'
def Op2 (f : GG → Int → Int → Option (Int × GG)) (m : LT → Int → Int → Option (Int × LT)) : Prop := ∀ (C : GG) (M : LT), Rel C M → ∀ (a : Int) (b : Int), Rg a → Rg b → ∃ (r : Int) (C' : GG) (M' : LT), f C a b = some (r, C') ∧ m M a b = some (r, M') ∧ Rel C' M'
def OpR2 (f : GG → Int → Int → Option Int) (m : LT → Int → Int → Option (Int × LT)) : Prop := ∀ (C : GG) (M : LT), Rel C M → ∀ (a : Int) (b : Int), Rg a → Rg b → ∃ (r : Int) (M' : LT), f C a b = some r ∧ m M a b = some (r, M') ∧ Rel C M'
def Op3 (f : GG → Int → Int → Int → Option (Int × GG)) (m : LT → Int → Int → Int → Option (Int × LT)) : Prop := ∀ (C : GG) (M : LT), Rel C M → ∀ (a : Int) (b : Int) (c : Int), Rg a → Rg b → Rg c → ∃ (r : Int) (C' : GG) (M' : LT), f C a b c = some (r, C') ∧ m M a b c = some (r, M') ∧ Rel C' M'
def OpR3 (f : GG → Int → Int → Int → Option Int) (m : LT → Int → Int → Int → Option (Int × LT)) : Prop := ∀ (C : GG) (M : LT), Rel C M → ∀ (a : Int) (b : Int) (c : Int), Rg a → Rg b → Rg c → ∃ (r : Int) (M' : LT), f C a b c = some r ∧ m M a b c = some (r, M') ∧ Rel C M'
theorem rel_start : Rel gI (gI 4 0) := by
  refine ⟨mkA gI1 gI1 0 0 (fun _ => gI1) 0 (fun _ => 0) 0 (fun _ => 0) (fun _ => 0), ?_, ?_, ?_⟩
  · refine ⟨⟨⟨?_, fun y y0 y1 => ?_, fun t t0 t1 => ?_⟩, ?_, ?_⟩, ⟨Or.inl rfl, fun q => absurd q (by decide)⟩, ⟨Int.le_refl 0, by decide, fun k q0 q1 => ?_⟩, ⟨Int.le_refl 0, by decide, fun k q0 q1 => ?_⟩, ⟨Int.le_refl 0, by decide, fun k q0 q1 => ?_⟩⟩
    · show 2 ≤ gI1 0 0 ∧ gI1 0 0 ≤ 16 ∧ 0 ≤ gI1 0 2 ∧ gI1 0 2 ≤ 9 ∧ 0 ≤ gI1 0 3 ∧ gI1 0 3 ≤ 9 ∧ 0 ≤ gI1 0 4 ∧ gI1 0 4 ≤ 5
      decide
    · have e : gI1 8 y = 40 := by show gI40 y = 40; unfold gI40; rw [if_pos ⟨y0, y1⟩]
      show 0 ≤ gI1 6 y ∧ gI1 6 y ≤ 5 ∧ 0 ≤ gI1 7 y ∧ gI1 7 y ≤ 9 ∧ 0 ≤ gI1 8 y ∧ gI1 8 y ≤ 99
      rw [e, show gI1 6 y = 0 from rfl, show gI1 7 y = 0 from rfl]
      exact ⟨by decide, by decide, by decide, by decide, by decide, by decide⟩
    · have e : gI1 0 4 = 0 := by decide
      exact absurd (show t < gI1 0 4 from t1) (by rw [e]; omega)
    · show 0 ≤ gI1 0 1
      decide
    · show gI1 0 1 ≤ 999
      decide
    · exact absurd (show k < 0 from q1) (by omega)
    · exact absurd (show k < 0 from q1) (by omega)
    · exact absurd (show k < 0 from q1) (by omega)
  · refine ⟨⟨⟨rfl, rfl, rfl, rfl, rfl⟩, fun y _ _ => ⟨rfl, rfl, rfl⟩, fun t _ _ => ⟨rfl, rfl, rfl, rfl, rfl, rfl⟩⟩, ⟨rfl, fun q => absurd q (by decide)⟩, ⟨rfl, ⟨fun k k0 k1 => ?_, fun i j i0 i1 j0 j1 q => ?_⟩, fun k q0 q1 => absurd (show k < 0 from q1) (by omega)⟩, ⟨rfl, fun k q0 q1 => absurd (show k < 0 from q1) (by omega)⟩, ⟨rfl, fun k q0 q1 => absurd (show k < 0 from q1) (by omega)⟩, fun k _ _ => rfl⟩
    · show 3 ≤ gIln k ∧ gIln k ≤ 10
      unfold gIln
      rw [if_pos ⟨k0, k1⟩]
      omega
    · have q' : gIln i = gIln j := q
      unfold gIln at q'
      rw [if_pos ⟨i0, i1⟩, if_pos ⟨j0, j1⟩] at q'
      omega
  · refine ⟨⟨⟨rfl, rfl, rfl, rfl, rfl⟩, fun y _ _ => ⟨rfl, rfl, rfl⟩, fun t t0 t1 => ?_⟩, ⟨rfl, fun q => absurd q (by decide)⟩, ⟨rfl, fun k q0 q1 => absurd (show k < 0 from q1) (by omega)⟩, ⟨rfl, fun k q0 q1 => absurd (show k < 0 from q1) (by omega)⟩, ⟨rfl, fun k q0 q1 => absurd (show k < 0 from q1) (by omega)⟩, fun k _ _ => rfl⟩
    have e : gI1 0 4 = 0 := by decide
    exact absurd (show t < gI1 0 4 from t1) (by rw [e]; omega)
theorem PL_lw {S L : LT} {b : Prop} (h : PL S 0 b L) {i : Nat} {j v : Int} (hi : i = 6 ∨ i = 7 ∨ i = 8 ∨ i = 9 ∨ i = 10 ∨ i = 11 ∨ i = 12 ∨ i = 13 ∨ i = 14 ∨ i = 0 ∧ j ≠ 4 ∧ j ≠ 14) : PL (lw S i j v) 0 b (lw L i j v) := by
  refine ⟨Sc_lw (show Sc S L from h.1) (by omega), fun hb => ?_⟩
  obtain ⟨p, q⟩ := h.2 hb
  refine ⟨by rw [lw_n (by omega)]; exact p, fun u u0 u1 => ?_⟩
  rw [lw_n (by omega)] at u1 ⊢
  exact q u u0 u1
theorem c_mind {S : LT} {C : GG} (h : Sc S (C 1 0)) (V : Val S) : Ok (X2_become (C 1 1) (C 1 0)) (PL S 0 True) := c_become h V
theorem stpN_lt {S : LT} {t : Int} : ∀ n i, i < stpN S t n → goS i S 14 t = 0
  | 0, i, h => by unfold stpN at h; omega
  | n + 1, i, h => by
    unfold stpN at h
    by_cases e : goS (stpN S t n) S 14 t = 0
    · rw [cif_t e] at h
      by_cases e2 : i = stpN S t n
      · rw [e2]; exact e
      · exact stpN_lt n i (by omega)
    · rw [cif_f e] at h
      exact stpN_lt n i h
theorem end_hit {S : LT} {t : Int} {n : Nat} (h0 : S 14 t = 0) (h : goS (stpN S t n) S 14 t ≠ 0) : endS S (stpN S t n) t = (stpN S t n : Nat) := by
  have lt := stpN_lt (S := S) (t := t) n
  generalize stpN S t n = m at h lt
  cases m with
  | zero => exact absurd h0 h
  | succ m =>
    show cif (goS m S 14 t = 0 ∧ goS (m + 1) S 14 t ≠ 0) ((m : Int) + 1) (endS S m t) = _
    rw [cif_t ⟨lt m (by omega), h⟩]
    omega
theorem thr_b (S : LT) (t : Int) : 0 ≤ thrS S t ∧ (thrS S t ≤ 72 ∨ thrS S t = 99) := by
  have := stpN_le S t 72
  unfold thrS
  split <;> omega
theorem thr_i (S : LT) (t : Int) : thrS S t < 99 ↔ goS (stpN S t 72) S 14 t = 1 := by
  have := stpN_le S t 72
  unfold thrS
  by_cases e : goS (stpN S t 72) S 14 t = 1
  · rw [if_pos e]; exact ⟨fun _ => e, fun _ => by omega⟩
  · rw [if_neg e]; exact ⟨fun z => by omega, fun z => absurd z e⟩
/-- a line that hours may be told of -/
def Vg (S : LT) : Prop := Val S ∧ 0 ≤ S 0 1 ∧ S 0 1 < 5000
theorem Vs_g {S : LT} (h : Vs S) : Vg S := ⟨h.1, h.2.1, by have := h.2.2; omega⟩
theorem Vg_lw {S : LT} (h : Vg S) {i : Nat} {j v : Int} (hi : ¬ (i = 0 ∧ j = 1)) (h2 : i = 6 ∧ 0 ≤ v ∧ v ≤ 5 ∨ i = 7 ∧ 0 ≤ v ∧ v ≤ 9 ∨ i = 8 ∧ 0 ≤ v ∧ v ≤ 99 ∨ i = 9 ∧ 1 ≤ v ∧ v ≤ 60 ∨ i = 10 ∧ 0 ≤ v ∧ v ≤ 9 ∨ i = 11 ∧ 1 ≤ v ∧ v ≤ 3 ∨ i = 12 ∧ -1 ≤ v ∧ v ≤ 15 ∨ i = 13 ∧ 0 ≤ v ∧ v ≤ 48 ∨ i = 14 ∧ 0 ≤ v ∧ v ≤ 3 ∨ i = 0 ∧ j = 1 ∨ i = 0 ∧ (j = 2 ∨ j = 3) ∧ 0 ≤ v ∧ v ≤ 9 ∨ i = 0 ∧ j = 0 ∧ 2 ≤ v ∧ v ≤ 16) : Vg (lw S i j v) := by
  refine ⟨Val_lw h.1 h2, ?_, ?_⟩
  · rw [lw_n (by omega)]; exact h.2.1
  · rw [lw_n (by omega)]; exact h.2.2
theorem c_gets {S : LT} {C : GG} (h : PL S 0 True (C 1 1)) (V : Vg S) {t : Int} (t0 : 0 ≤ t) (t1 : t < S 0 4) : Ok (X4_getsThrough C t) (fun z => z.1 = (if thrS S t < 99 then 1 else 0) ∧ CF C z.2 ∧ CL S (stpN S t 72) True (z.2 1 1) ∧ (S 14 t = 0 → thrS S t < 99 → z.2 1 1 16 t = thrS S t)) := by
  have hv := V.1.1
  unfold X4_getsThrough
  refine okB (c_way h V.1 V.2.1 V.2.2 (by omega) (n := 72) (by omega) (by omega) t0 t1) ?_
  intro z hz
  have hz' : CL S (stpN S t 72) True z := by
    have e : (0 : Nat) + stpN (goS 0 S) t (72 : Int).toNat = stpN S t 72 := by
      show 0 + stpN S t 72 = _
      omega
    rw [e] at hz
    exact hz
  refine okL (okG ⟨t0, by omega⟩ (okS ⟨?_, CF_gs C z, by simp only [gs_at]; exact hz', fun q0 q1 => ?_⟩))
  · simp only [gs_at]
    have c4 : goS (stpN S t 72) S 0 4 = S 0 4 := go_0 S (by decide) _
    obtain ⟨-, -, -, -, -, a14⟩ := hz'.1.1.2.2 t t0 (by omega)
    rw [a14]
    by_cases e : goS (stpN S t 72) S 14 t = 1
    · rw [if_pos e, if_pos ((thr_i S t).mpr e)]
    · rw [if_neg e, if_neg (fun z => e ((thr_i S t).mp z))]
  · simp only [gs_at]
    have e := (thr_i S t).mp q1
    rw [(hz'.1.2 trivial).2 t t0 t1, end_hit q0 (by rw [e]; decide)]
    unfold thrS
    rw [if_pos e]
theorem c_thr {S : LT} {C : GG} (h : PL S 0 True (C 1 1)) (V : Vg S) : Ok (X4_throughInMind C) (fun z => z.1 = cntS (goS 72 S) 1 ∧ CF C z.2 ∧ ∃ k, CL S k True (z.2 1 1) ∧ ∀ t, 0 ≤ t → t < S 0 4 → goS 72 S 14 t = goS k S 14 t) := by
  unfold X4_throughInMind
  refine okB (c_any h V.1 V.2.1 V.2.2 (n := 72) (by omega) (by omega)) ?_
  rintro z ⟨k, hk, hz, hor⟩
  obtain ⟨e1, e2⟩ := any_end V.1 (m := k) (n := 72) (by omega) (by rcases hor with q | q; exact Or.inl (by omega); exact Or.inr q)
  refine okL ?_
  simp only [gs_at]
  refine okB (c_howMany hz.1.1 (Val_go V.1 k) 1) ?_
  rintro r rfl
  exact okS ⟨(e2 1).symm, CF_gs C z, k, by simp only [gs_at]; exact hz, e1⟩
theorem c_goInMind {S : LT} {C : GG} (h : Sc S (C 1 0)) (V : Vg S) {n : Int} (n0 : 0 ≤ n) (n1 : n ≤ 72) : Ok (X4_goInMind C n) (fun C' => CF C C' ∧ CL S n.toNat True (C' 1 1)) := by
  unfold X4_goInMind
  refine okB (c_mind h V.1) ?_
  intro z hz
  refine okL ?_
  simp only [gs_at]
  refine okB (c_go hz V.1 V.2.1 V.2.2 n0 (by omega)) ?_
  intro y hy
  refine okL (okS ⟨CF_t (CF_gs C z) (CF_gs _ y), ?_⟩)
  simp only [gs_at]
  exact hy
