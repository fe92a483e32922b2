/-! Hours of the class -/
def PL (S : LT) (n : Nat) (b : Prop) (L : LT) : Prop := Sc (goS n S) L ∧ (b → L 0 14 = (n : Int) ∧ ∀ j, 0 ≤ j → j < S 0 4 → L 16 j = endS S n j)
def CL (S : LT) (n : Nat) (b : Prop) (L : LT) : Prop := PL S n b L ∧ Feel L
theorem Sc_fr {S L L' : LT} (h : Sc S L) (f : ∀ i j, i ≠ 17 → i ≠ 18 → L' i j = L i j) : Sc S L' := by
  obtain ⟨⟨e0, e1, e2, e3, e4⟩, ey, et⟩ := h
  refine ⟨?_, fun y h0 h1 => ?_, fun t h0 h1 => ?_⟩
  · simp only [f 0 _ (show (0 : Nat) ≠ 17 by decide) (show (0 : Nat) ≠ 18 by decide)]
    exact ⟨e0, e1, e2, e3, e4⟩
  · rw [f 6 y (by decide) (by decide), f 7 y (by decide) (by decide), f 8 y (by decide) (by decide)]
    exact ey y h0 h1
  · rw [f 9 t (by decide) (by decide), f 10 t (by decide) (by decide), f 11 t (by decide) (by decide), f 12 t (by decide) (by decide), f 13 t (by decide) (by decide), f 14 t (by decide) (by decide)]
    exact et t h0 h1
theorem c_feelP {S L : LT} {n : Nat} {b : Prop} (h : PL S n b L) (V : Val S) : Ok (X2_feelWeather L) (CL S n b) := by
  have hv := V.1
  have c0 : goS n S 0 0 = S 0 0 := go_0 S (by decide) n
  have e := h.1.1.1
  refine okW (c_feel (by omega) (by omega)) ?_
  rintro L' ⟨f, g⟩
  refine ⟨⟨Sc_fr h.1 g, fun hb => ?_⟩, f⟩
  obtain ⟨a, d⟩ := h.2 hb
  refine ⟨by rw [g 0 14 (by decide) (by decide)]; exact a, fun j j0 j1 => by rw [g 16 j (by decide) (by decide)]; exact d j j0 j1⟩
theorem c_step {S L : LT} {n : Nat} {b : Prop} (h : CL S n b L) (V : Val S) (hh0 : 0 ≤ S 0 1) (hh1 : S 0 1 < 5000) (hn : n < 1000) : Ok (X2_passHour L) (CL S (n + 1) b) := by
  have ch := go_h S n
  have c4 : goS n S 0 4 = S 0 4 := go_0 S (by decide) n
  refine okW (c_hour h.1.1 (Val_go V n) h.2 (by omega) (by omega)) ?_
  rintro L' ⟨a, f, p, q⟩
  refine ⟨⟨a, fun hb => ?_⟩, f⟩
  obtain ⟨u, v⟩ := h.1.2 hb
  have pw : w32 (L 0 14 + 1) = (n : Int) + 1 := by rw [u]; exact w32_eq (by omega) (by omega)
  rw [pw] at p q
  refine ⟨p, fun j j0 j1 => ?_⟩
  rw [q j j0 (by omega), v j j0 j1]
  show _ = cif (goS n S 14 j = 0 ∧ hrS (goS n S) 14 j ≠ 0) ((n : Int) + 1) (endS S n j)
  by_cases e : goS n S 14 j = 0 ∧ hrS (goS n S) 14 j ≠ 0
  · rw [cif_t e, if_pos e]
  · rw [cif_f e, if_neg e]
theorem c_go {S L : LT} {b : Prop} (h : PL S 0 b L) (V : Val S) (hh0 : 0 ≤ S 0 1) (hh1 : S 0 1 < 5000) {n : Int} (n0 : 0 ≤ n) (n1 : n ≤ 100) : Ok (X2_go L n) (CL S n.toNat b) := by
  unfold X2_go
  refine okB (c_feelP h V) (fun N hN => okB (P := fun z => CL S n.toNat b z.2) ?_ (fun z q => okS q))
  refine okLoop (fun s => ∃ k : Nat, s.1 = (k : Int) ∧ (k : Int) ≤ n ∧ CL S k b s.2) (fun s => (n - s.1).toNat) ?_ ⟨0, rfl, n0, hN⟩
  rintro ⟨k', O⟩ ⟨k, e, hk, hO⟩
  simp only at e hO
  subst e
  unfold X2_go_s1
  simp only
  rw [w32_eq (x := (k : Int) + 1) (by omega) (by omega)]
  refine okI (fun hlt => okB (c_step hO V hh0 hh1 (by omega)) (fun P hP => okS ⟨⟨k + 1, rfl, by omega, hP⟩, by show (n - ((k : Int) + 1)).toNat < (n - (k : Int)).toNat; omega⟩)) (fun hlt => okS ?_)
  rw [show n.toNat = k by omega]
  exact hO
theorem go_add (S : LT) (m : Nat) : ∀ k, goS k (goS m S) = goS (m + k) S
  | 0 => rfl
  | k + 1 => by show hrS (goS k (goS m S)) = hrS (goS (m + k) S); rw [go_add S m k]
theorem c_way {S L : LT} {b : Prop} {m : Nat} (h : PL S m b L) (V : Val S) (hh0 : 0 ≤ S 0 1) (hh1 : S 0 1 < 5000) (hm : m ≤ 100) {n : Int} (n0 : 0 ≤ n) (n1 : n ≤ 100) {t : Int} (t0 : 0 ≤ t) (t1 : t < S 0 4) : Ok (X2_goWhileOnItsWay L t n) (CL S (m + stpN (goS m S) t n.toNat) b) := by
  have hv := V.1
  unfold X2_goWhileOnItsWay
  refine okB (c_feelP h V) (fun N hN => okB (P := fun z => CL S (m + stpN (goS m S) t n.toNat) b z.2) ?_ (fun z q => okS q))
  refine okLoop (fun s => ∃ k : Nat, s.1 = (k : Int) ∧ (k : Int) ≤ n ∧ stpN (goS m S) t k = k ∧ CL S (m + k) b s.2) (fun s => (n - s.1).toNat) ?_ ⟨0, rfl, n0, rfl, hN⟩
  rintro ⟨k', O⟩ ⟨k, e, hk, hs, hO⟩
  simp only at e hO
  subst e
  unfold X2_goWhileOnItsWay_s1
  simp only
  have c4 : goS (m + k) S 0 4 = S 0 4 := go_0 S (by decide) _
  obtain ⟨-, -, -, -, -, a14⟩ := hO.1.1.2.2 t t0 (by omega)
  rw [a14, w32_eq (x := (k : Int) + 1) (by omega) (by omega)]
  have eg := go_add S m k
  refine okG (fun _ => ⟨t0, by omega⟩) (okI (fun q => okB (c_step hO V hh0 hh1 (by omega)) (fun P hP => okS ⟨⟨k + 1, rfl, by omega, stpN_on hs (by rw [eg]; exact q.2), hP⟩, by show (n - ((k : Int) + 1)).toNat < (n - (k : Int)).toNat; omega⟩)) (fun q => okS ?_))
  have e : stpN (goS m S) t n.toNat = k := by
    by_cases e : (k : Int) = n
    · rw [show n.toNat = k by omega]; exact hs
    · exact stpN_off hs (fun z => q ⟨by omega, by rw [← eg]; exact z⟩) n.toNat (by omega)
  rw [e]
  exact hO
theorem c_any {S L : LT} {b : Prop} (h : PL S 0 b L) (V : Val S) (hh0 : 0 ≤ S 0 1) (hh1 : S 0 1 < 5000) {n : Int} (n0 : 0 ≤ n) (n1 : n ≤ 100) : Ok (X2_goWhileAnyGoes L n) (fun L' => ∃ k : Nat, (k : Int) ≤ n ∧ CL S k b L' ∧ ((k : Int) = n ∨ cntS (goS k S) 0 = 0)) := by
  unfold X2_goWhileAnyGoes
  refine okB (c_feelP h V) (fun N hN => okB (P := fun z => ∃ k : Nat, (k : Int) ≤ n ∧ CL S k b z.2 ∧ ((k : Int) = n ∨ cntS (goS k S) 0 = 0)) ?_ (fun z q => okS q))
  refine okLoop (fun s => ∃ k : Nat, s.1 = (k : Int) ∧ (k : Int) ≤ n ∧ CL S k b s.2) (fun s => (n - s.1).toNat) ?_ ⟨0, rfl, n0, hN⟩
  rintro ⟨k', O⟩ ⟨k, e, hk, hO⟩
  simp only at e hO
  subst e
  unfold X2_goWhileAnyGoes_s1
  simp only
  rw [w32_eq (x := (k : Int) + 1) (by omega) (by omega)]
  refine okI (fun hlt => okB (c_howMany hO.1.1 (Val_go V k) 0) ?_) (fun hlt => okS ⟨k, hk, hO, Or.inl (by omega)⟩)
  rintro r rfl
  refine okI (fun hp => okB (c_step hO V hh0 hh1 (by omega)) (fun P hP => okS ⟨⟨k + 1, rfl, by omega, hP⟩, by show (n - ((k : Int) + 1)).toNat < (n - (k : Int)).toNat; omega⟩)) (fun hp => okS ⟨k, hk, hO, Or.inr ?_⟩)
  have := cntS_b (Val_go V k) 0
  omega
/-- who is no longer on its way stays so -/
theorem tr_off {S : LT} {t u : Int} (h : S 14 u ≠ 0) : trS t S 14 u = S 14 u ∧ trS t S 12 u = S 12 u := by
  by_cases e : u = t
  · rw [e] at h ⊢
    unfold trS
    rw [cif_f h]
    exact ⟨rfl, rfl⟩
  · exact ⟨trS_ot _ _ _ _ (by decide) e, trS_ot _ _ _ _ (by decide) e⟩
theorem trs_off {S : LT} {u : Int} (h : S 14 u ≠ 0) : ∀ n, trsS n S 14 u = S 14 u ∧ trsS n S 12 u = S 12 u
  | 0 => ⟨rfl, rfl⟩
  | n + 1 => by
    have ih := trs_off h n
    have := tr_off (S := trsS n S) (t := n) (u := u) (by rw [ih.1]; exact h)
    show trS n (trsS n S) 14 u = _ ∧ trS n (trsS n S) 12 u = _
    rw [this.1, this.2]
    exact ih
theorem hr_off {S : LT} {u : Int} (h : S 14 u ≠ 0) : hrS S 14 u = S 14 u ∧ hrS S 12 u = S 12 u := by
  have h' : fmS S 14 u ≠ 0 := by unfold fmS; rw [upT_c (by decide)]; exact h
  have := trs_off h' (S 0 4).toNat
  have e14 : fmS S 14 u = S 14 u := by unfold fmS; rw [upT_c (by decide)]
  have e12 : fmS S 12 u = S 12 u := by unfold fmS; rw [upT_c (by decide)]
  unfold hrS
  rw [lw_i (show (14 : Nat) ≠ 0 by decide), lw_i (show (12 : Nat) ≠ 0 by decide), snk_fr _ (show (12 : Nat) ≠ 14 by decide), this.2, e12]
  refine ⟨?_, rfl⟩
  unfold snk
  rw [cif_f (fun z => h (by rw [← e14, ← this.1]; exact z.2.2.2.1)), this.1, e14]
theorem go_off {S : LT} {u : Int} {m : Nat} (h : goS m S 14 u ≠ 0) : ∀ n, m ≤ n → goS n S 14 u = goS m S 14 u ∧ goS n S 12 u = goS m S 12 u ∧ endS S n u = endS S m u := by
  intro n hn
  obtain ⟨k, rfl⟩ : ∃ k, n = m + k := ⟨n - m, by omega⟩
  induction k with
  | zero => exact ⟨rfl, rfl, rfl⟩
  | succ k ih =>
    obtain ⟨a, b, c⟩ := ih (by omega)
    have h' : goS (m + k) S 14 u ≠ 0 := by rw [a]; exact h
    have o := hr_off h'
    refine ⟨o.1.trans a, o.2.trans b, ?_⟩
    show cif (goS (m + k) S 14 u = 0 ∧ _) _ (endS S (m + k) u) = _
    rw [cif_f (fun z => h' z.1), c]
theorem cnt_0 {S : LT} {st : Int} : ∀ {k : Nat}, cntN S st k = 0 → ∀ t : Nat, t < k → S 14 t ≠ st
  | 0, _, t, q => by omega
  | k + 1, h, t, q => by
    have b := cnt_b S st k
    unfold cntN at h
    by_cases e : S 14 k = st
    · rw [if_pos e] at h; omega
    · by_cases e2 : t = k
      · rw [e2]; exact e
      · exact cnt_0 (k := k) (by rw [if_neg e] at h; omega) t (by omega)
theorem any_end {S : LT} (V : Val S) {m n : Nat} (hmn : m ≤ n) (h : m = n ∨ cntS (goS m S) 0 = 0) : (∀ t, 0 ≤ t → t < S 0 4 → goS n S 14 t = goS m S 14 t) ∧ ∀ st, cntS (goS n S) st = cntS (goS m S) st := by
  have hv := V.1
  rcases h with h | h
  · rw [h]; exact ⟨fun _ _ _ => rfl, fun _ => rfl⟩
  · have c4 : goS m S 0 4 = S 0 4 := go_0 S (by decide) _
    have d4 : goS n S 0 4 = S 0 4 := go_0 S (by decide) _
    have key : ∀ t, 0 ≤ t → t < S 0 4 → goS n S 14 t = goS m S 14 t := by
      intro t t0 t1
      obtain ⟨k, rfl⟩ := Int.eq_ofNat_of_zero_le t0
      unfold cntS at h
      rw [c4] at h
      exact (go_off (cnt_0 h k (by omega)) n hmn).1
    refine ⟨key, fun st => cntS_c (Val_go V n) (by omega) (fun t t0 t1 => ?_)⟩
    rw [key t t0 (by omega)]
