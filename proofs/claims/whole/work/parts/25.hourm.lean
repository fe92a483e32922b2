/-! The model's hour is hrS -/
def MK (M M' : LT) : Prop := ∀ i j, ¬ (i = 4 ∨ i = 12 ∨ i = 13 ∨ i = 14 ∨ i = 17) → ¬ (i = 0 ∧ j = 4) → M' i j = M i j
theorem MK_r (M : LT) : MK M M := fun _ _ _ _ => rfl
theorem MK_t {A B C : LT} (h1 : MK A B) (h2 : MK B C) : MK A C := fun i j a b => (h2 i j a b).trans (h1 i j a b)
theorem MK_lw {M : LT} {i : Nat} {j v : Int} (h : i = 4 ∨ i = 12 ∨ i = 13 ∨ i = 14 ∨ i = 17 ∨ i = 0 ∧ j = 4) : MK M (lw M i j v) := fun i' j' h1 h2 => by unfold lw; rw [if_neg (by omega)]
theorem x5_freezes {M : LT} {y : Int} : X5_freezes_v M y = X0_freezes_v (M 2 y) (M 3 y) (M 0 5) := by
  unfold X5_freezes_v X0_freezes_v X5_atLeast_v imax
  repeat' split
  all_goals first | rfl | omega
theorem x5_wants {M : LT} {y w : Int} : X5_wants_v M y w = X0_wants_v (M 2 y) (M 3 y) w := rfl
theorem atl_imax {x : Int} : X5_atLeast_v x = imax 0 x := by
  unfold X5_atLeast_v imax
  repeat' split
  all_goals first | rfl | omega
theorem x5_melts {M : LT} {y : Int} : X5_melts_v M y = X0_melts_v (M 2 y) (M 3 y) (M 0 6) := by
  unfold X5_melts_v X0_melts_v
  rw [atl_imax]
  repeat' split
  all_goals first | rfl | omega
theorem held_v {x : Int} : X5_held_v x = imax 0 (imin 99 x) := by
  unfold X5_held_v imax imin
  repeat' split
  all_goals first | rfl | omega
theorem Sm_lw {S M : LT} (h : Sm S M) {i i' : Nat} {j v : Int} (hi : (i = 6 ∧ i' = 2) ∨ (i = 7 ∧ i' = 3) ∨ (i = 8 ∧ i' = 4) ∨ (i = i' ∧ (i = 9 ∨ i = 10 ∨ i = 11 ∨ i = 12 ∨ i = 13 ∨ i = 14))) : Sm (lw S i j v) (lw M i' j v) := by
  obtain ⟨⟨e0, e1, e2, e3, e4⟩, ey, et⟩ := h
  refine ⟨?_, fun y h0 h1 => ?_, fun t h0 h1 => ?_⟩
  · unfold lw
    rw [if_neg (by omega), if_neg (by omega), if_neg (by omega), if_neg (by omega), if_neg (by omega), if_neg (by omega), if_neg (by omega), if_neg (by omega), if_neg (by omega), if_neg (by omega)]
    exact ⟨e0, e1, e2, e3, e4⟩
  · obtain ⟨a, b, c⟩ := ey y h0 h1
    unfold lw
    refine ⟨?_, ?_, ?_⟩ <;> (split <;> split <;> first | rfl | assumption | omega)
  · have ht : t < S 0 4 := by
      unfold lw at h1
      split at h1 <;> omega
    obtain ⟨a, b, c, d, e, f⟩ := et t h0 ht
    unfold lw
    refine ⟨?_, ?_, ?_, ?_, ?_, ?_⟩ <;> (split <;> split <;> first | rfl | assumption | omega)
theorem Sm_o {S M : LT} (h : Sm S M) {i : Nat} {j v : Int} (hi : 15 ≤ i ∨ i = 0 ∧ 8 ≤ j) : Sm S (lw M i j v) := by
  obtain ⟨⟨e0, e1, e2, e3, e4⟩, ey, et⟩ := h
  refine ⟨?_, fun y h0 h1 => ?_, fun t h0 h1 => ?_⟩
  · unfold lw
    rw [if_neg (by omega), if_neg (by omega), if_neg (by omega), if_neg (by omega), if_neg (by omega)]
    exact ⟨e0, e1, e2, e3, e4⟩
  · have := ey y h0 h1
    unfold lw
    rw [if_neg (by omega), if_neg (by omega), if_neg (by omega)]
    exact this
  · have := et t h0 h1
    unfold lw
    rw [if_neg (by omega), if_neg (by omega), if_neg (by omega), if_neg (by omega), if_neg (by omega), if_neg (by omega)]
    exact this
theorem m_free {S M : LT} (h : Sm S M) (V : Val S) {y t : Int} (y0 : 0 ≤ y) (y1 : y < 16) (hy : S 12 t ≠ y) : Ok (X5_isFree M y t) (fun r => (r = 0 ∧ takenS S y) ∨ (r = 1 ∧ ¬ takenS S y)) := by
  have v := V.1
  obtain ⟨k6, k7, k8⟩ := h.2.1 y y0 y1
  unfold X5_isFree
  refine okB (P := fun z => (z.1 = 1 ∧ ∀ o, 0 ≤ o → o < S 0 4 → ¬ (S 14 o = 0 ∧ S 12 o = y)) ∨ (z.1 = 0 ∧ ∃ o, 0 ≤ o ∧ o < S 0 4 ∧ S 14 o = 0 ∧ S 12 o = y)) ?_ ?_
  · refine okLoop (fun s => 0 ≤ s.2 ∧ s.2 ≤ S 0 4 ∧ ((s.1 = 1 ∧ ∀ o, 0 ≤ o → o < s.2 → ¬ (S 14 o = 0 ∧ S 12 o = y)) ∨ (s.1 = 0 ∧ ∃ o, 0 ≤ o ∧ o < S 0 4 ∧ S 14 o = 0 ∧ S 12 o = y))) (fun s => (S 0 4 - s.2).toNat) ?_ ⟨Int.le_refl 0, by show 0 ≤ S 0 4; omega, Or.inl ⟨rfl, fun o a b => by simp only at b; omega⟩⟩
    rintro ⟨is, o⟩ ⟨o0, o1, hI⟩
    simp only at o0 o1 hI
    unfold X5_isFree_s1
    simp only
    rw [h.1.2.2.2.2]
    refine okI (fun hlt => ?_) (fun hlt => ?_)
    · obtain ⟨-, -, -, a12, -, a14⟩ := h.2.2 o o0 hlt
      have nx : w32 (o + 1) = o + 1 := w32_eq (by omega) (by omega)
      rw [a12, a14, nx]
      refine okG (fun _ _ => ⟨o0, by omega⟩) (okG (fun _ _ => ⟨o0, by omega⟩) (okL (okS ⟨⟨by simp only; omega, by simp only; omega, ?_⟩, by show (S 0 4 - (o + 1)).toNat < (S 0 4 - o).toNat; omega⟩)))
      simp only
      rcases hI with ⟨rfl, hI⟩ | ⟨rfl, hI⟩
      · by_cases q : S 14 o = 0 ∧ S 12 o = y
        · refine Or.inr ⟨?_, o, o0, hlt, q⟩
          rw [if_neg]
          rintro ⟨-, (e | e) | e⟩
          · rw [e] at q; exact hy q.2
          · exact e q.1
          · exact e q.2
        · refine Or.inl ⟨?_, fun o' h0 h1 => ?_⟩
          · rw [if_pos]
            refine ⟨by decide, ?_⟩
            by_cases e : S 14 o = 0
            · exact Or.inr (fun e2 => q ⟨e, e2⟩)
            · exact Or.inl (Or.inr e)
          · by_cases e : o' = o
            · rw [e]; exact q
            · exact hI o' h0 (by omega)
      · refine Or.inr ⟨?_, hI⟩
        rw [if_neg]
        rintro ⟨e, -⟩
        exact e rfl
    · refine okS ?_
      rcases hI with ⟨a, b⟩ | q
      · exact Or.inl ⟨a, fun o' h0 h1 => b o' h0 (by omega)⟩
      · exact Or.inr q
  · rintro ⟨is, o⟩ hz
    simp only at hz ⊢
    rw [k6]
    refine okG (fun _ => ⟨y0, y1⟩) (okG (fun _ => ⟨y0, y1⟩) (okS ?_))
    rcases hz with ⟨rfl, hn⟩ | ⟨rfl, hn⟩
    · refine Or.inr ⟨by rw [if_pos (Or.inl (Or.inl (by decide)))], ?_⟩
      rintro ⟨-, -, o', h0, h1, h2⟩
      exact hn o' h0 h1 h2
    · by_cases q : S 6 y = 3 ∨ S 6 y = 4
      · refine Or.inr ⟨?_, ?_⟩
        · rw [if_pos]
          rcases q with q | q
          · exact Or.inl (Or.inr q)
          · exact Or.inr q
        · rintro ⟨a, b, -⟩
          rcases q with q | q
          · exact a q
          · exact b q
      · refine Or.inl ⟨?_, fun e => q (Or.inl e), fun e => q (Or.inr e), hn⟩
        rw [if_neg]
        rintro ((e | e) | e)
        · exact e rfl
        · exact q (Or.inl e)
        · exact q (Or.inr e)
/-- it stands at its turn -/
def stT (S S' : LT) (t : Int) : Prop := S' 12 t = S 12 t ∧ S' 14 t ≠ 1
