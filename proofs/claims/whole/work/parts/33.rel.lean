/-! The class and the model side by side -/
theorem c_become {S O L : LT} (h : Sc S O) (V : Val S) : Ok (X2_become L O) (fun L' => PL S 0 True L') := by
  have hv := V.1
  obtain ⟨⟨e0, e1, e2, e3, e4⟩, ey, et⟩ := h
  unfold X2_become
  refine okL (okL (okL (okL (okL (okL (okL (okL (okL (okB (P := fun z : Int × LT => Sc S z.2 ∧ z.2 0 14 = 0 ∧ ∀ j, 0 ≤ j → j < S 0 4 → z.2 16 j = -9) ?_ (fun z q => okS ⟨(show Sc (goS 0 S) z.2 from q.1), fun _ => ⟨q.2.1, q.2.2⟩⟩))))))))))
  refine okLoop (fun s => 0 ≤ s.1 ∧ s.1 ≤ S 0 4 ∧ (s.2 0 0 = S 0 0 ∧ s.2 0 1 = S 0 1 ∧ s.2 0 2 = S 0 2 ∧ s.2 0 3 = S 0 3 ∧ s.2 0 4 = S 0 4 ∧ s.2 0 14 = 0) ∧ (∀ y, 0 ≤ y → y < 16 → s.2 6 y = S 6 y ∧ s.2 7 y = S 7 y ∧ s.2 8 y = S 8 y) ∧ (∀ t, 0 ≤ t → t < s.1 → s.2 9 t = S 9 t ∧ s.2 10 t = S 10 t ∧ s.2 11 t = S 11 t ∧ s.2 12 t = S 12 t ∧ s.2 13 t = S 13 t ∧ s.2 14 t = S 14 t ∧ s.2 16 t = -9)) (fun s => (S 0 4 - s.1).toNat) ?_ ⟨Int.le_refl 0, by show (0 : Int) ≤ S 0 4; omega, ?_, fun y y0 y1 => ?_, fun t a b => by simp only at b; omega⟩
  · rintro ⟨t, N⟩ ⟨t0, t1, i0, iy, it⟩
    simp only at t0 t1 i0 iy it
    unfold X2_become_s1
    simp only
    rw [i0.2.2.2.2.1, w32_eq (x := t + 1) (by omega) (by omega)]
    refine okI (fun hlt => ?_) (fun hlt => okS ?_)
    · unfold X2_takeTrain
      obtain ⟨a9, a10, a11, a12, a13, a14⟩ := et t t0 hlt
      rw [a9, a10, a11, a12, a13, a14]
      refine okB (P := fun z => z = lw (lw (lw (lw (lw (lw N 9 t (S 9 t)) 10 t (S 10 t)) 11 t (S 11 t)) 12 t (S 12 t)) 13 t (S 13 t)) 14 t (S 14 t)) (okG ⟨t0, by omega⟩ (okG ⟨t0, by omega⟩ (okL (okL (okL (okL (okL (okL (okS rfl)))))))) ) ?_
      rintro z rfl
      refine okG ⟨t0, by omega⟩ (okL (okS ⟨⟨by simp only; omega, by simp only; omega, ?_, fun y y0 y1 => ?_, fun u u0 u1 => ?_⟩, by show (S 0 4 - (t + 1)).toNat < (S 0 4 - t).toNat; omega⟩))
      · simp only [lw_i (show (0 : Nat) ≠ 16 by decide), lw_i (show (0 : Nat) ≠ 14 by decide), lw_i (show (0 : Nat) ≠ 13 by decide), lw_i (show (0 : Nat) ≠ 12 by decide), lw_i (show (0 : Nat) ≠ 11 by decide), lw_i (show (0 : Nat) ≠ 10 by decide), lw_i (show (0 : Nat) ≠ 9 by decide)]
        exact i0
      · have := iy y y0 y1
        simpa [lw] using this
      · simp only at u1
        by_cases e : u = t
        · rw [e]
          simp [lw]
        · have := it u u0 (by omega)
          simpa [lw, e] using this
    · have e : t = S 0 4 := by omega
      subst e
      exact ⟨⟨⟨i0.1, i0.2.1, i0.2.2.1, i0.2.2.2.1, i0.2.2.2.2.1⟩, iy, fun t a b => by
        obtain ⟨q1, q2, q3, q4, q5, q6, q7⟩ := it t a b
        exact ⟨q1, q2, q3, q4, q5, q6⟩⟩, i0.2.2.2.2.2, fun j j0 j1 => (it j j0 j1).2.2.2.2.2.2⟩
  · simp [lw, lcp, e0, e1, e2, e3, e4]
  · obtain ⟨a, b, c⟩ := ey y y0 y1
    simp [lw, lcp, y0, y1, a, b, c]
/-- all but the mind stays -/
def CF (C C' : GG) : Prop := ∀ t l, ¬ (t = 1 ∧ l = 1) → C' t l = C t l
theorem CF_r (C : GG) : CF C C := fun _ _ _ => rfl
theorem CF_t {A B C : GG} (h1 : CF A B) (h2 : CF B C) : CF A C := fun t l h => (h2 t l h).trans (h1 t l h)
theorem CF_gs (C : GG) (L : LT) : CF C (gs C 1 1 L) := fun t l h => gs_ne h
theorem hw_at (C : GG) (i : Nat) (j v : Int) (t l : Nat) : hw C (t, l, i) j v t l = lw (C t l) i j v := by
  funext i' j'
  simp [hw, lw]
theorem hw_nl {C : GG} {i : Nat} {j v : Int} {t l t' l' : Nat} (h : ¬ (t' = t ∧ l' = l)) : hw C (t, l, i) j v t' l' = C t' l' := by
  funext i' j'
  unfold hw
  rw [if_neg (fun q => h ⟨q.1, q.2.1⟩)]
theorem CF_hw (C : GG) (i : Nat) (j v : Int) : CF C (hw C (1, 1, i) j v) := fun t l h => hw_nl h
def Ab : Type := LT × LT × Int × Int × (Int → LT) × Int × (Int → Int) × Int × (Int → Int) × (Int → Int)
def mkA (s im : LT) (hi n : Int) (tu : Int → LT) (ln : Int) (tx : Int → Int) (rn : Int) (rw rf : Int → Int) : Ab := (s, im, hi, n, tu, ln, tx, rn, rw, rf)
def Ab.s (a : Ab) : LT := Prod.fst a
def Ab.im (a : Ab) : LT := Prod.fst (Prod.snd a)
def Ab.hi (a : Ab) : Int := Prod.fst (Prod.snd (Prod.snd a))
def Ab.n (a : Ab) : Int := Prod.fst (Prod.snd (Prod.snd (Prod.snd a)))
def Ab.tu (a : Ab) : Int → LT := Prod.fst (Prod.snd (Prod.snd (Prod.snd (Prod.snd a))))
def Ab.ln (a : Ab) : Int := Prod.fst (Prod.snd (Prod.snd (Prod.snd (Prod.snd (Prod.snd a)))))
def Ab.tx (a : Ab) : Int → Int := Prod.fst (Prod.snd (Prod.snd (Prod.snd (Prod.snd (Prod.snd (Prod.snd a))))))
def Ab.rn (a : Ab) : Int := Prod.fst (Prod.snd (Prod.snd (Prod.snd (Prod.snd (Prod.snd (Prod.snd (Prod.snd a)))))))
def Ab.rw (a : Ab) : Int → Int := Prod.fst (Prod.snd (Prod.snd (Prod.snd (Prod.snd (Prod.snd (Prod.snd (Prod.snd (Prod.snd a))))))))
def Ab.rf (a : Ab) : Int → Int := Prod.snd (Prod.snd (Prod.snd (Prod.snd (Prod.snd (Prod.snd (Prod.snd (Prod.snd (Prod.snd a))))))))
def Vs (S : LT) : Prop := Val S ∧ 0 ≤ S 0 1 ∧ S 0 1 ≤ 999
def OkA (a : Ab) : Prop := Vs a.s ∧ ((a.hi = 0 ∨ a.hi = 1) ∧ (a.hi = 1 → Vs a.im)) ∧ (0 ≤ a.n ∧ a.n ≤ 8 ∧ ∀ k, 0 ≤ k → k < a.n → Vs (a.tu k)) ∧ (0 ≤ a.ln ∧ a.ln ≤ 96 ∧ ∀ k, 0 ≤ k → k < a.ln → 0 ≤ a.tx k ∧ a.tx k ≤ 255) ∧ (0 ≤ a.rn ∧ a.rn ≤ 16 ∧ ∀ k, 0 ≤ k → k < a.rn → 0 ≤ a.rw k ∧ a.rw k ≤ 99)
def arr (C : GG) : Prop := (∀ k, 0 ≤ k → k < 8 → 3 ≤ C 3 0 1 k ∧ C 3 0 1 k ≤ 10) ∧ ∀ i j, 0 ≤ i → i < 8 → 0 ≤ j → j < 8 → C 3 0 1 i = C 3 0 1 j → i = j
def RC (a : Ab) (C : GG) : Prop := Sc a.s (C 1 0) ∧ (C 0 0 0 3 = a.hi ∧ (a.hi = 1 → Sc a.im (C 1 2))) ∧ (C 3 0 0 1 = a.n ∧ arr C ∧ ∀ k, 0 ≤ k → k < a.n → Sc (a.tu k) (C 1 (C 3 0 1 k).toNat)) ∧ (C 2 0 0 1 = a.ln ∧ ∀ k, 0 ≤ k → k < a.ln → C 2 0 1 k = a.tx k) ∧ (C 0 0 0 7 = a.rn ∧ ∀ k, 0 ≤ k → k < a.rn → C 0 0 7 k = a.rw k) ∧ (∀ k, 1 ≤ k → k ≤ 6 → C 0 0 9 k = a.rf k)
def RM (a : Ab) (M : LT) : Prop := Sm a.s M ∧ (M 0 28 = a.hi ∧ (a.hi = 1 → ser a.im (M 28))) ∧ (M 0 34 = a.n ∧ ∀ k, 0 ≤ k → k < a.n → ser (a.tu k) (fun j => M 33 (83 * k + j))) ∧ (M 0 19 = a.ln ∧ ∀ k, 0 ≤ k → k < a.ln → M 19 k = a.tx k) ∧ (M 0 39 = a.rn ∧ ∀ k, 0 ≤ k → k < a.rn → M 39 k = a.rw k) ∧ (∀ k, 1 ≤ k → k ≤ 6 → M 16 k = a.rf k)
def Rel (C : GG) (M : LT) : Prop := ∃ a, OkA a ∧ RC a C ∧ RM a M
/-- .. and the queue's cells -/
def CG (C C' : GG) : Prop := ∀ t l i j, ¬ (t = 1 ∧ l = 1) → ¬ (t = 0 ∧ (i = 10 ∨ i = 11)) → C' t l i j = C t l i j
theorem CF_G {C C' : GG} (h : CF C C') : CG C C' := fun t l i j a _ => by rw [h t l a]
theorem CG_t {A B C : GG} (h1 : CG A B) (h2 : CG B C) : CG A C := fun t l i j a b => (h2 t l i j a b).trans (h1 t l i j a b)
theorem CG_l {C C' : GG} (h : CG C C') {l : Nat} (hl : l ≠ 1) : C' 1 l = C 1 l := by
  funext i j
  exact h 1 l i j (by omega) (by omega)
theorem RC_G {a : Ab} (ha : OkA a) {C C' : GG} (h : RC a C) (f : CG C C') : RC a C' := by
  obtain ⟨h1, ⟨h2, h3⟩, ⟨h4, ⟨h5, h5'⟩, h6⟩, ⟨h7, h8⟩, ⟨h9, h10⟩, h11⟩ := h
  have f3 : ∀ i j, C' 3 0 i j = C 3 0 i j := fun i j => f 3 0 i j (by omega) (by omega)
  refine ⟨?_, ⟨?_, fun q => ?_⟩, ⟨?_, ⟨fun k q0 q1 => ?_, fun i j i0 i1 j0 j1 q => ?_⟩, fun k q0 q1 => ?_⟩, ⟨?_, fun k q0 q1 => ?_⟩, ⟨?_, fun k q0 q1 => ?_⟩, fun k q0 q1 => ?_⟩
  · rw [CG_l f (by decide)]; exact h1
  · rw [f 0 0 0 3 (by omega) (by omega)]; exact h2
  · rw [CG_l f (by decide)]; exact h3 q
  · rw [f3]; exact h4
  · rw [f3]; exact h5 k q0 q1
  · rw [f3, f3] at q; exact h5' i j i0 i1 j0 j1 q
  · have b := h5 k q0 (by have := ha.2.2.1; omega)
    rw [f3, CG_l f (by omega)]
    exact h6 k q0 q1
  · rw [f 2 0 0 1 (by omega) (by omega)]; exact h7
  · rw [f 2 0 1 k (by omega) (by omega)]; exact h8 k q0 q1
  · rw [f 0 0 0 7 (by omega) (by omega)]; exact h9
  · rw [f 0 0 7 k (by omega) (by omega)]; exact h10 k q0 q1
  · rw [f 0 0 9 k (by omega) (by omega)]; exact h11 k q0 q1
/-- what of the model outlives an outcome weighed -/
def MF (M M' : LT) : Prop := ∀ i j, (i = 16 ∨ i = 19 ∨ i = 28 ∨ i = 33 ∨ i = 39 ∨ i = 0 ∧ (j = 19 ∨ j = 28 ∨ j = 34 ∨ j = 39)) → M' i j = M i j
theorem MF_r (M : LT) : MF M M := fun _ _ _ => rfl
theorem MF_t {A B C : LT} (h1 : MF A B) (h2 : MF B C) : MF A C := fun i j q => (h2 i j q).trans (h1 i j q)
theorem MG_F {A B : LT} (h : MG A B) : MF A B := fun i j q => h i j (by unfold lnC; omega) (by omega) (by omega) (by omega)
theorem MF_lw {M : LT} {i : Nat} {j v : Int} (h : ¬ (i = 16 ∨ i = 19 ∨ i = 28 ∨ i = 33 ∨ i = 39 ∨ i = 0 ∧ (j = 19 ∨ j = 28 ∨ j = 34 ∨ j = 39))) : MF M (lw M i j v) := by
  intro i' j' q
  refine lw_n ?_
  rintro ⟨rfl, rfl⟩
  exact h q
theorem RM_F {a : Ab} {M M' : LT} (h : RM a M) (hs : Sm a.s M') (f : MF M M') : RM a M' := by
  obtain ⟨h1, ⟨h2, h3⟩, ⟨h4, h6⟩, ⟨h7, h8⟩, ⟨h9, h10⟩, h11⟩ := h
  have f28 : M' 28 = M 28 := funext (fun j => f 28 j (by omega))
  have f33 : ∀ j, M' 33 j = M 33 j := fun j => f 33 j (by omega)
  refine ⟨hs, ⟨?_, fun q => ?_⟩, ⟨?_, fun k q0 q1 => ?_⟩, ⟨?_, fun k q0 q1 => ?_⟩, ⟨?_, fun k q0 q1 => ?_⟩, fun k q0 q1 => ?_⟩
  · rw [f 0 28 (by omega)]; exact h2
  · rw [f28]; exact h3 q
  · rw [f 0 34 (by omega)]; exact h4
  · simp only [f33]; exact h6 k q0 q1
  · rw [f 0 19 (by omega)]; exact h7
  · rw [f 19 k (by omega)]; exact h8 k q0 q1
  · rw [f 0 39 (by omega)]; exact h9
  · rw [f 39 k (by omega)]; exact h10 k q0 q1
  · rw [f 16 k (by omega)]; exact h11 k q0 q1
/-- the throw-away cell 14 of the model -/
theorem RM_14 {a : Ab} {M : LT} (h : RM a M) (v : Int) : RM a (lw M 0 14 v) := RM_F h (Sm_o h.1 (by omega)) (MF_lw (by omega))
theorem op_mk {f : Option (Int × GG)} {m : Option (Int × LT)} {a : Ab} {r : Int} (ha : OkA a) (h1 : Ok f (fun z => z.1 = r ∧ RC a z.2)) (h2 : Ok m (fun z => z.1 = r ∧ RM a z.2)) : ∃ (r : Int) (C' : GG) (M' : LT), f = some (r, C') ∧ m = some (r, M') ∧ Rel C' M' := by
  obtain ⟨⟨r1, C'⟩, e1, q1, q2⟩ := h1
  obtain ⟨⟨r2, M'⟩, e2, p1, p2⟩ := h2
  simp only at q1 q2 p1 p2
  subst q1
  subst p1
  exact ⟨_, C', M', e1, e2, a, ha, q2, p2⟩
def aRef (a : Ab) (v : Int) : Ab := mkA a.s a.im a.hi a.n a.tu a.ln a.tx a.rn a.rw (fun k => if k = -v then w32 (a.rf k + 1) else a.rf k)
theorem OkA_ref {a : Ab} (h : OkA a) (v : Int) : OkA (aRef a v) := h
theorem c_refuse {a : Ab} {C : GG} (h : RC a C) {v : Int} (v0 : -6 ≤ v) (v1 : v ≤ -1) : Ok (X4_refuse C v) (fun z => z.1 = v ∧ RC (aRef a v) z.2) := by
  obtain ⟨h1, ⟨h2, h3⟩, ⟨h4, h5, h6⟩, ⟨h7, h8⟩, ⟨h9, h10⟩, h11⟩ := h
  have e : w32 (-v) = -v := w32_eq (by omega) (by omega)
  unfold X4_refuse
  rw [e]
  refine okT ⟨v1, v0⟩ (okG ⟨by omega, by omega⟩ (okL (okS ⟨rfl, ?_⟩)))
  simp only
  have ne : ∀ t l, ¬ (t = 0 ∧ l = 0) → hw C (0, 0, 9) (-v) (w32 (C 0 0 9 (-v) + 1)) t l = C t l := fun t l q => hw_nl q
  have at0 : hw C (0, 0, 9) (-v) (w32 (C 0 0 9 (-v) + 1)) 0 0 = lw (C 0 0) 9 (-v) (w32 (C 0 0 9 (-v) + 1)) := hw_at _ _ _ _ _ _
  generalize hw C (0, 0, 9) (-v) (w32 (C 0 0 9 (-v) + 1)) = C' at ne at0
  refine ⟨by rw [ne 1 0 (by omega)]; exact h1, ⟨by rw [at0, lw_i (by decide)]; exact h2, fun q => by rw [ne 1 2 (by omega)]; exact h3 q⟩, ⟨by rw [ne 3 0 (by omega)]; exact h4, ⟨by rw [ne 3 0 (by omega)]; exact h5.1, by rw [ne 3 0 (by omega)]; exact h5.2⟩, fun k q0 q1 => by rw [ne 3 0 (by omega), ne 1 _ (by omega)]; exact h6 k q0 q1⟩, ⟨by rw [ne 2 0 (by omega)]; exact h7, fun k q0 q1 => by rw [ne 2 0 (by omega)]; exact h8 k q0 q1⟩, ⟨by rw [at0, lw_i (by decide)]; exact h9, fun k q0 q1 => by rw [at0, lw_i (by decide)]; exact h10 k q0 q1⟩, fun k q0 q1 => ?_⟩
  rw [at0]
  show _ = if k = -v then w32 (a.rf k + 1) else a.rf k
  by_cases q : k = -v
  · rw [q, lw_s, if_pos rfl, h11 (-v) (by omega) (by omega)]
  · rw [lw_j q, if_neg q, h11 k q0 q1]
theorem m_refuse {a : Ab} {M : LT} (h : RM a M) {v : Int} (v0 : -6 ≤ v) (v1 : v ≤ -1) : Ok (X5_refuse M v) (fun z => z.1 = v ∧ RM (aRef a v) z.2) := by
  obtain ⟨h1, ⟨h2, h3⟩, ⟨h4, h6⟩, ⟨h7, h8⟩, ⟨h9, h10⟩, h11⟩ := h
  have e : w32 (-v) = -v := w32_eq (by omega) (by omega)
  unfold X5_refuse
  rw [e]
  refine okG ⟨by omega, by omega⟩ (okL (okS ⟨rfl, ?_⟩))
  simp only
  have f : ∀ i, i ≠ 16 → ∀ j, lw M 16 (-v) (w32 (M 16 (-v) + 1)) i j = M i j := fun i hi j => lw_i hi
  refine ⟨Sm_o h1 (by omega), ⟨by rw [f 0 (by decide)]; exact h2, fun q => by rw [show lw M 16 (-v) (w32 (M 16 (-v) + 1)) 28 = M 28 from funext (f 28 (by decide))]; exact h3 q⟩, ⟨by rw [f 0 (by decide)]; exact h4, fun k q0 q1 => by simp only [f 33 (by decide)]; exact h6 k q0 q1⟩, ⟨by rw [f 0 (by decide)]; exact h7, fun k q0 q1 => by rw [f 19 (by decide)]; exact h8 k q0 q1⟩, ⟨by rw [f 0 (by decide)]; exact h9, fun k q0 q1 => by rw [f 39 (by decide)]; exact h10 k q0 q1⟩, fun k q0 q1 => ?_⟩
  show _ = if k = -v then w32 (a.rf k + 1) else a.rf k
  by_cases q : k = -v
  · rw [q, lw_s, if_pos rfl, h11 (-v) (by omega) (by omega)]
  · rw [lw_j q, if_neg q, h11 k q0 q1]
