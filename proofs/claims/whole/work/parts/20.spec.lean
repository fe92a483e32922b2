/-! Rules for pure pictures; the hour, told of a line's numbers. -/
theorem okB {α β : Type} {E : Option α} {F : α → Option β} {P : α → Prop} {Q : β → Prop} (h : Ok E P) (k : ∀ x, P x → Ok (F x) Q) : Ok (E.bind F) Q := by
  obtain ⟨x, rfl, h2⟩ := h
  exact k x h2
theorem okG {α : Type} {c : Prop} {E : Option α} {Q : α → Prop} (hc : c) (h : Ok E Q) : Ok (grd c E) Q := Ok_grd_i hc h
theorem okI {α : Type} {c : Prop} [Decidable c] {A B : Option α} {Q : α → Prop} (ht : c → Ok A Q) (hf : ¬ c → Ok B Q) : Ok (if c then A else B) Q := by
  by_cases h : c
  · rw [if_pos h]; exact ht h
  · rw [if_neg h]; exact hf h
theorem okT {α : Type} {c : Prop} [Decidable c] {A B : Option α} {Q : α → Prop} (hc : c) (h : Ok A Q) : Ok (if c then A else B) Q := by rw [if_pos hc]; exact h
theorem okF {α : Type} {c : Prop} [Decidable c] {A B : Option α} {Q : α → Prop} (hc : ¬ c) (h : Ok B Q) : Ok (if c then A else B) Q := by rw [if_neg hc]; exact h
theorem okL {α β : Type} {e : β} {B : β → Option α} {Q : α → Prop} (h : Ok (B e) Q) : Ok (lt e B) Q := h
theorem okLn {α β : Type} {e : β} {B : β → Option α} {Q : α → Prop} (h : ∀ x, x = e → Ok (B x) Q) : Ok (lt e B) Q := h e rfl
theorem okS {α : Type} {x : α} {Q : α → Prop} (h : Q x) : Ok (some x) Q := ⟨x, rfl, h⟩
theorem okW {α : Type} {E : Option α} {P Q : α → Prop} (h : Ok E P) (k : ∀ x, P x → Q x) : Ok E Q := Ok_mono h k
def LpQ {σ ρ : Type} (I : σ → Prop) (μ : σ → Nat) (m : Nat) (R : ρ → Prop) : σ ⊕ ρ → Prop
  | .inl s => I s ∧ μ s < m
  | .inr r => R r
theorem okLoop {σ ρ : Type} {step : σ → Option (σ ⊕ ρ)} {R : ρ → Prop} (I : σ → Prop) (μ : σ → Nat) (h : ∀ s, I s → Ok (step s) (LpQ I μ (μ s) R)) {s0 : σ} (h0 : I s0) : Ok (lp step s0) R := by
  have key : ∀ (n : Nat) (s : σ), μ s < n → I s → ∃ r, lpn step n s = some r ∧ R r := by
    intro n
    induction n with
    | zero => intro s hs; omega
    | succ n ih =>
      intro s hs hI
      obtain ⟨o, ho, hq⟩ := h s hI
      unfold lpn
      rw [ho]
      cases o with
      | inl s' => exact ih s' (by have := hq.2; omega) hq.1
      | inr r => exact ⟨r, rfl, hq⟩
  obtain ⟨r, h1, h2⟩ := key (μ s0 + 1) s0 (by omega) h0
  exact ⟨r, lp_of h1, h2⟩
theorem jrem_nn {x k : Int} (h : 0 ≤ x) : jrem x k = x % k := by unfold jrem; exact Int.tmod_eq_emod_of_nonneg h
theorem jdiv_nn {x k : Int} (h : 0 ≤ x) (h2 : x < 2147483648) (hk : 0 < k) : jdiv x k = x / k := by
  unfold jdiv
  rw [Int.tdiv_eq_ediv_of_nonneg h]
  have h1 : 0 ≤ x / k := Int.ediv_nonneg h (by omega)
  have h3 : x / k ≤ x := Int.ediv_le_self k h
  exact w32_eq (by omega) (by omega)
theorem jdiv2 {x : Int} (h : 0 ≤ x) (h2 : x < 2147483648) : jdiv x 2 = x / 2 := jdiv_nn h h2 (by omega)
noncomputable def cif {α : Type} (p : Prop) (a b : α) : α := @ite α p (Classical.propDecidable p) a b
theorem cif_t {α : Type} {p : Prop} {a b : α} (h : p) : cif p a b = a := by unfold cif; rw [if_pos h]
theorem cif_f {α : Type} {p : Prop} {a b : α} (h : ¬ p) : cif p a b = b := by unfold cif; rw [if_neg h]
theorem lw_s (L : LT) (i : Nat) (j v : Int) : lw L i j v i j = v := by simp [lw]
theorem lw_i {L : LT} {i : Nat} {j v : Int} {i' : Nat} {j' : Int} (h : i' ≠ i) : lw L i j v i' j' = L i' j' := by simp [lw, h]
theorem lw_j {L : LT} {i : Nat} {j v : Int} {i' : Nat} {j' : Int} (h : j' ≠ j) : lw L i j v i' j' = L i' j' := by simp [lw, h]
/-- the first k places of a cell anew -/
def upT (L : LT) (c : Nat) (f : Int → Int) (k : Int) : LT := fun i j => if i = c ∧ 0 ≤ j ∧ j < k then f j else L i j
theorem upT_0 (L : LT) (c : Nat) (f : Int → Int) : upT L c f 0 = L := by
  funext i j
  unfold upT
  rw [if_neg (by omega)]
theorem upT_s {L : LT} {c : Nat} {f : Int → Int} {k : Int} (hk : 0 ≤ k) : lw (upT L c f k) c k (f k) = upT L c f (k + 1) := by
  funext i j
  unfold lw upT
  by_cases h1 : i = c ∧ j = k
  · rw [if_pos h1, if_pos ⟨h1.1, by omega, by omega⟩, h1.2]
  · rw [if_neg h1]
    by_cases h2 : i = c ∧ 0 ≤ j ∧ j < k
    · rw [if_pos h2, if_pos ⟨h2.1, h2.2.1, by omega⟩]
    · rw [if_neg h2, if_neg (by omega)]
theorem upT_c {L : LT} {c : Nat} {f : Int → Int} {k : Int} {i : Nat} {j : Int} (h : i ≠ c) : upT L c f k i j = L i j := by simp [upT, h]
theorem upT_ge {L : LT} {c : Nat} {f : Int → Int} {k j : Int} (h : k ≤ j) : upT L c f k c j = L c j := by
  unfold upT
  rw [if_neg (by omega)]
theorem upT_in {L : LT} {c : Nat} {f : Int → Int} {k j : Int} (h0 : 0 ≤ j) (h : j < k) : upT L c f k c j = f j := by
  unfold upT
  rw [if_pos ⟨rfl, h0, h⟩]
/-- a line's numbers S stand in the line L -/
def Sc (S L : LT) : Prop := (L 0 0 = S 0 0 ∧ L 0 1 = S 0 1 ∧ L 0 2 = S 0 2 ∧ L 0 3 = S 0 3 ∧ L 0 4 = S 0 4) ∧ (∀ y, 0 ≤ y → y < 16 → L 6 y = S 6 y ∧ L 7 y = S 7 y ∧ L 8 y = S 8 y) ∧ (∀ t, 0 ≤ t → t < S 0 4 → L 9 t = S 9 t ∧ L 10 t = S 10 t ∧ L 11 t = S 11 t ∧ L 12 t = S 12 t ∧ L 13 t = S 13 t ∧ L 14 t = S 14 t)
/-- .. in the model M -/
def Sm (S M : LT) : Prop := (M 0 0 = S 0 0 ∧ M 0 4 = S 0 1 ∧ M 0 5 = S 0 2 ∧ M 0 6 = S 0 3 ∧ M 0 7 = S 0 4) ∧ (∀ y, 0 ≤ y → y < 16 → M 2 y = S 6 y ∧ M 3 y = S 7 y ∧ M 4 y = S 8 y) ∧ (∀ t, 0 ≤ t → t < S 0 4 → M 9 t = S 9 t ∧ M 10 t = S 10 t ∧ M 11 t = S 11 t ∧ M 12 t = S 12 t ∧ M 13 t = S 13 t ∧ M 14 t = S 14 t)
def Val (S : LT) : Prop := (2 ≤ S 0 0 ∧ S 0 0 ≤ 16 ∧ 0 ≤ S 0 2 ∧ S 0 2 ≤ 9 ∧ 0 ≤ S 0 3 ∧ S 0 3 ≤ 9 ∧ 0 ≤ S 0 4 ∧ S 0 4 ≤ 5) ∧ (∀ y, 0 ≤ y → y < 16 → 0 ≤ S 6 y ∧ S 6 y ≤ 5 ∧ 0 ≤ S 7 y ∧ S 7 y ≤ 9 ∧ 0 ≤ S 8 y ∧ S 8 y ≤ 99) ∧ (∀ t, 0 ≤ t → t < S 0 4 → 1 ≤ S 9 t ∧ S 9 t ≤ 60 ∧ 0 ≤ S 10 t ∧ S 10 t ≤ 9 ∧ 1 ≤ S 11 t ∧ S 11 t ≤ 3 ∧ -1 ≤ S 12 t ∧ S 12 t ≤ 15 ∧ 0 ≤ S 13 t ∧ S 13 t ≤ 48 ∧ 0 ≤ S 14 t ∧ S 14 t ≤ 3)
/-- FROST of a yard behind freezing or melting -/
noncomputable def frz (S : LT) (y : Int) : Int :=
  cif (18 ≤ S 0 1 % 24 ∨ S 0 1 % 24 ≤ 5) (imin 99 (S 8 y + X0_freezes_v (S 6 y) (S 7 y) (S 0 2))) (cif (10 ≤ S 0 1 % 24 ∧ S 0 1 % 24 ≤ 15) (imax 0 (S 8 y - X0_melts_v (S 6 y) (S 7 y) (S 0 3))) (S 8 y))
noncomputable def fmS (S : LT) : LT := upT S 8 (frz S) (S 0 0)
def wantS (S : LT) (y w : Int) : Int := X0_wants_v (S 6 y) (S 7 y) w
def takenS (S : LT) (y : Int) : Prop := S 6 y ≠ 3 ∧ S 6 y ≠ 4 ∧ ∃ t, 0 ≤ t ∧ t < S 0 4 ∧ S 14 t = 0 ∧ S 12 t = y
noncomputable def mvS (t : Int) : Nat → LT → LT
  | 0, S => S
  | k + 1, S => cif (S 0 0 ≤ S 12 t + 1) (lw S 14 t 1) (cif (wantS S (S 12 t + 1) (S 9 t) ≤ S 8 (S 12 t + 1) ∧ ¬ takenS S (S 12 t + 1)) (mvS t k (lw (lw S 12 t (S 12 t + 1)) 8 (S 12 t + 1) (imax 0 (S 8 (S 12 t + 1) - S 10 t)))) S)
noncomputable def trS (t : Int) (S : LT) : LT := cif (S 14 t = 0) (cif (0 < S 13 t) (lw S 13 t (S 13 t - 1)) (mvS t (S 11 t).toNat S)) S
noncomputable def trsS : Nat → LT → LT
  | 0, S => S
  | k + 1, S => trS (k : Int) (trsS k S)
def snkP (S : LT) (t : Int) : Prop := S 14 t = 0 ∧ S 12 t ≠ -1 ∧ S 8 (S 12 t) < wantS S (S 12 t) (S 9 t) / 2
noncomputable def snk (S : LT) : LT := fun i t => cif (i = 14 ∧ 0 ≤ t ∧ t < S 0 4 ∧ snkP S t) 2 (S i t)
noncomputable def hrS (S : LT) : LT := lw (snk (trsS (S 0 4).toNat (fmS S))) 0 1 (S 0 1 + 1)
/-- n hours -/
noncomputable def goS : Nat → LT → LT
  | 0, S => S
  | n + 1, S => hrS (goS n S)
-- what stays
theorem mvS_fr (t : Int) : ∀ (k : Nat) (S : LT) (i : Nat) (j : Int), i ≠ 8 → i ≠ 12 → i ≠ 14 → mvS t k S i j = S i j
  | 0, S, i, j, _, _, _ => rfl
  | k + 1, S, i, j, h8, h12, h14 => by
    unfold mvS
    by_cases h : S 0 0 ≤ S 12 t + 1
    · rw [cif_t h, lw_i h14]
    · rw [cif_f h]
      by_cases h2 : wantS S (S 12 t + 1) (S 9 t) ≤ S 8 (S 12 t + 1) ∧ ¬ takenS S (S 12 t + 1)
      · rw [cif_t h2, mvS_fr t k _ i j h8 h12 h14, lw_i h8, lw_i h12]
      · rw [cif_f h2]
theorem mvS_ot (t : Int) : ∀ (k : Nat) (S : LT) (i : Nat) (j : Int), i ≠ 8 → j ≠ t → mvS t k S i j = S i j
  | 0, S, i, j, _, _ => rfl
  | k + 1, S, i, j, h8, hj => by
    unfold mvS
    by_cases h : S 0 0 ≤ S 12 t + 1
    · rw [cif_t h, lw_j hj]
    · rw [cif_f h]
      by_cases h2 : wantS S (S 12 t + 1) (S 9 t) ≤ S 8 (S 12 t + 1) ∧ ¬ takenS S (S 12 t + 1)
      · rw [cif_t h2, mvS_ot t k _ i j h8 hj, lw_i h8, lw_j hj]
      · rw [cif_f h2]
theorem trS_fr (t : Int) (S : LT) (i : Nat) (j : Int) (h8 : i ≠ 8) (h12 : i ≠ 12) (h13 : i ≠ 13) (h14 : i ≠ 14) : trS t S i j = S i j := by
  unfold trS
  by_cases h : S 14 t = 0
  · rw [cif_t h]
    by_cases h2 : 0 < S 13 t
    · rw [cif_t h2, lw_i h13]
    · rw [cif_f h2, mvS_fr t _ _ i j h8 h12 h14]
  · rw [cif_f h]
theorem trS_ot (t : Int) (S : LT) (i : Nat) (j : Int) (h8 : i ≠ 8) (hj : j ≠ t) : trS t S i j = S i j := by
  unfold trS
  by_cases h : S 14 t = 0
  · rw [cif_t h]
    by_cases h2 : 0 < S 13 t
    · rw [cif_t h2, lw_j hj]
    · rw [cif_f h2, mvS_ot t _ _ i j h8 hj]
  · rw [cif_f h]
theorem trsS_fr (S : LT) (i : Nat) (j : Int) (h8 : i ≠ 8) (h12 : i ≠ 12) (h13 : i ≠ 13) (h14 : i ≠ 14) : ∀ n, trsS n S i j = S i j
  | 0 => rfl
  | n + 1 => by
    unfold trsS
    rw [trS_fr _ _ i j h8 h12 h13 h14, trsS_fr S i j h8 h12 h13 h14 n]
theorem trsS_ge (S : LT) (i : Nat) (h8 : i ≠ 8) : ∀ (n : Nat) (j : Int), (n : Int) ≤ j → trsS n S i j = S i j
  | 0, _, _ => rfl
  | n + 1, j, hj => by
    unfold trsS
    rw [trS_ot _ _ i j h8 (by omega), trsS_ge S i h8 n j (by omega)]
