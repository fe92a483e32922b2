/-! Numbers, options, loops: what the pure pictures of the methods are made of. Ints are Int; w32 wraps. -/
def w32 (x : Int) : Int := Int.bmod x 4294967296
def w64 (x : Int) : Int := Int.bmod x 18446744073709551616
def Rg (x : Int) : Prop := -2147483648 ≤ x ∧ x < 2147483648
def Rl (x : Int) : Prop := -9223372036854775808 ≤ x ∧ x < 9223372036854775808
abbrev gd (i n : Int) : Prop := 0 ≤ i ∧ i < n
theorem rg_w (x : Int) : Rg (w32 x) := by unfold Rg w32; constructor <;> (have := Int.bmod_lt (x := x) (m := 4294967296) (by decide); have := Int.le_bmod (x := x) (m := 4294967296) (by decide); omega)
theorem rl_w (x : Int) : Rl (w64 x) := by unfold Rl w64; constructor <;> (have := Int.bmod_lt (x := x) (m := 18446744073709551616) (by decide); have := Int.le_bmod (x := x) (m := 18446744073709551616) (by decide); omega)
theorem w32_eq {x : Int} (h1 : -2147483648 ≤ x) (h2 : x < 2147483648) : w32 x = x := Int.bmod_eq_of_le (by omega) (by omega)
theorem w64_eq {x : Int} (h1 : -9223372036854775808 ≤ x) (h2 : x < 9223372036854775808) : w64 x = x := Int.bmod_eq_of_le (by omega) (by omega)
theorem w32_rg {x : Int} (h : Rg x) : w32 x = x := w32_eq h.1 h.2
theorem gd_rg {i n : Int} (h : gd i n) (hn : n ≤ 2147483648) : Rg i := ⟨by unfold gd at h; omega, by unfold gd at h; omega⟩
theorem rg_ite {c : Prop} [Decidable c] {a b : Int} (ha : Rg a) (hb : Rg b) : Rg (if c then a else b) := by split <;> assumption
theorem rl_ite {c : Prop} [Decidable c] {a b : Int} (ha : Rl a) (hb : Rl b) : Rl (if c then a else b) := by split <;> assumption
theorem rl_rg {x : Int} (h : Rg x) : Rl x := ⟨by have := h.1; omega, by have := h.2; omega⟩
def jdiv (x y : Int) : Int := w32 (Int.tdiv x y)
def jrem (x y : Int) : Int := Int.tmod x y
def ldvi (x y : Int) : Int := w64 (Int.tdiv x y)
def lrmi (x y : Int) : Int := Int.tmod x y
def b_and (x y : Int) : Int := (Int32.ofInt x &&& Int32.ofInt y).toInt
def b_or (x y : Int) : Int := (Int32.ofInt x ||| Int32.ofInt y).toInt
def b_shl (x y : Int) : Int := (Int32.ofInt x <<< (Int32.ofInt y &&& 31)).toInt
def b_shr (x y : Int) : Int := (Int32.ofInt x >>> (Int32.ofInt y &&& 31)).toInt
def b_ushr (x y : Int) : Int := ((Int32.ofInt x).toUInt32 >>> ((Int32.ofInt y).toUInt32 &&& Int32.toUInt32 31)).toInt32.toInt
def imin (x y : Int) : Int := if y < x then y else x
def imax (x y : Int) : Int := if x < y then y else x
def iabs (x : Int) : Int := if 0 ≤ x then x else w32 (0 - x)
theorem rg_i32 (x : Int32) : Rg x.toInt := ⟨by have := x.le_toInt; omega, by have := x.toInt_lt; omega⟩
theorem rg_and (x y : Int) : Rg (b_and x y) := rg_i32 _
theorem rg_or (x y : Int) : Rg (b_or x y) := rg_i32 _
theorem rg_shl (x y : Int) : Rg (b_shl x y) := rg_i32 _
theorem rg_shr (x y : Int) : Rg (b_shr x y) := rg_i32 _
theorem rg_ushr (x y : Int) : Rg (b_ushr x y) := rg_i32 _
theorem rg_div (x y : Int) : Rg (jdiv x y) := rg_w _
theorem rl_div (x y : Int) : Rl (ldvi x y) := rl_w _
theorem rg_rem {x y : Int} (hx : Rg x) (_hy : Rg y) : Rg (jrem x y) := by
  unfold jrem
  have h1 : (Int.tmod x y).natAbs ≤ x.natAbs := by rw [Int.natAbs_tmod]; exact Nat.mod_le _ _
  have hx1 := hx.1
  have hx2 := hx.2
  by_cases h0 : 0 ≤ x
  · have := Int.tmod_nonneg y h0
    exact ⟨by omega, by omega⟩
  · have h2 : 0 ≤ -(Int.tmod x y) := by rw [← Int.neg_tmod]; exact Int.tmod_nonneg y (by omega)
    exact ⟨by omega, by omega⟩
theorem rg_imin {x y : Int} (hx : Rg x) (hy : Rg y) : Rg (imin x y) := rg_ite hy hx
theorem rg_imax {x y : Int} (hx : Rg x) (hy : Rg y) : Rg (imax x y) := rg_ite hy hx
theorem rg_iabs {x : Int} (hx : Rg x) : Rg (iabs x) := rg_ite hx (rg_w _)
theorem ng_lt {a b : Int} (h : b ≤ a) : ¬ a < b := by omega
theorem ng_le {a b : Int} (h : b < a) : ¬ a ≤ b := by omega

noncomputable def grd {α : Type} (c : Prop) (k : Option α) : Option α := @ite _ c (Classical.propDecidable c) k none
def Bz (x : Int) : Prop := x = 0 ∨ x = 1
def Ok {α : Type} (E : Option α) (Q : α → Prop) : Prop := ∃ x, E = some x ∧ Q x
theorem Ok_some {α : Type} {x : α} {Q : α → Prop} (h : Ok (some x) Q) : Q x := by
  obtain ⟨y, h1, h2⟩ := h
  cases h1
  exact h2
theorem Ok_some' {α : Type} {x : α} {Q : α → Prop} (h : Q x) : Ok (some x) Q := ⟨x, rfl, h⟩
theorem Ok_none {α : Type} {Q : α → Prop} {C : Prop} (h : Ok (none : Option α) Q) : C := by
  obtain ⟨y, h1, h2⟩ := h
  cases h1
theorem Ok_grd {α : Type} {c : Prop} {E : Option α} {Q : α → Prop} (h : Ok (grd c E) Q) : c ∧ Ok E Q := by
  unfold grd at h
  split at h
  · exact ⟨by assumption, h⟩
  · exact Ok_none h
theorem Ok_t {α : Type} {c : Prop} [Decidable c] {A B : Option α} {Q : α → Prop} (hc : c) (h : Ok (if c then A else B) Q) : Ok A Q := by rwa [if_pos hc] at h
theorem Ok_f {α : Type} {c : Prop} [Decidable c] {A B : Option α} {Q : α → Prop} (hc : ¬ c) (h : Ok (if c then A else B) Q) : Ok B Q := by rwa [if_neg hc] at h
theorem Ok_bind {α β : Type} {E : Option α} {F : α → Option β} {Q : β → Prop} (h : Ok (E.bind F) Q) : Ok E (fun x => Ok (F x) Q) := by
  obtain ⟨y, h1, h2⟩ := h
  cases E with
  | none => cases h1
  | some x => exact ⟨x, rfl, y, h1, h2⟩
def lt {α β : Type} (e : β) (B : β → Option α) : Option α := B e
theorem Ok_let {α β : Type} {e : β} {B : β → Option α} {Q : α → Prop} (h : Ok (lt e B) Q) : ∃ x, x = e ∧ Ok (B x) Q := ⟨e, rfl, h⟩
theorem Ok_mono {α : Type} {E : Option α} {Q Q' : α → Prop} (h : Ok E Q) (hq : ∀ x, Q x → Q' x) : Ok E Q' := by
  obtain ⟨x, h1, h2⟩ := h
  exact ⟨x, h1, hq x h2⟩

/-- n turns of a loop -/
def lpn {σ ρ : Type} (step : σ → Option (σ ⊕ ρ)) : Nat → σ → Option ρ
  | 0, _ => none
  | n + 1, s => match step s with
    | none => none
    | some (.inl s') => lpn step n s'
    | some (.inr r) => some r
theorem lpn_mono {σ ρ : Type} {step : σ → Option (σ ⊕ ρ)} : ∀ {n m : Nat} {s : σ} {r : ρ}, n ≤ m → lpn step n s = some r → lpn step m s = some r
  | 0, _, _, _, _, h => by cases h
  | n + 1, 0, _, _, h, _ => by omega
  | n + 1, m + 1, s, r, h, e => by
    unfold lpn at e ⊢
    cases hs : step s with
    | none => rw [hs] at e; cases e
    | some o =>
      rw [hs] at e
      cases o with
      | inl s' => exact lpn_mono (by omega) e
      | inr r' => exact e
/-- a loop: what it comes to, if it ends -/
noncomputable def lp {σ ρ : Type} (step : σ → Option (σ ⊕ ρ)) (s : σ) : Option ρ :=
  @dite _ (∃ n, (lpn step n s).isSome = true) (Classical.propDecidable _) (fun h => lpn step (Classical.choose h) s) (fun _ => none)
theorem lp_of {σ ρ : Type} {step : σ → Option (σ ⊕ ρ)} {n : Nat} {s : σ} {r : ρ} (h : lpn step n s = some r) : lp step s = some r := by
  have hex : ∃ n, (lpn step n s).isSome = true := ⟨n, by rw [h]; rfl⟩
  unfold lp
  rw [dif_pos hex]
  have hc := Classical.choose_spec hex
  obtain ⟨r', hr'⟩ := Option.isSome_iff_exists.mp hc
  rw [hr']
  rcases Nat.le_total n (Classical.choose hex) with q | q
  · have := lpn_mono q h
    rw [hr'] at this
    exact this
  · have := lpn_mono q hr'
    rw [h] at this
    exact this.symm
theorem lp_to {σ ρ : Type} {step : σ → Option (σ ⊕ ρ)} {s : σ} {r : ρ} (h : lp step s = some r) : ∃ n, lpn step n s = some r := by
  unfold lp at h
  split at h
  · exact ⟨_, h⟩
  · cases h
theorem lp_eq {σ ρ : Type} (step : σ → Option (σ ⊕ ρ)) (s : σ) : lp step s = match step s with
    | none => none
    | some (.inl s') => lp step s'
    | some (.inr r) => some r := by
  cases hs : step s with
  | none =>
    show lp step s = none
    cases h : lp step s with
    | none => rfl
    | some r =>
      obtain ⟨n, hn⟩ := lp_to h
      cases n with
      | zero => cases hn
      | succ n => unfold lpn at hn; rw [hs] at hn; cases hn
  | some o =>
    cases o with
    | inr r => exact lp_of (n := 1) (by unfold lpn; rw [hs])
    | inl s' =>
      show lp step s = lp step s'
      cases h : lp step s' with
      | some r =>
        obtain ⟨n, hn⟩ := lp_to h
        exact lp_of (n := n + 1) (by unfold lpn; rw [hs]; exact hn)
      | none =>
        cases h2 : lp step s with
        | none => rfl
        | some r =>
          obtain ⟨n, hn⟩ := lp_to h2
          cases n with
          | zero => cases hn
          | succ n =>
            unfold lpn at hn
            rw [hs] at hn
            rw [lp_of hn] at h
            cases h
theorem Ok_lp {σ ρ : Type} {step : σ → Option (σ ⊕ ρ)} {Q : ρ → Prop} (P : σ → Prop) (h : ∀ s, Ok (step s) (fun o => match o with | .inl s' => P s' | .inr r => Q r) → P s) {s : σ} (k : Ok (lp step s) Q) : P s := by
  obtain ⟨r, h1, h2⟩ := k
  obtain ⟨n, hn⟩ := lp_to h1
  clear h1
  induction n generalizing s with
  | zero => cases hn
  | succ n ih =>
    unfold lpn at hn
    cases hs : step s with
    | none => rw [hs] at hn; cases hn
    | some o =>
      rw [hs] at hn
      cases o with
      | inr r' =>
        have e : r' = r := by simpa using hn
        exact h s ⟨_, hs, by rw [e]; exact h2⟩
      | inl s' => exact h s ⟨_, hs, ih hn⟩

/-- a group's cells: cell, slot; a world: kind of group, number, cell, slot -/
abbrev LT : Type := Nat → Int → Int
abbrev GG : Type := Nat → Nat → Nat → Int → Int
abbrev Ad : Type := Nat × Nat × Nat
def lw (L : LT) (i : Nat) (j v : Int) : LT := fun i' j' => if i' = i ∧ j' = j then v else L i' j'
def lcp (L : LT) (i : Nat) (O : LT) (i0 : Nat) (n : Int) : LT := fun i' j' => if i' = i ∧ 0 ≤ j' ∧ j' < n then O i0 j' else L i' j'
def gs (g : GG) (t l : Nat) (L : LT) : GG := fun t' l' => if t' = t ∧ l' = l then L else g t' l'
def hw (g : GG) (a : Ad) (j v : Int) : GG := fun t l i j' => if t = a.1 ∧ l = a.2.1 ∧ i = a.2.2 ∧ j' = j then v else g t l i j'
def hcp (g : GG) (a b : Ad) (n : Int) : GG := fun t l i j => if t = a.1 ∧ l = a.2.1 ∧ i = a.2.2 ∧ 0 ≤ j ∧ j < n then g b.1 b.2.1 b.2.2 j else g t l i j
theorem gs_at (g : GG) (t l : Nat) (L : LT) : gs g t l L t l = L := by simp [gs]
theorem gs_at' (g : GG) (t l : Nat) (L : LT) (i : Nat) (j : Int) : gs g t l L t l i j = L i j := by simp [gs]
theorem gs_ne {g : GG} {t l t' l' : Nat} {L : LT} (h : ¬ (t' = t ∧ l' = l)) : gs g t l L t' l' = g t' l' := by simp [gs, h]
theorem gs_self (g : GG) (t l : Nat) : gs g t l (g t l) = g := by
  funext t' l'
  simp only [gs]
  split
  · rename_i h; rw [h.1, h.2]
  · rfl
theorem gs_gs (g : GG) (t l : Nat) (L L' : LT) : gs (gs g t l L) t l L' = gs g t l L' := by
  funext t' l'
  simp only [gs]
  split <;> rfl
theorem hw_gs (g : GG) (t l : Nat) (L : LT) (i : Nat) (j v : Int) : hw (gs g t l L) (t, l, i) j v = gs g t l (lw L i j v) := by
  funext t' l' i' j'
  simp only [hw, gs, lw]
  by_cases h : t' = t ∧ l' = l
  · simp only [h, and_self, true_and, if_true]
    rfl
  · simp only [h, if_false]
    rw [if_neg]
    intro q
    exact h ⟨q.1, q.2.1⟩
theorem hw_ne {g : GG} {t0 l0 : Nat} {M : LT} (t l i : Nat) (j v : Int) (ht : t ≠ t0) : hw (gs g t0 l0 M) (t, l, i) j v = gs (hw g (t, l, i) j v) t0 l0 M := by
  funext t' l' i' j'
  simp only [hw, gs]
  by_cases h : t' = t0 ∧ l' = l0
  · have h2 : ¬ t' = t := fun q => ht (q.symm.trans h.1)
    simp [h, h2, Ne.symm ht]
  · simp only [h, if_false]
    rfl
theorem gs_comm {g : GG} {t l t0 l0 : Nat} {L M : LT} (ht : t ≠ t0) : gs (gs g t0 l0 M) t l L = gs (gs g t l L) t0 l0 M := by
  funext t' l'
  simp only [gs]
  by_cases h : t' = t0 ∧ l' = l0
  · have h2 : ¬ t' = t := fun q => ht (q.symm.trans h.1)
    simp [h, h2, Ne.symm ht]
  · simp [h]
theorem hcp_gs (g : GG) (t l : Nat) (L : LT) (i i0 : Nat) (t0 l0 : Nat) (n : Int) : hcp (gs g t l L) (t, l, i) (t0, l0, i0) n = gs g t l (lcp L i (gs g t l L t0 l0) i0 n) := by
  funext t' l' i' j'
  simp only [hcp]
  by_cases h : t' = t ∧ l' = l
  · obtain ⟨rfl, rfl⟩ := h
    simp only [true_and, gs_at, lcp]
  · rw [gs_ne h, if_neg (fun q => h ⟨q.1, q.2.1⟩), gs_ne h]
theorem grd_t {α : Type} {c : Prop} {k : Option α} (h : c) : grd c k = k := by unfold grd; rw [if_pos h]
theorem Ok_grd_i {α : Type} {c : Prop} {E : Option α} {Q : α → Prop} (hc : c) (h : Ok E Q) : Ok (grd c E) Q := by rw [grd_t hc]; exact h
theorem Ok_let_i {α β : Type} {e : β} {B : β → Option α} {Q : α → Prop} (h : Ok (B e) Q) : Ok (lt e B) Q := h
theorem Ok_ite_i {α : Type} {c : Prop} [Decidable c] {A B : Option α} {a b : α} (ha : c → Ok A (fun x => x = a)) (hb : ¬ c → Ok B (fun x => x = b)) : Ok (if c then A else B) (fun x => x = if c then a else b) := by
  by_cases h : c
  · rw [if_pos h, if_pos h]; exact ha h
  · rw [if_neg h, if_neg h]; exact hb h
theorem rg_z {x : Int} (h : Bz x) : Rg x := by rcases h with h | h <;> subst h <;> exact ⟨by decide, by decide⟩
theorem z_ite (c : Prop) [Decidable c] : Bz (if c then 1 else 0) := by by_cases h : c <;> simp [h, Bz]
theorem bz_of {x e : Int} (h : x = e) (z : Bz e) : Bz x := by rw [h]; exact z
theorem rg_of {x e : Int} (h : x = e) (z : Rg e) : Rg x := by rw [h]; exact z
theorem rl_of {x e : Int} (h : x = e) (z : Rl e) : Rl x := by rw [h]; exact z
theorem rl_rem {x y : Int} (hx : Rl x) (_hy : Rl y) : Rl (lrmi x y) := by
  unfold lrmi
  have h1 : (Int.tmod x y).natAbs ≤ x.natAbs := by rw [Int.natAbs_tmod]; exact Nat.mod_le _ _
  have hx1 := hx.1
  have hx2 := hx.2
  by_cases h0 : 0 ≤ x
  · have := Int.tmod_nonneg y h0
    exact ⟨by omega, by omega⟩
  · have h2 : 0 ≤ -(Int.tmod x y) := by rw [← Int.neg_tmod]; exact Int.tmod_nonneg y (by omega)
    exact ⟨by omega, by omega⟩
theorem jn {α β : Type} {E : Option α} {F : α → Option β} {Q : β → Prop} {G : Prop} (P : α → Prop) (k : Ok (E.bind F) Q) (arms : ∀ Q1 : α → Prop, Ok E Q1 → (∀ v, Q1 v → P v) → G) (rest : ∀ v, Ok (F v) Q → P v) : G := arms _ (Ok_bind k) rest
theorem jnR {α ρ β : Type} {E : Option (α ⊕ ρ)} {F : α ⊕ ρ → Option β} {Q : β → Prop} {G : Prop} (P : α → Prop) (k : Ok (E.bind F) Q) (arms : ∀ Q1 : α ⊕ ρ → Prop, Ok E Q1 → (∀ v, Q1 (.inl v) → P v) → (∀ y, Q1 (.inr y) → Ok (F (.inr y)) Q) → G) (rest : ∀ v, Ok (F (.inl v)) Q → P v) : G := arms _ (Ok_bind k) (fun v h => rest v h) (fun y h => h)
theorem cnd {α : Type} {c : Prop} [Decidable c] {A B : Option α} {Q : α → Prop} {GT GF G : Prop} (k : Ok (if c then A else B) Q) (br : (c → GT) → (¬ c → GF) → G) (ht : c → Ok A Q → GT) (hf : ¬ c → Ok B Q → GF) : G := br (fun h => ht h (Ok_t h k)) (fun h => hf h (Ok_f h k))
theorem jifP {P : Int → Prop} {G : Prop} {c : Prop} [Decidable c] (a b : Int) (br : (c → P a) → (¬ c → P b) → G) (rest : P (if c then a else b)) : G := br (fun h => by rwa [if_pos h] at rest) (fun h => by rwa [if_neg h] at rest)
theorem lpj {σ ρ β : Type} {step : σ → Option (σ ⊕ ρ)} {F : ρ → Option β} {Q : β → Prop} {s0 : σ} {G : Prop} (P : σ → Prop) (PE : ρ → Prop) (k : Ok ((lp step s0).bind F) Q) (body : ∀ (s : σ) (Q1 : σ ⊕ ρ → Prop), Ok (step s) Q1 → (∀ s', Q1 (.inl s') → P s') → (∀ r, Q1 (.inr r) → PE r) → P s) (rest : ∀ r, Ok (F r) Q → PE r) (fin : P s0 → G) : G := by
  refine fin (Ok_lp (Q := fun r => Ok (F r) Q) P (fun s h => ?_) (Ok_bind k))
  exact body s _ h (fun s' q => q) (fun r q => rest r q)
theorem put1 {g : GG} {t l : Nat} {L L2 : LT} {i : Nat} {j v : Int} (e : L2 = lw L i j v) : hw (gs g t l L) (t, l, i) j v = gs g t l L2 := by rw [e]; exact hw_gs g t l L i j v
theorem put2 {C C2 : GG} {M : LT} {t l i : Nat} {j v : Int} (e : C2 = hw C (t, l, i) j v) (ht : t ≠ 4) : hw (gs C 4 0 M) (t, l, i) j v = gs C2 4 0 M := by rw [e]; exact hw_ne t l i j v ht
theorem gs_oth {g0 : GG} {l l2 : Nat} {L O : LT} {i : Nat} {j : Int} (hO : g0 1 l2 = O) (hne : ¬ l2 = l) : gs g0 1 l L 1 l2 i j = O i j := by
  rw [gs_ne (fun q => hne q.2), hO]
theorem cpg {g0 : GG} {l l2 : Nat} {L L2 O : LT} {i i0 : Nat} {n : Int} (e : L2 = lcp L i O i0 n) (hO : g0 1 l2 = O) (hne : ¬ l2 = l) : hcp (gs g0 1 l L) (1, l, i) (1, l2, i0) n = gs g0 1 l L2 := by
  rw [hcp_gs, gs_ne (fun q => hne q.2), hO, e]
theorem gs_in (C : GG) (M : LT) (t l : Nat) (ht : t ≠ 4) : gs C 4 0 M = gs (gs C 4 0 M) t l (C t l) := by
  have h : (gs C 4 0 M) t l = C t l := gs_ne (fun q => ht q.1)
  rw [← h]
  exact (gs_self _ t l).symm
def isK (x : Int) : Prop := x = 27 ∨ x = 28 ∨ x = 34
theorem tn11 {x : Int} (h : gd x 11) : x.toNat < 11 := by omega
theorem rgL11 {x : Int} (h : gd x 11) : Rg x := ⟨by omega, by omega⟩
theorem rgK {x : Int} (h : isK x) : Rg x := by unfold isK at h; exact ⟨by omega, by omega⟩
theorem h11_0 : 0 < 11 := by decide
theorem h11_1 : 1 < 11 := by decide
theorem h11_2 : 2 < 11 := by decide
