/-! pourFewest -/
/-- poured on the first k yards of a set -/
def psN (S : LT) (b : Nat) : Nat → LT
  | 0 => S
  | k + 1 => if b.testBit k = true then prS (psN S b k) k else psN S b k
theorem ps_i (S : LT) (b : Nat) {i : Nat} (hi : i ≠ 8) (j : Int) : ∀ k, psN S b k i j = S i j
  | 0 => rfl
  | k + 1 => by
    unfold psN
    split
    · unfold prS
      rw [lw_i hi, ps_i S b hi j k]
    · exact ps_i S b hi j k
theorem ps_ge (S : LT) (b : Nat) {j : Int} : ∀ k : Nat, (k : Int) ≤ j → psN S b k 8 j = S 8 j
  | 0, _ => rfl
  | k + 1, h => by
    unfold psN
    split
    · unfold prS
      rw [lw_j (by omega), ps_ge S b k (by omega)]
    · exact ps_ge S b k (by omega)
theorem Vg_ps {S : LT} (V : Vg S) (b : Nat) : ∀ k : Nat, k ≤ 16 → Vg (psN S b k)
  | 0, _ => V
  | k + 1, h => by
    have ih := Vg_ps V b k (by omega)
    unfold psN
    split
    · exact Vg_pr ih (by omega) (by omega)
    · exact ih
/-- .. with a yard left out on which nothing can be poured -/
theorem ps_out {S : LT} (V : Val S) {b c κ : Nat} (hκ : 99 ≤ S 8 κ) (hk : κ < 16) (hb : ∀ j, j ≠ κ → b.testBit j = c.testBit j) (hc : c.testBit κ = false) : ∀ k, psN S b k = psN S c k
  | 0 => rfl
  | k + 1 => by
    have ih := ps_out V hκ hk hb hc k
    unfold psN
    rw [ih]
    by_cases e : k = κ
    · rw [e, hc]
      split
      · have g := ps_ge S c (j := (κ : Int)) κ (Int.le_refl _)
        have v := V.2.1 (κ : Int) (by omega) (by omega)
        have s99 : psN S c κ 8 κ = 99 := by omega
        unfold prS
        rw [s99, show imin 99 (99 + 10) = 99 by decide, if_neg (by decide)]
        have := lw_self (psN S c κ) 8 κ
        rw [s99] at this
        exact this
      · rw [if_neg (by decide)]
    · rw [hb k e]
def pfP (S : LT) (t : Int) (b : Nat) : Prop := thrS (psN S b (S 0 0).toNat) t < 99
def pfQ (S : LT) (t : Int) (b : Nat) : Prop := (∀ k : Nat, k < (S 0 0).toNat → b.testBit k = true → S 8 k < 99) ∧ pfP S t b
/-- any set that does is no less than one on all of whose yards can be poured -/
theorem pf_strip {S : LT} (V : Val S) {t : Int} : ∀ (p b : Nat), pc b ≤ p → b < 2 ^ (S 0 0).toNat → pfP S t b → ∃ c, c < 2 ^ (S 0 0).toNat ∧ pfQ S t c ∧ (c = b ∨ pc c < pc b) := by
  have hv := V.1
  intro p
  induction p with
  | zero =>
    intro b hp hb hP
    by_cases q : ∀ k : Nat, k < (S 0 0).toNat → b.testBit k = true → S 8 k < 99
    · exact ⟨b, hb, ⟨q, hP⟩, Or.inl rfl⟩
    · exfalso
      refine q (fun k hk hbit => ?_)
      have : 1 ≤ pc b := by
        have key : ∀ n, k < n → 1 ≤ pcK b n := by
          intro n
          induction n with
          | zero => intro z; omega
          | succ n ih =>
            intro z
            unfold pcK
            by_cases e : k = n
            · rw [← e, hbit, if_pos rfl]; omega
            · have := ih (by omega)
              omega
        exact key 16 (by omega)
      omega
  | succ p ih =>
    intro b hp hb hP
    by_cases q : ∀ k : Nat, k < (S 0 0).toNat → b.testBit k = true → S 8 k < 99
    · exact ⟨b, hb, ⟨q, hP⟩, Or.inl rfl⟩
    · obtain ⟨κ, hκ⟩ := Classical.not_forall.mp q
      obtain ⟨hk, hκ⟩ := Classical.not_imp.mp hκ
      obtain ⟨hbit, h99⟩ := Classical.not_imp.mp hκ
      have tj : ∀ j, (b ^^^ 2 ^ κ).testBit j = (b.testBit j ^^ decide (κ = j)) := fun j => by rw [Nat.testBit_xor, Nat.testBit_two_pow]
      have t1 : ∀ j, j ≠ κ → b.testBit j = (b ^^^ 2 ^ κ).testBit j := fun j h => by
        rw [tj j, decide_eq_false (fun z => h z.symm), Bool.xor_false]
      have t2 : (b ^^^ 2 ^ κ).testBit κ = false := by rw [tj κ, hbit, decide_eq_true rfl]; rfl
      have hc : b ^^^ 2 ^ κ < 2 ^ (S 0 0).toNat := Nat.xor_lt_two_pow hb (Nat.pow_lt_pow_right (by omega) hk)
      have pcd : pc (b ^^^ 2 ^ κ) + 1 = pc b := by
        have key : ∀ n, pcK (b ^^^ 2 ^ κ) n + (if κ < n then 1 else 0) = pcK b n := by
          intro n
          induction n with
          | zero => rfl
          | succ n ih2 =>
            unfold pcK
            by_cases e : n = κ
            · rw [e] at ih2 ⊢
              rw [t2, hbit, if_neg (by decide), if_pos rfl, if_pos (by omega)]
              rw [if_neg (by omega)] at ih2
              omega
            · rw [← t1 n e]
              by_cases e2 : κ < n
              · rw [if_pos (c := κ < n + 1) (by omega)]
                rw [if_pos e2] at ih2
                omega
              · rw [if_neg (c := κ < n + 1) (by omega)]
                rw [if_neg e2] at ih2
                omega
        have := key 16
        rw [if_pos (by omega)] at this
        exact this
      have hP2 : pfP S t (b ^^^ 2 ^ κ) := by
        unfold pfP at hP ⊢
        rw [← ps_out V (by omega) (by omega) t1 t2]
        exact hP
      obtain ⟨c, c1, c2, c3⟩ := ih (b ^^^ 2 ^ κ) (by omega) hc hP2
      refine ⟨c, c1, c2, Or.inr ?_⟩
      rcases c3 with e | e
      · rw [e]; omega
      · omega
def pfR (S : LT) (t : Int) (n : Nat) (r : Int) : Prop := (r = -9 ∧ ∀ b, b < n → pc b ≤ 3 → ¬ pfP S t b) ∨ ∃ b : Nat, r = (b : Int) ∧ b < n ∧ pc b ≤ 3 ∧ pfP S t b ∧ ∀ c, c < n → pfP S t c → pc c ≤ 3 → pc b < pc c ∨ pc b = pc c ∧ b ≤ c
theorem pfR_u {S : LT} {t : Int} {n : Nat} {r r' : Int} (h : pfR S t n r) (h' : pfR S t n r') : r = r' := by
  rcases h with ⟨e, h⟩ | ⟨b, e, b1, b2, b3, b4⟩ <;> rcases h' with ⟨e', h'⟩ | ⟨b', e', b1', b2', b3', b4'⟩
  · rw [e, e']
  · exact absurd b3' (h b' b1' b2')
  · exact absurd b3 (h' b b1 b2)
  · have h1 := b4 b' b1' b3' b2'
    have h2 := b4' b b1 b3 b2
    have : b = b' := by omega
    rw [e, e', this]
theorem hb_c {n k : Nat} (hn : n < 2147483648) (hk : k < 31) : b_and (b_shr (n : Int) (k : Int)) 1 = 1 ↔ n.testBit k = true := by
  have h := hb_n hn hk
  unfold X5_hasBit_v at h
  by_cases e : n.testBit k = true
  · rw [if_pos e] at h
    by_cases q : b_and (b_shr (n : Int) (k : Int)) 1 = 1
    · exact ⟨fun _ => e, fun _ => q⟩
    · rw [if_neg q] at h; omega
  · rw [if_neg e] at h
    by_cases q : b_and (b_shr (n : Int) (k : Int)) 1 = 1
    · rw [if_pos q] at h; omega
    · exact ⟨fun z => absurd z q, fun z => absurd z e⟩
theorem c_pd {a : Ab} {C D : GG} (hc : RC a C) (cf : CF C D) (V : Vg a.s) {b : Nat} (hb : b < 65536) {t : Int} (t0 : 0 ≤ t) (t1 : t < a.s 0 4) : Ok (X4_pouredGetsThrough D (b : Int) t) (fun z => (¬ z.1 = 0 ↔ pfQ a.s t b) ∧ CF C z.2) := by
  have d0 : D 1 0 = C 1 0 := cf 1 0 (by omega)
  have tv := V.1.1
  unfold X4_pouredGetsThrough
  rw [d0]
  refine okB (c_become hc.1 V.1) ?_
  intro L hL
  refine okL (okB (P := SuQ (fun z : Int × GG => (∀ k : Nat, k < (a.s 0 0).toNat → b.testBit k = true → a.s 8 k < 99) ∧ PL (psN a.s b (a.s 0 0).toNat) 0 True (z.2 1 1) ∧ CF C z.2) (fun z : Int × GG => z.1 = 0 ∧ ¬ pfQ a.s t b ∧ CF C z.2)) ?_ ?_)
  · refine okLoop (fun s => ∃ k : Nat, s.1 = (k : Int) ∧ (k : Int) ≤ a.s 0 0 ∧ (∀ i : Nat, i < k → b.testBit i = true → a.s 8 i < 99) ∧ PL (psN a.s b k) 0 True (s.2 1 1) ∧ CF C s.2) (fun s => (a.s 0 0 - s.1).toNat) ?_ ⟨0, rfl, by omega, fun i q => by omega, by simp only [gs_at]; exact hL, CF_t cf (CF_gs D L)⟩
    rintro ⟨k', E⟩ ⟨k, e1, hk, hI, hE, ce⟩
    simp only at e1 hE ce
    subst e1
    have e0 : E 1 0 = C 1 0 := ce 1 0 (by omega)
    have VK := Vg_ps V b k (by omega)
    unfold X4_pouredGetsThrough_s1
    simp only
    rw [e0, hc.1.1.1, w32_eq (x := (k : Int) + 1) (by omega) (by omega)]
    have mu : (k : Int) < a.s 0 0 → (a.s 0 0 - ((k : Int) + 1)).toNat < (a.s 0 0 - (k : Int)).toNat := fun _ => by omega
    have en : psN a.s b (k + 1) = if b.testBit k = true then prS (psN a.s b k) k else psN a.s b k := rfl
    refine okI (fun hlt => ?_) (fun hlt => okS ?_)
    · have hbt := hb_c (n := b) (k := k) (by omega) (by omega)
      refine okI (fun q => okG ⟨by omega, by omega⟩ ?_) (fun q => okS ⟨⟨k + 1, rfl, by omega, fun i i1 i2 => ?_, ?_, ce⟩, mu hlt⟩)
      · have q' := hbt.mp q
        rw [(hc.1.2.1 k (by omega) (by omega)).2.2]
        refine okI (fun h9 => okS ⟨rfl, fun z => ?_, ce⟩) (fun h9 => okB (c_pour hE.1 VK.1 (y := k) (by omega) (by omega)) ?_)
        · have := z.1 k (by omega) q'
          omega
        · rintro L2 rfl
          refine okL (okS ⟨⟨k + 1, rfl, by omega, fun i i1 i2 => ?_, ?_, CF_t ce (CF_gs E _)⟩, mu hlt⟩)
          · by_cases e : i = k
            · rw [e]; omega
            · exact hI i (by omega) i2
          · rw [en, if_pos q']
            simp only [gs_at]
            exact PL_lw hE (by omega)
      · by_cases e : i = k
        · rw [e] at i2; exact absurd (hbt.mpr i2) q
        · exact hI i (by omega) i2
      · rw [en, if_neg (fun z => q (hbt.mpr z))]
        exact hE
    · have e : (a.s 0 0).toNat = k := by omega
      exact ⟨by rw [e]; exact hI, by rw [e]; exact hE, ce⟩
  · rintro (⟨z1, E⟩ | z) hz
    · obtain ⟨h1, h2, h3⟩ := hz
      simp only at h1 h2 h3
      refine okB (c_gets h2 (Vg_ps V b _ (by omega)) t0 (by rw [ps_i a.s b (by decide)]; exact t1)) ?_
      rintro ⟨r, E2⟩ ⟨q1, q2, -⟩
      simp only at q1 q2
      refine okS ⟨?_, CF_t h3 q2⟩
      simp only
      rw [q1]
      exact ⟨fun z => ⟨h1, (show thrS (psN a.s b (a.s 0 0).toNat) t < 99 from if10.mp z)⟩, fun z => if10.mpr z.2⟩
    · exact okS ⟨⟨fun q => absurd hz.1 q, fun q => absurd q hz.2.1⟩, hz.2.2⟩
theorem m_ps {a : Ab} {M P : LT} (V : Vg a.s) (p1 : Sm a.s P) (p2 : IM a M P) {b : Nat} (hb : b < 65536) (x : Int) (R : LT) : Ok (lp (X5_pourFewest_s1 (x, (b : Int), R)) (0, P)) (fun z => Sm (psN a.s b (a.s 0 0).toNat) z.2 ∧ IM a M z.2) ∧ Ok (lp (X5_pourFewest_s2 (x, (b : Int), R)) (0, P)) (fun z => Sm (psN a.s b (a.s 0 0).toNat) z.2 ∧ IM a M z.2) := by
  have tv := V.1.1
  have key : ∀ s : Int × LT, (∃ k : Nat, s.1 = (k : Int) ∧ (k : Int) ≤ a.s 0 0 ∧ Sm (psN a.s b k) s.2 ∧ IM a M s.2) → Ok (X5_pourFewest_s1 (x, (b : Int), R) s) (LpQ (fun s => ∃ k : Nat, s.1 = (k : Int) ∧ (k : Int) ≤ a.s 0 0 ∧ Sm (psN a.s b k) s.2 ∧ IM a M s.2) (fun s => (a.s 0 0 - s.1).toNat) ((a.s 0 0 - s.1).toNat) (fun z => Sm (psN a.s b (a.s 0 0).toNat) z.2 ∧ IM a M z.2)) := by
    rintro ⟨k', Q⟩ ⟨k, e1, hk, q1, q2⟩
    simp only at e1 q1 q2
    subst e1
    have VK := Vg_ps V b k (by omega)
    unfold X5_pourFewest_s1
    simp only
    have e00 : psN a.s b k 0 0 = a.s 0 0 := ps_i a.s b (by decide) 0 k
    rw [q1.1.1, e00, w32_eq (x := (k : Int) + 1) (by omega) (by omega)]
    have mu : (k : Int) < a.s 0 0 → (a.s 0 0 - ((k : Int) + 1)).toNat < (a.s 0 0 - (k : Int)).toNat := fun _ => by omega
    have en : psN a.s b (k + 1) = if b.testBit k = true then prS (psN a.s b k) k else psN a.s b k := rfl
    refine okI (fun hlt => ?_) (fun hlt => okS (by rw [show (a.s 0 0).toNat = k by omega]; exact ⟨q1, q2⟩))
    rw [hb_n (n := b) (k := k) (by omega) (by omega)]
    refine okI (fun q => okB (m_pour q1 VK.1 (y := k) (by omega) (by omega)) ?_) (fun q => okS ⟨⟨k + 1, rfl, by omega, ?_, q2⟩, mu hlt⟩)
    · rintro L2 rfl
      refine okS ⟨⟨k + 1, rfl, by omega, ?_, IM_lw q2 (by omega)⟩, mu hlt⟩
      rw [en, if_pos (if10.mp q)]
      exact Sm_lw q1 (by omega)
    · rw [en, if_neg (fun z => q (if10.mpr z))]
      exact q1
  exact ⟨okLoop _ _ key ⟨0, rfl, by omega, p1, p2⟩, okLoop _ _ key ⟨0, rfl, by omega, p1, p2⟩⟩
theorem op_pourFewest : Op1 X4_pourFewest X5_pourFewest := by
  rintro C M ⟨a, ha, hc, hm⟩ t -
  have hm1 := RM_14 hm 0
  have V := Vs_g ha.1
  have tv := V.1.1
  refine Bo_op ?_
  unfold X4_pourFewest X5_pourFewest
  simp only [lt]
  rw [m_isT hm1.1 V.1 t]
  by_cases ht : 0 ≤ t ∧ t < a.s 0 4
  · obtain ⟨t0, t1⟩ := ht
    have g5 : gd t 5 := ⟨t0, by omega⟩
    rw [if_pos (c := 0 ≤ t ∧ t < a.s 0 4) ⟨t0, t1⟩, grd_t (show ¬ (1 : Int) = 0 → gd t 5 from fun _ => g5), if_neg (show ¬ (1 : Int) = 0 by decide), grd_t g5]
    refine bo_f_ (fun q => (c_noT hc t).mp q ⟨t0, t1⟩) ?_
    rw [(hc.1.2.2 t t0 t1).2.2.2.2.2, (hm1.1.2.2 t t0 t1).2.2.2.2.2]
    by_cases h14 : a.s 14 t = 0
    · rw [if_neg (c := ¬ a.s 14 t = 0) (t := (-3 : Int)) (fun z => z h14)]
      obtain ⟨m, hm16, hmm⟩ : ∃ m : Nat, m ≤ 16 ∧ a.s 0 0 = (m : Int) := ⟨(a.s 0 0).toNat, by omega, by omega⟩
      have em : (a.s 0 0).toNat = m := by omega
      have pm : 2 ^ m ≤ 65536 := by
        have := Nat.pow_le_pow_right (n := 2) (by omega) hm16
        omega
      have shm : b_shl 1 (a.s 0 0) = ((2 ^ m : Nat) : Int) := by rw [hmm]; exact b_shl_n ⟨m, by omega⟩
      refine bo_ff (fun z => z h14) (by decide) (Bo_rel (pfR a.s t (2 ^ m)) ha (fun _ _ => pfR_u) ?_ ?_)
      · refine okB (P := SuQ (fun z : Int × GG => (∀ σ, σ < 4 → ∀ b, b < 2 ^ m → pc b = σ → ¬ pfQ a.s t b) ∧ RC a z.2) (fun z : Int × GG => (∃ b : Nat, z.1 = (b : Int) ∧ b < 2 ^ m ∧ pc b ≤ 3 ∧ pfQ a.s t b ∧ (∀ σ, σ < pc b → ∀ c, c < 2 ^ m → pc c = σ → ¬ pfQ a.s t c) ∧ ∀ c, c < b → pc c = pc b → ¬ pfQ a.s t c) ∧ RC a z.2)) ?_ ?_
        · refine okLoop (fun s => ∃ σ : Nat, s.1 = (σ : Int) ∧ σ ≤ 4 ∧ (∀ τ, τ < σ → ∀ b, b < 2 ^ m → pc b = τ → ¬ pfQ a.s t b) ∧ CF C s.2) (fun s => (4 - s.1).toNat) ?_ ⟨0, rfl, by omega, fun τ q => by omega, CF_r C⟩
          rintro ⟨σ', D⟩ ⟨σ, e1, hσ, hI, cf⟩
          simp only at e1 cf
          subst e1
          unfold X4_pourFewest_s2
          simp only
          rw [w32_eq (x := (σ : Int) + 1) (by omega) (by omega)]
          refine okI (fun hle => ?_) (fun hle => okS ⟨by rw [show 4 = σ by omega]; exact hI, RC_G ha hc (CF_G cf)⟩)
          refine okB (P := SuQ (fun z : Int × GG => (∀ b, b < 2 ^ m → pc b = σ → ¬ pfQ a.s t b) ∧ CF C z.2) (fun z : Int × GG => (∃ b : Nat, z.1 = (b : Int) ∧ b < 2 ^ m ∧ pc b = σ ∧ pfQ a.s t b ∧ ∀ c, c < b → pc c = σ → ¬ pfQ a.s t c) ∧ CF C z.2)) ?_ ?_
          · refine okLoop (fun s => ∃ b : Nat, s.1 = (b : Int) ∧ b ≤ 2 ^ m ∧ (∀ c, c < b → pc c = σ → ¬ pfQ a.s t c) ∧ CF C s.2) (fun s => (((2 ^ m : Nat) : Int) - s.1).toNat) ?_ ⟨0, rfl, Nat.zero_le _, fun c q => by omega, cf⟩
            rintro ⟨b', E⟩ ⟨b, e1, hb, hJ, ce⟩
            simp only at e1 ce
            subst e1
            have e0 : E 1 0 = C 1 0 := ce 1 0 (by omega)
            unfold X4_pourFewest_s1
            simp only
            rw [e0, hc.1.1.1, shm, w32_eq (x := (b : Int) + 1) (by omega) (by omega)]
            have mu : (b : Int) < ((2 ^ m : Nat) : Int) → (((2 ^ m : Nat) : Int) - ((b : Int) + 1)).toNat < (((2 ^ m : Nat) : Int) - (b : Int)).toNat := fun _ => by omega
            refine okI (fun hlt => ?_) (fun hlt => okS ⟨by rw [show 2 ^ m = b by omega]; exact hJ, ce⟩)
            rw [c_bc (n := b) (by omega)]
            have nx : (pc b = σ → ¬ pfQ a.s t b) → ∀ c, c < b + 1 → pc c = σ → ¬ pfQ a.s t c := fun h c c1 c2 => by
              by_cases e : c = b
              · rw [e] at c2 ⊢; exact h c2
              · exact hJ c (by omega) c2
            refine okI (fun q => okB (c_pd hc ce V (b := b) (by omega) t0 t1) ?_) (fun q => okS ⟨⟨b + 1, rfl, by omega, nx (fun z => absurd z (by omega)), ce⟩, mu hlt⟩)
            rintro ⟨r, E2⟩ ⟨q1, q2⟩
            simp only at q1 q2
            refine okI (fun z => okS ⟨⟨b, rfl, by omega, by omega, q1.mp z, hJ⟩, q2⟩) (fun z => okS ⟨⟨b + 1, rfl, by omega, nx (fun _ w => z (q1.mpr w)), q2⟩, mu hlt⟩)
          · rintro (⟨z1, E⟩ | ⟨z1, E⟩) hz
            · obtain ⟨h1, h2⟩ := hz
              refine okS ⟨⟨σ + 1, rfl, by omega, fun τ τ1 => ?_, h2⟩, by show (4 - ((σ : Int) + 1)).toNat < (4 - (σ : Int)).toNat; omega⟩
              by_cases e : τ = σ
              · rw [e]; exact h1
              · exact hI τ (by omega)
            · obtain ⟨⟨b, f1, f2, f3, f4, f5⟩, h2⟩ := hz
              refine okS ⟨⟨b, f1, f2, by omega, f4, fun τ τ1 => hI τ (by omega), fun c c1 c2 => f5 c c1 (by omega)⟩, RC_G ha hc (CF_G h2)⟩
        · rintro (⟨z1, E⟩ | ⟨z1, E⟩) hz
          · obtain ⟨h1, h2⟩ := hz
            refine okS ⟨Or.inl ⟨rfl, fun b b1 b2 b3 => ?_⟩, h2⟩
            obtain ⟨c, c1, c2, c3⟩ := pf_strip V.1 (pc b) b (Nat.le_refl _) (by rw [em]; exact b1) b3
            rw [em] at c1
            have c4 : pc c ≤ 3 := by
              rcases c3 with e | e
              · rw [e]; exact b2
              · omega
            exact h1 (pc c) (by omega) c c1 rfl c2
          · obtain ⟨⟨b, f1, f2, f3, f4, f5, f6⟩, h2⟩ := hz
            simp only at f1
            subst f1
            refine okS ⟨Or.inr ⟨b, rfl, f2, f3, f4.2, fun c c1 c2 c3 => ?_⟩, h2⟩
            obtain ⟨d, d1, d2, d3⟩ := pf_strip V.1 (pc c) c (Nat.le_refl _) (by rw [em]; exact c1) c2
            rw [em] at d1
            have d4 : ¬ pc d < pc b := fun z => f5 (pc d) z d d1 rfl d2
            rcases d3 with e | e
            · rw [e] at d2 d4
              by_cases e2 : pc b < pc c
              · exact Or.inl e2
              · refine Or.inr ⟨by omega, ?_⟩
                by_cases e3 : b ≤ c
                · exact e3
                · exact absurd d2 (f6 c (by omega) (by omega))
            · exact Or.inl (by omega)
      · refine okB (f_open ha hm1) ?_
        rintro N ⟨n1, n2⟩
        refine okB (P := fun z => pfR a.s t (2 ^ m) z.1 ∧ Sm a.s z.2.2 ∧ IM a (lw M 0 14 0) z.2.2) ?_ (fun z q => okS ⟨q.1, IM_RM q.2.2 hm1 q.2.1⟩)
        refine okLoop (fun s => ∃ b : Nat, s.2.1 = (b : Int) ∧ b ≤ 2 ^ m ∧ pfR a.s t b s.1 ∧ Sm a.s s.2.2 ∧ IM a (lw M 0 14 0) s.2.2) (fun s => (((2 ^ m : Nat) : Int) - s.2.1).toNat) ?_ ⟨0, rfl, Nat.zero_le _, Or.inl ⟨rfl, fun b q => by omega⟩, n1, n2⟩
        rintro ⟨r, b', P⟩ ⟨b, e1, hb, hR, p1, p2⟩
        simp only at e1 hR p1 p2
        subst e1
        unfold X5_pourFewest_s3
        simp only
        rw [p1.1.1, shm, w32_eq (x := (b : Int) + 1) (by omega) (by omega)]
        have mu : (b : Int) < ((2 ^ m : Nat) : Int) → (((2 ^ m : Nat) : Int) - ((b : Int) + 1)).toNat < (((2 ^ m : Nat) : Int) - (b : Int)).toNat := fun _ => by omega
        refine okI (fun hlt => ?_) (fun hlt => okS ⟨by rw [show 2 ^ m = b by omega]; exact hR, p1, p2⟩)
        refine okB (m_ones (n := b) (by omega)) ?_
        rintro r1 rfl
        have stay : (pc b ≤ 3 → ¬ pfP a.s t b) → pfR a.s t (b + 1) r := fun h => by
          rcases hR with ⟨e, h2⟩ | ⟨d, d0, d1, d2, d3, d4⟩
          · refine Or.inl ⟨e, fun c c1 c2 => ?_⟩
            by_cases ec : c = b
            · rw [ec] at c2 ⊢; exact h c2
            · exact h2 c (by omega) c2
          · refine Or.inr ⟨d, d0, by omega, d2, d3, fun c c1 c2 c3 => ?_⟩
            by_cases ec : c = b
            · rw [ec] at c2 c3; exact absurd c2 (h c3)
            · exact d4 c (by omega) c2 c3
        have take : pc b ≤ 3 → pfP a.s t b → (r < 0 ∨ ∃ d : Nat, r = (d : Int) ∧ pc b < pc d) → pfR a.s t (b + 1) b := fun h h2 h3 => by
          refine Or.inr ⟨b, rfl, by omega, h, h2, fun c c1 c2 c3 => ?_⟩
          by_cases ec : c = b
          · rw [ec]; exact Or.inr ⟨rfl, Nat.le_refl _⟩
          · rcases hR with ⟨e, h4⟩ | ⟨d, d0, d1, d2, d3, d4⟩
            · exact absurd c2 (h4 c (by omega) c3)
            · rcases h3 with h3 | ⟨d', h3, h5⟩
              · omega
              · have ed : d' = d := by omega
                rw [ed] at h5
                have := d4 c (by omega) c2 c3
                exact Or.inl (by omega)
        have stay2 : (∃ d : Nat, r = (d : Int) ∧ ¬ pc b < pc d) → pfR a.s t (b + 1) r := fun h => by
          obtain ⟨d', h1, h5⟩ := h
          rcases hR with ⟨e, h2⟩ | ⟨d, d0, d1, d2, d3, d4⟩
          · omega
          · have ed : d' = d := by omega
            rw [ed] at h5
            refine Or.inr ⟨d, d0, by omega, d2, d3, fun c c1 c2 c3 => ?_⟩
            by_cases ec : c = b
            · rw [ec]
              by_cases z : pc d < pc b
              · exact Or.inl z
              · exact Or.inr ⟨by omega, by omega⟩
            · exact d4 c (by omega) c2 c3
        have V2 : Vg (psN a.s b (a.s 0 0).toNat) := Vg_ps V b _ (by omega)
        have t14 : t < psN a.s b (a.s 0 0).toNat 0 4 := by rw [ps_i a.s b (by decide)]; exact t1
        obtain ⟨k1, k2⟩ := m_ps V p1 p2 (b := b) (by omega) r P
        refine okI (fun h3 => ?_) (fun h3 => okS ⟨⟨b + 1, rfl, by omega, stay (fun z => by omega), p1, p2⟩, mu hlt⟩)
        have h3' : pc b ≤ 3 := by omega
        refine okI (fun h0 => okB k1 ?_) (fun h0 => ?_)
        · rintro ⟨z1, Q⟩ ⟨q1, q2⟩
          refine okB (P := fun z => pfR a.s t (b + 1) z.1 ∧ Sm a.s z.2 ∧ IM a (lw M 0 14 0) z.2) (okB (f_thr ha q1 q2 V2 t0 t14) ?_) ?_
          · rintro ⟨r2, Q2⟩ ⟨w0, w1, w2⟩
            simp only at w0 w1 w2
            simp only
            rw [w0]
            exact okI (fun z => okS ⟨take h3' z (Or.inl h0), w1, w2⟩) (fun z => okS ⟨stay (fun _ => z), w1, w2⟩)
          · rintro ⟨r2, Q2⟩ hq
            exact okS ⟨⟨b + 1, rfl, by omega, hq⟩, mu hlt⟩
        · obtain ⟨d, hd⟩ : ∃ d : Nat, r = (d : Int) := ⟨r.toNat, by omega⟩
          have hd6 : d < 65536 := by
            rcases hR with ⟨e, -⟩ | ⟨d', e, d1, -⟩
            · omega
            · omega
          rw [hd]
          rw [hd] at stay take stay2 k2
          refine okB (m_ones (n := d) hd6) ?_
          rintro r3 rfl
          refine okI (fun h4 => okB k2 ?_) (fun h4 => okS ⟨⟨b + 1, rfl, by omega, stay2 ⟨d, rfl, by omega⟩, p1, p2⟩, mu hlt⟩)
          rintro ⟨z1, Q⟩ ⟨q1, q2⟩
          refine okB (P := fun z => pfR a.s t (b + 1) z.1 ∧ Sm a.s z.2 ∧ IM a (lw M 0 14 0) z.2) (okB (f_thr ha q1 q2 V2 t0 t14) ?_) ?_
          · rintro ⟨r2, Q2⟩ ⟨w0, w1, w2⟩
            simp only at w0 w1 w2
            simp only
            rw [w0]
            exact okI (fun z => okS ⟨take h3' z (Or.inr ⟨d, rfl, by omega⟩), w1, w2⟩) (fun z => okS ⟨stay (fun _ => z), w1, w2⟩)
          · rintro ⟨r2, Q2⟩ hq
            exact okS ⟨⟨b + 1, rfl, by omega, hq⟩, mu hlt⟩
    · rw [if_pos (c := ¬ a.s 14 t = 0) (t := (-3 : Int)) h14]
      exact bo_tt h14 (by decide) (Bo_ref ha hc hm1 (by decide))
  · rw [if_neg ht, grd_t (show ¬ (0 : Int) = 0 → gd t 5 from fun z => absurd rfl z), if_pos (rfl : (0 : Int) = 0)]
    exact bo_tt ((c_noT hc t).mpr ht) (by decide) (Bo_ref ha hc hm1 (by decide))
