/-! line -/
noncomputable def tS (a : Ab) (S : LT) (p : Int) : Option LT :=
  if ltA a p = 110 then cif (2 ≤ nmN a (p + 1) 2 ∧ nmN a (p + 1) 2 ≤ 16 ∧ ¬ byS S (nmN a (p + 1) 2)) (some (lw S 0 0 (nmN a (p + 1) 2))) none
  else if ltA a p = 121 then cif (nmN a (p + 1) 2 < S 0 0 ∧ nmN a (p + 3) 1 ≤ 5) (some (lw (lw (lw S 6 (nmN a (p + 1) 2) (nmN a (p + 3) 1)) 7 (nmN a (p + 1) 2) (nmN a (p + 4) 1)) 8 (nmN a (p + 1) 2) (nmN a (p + 5) 2))) none
  else if ltA a p = 116 then cif (adC S (nmN a (p + 1) 2) (nmN a (p + 3) 1) (nmN a (p + 4) 1)) (some (adS S (nmN a (p + 1) 2) (nmN a (p + 3) 1) (nmN a (p + 4) 1))) none
  else if ltA a p = 119 then cif (nmN a (p + 1) 1 < S 0 4 ∧ nmN a (p + 2) 2 ≤ 48 ∧ S 14 (nmN a (p + 1) 1) = 0) (some (lw S 13 (nmN a (p + 1) 1) (nmN a (p + 2) 2))) none
  else if ltA a p = 99 then some (cnS S (nmN a (p + 1) 1) (nmN a (p + 2) 1))
  else cif (1 ≤ nmN a (p + 1) 2 ∧ nmN a (p + 1) 2 ≤ 72 ∧ S 0 1 + nmN a (p + 1) 2 ≤ 999) (some (goS (nmN a (p + 1) 2).toNat S)) none
theorem bs_dg {a : Ab} {p : Int} (p0 : 0 ≤ p) (h : bsA a p = -1) : ∀ i : Int, 0 ≤ i → i < dbV (ltA a p) → isD (ltA a (p + 1 + i)) := by
  obtain ⟨-, h2, -, -, -⟩ := bs_ok p0 h
  intro i i0 i1
  have := (nd_pre h2 i.toNat (by omega)).2 (by omega)
  rw [show ((i.toNat : Nat) : Int) = i by omega] at this
  exact this
theorem nb1 {a : Ab} {q : Int} (h : isD (ltA a q)) : 0 ≤ nmN a q 1 ∧ nmN a q 1 ≤ 9 := by
  rw [nm_1]; unfold isD at h; omega
theorem nb2 {a : Ab} {q : Int} (h : isD (ltA a q)) (h2 : isD (ltA a (q + 1))) : 0 ≤ nmN a q 2 ∧ nmN a q 2 ≤ 99 := by
  rw [nm_2]; unfold isD at h h2; omega
/-- the numbers of a whole statement -/
theorem st_nb {a : Ab} {p : Int} (p0 : 0 ≤ p) (h : bsA a p = -1) :
    (ltA a p = 110 ∨ ltA a p = 104 → 0 ≤ nmN a (p + 1) 2 ∧ nmN a (p + 1) 2 ≤ 99) ∧
    (ltA a p = 121 → 0 ≤ nmN a (p + 1) 2 ∧ nmN a (p + 1) 2 ≤ 99 ∧ 0 ≤ nmN a (p + 3) 1 ∧ nmN a (p + 3) 1 ≤ 9 ∧ 0 ≤ nmN a (p + 4) 1 ∧ nmN a (p + 4) 1 ≤ 9 ∧ 0 ≤ nmN a (p + 5) 2 ∧ nmN a (p + 5) 2 ≤ 99) ∧
    (ltA a p = 116 → 0 ≤ nmN a (p + 1) 2 ∧ nmN a (p + 1) 2 ≤ 99 ∧ 0 ≤ nmN a (p + 3) 1 ∧ nmN a (p + 3) 1 ≤ 9 ∧ 0 ≤ nmN a (p + 4) 1 ∧ nmN a (p + 4) 1 ≤ 9) ∧
    (ltA a p = 119 → 0 ≤ nmN a (p + 1) 1 ∧ nmN a (p + 1) 1 ≤ 9 ∧ 0 ≤ nmN a (p + 2) 2 ∧ nmN a (p + 2) 2 ≤ 99) ∧
    (ltA a p = 99 → 0 ≤ nmN a (p + 1) 1 ∧ nmN a (p + 1) 1 ≤ 9 ∧ 0 ≤ nmN a (p + 2) 1 ∧ nmN a (p + 2) 1 ≤ 9) ∧
    (ltA a p = 110 ∨ ltA a p = 121 ∨ ltA a p = 116 ∨ ltA a p = 119 ∨ ltA a p = 99 ∨ ltA a p = 104) := by
  have hd := db_c (ltA a p)
  have hb := bs_ok p0 h
  have dg := bs_dg p0 h
  have D : ∀ i : Int, 0 ≤ i → i < dbV (ltA a p) → ∀ q, q = p + 1 + i → isD (ltA a q) := fun i i0 i1 q e => by rw [e]; exact dg i i0 i1
  refine ⟨fun e => ?_, fun e => ?_, fun e => ?_, fun e => ?_, fun e => ?_, by omega⟩
  · exact nb2 (D 0 (by omega) (by omega) _ (by omega)) (D 1 (by omega) (by omega) _ (by omega))
  · have h1 := nb2 (a := a) (q := p + 1) (D 0 (by omega) (by omega) _ (by omega)) (D 1 (by omega) (by omega) _ (by omega))
    have h2 := nb1 (a := a) (q := p + 3) (D 2 (by omega) (by omega) _ (by omega))
    have h3 := nb1 (a := a) (q := p + 4) (D 3 (by omega) (by omega) _ (by omega))
    have h4 := nb2 (a := a) (q := p + 5) (D 4 (by omega) (by omega) _ (by omega)) (D 5 (by omega) (by omega) _ (by omega))
    omega
  · have h1 := nb2 (a := a) (q := p + 1) (D 0 (by omega) (by omega) _ (by omega)) (D 1 (by omega) (by omega) _ (by omega))
    have h2 := nb1 (a := a) (q := p + 3) (D 2 (by omega) (by omega) _ (by omega))
    have h3 := nb1 (a := a) (q := p + 4) (D 3 (by omega) (by omega) _ (by omega))
    omega
  · have h1 := nb1 (a := a) (q := p + 1) (D 0 (by omega) (by omega) _ (by omega))
    have h4 := nb2 (a := a) (q := p + 2) (D 1 (by omega) (by omega) _ (by omega)) (D 2 (by omega) (by omega) _ (by omega))
    omega
  · have h1 := nb1 (a := a) (q := p + 1) (D 0 (by omega) (by omega) _ (by omega))
    have h2 := nb1 (a := a) (q := p + 2) (D 1 (by omega) (by omega) _ (by omega))
    omega
theorem tS_v {a : Ab} {S S' : LT} {p : Int} (p0 : 0 ≤ p) (h : bsA a p = -1) (V : Vs S) (e : tS a S p = some S') : Vs S' := by
  obtain ⟨b1, b2, b3, b4, b5, b6⟩ := st_nb p0 h
  have hv := V.1.1
  unfold tS at e
  by_cases e1 : ltA a p = 110
  · rw [if_pos e1] at e
    by_cases c : 2 ≤ nmN a (p + 1) 2 ∧ nmN a (p + 1) 2 ≤ 16 ∧ ¬ byS S (nmN a (p + 1) 2)
    · rw [cif_t c] at e
      rw [← Option.some.inj e]
      exact Vs_lw V (by omega) (by omega)
    · rw [cif_f c] at e; cases e
  rw [if_neg e1] at e
  by_cases e2 : ltA a p = 121
  · have b := b2 e2
    rw [if_pos e2] at e
    by_cases c : nmN a (p + 1) 2 < S 0 0 ∧ nmN a (p + 3) 1 ≤ 5
    · rw [cif_t c] at e
      rw [← Option.some.inj e]
      exact Vs_lw (Vs_lw (Vs_lw V (by omega) (by omega)) (by omega) (by omega)) (by omega) (by omega)
    · rw [cif_f c] at e; cases e
  rw [if_neg e2] at e
  by_cases e3 : ltA a p = 116
  · have b := b3 e3
    rw [if_pos e3] at e
    by_cases c : adC S (nmN a (p + 1) 2) (nmN a (p + 3) 1) (nmN a (p + 4) 1)
    · rw [cif_t c] at e
      rw [← Option.some.inj e]
      exact Vs_ad V c (by omega)
    · rw [cif_f c] at e; cases e
  rw [if_neg e3] at e
  by_cases e4 : ltA a p = 119
  · have b := b4 e4
    rw [if_pos e4] at e
    by_cases c : nmN a (p + 1) 1 < S 0 4 ∧ nmN a (p + 2) 2 ≤ 48 ∧ S 14 (nmN a (p + 1) 1) = 0
    · rw [cif_t c] at e
      rw [← Option.some.inj e]
      exact Vs_lw V (by omega) (by omega)
    · rw [cif_f c] at e; cases e
  rw [if_neg e4] at e
  by_cases e5 : ltA a p = 99
  · have b := b5 e5
    rw [if_pos e5] at e
    rw [← Option.some.inj e]
    exact Vs_cn V (by omega) (by omega)
  rw [if_neg e5] at e
  by_cases c : 1 ≤ nmN a (p + 1) 2 ∧ nmN a (p + 1) 2 ≤ 72 ∧ S 0 1 + nmN a (p + 1) 2 ≤ 999
  · rw [cif_t c] at e
    rw [← Option.some.inj e]
    have gh := go_h S (nmN a (p + 1) 2).toNat
    have hh := V.2
    exact ⟨Val_go V.1 _, by omega, by omega⟩
  · rw [cif_f c] at e; cases e
theorem c_stmt {a : Ab} {C D : GG} (ha : OkA a) (hc : RC a C) (cf : CF C D) {S : LT} (hS : Sc S (D 1 1)) (V : Vs S) {p : Int} (p0 : 0 ≤ p) (p1 : p ≤ 900) (h : bsA a p = -1) : Ok (X4_tellStatement D p) (fun z => CF D z.2 ∧ ((z.1 = 0 ∧ tS a S p = none) ∨ (z.1 = 1 ∧ ∃ S', tS a S p = some S' ∧ Sc S' (z.2 1 1)))) := by
  have hcD := RC_G ha hc (CF_G cf)
  obtain ⟨b1, b2, b3, b4, b5, b6⟩ := st_nb p0 h
  have hv := V.1.1
  unfold X4_tellStatement
  rw [w32_eq (x := p + 1) (by omega) (by omega), w32_eq (x := p + 2) (by omega) (by omega), w32_eq (x := p + 3) (by omega) (by omega), w32_eq (x := p + 4) (by omega) (by omega), w32_eq (x := p + 5) (by omega) (by omega)]
  refine okB (c_num ha hcD (p := p + 1) (by omega) (by omega) 2 (Or.inr rfl)) ?_
  rintro r1 rfl
  rw [(c_lt ha hcD p).1]
  refine okG (c_lt ha hcD p).2 (okL ?_)
  unfold tS
  refine okI (fun e => ?_) (fun n1 => okI (fun e => ?_) (fun n2 => okI (fun e => ?_) (fun n3 => okI (fun e => ?_) (fun n4 => okI (fun e => ?_) (fun n5 => ?_)))))
  · rw [if_pos e]
    refine okB (c_becMany hS V.1 _) ?_
    rintro ⟨z1, z2⟩ (⟨e1, e2, nb⟩ | ⟨e1, e2, q1, q2, nb⟩)
    · simp only at e1 e2
      exact okL (okS ⟨CF_gs D _, Or.inl ⟨e1, cif_f nb⟩⟩)
    · simp only at e1 e2
      refine okL (okS ⟨CF_gs D _, Or.inr ⟨e1, _, cif_t ⟨q1, q2, nb⟩, ?_⟩⟩)
      simp only [gs_at]
      exact e2
  · have b := b2 e
    rw [if_neg n1, if_pos e]
    refine okB (c_num ha hcD (p := p + 3) (by omega) (by omega) 1 (Or.inl rfl)) ?_
    rintro r2 rfl
    refine okB (c_num ha hcD (p := p + 4) (by omega) (by omega) 1 (Or.inl rfl)) ?_
    rintro r3 rfl
    refine okB (c_num ha hcD (p := p + 5) (by omega) (by omega) 2 (Or.inr rfl)) ?_
    rintro r4 rfl
    by_cases c : nmN a (p + 1) 2 < S 0 0 ∧ nmN a (p + 3) 1 ≤ 5
    · refine okB (P := fun z => z = (1, lw (lw (lw (D 1 1) 6 (nmN a (p + 1) 2) (nmN a (p + 3) 1)) 7 (nmN a (p + 1) 2) (nmN a (p + 4) 1)) 8 (nmN a (p + 1) 2) (nmN a (p + 5) 2))) ?_ ?_
      · unfold X2_becomeYard
        rw [hS.1.1]
        exact okF (by omega) (okG ⟨by omega, by omega⟩ (okL (okL (okL (okS rfl)))))
      · rintro z rfl
        refine okL (okS ⟨CF_gs D _, Or.inr ⟨rfl, _, cif_t c, ?_⟩⟩)
        simp only [gs_at]
        exact Sc_lw (Sc_lw (Sc_lw hS (by omega)) (by omega)) (by omega)
    · refine okB (P := fun z => z = (0, D 1 1)) ?_ ?_
      · unfold X2_becomeYard
        rw [hS.1.1]
        exact okT (by omega) (okS rfl)
      · rintro z rfl
        exact okL (okS ⟨CF_gs D _, Or.inl ⟨rfl, cif_f c⟩⟩)
  · have b := b3 e
    rw [if_neg n1, if_neg n2, if_pos e]
    refine okB (c_num ha hcD (p := p + 3) (by omega) (by omega) 1 (Or.inl rfl)) ?_
    rintro r2 rfl
    refine okB (c_num ha hcD (p := p + 4) (by omega) (by omega) 1 (Or.inl rfl)) ?_
    rintro r3 rfl
    refine okB (c_add hS V.1 _ _ _) ?_
    rintro ⟨z1, z2⟩ (⟨e1, e2, nb⟩ | ⟨e1, e2, nb⟩)
    · simp only at e1 e2
      exact okL (okS ⟨CF_gs D _, Or.inl ⟨e1, cif_f nb⟩⟩)
    · simp only at e1 e2
      refine okL (okS ⟨CF_gs D _, Or.inr ⟨e1, _, cif_t nb, ?_⟩⟩)
      simp only [gs_at]
      exact e2
  · have b := b4 e
    rw [if_neg n1, if_neg n2, if_neg n3, if_pos e]
    refine okB (c_num ha hcD (p := p + 1) (by omega) (by omega) 1 (Or.inl rfl)) ?_
    rintro r2 rfl
    refine okB (c_num ha hcD (p := p + 2) (by omega) (by omega) 2 (Or.inr rfl)) ?_
    rintro r3 rfl
    by_cases c : nmN a (p + 1) 1 < S 0 4 ∧ nmN a (p + 2) 2 ≤ 48 ∧ S 14 (nmN a (p + 1) 1) = 0
    · refine okB (P := fun z => z = (1, lw (D 1 1) 13 (nmN a (p + 1) 1) (nmN a (p + 2) 2))) ?_ ?_
      · unfold X2_letWait
        rw [hS.1.2.2.2.2, (hS.2.2 _ b.1 c.1).2.2.2.2.2]
        exact okF (by omega) (okG ⟨by omega, by omega⟩ (okF (fun z => z c.2.2) (okL (okS rfl))))
      · rintro z rfl
        refine okL (okS ⟨CF_gs D _, Or.inr ⟨rfl, _, cif_t c, ?_⟩⟩)
        simp only [gs_at]
        exact Sc_lw hS (by omega)
    · refine okB (P := fun z => z = (0, D 1 1)) ?_ ?_
      · unfold X2_letWait
        rw [hS.1.2.2.2.2]
        refine okI (fun _ => okS rfl) (fun q => okG ⟨by omega, by omega⟩ (okI (fun _ => okS rfl) (fun q2 => ?_)))
        rw [(hS.2.2 _ b.1 (by omega)).2.2.2.2.2] at q2
        exact absurd ⟨by omega, by omega, by omega⟩ c
      · rintro z rfl
        exact okL (okS ⟨CF_gs D _, Or.inl ⟨rfl, cif_f c⟩⟩)
  · rw [if_neg n1, if_neg n2, if_neg n3, if_neg n4, if_pos e]
    refine okB (c_num ha hcD (p := p + 1) (by omega) (by omega) 1 (Or.inl rfl)) ?_
    rintro r2 rfl
    have e2 : hw D (1, 1, 0) 2 (nmN a (p + 1) 1) 2 0 = D 2 0 := hw_nl (by omega)
    refine okL ?_
    rw [e2]
    refine okB (c_num ha hcD (p := p + 2) (by omega) (by omega) 1 (Or.inl rfl)) ?_
    rintro r3 rfl
    refine okL (okS ⟨CF_t (CF_hw D _ _ _) (CF_hw _ _ _ _), Or.inr ⟨rfl, _, rfl, ?_⟩⟩)
    simp only
    rw [hw_at, hw_at]
    exact Sc_lw (Sc_lw hS (by omega)) (by omega)
  · rw [if_neg n1, if_neg n2, if_neg n3, if_neg n4, if_neg n5]
    have e104 : ltA a p = 104 := by omega
    have b := b1 (Or.inr e104)
    have hh := V.2
    refine okT e104 ?_
    rw [hS.1.2.1, w32_eq (x := S 0 1 + nmN a (p + 1) 2) (by omega) (by omega)]
    have ob := out_b (nmN a (p + 1) 2) 1 72
    refine okI (fun q => okS ⟨CF_r D, Or.inl ⟨rfl, cif_f (fun z => ?_)⟩⟩) (fun q => okB (c_go (S := S) (b := False) ⟨hS, fun z => absurd z id⟩ V.1 hh.1 (by omega) (n := nmN a (p + 1) 2) (by omega) (by omega)) ?_)
    · rcases q with q | q
      · refine q ?_
        unfold X4_outside_v
        rw [if_neg (by omega), if_neg (by omega)]
      · omega
    · intro L hL
      have cc : 1 ≤ nmN a (p + 1) 2 ∧ nmN a (p + 1) 2 ≤ 72 ∧ S 0 1 + nmN a (p + 1) 2 ≤ 999 := by
        rcases ob with o | o
        · omega
        · exact absurd (Or.inl (by omega)) q
      refine okL (okS ⟨CF_gs D _, Or.inr ⟨rfl, _, cif_t cc, ?_⟩⟩)
      simp only [gs_at]
      exact hL.1.1
theorem m_stmt {a : Ab} {P : LT} {S : LT} (hS : Sm S P) (V : Vs S) {K k : Nat} (hT : TB a K P) (hk : k < K) (hK : K ≤ 24) (h : bsA a (pN a k) = -1) : Ok (X5_comesTold P k) (fun z => (MG P z.2 ∧ ∀ j, z.2 27 j = P 27 j) ∧ ((z.1 = 0 ∧ tS a S (pN a k) = none) ∨ (z.1 = 1 ∧ ∃ S', tS a S (pN a k) = some S' ∧ Sm S' z.2))) := by
  have pb := p_b a k
  obtain ⟨t24, t25, nu⟩ := hT k hk
  obtain ⟨b1, b2, b3, b4, b5, b6⟩ := st_nb pb.1 h
  have hv := V.1.1
  generalize pN a k = p at *
  obtain ⟨u1, u2, u3, u4, u5⟩ := nu
  rw [show p + 1 + 2 = p + 3 by omega, show p + 1 + 3 = p + 4 by omega, show p + 1 + 4 = p + 5 by omega] at u1
  rw [show p + 1 + 2 = p + 3 by omega, show p + 1 + 3 = p + 4 by omega] at u2
  rw [show p + 1 + 1 = p + 2 by omega] at u3 u4
  unfold X5_comesTold
  refine okLn (fun x1 h1 => ?_)
  rw [w32_eq (by omega) (by omega)] at h1
  subst h1
  rw [w32_eq (x := 4 * (k : Int) + 1) (by omega) (by omega), w32_eq (x := 4 * (k : Int) + 2) (by omega) (by omega), w32_eq (x := 4 * (k : Int) + 3) (by omega) (by omega)]
  refine okG ⟨by omega, by omega⟩ (okLn (fun x6 h6 => okG ⟨by omega, by omega⟩ (okLn (fun x11 h11 => okG ⟨by omega, by omega⟩ ?_))))
  rw [t25]
  unfold tS
  have g27 : ∀ {i : Nat} {j v : Int}, i ≠ 27 → ∀ n, lw P i j v 27 n = P 27 n := fun {i j v} hi n => lw_i (Ne.symm hi)
  refine okI (fun e => ?_) (fun n1 => okI (fun e => ?_) (fun n2 => okI (fun e => ?_) (fun n3 => okI (fun e => ?_) (fun n4 => okI (fun e => ?_) (fun n5 => ?_)))))
  · rw [if_pos e]
    have e6 : x6 = nmN a (p + 1) 2 := h6.trans (u5 (Or.inl e))
    rw [← e6]
    refine okB (P := fun z => (z = 1 ∧ 2 ≤ x6 ∧ x6 ≤ 16 ∧ ¬ byS S x6) ∨ (z = 0 ∧ ¬ (2 ≤ x6 ∧ x6 ≤ 16 ∧ ¬ byS S x6))) ?_ ?_
    · rw [m_in]
      refine okI (fun q => okB (m_isBey hS V.1 x6) ?_) (fun q => okS (Or.inr ⟨rfl, fun z => q (if10.mpr ⟨z.1, z.2.1⟩)⟩))
      intro r hr
      have q' := if10.mp q
      exact okI (fun w => okS (Or.inr ⟨rfl, fun z => z.2.2 (hr.mp w)⟩)) (fun w => okS (Or.inl ⟨rfl, q'.1, q'.2, fun z => w (hr.mpr z)⟩))
    · rintro z (⟨rfl, q1, q2, q3⟩ | ⟨rfl, q⟩)
      · rw [if_pos (show ¬ (1 : Int) = 0 by decide)]
        exact okL (okS ⟨⟨MG_lw (Or.inl (by unfold lnC; omega)), fun j => by simp only; rw [lw_i (by decide)]⟩, Or.inr ⟨rfl, _, cif_t ⟨q1, q2, q3⟩, Sm_0n hS x6⟩⟩)
      · rw [if_neg (show ¬ ¬ (0 : Int) = 0 by decide), lw_self]
        exact okL (okS ⟨⟨MG_r P, fun j => rfl⟩, Or.inl ⟨rfl, cif_f q⟩⟩)
  · have b := b2 e
    obtain ⟨v1, v2, v3, v4⟩ := u1 e
    have e6 : x6 = nmN a (p + 1) 2 := h6.trans v1
    have e11 : x11 = nmN a (p + 3) 1 := h11.trans v2
    rw [if_neg n1, if_pos e, ← e6, ← e11]
    rw [← e6, ← e11] at b
    rw [m_isY hS V.1 x6]
    by_cases c : x6 < S 0 0 ∧ x11 ≤ 5
    · have e1 : (if ¬ (if 0 ≤ x6 ∧ x6 < S 0 0 then (1 : Int) else 0) = 0 ∧ x11 < 6 then (1 : Int) else 0) = 1 := if_pos ⟨if10.mpr ⟨b.1, c.1⟩, by omega⟩
      rw [e1]
      refine okL (okT (by decide) (okG ⟨b.1, by omega⟩ (okL (okG ⟨by omega, by omega⟩ (okL (okG ⟨by omega, by omega⟩ (okL (okS ?_))))))))
      simp only [lw_i (show (26 : Nat) ≠ 2 by decide), lw_i (show (26 : Nat) ≠ 3 by decide)]
      rw [v3, v4]
      refine ⟨⟨MG_t (MG_t (MG_lw (Or.inl (by unfold lnC; omega))) (MG_lw (Or.inl (by unfold lnC; omega)))) (MG_lw (Or.inl (by unfold lnC; omega))), fun j => by rw [lw_i (by decide), lw_i (by decide), lw_i (by decide)]⟩, Or.inr ⟨trivial, _, cif_t c, ?_⟩⟩
      exact Sm_lw (Sm_lw (Sm_lw hS (by omega)) (by omega)) (by omega)
    · have e1 : (if ¬ (if 0 ≤ x6 ∧ x6 < S 0 0 then (1 : Int) else 0) = 0 ∧ x11 < 6 then (1 : Int) else 0) = 0 := if_neg (fun z => c ⟨(if10.mp z.1).2, by omega⟩)
      rw [e1]
      exact okL (okF (by decide) (okS ⟨⟨MG_r P, fun j => rfl⟩, Or.inl ⟨rfl, cif_f c⟩⟩))
  · have b := b3 e
    obtain ⟨v1, v2, v3⟩ := u2 e
    have e6 : x6 = nmN a (p + 1) 2 := h6.trans v1
    have e11 : x11 = nmN a (p + 3) 1 := h11.trans v2
    rw [if_neg n1, if_neg n2, if_pos e, ← e6, ← e11]
    rw [← e6, ← e11] at b
    rw [v3, m_in, m_in, hS.1.2.2.2.2]
    refine okG (fun _ => ⟨by omega, by omega⟩) ?_
    by_cases c : adC S x6 x11 (nmN a (p + 4) 1)
    · have c' : (1 ≤ x6 ∧ x6 ≤ 60) ∧ (1 ≤ nmN a (p + 4) 1 ∧ nmN a (p + 4) 1 ≤ 3) ∧ S 0 4 < 5 := by unfold adC at c; omega
      have e1 : (if (¬ (if 1 ≤ x6 ∧ x6 ≤ 60 then (1 : Int) else 0) = 0 ∧ ¬ (if 1 ≤ nmN a (p + 4) 1 ∧ nmN a (p + 4) 1 ≤ 3 then (1 : Int) else 0) = 0) ∧ S 0 4 < 5 then (1 : Int) else 0) = 1 := if_pos ⟨⟨if10.mpr c'.1, if10.mpr c'.2.1⟩, c'.2.2⟩
      rw [e1]
      refine okL (okT (by decide) (okG ⟨by omega, by omega⟩ (okB (m_add hS V.1 c'.2.2 _ _ _) ?_)))
      rintro N ⟨m1, m2⟩
      exact okS ⟨⟨fun i j q1 q2 q3 q4 => m2 i j (fun z => q1 (by unfold lnC; omega)) (fun z => q1 (by unfold lnC; omega)), fun j => m2 27 j (by omega) (by omega)⟩, Or.inr ⟨rfl, _, cif_t c, m1⟩⟩
    · have e1 : (if (¬ (if 1 ≤ x6 ∧ x6 ≤ 60 then (1 : Int) else 0) = 0 ∧ ¬ (if 1 ≤ nmN a (p + 4) 1 ∧ nmN a (p + 4) 1 ≤ 3 then (1 : Int) else 0) = 0) ∧ S 0 4 < 5 then (1 : Int) else 0) = 0 := if_neg (fun z => c (by
        have z1 := if10.mp z.1.1
        have z2 := if10.mp z.1.2
        have z3 := z.2
        unfold adC
        omega))
      rw [e1]
      exact okL (okF (by decide) (okS ⟨⟨MG_r P, fun j => rfl⟩, Or.inl ⟨rfl, cif_f c⟩⟩))
  · have b := b4 e
    obtain ⟨v1, v2⟩ := u3 e
    have e6 : x6 = nmN a (p + 1) 1 := h6.trans v1
    have e11 : x11 = nmN a (p + 2) 2 := h11.trans v2
    rw [if_neg n1, if_neg n2, if_neg n3, if_pos e, ← e6, ← e11]
    rw [← e6, ← e11] at b
    rw [m_isT hS V.1 x6]
    refine okG (fun z => by have := if10.mp z.1; exact ⟨this.1, by omega⟩) ?_
    by_cases c : x6 < S 0 4 ∧ x11 ≤ 48 ∧ S 14 x6 = 0
    · have e14 := (hS.2.2 x6 b.1 c.1).2.2.2.2.2
      refine okLn (fun y hy => ?_)
      have hy1 : y = 1 := hy.trans (if_pos ⟨⟨if10.mpr ⟨b.1, c.1⟩, c.2.1⟩, by rw [e14]; exact c.2.2⟩)
      subst hy1
      exact okT (by decide) (okG ⟨b.1, by omega⟩ (okL (okS ⟨⟨MG_lw (Or.inl (by unfold lnC; omega)), fun j => by simp only; rw [lw_i (by decide)]⟩, Or.inr ⟨rfl, _, cif_t c, Sm_lw hS (by omega)⟩⟩)))
    · refine okLn (fun y hy => ?_)
      have hy1 : y = 0 := hy.trans (if_neg (fun z => c (by
        have z1 := if10.mp z.1.1
        have z2 := z.2
        rw [(hS.2.2 x6 b.1 z1.2).2.2.2.2.2] at z2
        exact ⟨z1.2, z.1.2, z2⟩)))
      subst hy1
      exact okF (by decide) (okS ⟨⟨MG_r P, fun j => rfl⟩, Or.inl ⟨rfl, cif_f c⟩⟩)
  · have b := b5 e
    obtain ⟨v1, v2⟩ := u4 e
    have e6 : x6 = nmN a (p + 1) 1 := h6.trans v1
    have e11 : x11 = nmN a (p + 2) 1 := h11.trans v2
    rw [if_neg n1, if_neg n2, if_neg n3, if_neg n4, if_pos e, ← e6, ← e11]
    refine okL (okL (okS ⟨⟨MG_t (MG_lw (Or.inl (by unfold lnC; omega))) (MG_lw (Or.inl (by unfold lnC; omega))), fun j => by simp only; rw [lw_i (by decide), lw_i (by decide)]⟩, Or.inr ⟨rfl, _, rfl, ?_⟩⟩))
    refine Sm_cn hS ?_ ?_ (fun i j z => ?_)
    · simp only; rw [lw_n (by omega), lw_s]
    · simp only; rw [lw_s]
    · simp only; rw [lw_n (by omega), lw_n (by omega)]
  · rw [if_neg n1, if_neg n2, if_neg n3, if_neg n4, if_neg n5]
    have e104 : ltA a p = 104 := by omega
    have b := b1 (Or.inr e104)
    have e6 : x6 = nmN a (p + 1) 2 := h6.trans (u5 (Or.inr e104))
    rw [← e6]
    rw [← e6] at b
    have hh := V.2
    rw [m_in, hS.1.2.1, w32_eq (x := S 0 1 + x6) (by omega) (by omega)]
    by_cases c : 1 ≤ x6 ∧ x6 ≤ 72 ∧ S 0 1 + x6 ≤ 999
    · have e1 : (if ¬ (if 1 ≤ x6 ∧ x6 ≤ 72 then (1 : Int) else 0) = 0 ∧ S 0 1 + x6 ≤ 999 then (1 : Int) else 0) = 1 := if_pos ⟨if10.mpr ⟨c.1, c.2.1⟩, c.2.2⟩
      rw [e1]
      refine okL (okT (by decide) (okB (m_goHours hS V.1 hh.1 (by omega) (n := x6) (by omega) (by omega)) ?_))
      rintro N ⟨m1, m2, m3, -⟩
      exact okS ⟨⟨m2, m3⟩, Or.inr ⟨rfl, _, cif_t c, m1⟩⟩
    · have e1 : (if ¬ (if 1 ≤ x6 ∧ x6 ≤ 72 then (1 : Int) else 0) = 0 ∧ S 0 1 + x6 ≤ 999 then (1 : Int) else 0) = 0 := if_neg (fun z => c (by
        have z1 := if10.mp z.1
        exact ⟨z1.1, z1.2, z.2⟩))
      rw [e1]
      exact okL (okF (by decide) (okS ⟨⟨MG_r P, fun j => rfl⟩, Or.inl ⟨rfl, cif_f c⟩⟩))
/-- the line behind k statements -/
noncomputable def tqN (a : Ab) : Nat → Option LT
  | 0 => some a.s
  | k + 1 => Option.bind (tqN a k) (fun S => tS a S (pN a k))
theorem tq_F (a : Ab) : ∀ K : Nat, ∃ F : Nat, F ≤ K ∧ (∀ j, j ≤ F → ∃ S, tqN a j = some S) ∧ (F = K ∨ tqN a (F + 1) = none)
  | 0 => ⟨0, Nat.le_refl 0, fun j hj => by
      have e : j = 0 := by omega
      rw [e]
      exact ⟨a.s, rfl⟩, Or.inl rfl⟩
  | K + 1 => by
    obtain ⟨F, h1, h2, h3⟩ := tq_F a K
    rcases h3 with e | e
    · subst e
      cases hq : tqN a (F + 1) with
      | none => exact ⟨F, by omega, h2, Or.inr hq⟩
      | some S =>
        refine ⟨F + 1, by omega, fun j hj => ?_, Or.inl rfl⟩
        by_cases ej : j = F + 1
        · rw [ej]; exact ⟨S, hq⟩
        · exact h2 j (by omega)
    · exact ⟨F, by omega, h2, Or.inr e⟩
theorem tq_V {a : Ab} (ha : OkA a) {K : Nat} (h : ∀ i, i < K → bsA a (pN a i) = -1) : ∀ (j : Nat) (S : LT), j ≤ K → tqN a j = some S → Vs S
  | 0, S, _, e => by
    have e' : a.s = S := Option.some.inj e
    rw [← e']
    exact ha.1
  | j + 1, S, hj, e => by
    cases hq : tqN a j with
    | none =>
      have : tqN a (j + 1) = none := by show Option.bind (tqN a j) _ = none; rw [hq]; rfl
      rw [this] at e; cases e
    | some T =>
      have e2 : tqN a (j + 1) = tS a T (pN a j) := by show Option.bind (tqN a j) _ = _; rw [hq]; rfl
      rw [e2] at e
      exact tS_v (p_b a j).1 (h j (by omega)) (tq_V ha h j T (by omega) hq) e
theorem c_tell {a : Ab} {C : GG} (ha : OkA a) (hc : RC a C) {K F : Nat} (hG : Good a K) (hF : F ≤ K) (h1 : ∀ j, j ≤ F → ∃ S, tqN a j = some S) (h2 : F = K ∨ tqN a (F + 1) = none) : Ok (X4_tellLine C) (fun z => (F < K ∧ z.1 = w32 (-2000 - pN a F) ∧ RC a z.2) ∨ (F = K ∧ ∃ S, tqN a K = some S ∧ z.1 = (K : Int) ∧ RC (aPast (aSet a S) 0 a.tu) z.2)) := by
  have V := ha.1.1
  have b9 := ha.2.2.2.1
  obtain ⟨K1, K24, hI, hJ, hE⟩ := hG
  unfold X4_tellLine
  refine okB (c_become hc.1 V) ?_
  intro L hL
  refine okL (okB (P := SuQ (fun z : Int × Int × GG => F = K ∧ z.1 = (K : Int) ∧ CF C z.2.2 ∧ ∃ S, tqN a K = some S ∧ Sc S (z.2.2 1 1)) (fun z : Int × GG => F < K ∧ z.1 = w32 (-2000 - pN a F) ∧ RC a z.2)) ?_ ?_)
  · refine okLoop (fun s => ∃ (j : Nat) (S : LT), s.1 = (j : Int) ∧ s.2.1 = pN a j ∧ j ≤ F ∧ tqN a j = some S ∧ Sc S (s.2.2 1 1) ∧ CF C s.2.2) (fun s => ((K : Int) + 1 - s.1).toNat) ?_ ⟨0, a.s, rfl, rfl, Nat.zero_le _, rfl, by simp only [gs_at]; exact hL.1, CF_gs C L⟩
    rintro ⟨st, pl, D⟩ ⟨j, S, e1, e2, hj, hq, hS, cf⟩
    simp only at e1 e2 hS cf
    subst e1
    subst e2
    have hcD := RC_G ha hc (CF_G cf)
    have pb := p_b a j
    have VS := tq_V ha hI j S (by omega) hq
    have en : tqN a (j + 1) = tS a S (pN a j) := by show Option.bind (tqN a j) _ = _; rw [hq]; rfl
    unfold X4_tellLine_s1
    simp only
    rw [hcD.2.2.2.1.1, w32_eq (x := (j : Int) + 1) (by omega) (by omega)]
    refine okI (fun hlt => ?_) (fun hlt => okS ?_)
    · have jK : j < K := by
        by_cases e : j = K
        · rw [e] at hlt; omega
        · omega
      have hb := hI j jK
      refine okB (c_stmt ha hc cf hS VS pb.1 (by omega) hb) ?_
      rintro ⟨r, D2⟩ ⟨cf2, (⟨q1, q2⟩ | ⟨q1, S', q2, q3⟩)⟩
      · simp only at q1
        subst q1
        have jF : j = F := by
          by_cases e : j = F
          · exact e
          · obtain ⟨T, hT⟩ := h1 (j + 1) (by omega)
            rw [en, q2] at hT
            cases hT
        subst jF
        exact okF (by simp only; decide) (okS ⟨by omega, rfl, RC_G ha hcD (CF_G cf2)⟩)
      · simp only at q1 q3 cf2
        subst q1
        have hcD2 := RC_G ha hcD (CF_G cf2)
        have jF : j + 1 ≤ F := by
          by_cases e : j = F
          · exfalso
            rcases h2 with h2 | h2
            · omega
            · rw [← e, en, q2] at h2
              cases h2
          · omega
        have hd := db_c (ltA a (pN a j))
        have ep : pN a (j + 1) = pN a j + dbV (ltA a (pN a j)) + 2 := rfl
        unfold X1_lengthAt_c X1_lengthAt_v
        simp only
        rw [(c_lt ha hcD2 _).1]
        have ex : w32 (pN a j + w32 (X1_digitsBehind_v (ltA a (pN a j)) + 2)) = pN a (j + 1) := by
          rw [ep, w32_eq (x := X1_digitsBehind_v (ltA a (pN a j)) + 2) (by show -2147483648 ≤ dbV (ltA a (pN a j)) + 2; omega) (by show dbV (ltA a (pN a j)) + 2 < 2147483648; omega), w32_eq (by show -2147483648 ≤ pN a j + (dbV (ltA a (pN a j)) + 2); omega) (by show pN a j + (dbV (ltA a (pN a j)) + 2) < 2147483648; omega)]
          show pN a j + (dbV (ltA a (pN a j)) + 2) = _
          omega
        rw [ex]
        exact okT (by decide) (okG (c_lt ha hcD2 _).2 (okL (okS ⟨⟨j + 1, S', rfl, rfl, jF, by rw [en]; exact q2, q3, CF_t cf cf2⟩, by show ((K : Int) + 1 - ((j : Int) + 1)).toNat < ((K : Int) + 1 - (j : Int)).toNat; omega⟩)))
    · have jK : j = K := by
        by_cases e : j = K
        · exact e
        · exact absurd ⟨(bs_ok pb.1 (hI j (by omega))).2.2.2.1, by omega⟩ hlt
      subst jK
      exact ⟨by omega, rfl, cf, S, hq, hS⟩
  · rintro (⟨z1, z2, D⟩ | z) hz
    · obtain ⟨hFK, e1, cf, S, hq, hS⟩ := hz
      simp only at e1 cf hS
      have VS := tq_V ha hI K S (Nat.le_refl _) hq
      have hcD := RC_G ha hc (CF_G cf)
      refine okB (c_become hS VS.1) ?_
      intro L2 hL2
      refine okL (okB (c_forget (a := aSet a S) (RC_set ha hcD (by rw [gs_at]; exact hL2.1) (fun t l q => gs_ne q))) ?_)
      intro C' hC'
      exact okS (Or.inr ⟨hFK, S, hq, e1, hC'⟩)
    · exact okS (Or.inl hz)
theorem m_told {a : Ab} {P : LT} (ha : OkA a) (hs : Sm a.s P) (h27 : ser a.s (P 27)) {K F : Nat} (hG : Good a K) (hF : F ≤ K) (h1 : ∀ j, j ≤ F → ∃ S, tqN a j = some S) (h2 : F = K ∨ tqN a (F + 1) = none) (h22 : P 0 22 = (K : Int)) (hT : TB a K P) : Ok (lp (X5_line_s2) (0, P)) (SuQ (fun z : Int × LT => F = K ∧ z.2 0 22 = (K : Int) ∧ MF P z.2 ∧ ∃ S, tqN a K = some S ∧ Sm S z.2) (fun z : Int × LT => F < K ∧ z.1 = w32 (-2000 - pN a F) ∧ Sm a.s z.2 ∧ MF P z.2)) := by
  have V := ha.1.1
  obtain ⟨K1, K24, hI, hJ, hE⟩ := hG
  refine okLoop (fun s => ∃ (j : Nat) (S : LT), s.1 = (j : Int) ∧ j ≤ F ∧ tqN a j = some S ∧ Sm S s.2 ∧ s.2 0 22 = (K : Int) ∧ TB a K s.2 ∧ ser a.s (s.2 27) ∧ MF P s.2) (fun s => ((K : Int) + 1 - s.1).toNat) ?_ ⟨0, a.s, rfl, Nat.zero_le _, rfl, hs, h22, hT, h27, MF_r P⟩
  rintro ⟨j', Q⟩ ⟨j, S, e1, hj, hq, hS, g22, gT, g27, gF⟩
  simp only at e1 hS g22 gT g27 gF
  subst e1
  have pb := p_b a j
  have VS := tq_V ha hI j S (by omega) hq
  have en : tqN a (j + 1) = tS a S (pN a j) := by show Option.bind (tqN a j) _ = _; rw [hq]; rfl
  unfold X5_line_s2
  simp only
  rw [g22, w32_eq (x := (j : Int) + 1) (by omega) (by omega)]
  refine okI (fun hlt => ?_) (fun hlt => okS ?_)
  · have jK : j < K := by omega
    refine okB (m_stmt hS VS gT jK K24 (hI j jK)) ?_
    rintro ⟨r, R⟩ ⟨⟨m1, m2⟩, (⟨q1, q2⟩ | ⟨q1, S', q2, q3⟩)⟩
    · simp only at q1 m1 m2
      subst q1
      have jF : j = F := by
        by_cases e : j = F
        · exact e
        · obtain ⟨T, hT⟩ := h1 (j + 1) (by omega)
          rw [en, q2] at hT
          cases hT
      subst jF
      refine okF (by simp only; decide) ?_
      simp only
      refine (okB (m_close V (by rw [show R 27 = Q 27 from funext m2]; exact g27)) ?_)
      rintro T ⟨t1, t2, t3, -⟩
      refine okG ⟨by omega, by omega⟩ (okS ⟨by omega, ?_, t1, MF_t gF (MF_t (MG_F m1) (MG_F t3))⟩)
      simp only
      rw [t3 24 j (by unfold lnC; omega) (by omega) (by omega) (by omega), m1 24 j (by unfold lnC; omega) (by omega) (by omega) (by omega), (gT j jK).1]
    · simp only at q1 q3 m1 m2
      subst q1
      have jF : j + 1 ≤ F := by
        by_cases e : j = F
        · exfalso
          rcases h2 with h2 | h2
          · omega
          · rw [← e, en, q2] at h2
            cases h2
        · omega
      have G : ∀ c i, c = 24 ∨ c = 25 ∨ c = 26 → R c i = Q c i := fun c i hc => m1 c i (by unfold lnC; omega) (by omega) (by omega) (by omega)
      refine okT (by simp only; decide) (okS ⟨⟨j + 1, S', rfl, jF, by rw [en]; exact q2, q3, ?_, fun i hi => ?_, ?_, MF_t gF (MG_F m1)⟩, by show ((K : Int) + 1 - ((j : Int) + 1)).toNat < ((K : Int) + 1 - (j : Int)).toNat; omega⟩)
      · simp only
        rw [m1 0 22 (by unfold lnC; omega) (by omega) (by omega) (by omega)]
        exact g22
      · obtain ⟨u1, u2, u3⟩ := gT i hi
        refine ⟨?_, ?_, NU_c u3 (fun x _ _ => G 26 x (by omega))⟩
        · simp only; rw [G 24 i (by omega)]; exact u1
        · simp only; rw [G 25 i (by omega)]; exact u2
      · simp only
        rw [show R 27 = Q 27 from funext m2]
        exact g27
  · have jK : j = K := by omega
    subst jK
    exact ⟨by omega, g22, gF, S, hq, hS⟩
theorem op_line : Op0 X4_line X5_line := by
  rintro C M ⟨a, ha, hc, hm⟩
  have V := ha.1.1
  have b9 := ha.2.2.2.1
  refine Bo_op ?_
  unfold X4_line X5_line
  -- the letters are no more
  have cl : ∀ {b : Ab} {D : GG}, RC b D → RC (aLet b 0 b.tx) (hw D (2, 0, 0) 1 0) := fun {b D} h => RC_let h 0 b.tx (fun t l q => hw_nl q) (by rw [hw_at, lw_s]) (fun k q0 q1 => by omega)
  have ok0 : ∀ {b : Ab}, OkA b → OkA (aLet b 0 b.tx) := fun {b} h => ⟨h.1, h.2.1, h.2.2.1, ⟨Int.le_refl 0, by show (0 : Int) ≤ 96; omega, fun k q0 q1 => absurd (show k < 0 from q1) (by omega)⟩, h.2.2.2.2⟩
  -- the model's start
  have hL7 : ∀ i j, ¬ (i = 0 ∧ (j = 14 ∨ j = 20 ∨ j = 21 ∨ j = 22)) → lw (lw (lw (lw M 0 14 0) 0 20 0) 0 21 0) 0 22 0 i j = M i j := fun i j q => by rw [lw_n (by omega), lw_n (by omega), lw_n (by omega), lw_n (by omega)]
  have h20 : lw (lw (lw (lw M 0 14 0) 0 20 0) 0 21 0) 0 22 0 0 20 = 0 := by rw [lw_n (by omega), lw_n (by omega), lw_s]
  have h21 : lw (lw (lw (lw M 0 14 0) 0 20 0) 0 21 0) 0 22 0 0 21 = 0 := by rw [lw_n (by omega), lw_s]
  have h22 : lw (lw (lw (lw M 0 14 0) 0 20 0) 0 21 0) 0 22 0 0 22 = 0 := lw_s _ _ _ _
  simp only [lt]
  generalize lw (lw (lw (lw M 0 14 0) 0 20 0) 0 21 0) 0 22 0 = P at hL7 h20 h21 h22
  have hL : LtS a P := ⟨by rw [hL7 0 19 (by omega)]; exact hm.2.2.2.1.1, fun i i0 i1 => by rw [hL7 19 i (by omega)]; exact hm.2.2.2.1.2 i i0 i1⟩
  have sP : Sm a.s P := by
    obtain ⟨⟨w0, w1, w2, w3, w4⟩, wy, wt⟩ := hm.1
    refine ⟨⟨?_, ?_, ?_, ?_, ?_⟩, fun y y0 y1 => ?_, fun t t0 t1 => ?_⟩
    · rw [hL7 0 0 (by omega)]; exact w0
    · rw [hL7 0 4 (by omega)]; exact w1
    · rw [hL7 0 5 (by omega)]; exact w2
    · rw [hL7 0 6 (by omega)]; exact w3
    · rw [hL7 0 7 (by omega)]; exact w4
    · rw [hL7 2 y (by omega), hL7 3 y (by omega), hL7 4 y (by omega)]; exact wy y y0 y1
    · rw [hL7 9 t (by omega), hL7 10 t (by omega), hL7 11 t (by omega), hL7 12 t (by omega), hL7 13 t (by omega), hL7 14 t (by omega)]; exact wt t t0 t1
  have rP : RM a P := RM_F hm sP (fun i j q => hL7 i j (by omega))
  have fr : ∀ {Q : LT}, FRL P Q → RM a Q := fun {Q} f => by
    refine RM_F rP ?_ (fun i j q => f i j (by omega) (by omega) (by omega) (by omega))
    obtain ⟨⟨w0, w1, w2, w3, w4⟩, wy, wt⟩ := sP
    refine ⟨⟨?_, ?_, ?_, ?_, ?_⟩, fun y y0 y1 => ?_, fun t t0 t1 => ?_⟩
    · rw [f 0 0 (by omega) (by omega) (by omega) (by omega)]; exact w0
    · rw [f 0 4 (by omega) (by omega) (by omega) (by omega)]; exact w1
    · rw [f 0 5 (by omega) (by omega) (by omega) (by omega)]; exact w2
    · rw [f 0 6 (by omega) (by omega) (by omega) (by omega)]; exact w3
    · rw [f 0 7 (by omega) (by omega) (by omega) (by omega)]; exact w4
    · rw [f 2 y (by omega) (by omega) (by omega) (by omega), f 3 y (by omega) (by omega) (by omega) (by omega), f 4 y (by omega) (by omega) (by omega) (by omega)]; exact wy y y0 y1
    · rw [f 9 t (by omega) (by omega) (by omega) (by omega), f 10 t (by omega) (by omega) (by omega) (by omega), f 11 t (by omega) (by omega) (by omega) (by omega), f 12 t (by omega) (by omega) (by omega) (by omega), f 13 t (by omega) (by omega) (by omega) (by omega), f 14 t (by omega) (by omega) (by omega) (by omega)]; exact wt t t0 t1
  have ml : ∀ {b : Ab} {Q : LT}, RM b Q → RM (aLet b 0 b.tx) (lw Q 0 19 0) := fun {b Q} h => RM_let h 0 b.tx (fun i j q => lw_n (by omega)) (lw_s _ _ _ _) (fun k q0 q1 => by omega)
  obtain ⟨r, er, hr⟩ := c_brk ha hc
  rcases hr with ⟨k, hB⟩ | ⟨rfl, K, hG⟩
  · have hB' := hB
    obtain ⟨-, -, -, r0⟩ := hB'
    refine ⟨aLet a 0 a.tx, w32 (-1000 - r), ok0 ha, ?_, ?_⟩
    · rw [er]
      show Ok (Option.bind (if 0 ≤ r then some (w32 (-1000 - r), C) else _) _) _
      rw [if_pos r0]
      exact okS ⟨rfl, cl hc⟩
    · refine okB (m_bad ha hB hL h20 h21 h22) ?_
      rintro Q ⟨q1, q2, q3⟩
      have q1' : lw Q 0 19 0 0 21 = 1 := by rw [lw_j (by decide)]; exact q1
      have q2' : lw Q 0 19 0 0 20 = r := by rw [lw_j (by decide)]; exact q2
      exact okT (by rw [q1']; decide) (okS ⟨by simp only; rw [q2'], ml (fr q3)⟩)
  · obtain ⟨F, hF, h1, h2⟩ := tq_F a K
    have mm : ∀ {X : Prop}, (F < K → X) → (F = K → X) → X := fun {X} f g => by
      by_cases e : F = K
      · exact g e
      · exact f (by omega)
    obtain ⟨⟨y1, D⟩, ey, hy⟩ := c_tell ha hc hG hF h1 h2
    simp only at hy
    obtain ⟨Q, eQ, q1, q2, q3, q4⟩ := m_good ha hG hL h20 h21 h22
    have q1' : lw Q 0 19 0 0 21 = 0 := by rw [lw_j (by decide)]; exact q1
    have rQ := ml (fr q4)
    obtain ⟨N, eN, n1, n2, n3⟩ := m_open V rQ.1
    have n22 : N 0 22 = (K : Int) := by rw [n3 0 22 (by unfold lnC; omega) (by omega) (by omega) (by omega), lw_j (by decide)]; exact q2
    have nT : TB a K N := fun i hi => by
      obtain ⟨u1, u2, u3⟩ := q3 i hi
      have G : ∀ c j, c = 24 ∨ c = 25 ∨ c = 26 → N c j = Q c j := fun c j hc => by rw [n3 c j (by unfold lnC; omega) (by omega) (by omega) (by omega), lw_i (by omega)]
      refine ⟨?_, ?_, NU_c u3 (fun x _ _ => G 26 x (by omega))⟩
      · rw [G 24 i (by omega)]; exact u1
      · rw [G 25 i (by omega)]; exact u2
    have hN := m_told ha n1 n2 hG hF h1 h2 n22 nT
    have cls : Ok (Option.bind (X1_brokenAt (C 2 0)) fun z2 => Option.bind (if 0 ≤ z2 then some (w32 ((-1000) - z2), C) else Option.bind (X4_tellLine C) fun z8 => some (z8.1, z8.2)) fun z3 => some (z3.1, hw z3.2 (2, 0, 0) 1 0)) (fun z => z.1 = y1 ∧ z.2 = hw D (2, 0, 0) 1 0) := by
      rw [er]
      show Ok (Option.bind (if 0 ≤ (-1 : Int) then some (w32 (-1000 - -1), C) else _) _) _
      rw [if_neg (by decide), ey]
      exact okS ⟨rfl, rfl⟩
    refine mm (fun e => ?_) (fun e => ?_)
    · rcases hy with ⟨-, ev, hD⟩ | ⟨e2, -⟩
      · refine ⟨aLet a 0 a.tx, w32 (-2000 - pN a F), ok0 ha, okW cls (fun z w => ⟨w.1.trans ev, by rw [w.2]; exact cl hD⟩), ?_⟩
        rw [eQ]
        refine okF (by rw [q1']; decide) ?_
        rw [eN]
        show Ok (Option.bind (lp (X5_line_s2) (0, N)) _) _
        refine okB hN ?_
        rintro (z | z) hz
        · have := hz.1
          omega
        · exact okS ⟨hz.2.1, RM_F rQ hz.2.2.1 (MF_t (MG_F n3) hz.2.2.2)⟩
      · omega
    · rcases hy with ⟨e2, -⟩ | ⟨-, S, hq, ev, hD⟩
      · omega
      · have VS := tq_V ha hG.2.2.1 K S (Nat.le_refl _) hq
        refine ⟨aLet (aPast (aSet a S) 0 a.tu) 0 a.tx, (K : Int), ok0 (b := aPast (aSet a S) 0 a.tu) (OkA_fgt (a := aSet a S) (OkA_set ha VS)), okW cls (fun z w => ⟨w.1.trans ev, by rw [w.2]; exact cl hD⟩), ?_⟩
        rw [eQ]
        refine okF (by rw [q1']; decide) ?_
        rw [eN]
        show Ok (Option.bind (lp (X5_line_s2) (0, N)) _) _
        refine okB hN ?_
        rintro (z | z) hz
        · obtain ⟨-, g22, gF, S2, hq2, hS2⟩ := hz
          have eS : S2 = S := by
            rw [hq] at hq2
            exact (Option.some.inj hq2).symm
          subst eS
          refine okS ⟨?_, m_forget (a := aSet (aLet a 0 a.tx) S2) (RM_set rQ hS2 (MF_t (MG_F n3) gF))⟩
          simp only
          rw [lw_j (by decide)]
          exact g22
        · have := hz.1
          omega
