/-! blocker, timetable -/
theorem lw_cm {L : LT} {i i' : Nat} {j j' v v' : Int} (h : ¬ (i = i' ∧ j = j')) : lw (lw L i j v) i' j' v' = lw (lw L i' j' v') i j v := by
  funext a b
  unfold lw
  by_cases h1 : a = i ∧ b = j
  · by_cases h2 : a = i' ∧ b = j'
    · exact absurd ⟨h1.1.symm.trans h2.1, h1.2.symm.trans h2.2⟩ h
    · rw [if_neg h2, if_pos h1]
      try rw [if_pos h1]
  · by_cases h2 : a = i' ∧ b = j'
    · rw [if_pos h2, if_neg h1]
      try rw [if_pos h2]
    · rw [if_neg h2, if_neg h1]
      try rw [if_neg h1]
      try rw [if_neg h2]
theorem lw_lw (L : LT) (i : Nat) (j v v' : Int) : lw (lw L i j v) i j v' = lw L i j v' := by
  funext a b
  unfold lw
  by_cases h1 : a = i ∧ b = j
  · simp [h1]
  · simp [h1]
theorem cif_lw {p : Prop} {A B : LT} {i : Nat} {j v : Int} : lw (cif p A B) i j v = cif p (lw A i j v) (lw B i j v) := by
  by_cases h : p
  · rw [cif_t h, cif_t h]
  · rw [cif_f h, cif_f h]
theorem cif_c {α : Type} {p q : Prop} {a b a' b' : α} (h : p ↔ q) (ha : p → a = a') (hb : ¬ p → b = b') : cif p a b = cif q a' b' := by
  by_cases e : p
  · rw [cif_t e, cif_t (h.mp e), ha e]
  · rw [cif_f e, cif_f (fun z => e (h.mpr z)), hb e]
theorem aw_taken {S : LT} {t v : Int} (h : S 14 t ≠ 0) (hv : v ≠ 0) (y : Int) : takenS (lw S 14 t v) y ↔ takenS S y := by
  unfold takenS
  simp only [lw_i (show (6 : Nat) ≠ 14 by decide), lw_i (show (0 : Nat) ≠ 14 by decide), lw_i (show (12 : Nat) ≠ 14 by decide)]
  refine and_congr Iff.rfl (and_congr Iff.rfl ⟨fun ⟨u, u0, u1, u2, u3⟩ => ?_, fun ⟨u, u0, u1, u2, u3⟩ => ?_⟩)
  · by_cases e : u = t
    · rw [e, lw_s] at u2; exact absurd u2 hv
    · rw [lw_j e] at u2; exact ⟨u, u0, u1, u2, u3⟩
  · by_cases e : u = t
    · rw [e] at u2; exact absurd u2 h
    · exact ⟨u, u0, u1, by rw [lw_j e]; exact u2, u3⟩
theorem aw_mv {t v u : Int} (hu : u ≠ t) (hv : v ≠ 0) : ∀ (k : Nat) (S : LT), S 14 t ≠ 0 → mvS u k (lw S 14 t v) = lw (mvS u k S) 14 t v
  | 0, S, _ => rfl
  | k + 1, S, h => by
    unfold mvS
    simp only [wantS, lw_i (show (6 : Nat) ≠ 14 by decide), lw_i (show (7 : Nat) ≠ 14 by decide), lw_i (show (8 : Nat) ≠ 14 by decide), lw_i (show (9 : Nat) ≠ 14 by decide), lw_i (show (10 : Nat) ≠ 14 by decide), lw_i (show (0 : Nat) ≠ 14 by decide), lw_i (show (12 : Nat) ≠ 14 by decide)]
    rw [cif_lw]
    refine cif_c Iff.rfl (fun _ => lw_cm (by omega)) (fun _ => ?_)
    rw [cif_lw]
    refine cif_c (and_congr Iff.rfl (not_congr (aw_taken h hv _))) (fun _ => ?_) (fun _ => rfl)
    rw [lw_cm (i := 14) (i' := 12) (by omega), lw_cm (i := 14) (i' := 8) (by omega)]
    exact aw_mv hu hv k _ (by rw [lw_i (by decide), lw_i (by decide)]; exact h)
theorem aw_tr {t v : Int} (hv : v ≠ 0) (u : Int) (S : LT) (h : S 14 t ≠ 0) : trS u (lw S 14 t v) = lw (trS u S) 14 t v := by
  unfold trS
  by_cases e : u = t
  · rw [e, cif_f (by rw [lw_s]; exact hv), cif_f h]
  · simp only [lw_i (show (13 : Nat) ≠ 14 by decide), lw_i (show (11 : Nat) ≠ 14 by decide), lw_j (L := S) (i := 14) (v := v) e]
    rw [cif_lw]
    refine cif_c Iff.rfl (fun _ => ?_) (fun _ => rfl)
    rw [cif_lw]
    exact cif_c Iff.rfl (fun _ => lw_cm (by omega)) (fun _ => aw_mv e hv _ S h)
theorem aw_trs {t v : Int} (hv : v ≠ 0) (S : LT) (h : S 14 t ≠ 0) : ∀ n, trsS n (lw S 14 t v) = lw (trsS n S) 14 t v
  | 0 => rfl
  | n + 1 => by
    have e := (trs_off h n).1
    show trS n (trsS n (lw S 14 t v)) = lw (trS n (trsS n S)) 14 t v
    rw [aw_trs hv S h n]
    exact aw_tr hv n _ (by rw [e]; exact h)
theorem aw_fm (S : LT) (t v : Int) : fmS (lw S 14 t v) = lw (fmS S) 14 t v := by
  have ef : frz (lw S 14 t v) = frz S := by
    funext y
    unfold frz
    simp only [lw_i (show (6 : Nat) ≠ 14 by decide), lw_i (show (7 : Nat) ≠ 14 by decide), lw_i (show (8 : Nat) ≠ 14 by decide), lw_i (show (0 : Nat) ≠ 14 by decide)]
  unfold fmS
  rw [ef, lw_i (show (0 : Nat) ≠ 14 by decide)]
  funext i j
  unfold upT lw
  by_cases h : i = 14 ∧ j = t
  · rw [if_pos h, if_neg (by omega), if_pos h]
  · rw [if_neg h, if_neg h]
theorem aw_snk {t v : Int} (hv : v ≠ 0) (S : LT) (h : S 14 t ≠ 0) : snk (lw S 14 t v) = lw (snk S) 14 t v := by
  funext i j
  by_cases e : i = 14 ∧ j = t
  · rw [e.1, e.2, lw_s]
    unfold snk snkP
    rw [cif_f (fun z => hv (by have := z.2.2.2.1; rw [lw_s] at this; exact this)), lw_s]
  · rw [lw_n e]
    unfold snk snkP wantS
    simp only [lw_i (show (6 : Nat) ≠ 14 by decide), lw_i (show (7 : Nat) ≠ 14 by decide), lw_i (show (8 : Nat) ≠ 14 by decide), lw_i (show (9 : Nat) ≠ 14 by decide), lw_i (show (0 : Nat) ≠ 14 by decide), lw_i (show (12 : Nat) ≠ 14 by decide), lw_n (L := S) (v := v) e]
    refine cif_c (and_congr_right (fun ei => ?_)) (fun _ => rfl) (fun _ => rfl)
    rw [lw_j (L := S) (i := 14) (v := v) (fun z => e ⟨ei, z⟩)]
theorem aw_hr {t v : Int} (hv : v ≠ 0) (S : LT) (h : S 14 t ≠ 0) : hrS (lw S 14 t v) = lw (hrS S) 14 t v := by
  have hf : fmS S 14 t ≠ 0 := by unfold fmS; rw [upT_c (by decide)]; exact h
  have ht := (trs_off hf (S 0 4).toNat).1
  unfold hrS
  rw [lw_i (show (0 : Nat) ≠ 14 by decide), lw_i (show (0 : Nat) ≠ 14 by decide), aw_fm, aw_trs hv _ hf, aw_snk hv _ (by rw [ht]; exact hf), lw_cm (i := 14) (i' := 0) (by omega)]
theorem aw_go {t v : Int} (hv : v ≠ 0) (S : LT) (h : S 14 t ≠ 0) : ∀ n, goS n (lw S 14 t v) = lw (goS n S) 14 t v
  | 0 => rfl
  | n + 1 => by
    have e := (go_off (S := S) (u := t) (m := 0) h n (Nat.zero_le n)).1
    show hrS (goS n (lw S 14 t v)) = lw (hrS (goS n S)) 14 t v
    rw [aw_go hv S h n]
    exact aw_hr hv _ (by rw [e]; exact h)
noncomputable def othS (S : LT) (t : Int) : Int := cntS (goS 72 S) 1 - (if goS 72 S 14 t = 1 then 1 else 0)
noncomputable def wtoS (S : LT) (t : Int) : Int := cntS (goS 72 (lw S 14 t 3)) 1
theorem wto_2 {S : LT} (V : Val S) {t : Int} (t0 : 0 ≤ t) (t1 : t < S 0 4) : cntS (goS 72 (lw S 14 t 2)) 1 = wtoS S t ∧ goS 72 (lw S 14 t 2) 14 t = 2 := by
  have V3 : Val (lw S 14 t 3) := Val_lw V (by omega)
  have n3 : lw S 14 t 3 14 t ≠ 0 := by rw [lw_s]; decide
  have e : lw S 14 t 2 = lw (lw S 14 t 3) 14 t 2 := (lw_lw S 14 t 3 2).symm
  have e3 : goS 72 (lw S 14 t 3) 14 t = 3 := by
    rw [(go_off (S := lw S 14 t 3) (u := t) (m := 0) n3 72 (Nat.zero_le _)).1]
    exact lw_s _ _ _ _
  rw [e, aw_go (by decide) _ n3]
  refine ⟨?_, lw_s _ _ _ _⟩
  have c4 : goS 72 (lw S 14 t 3) 0 4 = S 0 4 := by rw [go_0 _ (by decide), lw_i (by decide)]
  unfold wtoS
  refine (cntS_c (Val_go V3 72) (by rw [lw_i (by decide)]) (fun u u0 u1 => ?_)).symm
  by_cases eu : u = t
  · rw [eu, lw_s, e3]; decide
  · rw [lw_j eu]
theorem cnt_lt {S : LT} {st : Int} : ∀ {k : Nat} (t : Nat), t < k → S 14 t = st → 1 ≤ cntN S st k
  | 0, t, h, _ => by omega
  | k + 1, t, h, e => by
    have b := cnt_b S st k
    unfold cntN
    by_cases q : t = k
    · rw [q] at e
      rw [if_pos e]
      omega
    · have := cnt_lt (k := k) t (by omega) e
      split <;> omega
theorem oth_b {S : LT} (V : Val S) {t : Int} (t0 : 0 ≤ t) (t1 : t < S 0 4) : 0 ≤ othS S t ∧ othS S t ≤ 5 := by
  have b := cntS_b (Val_go V 72) 1
  have c4 : goS 72 S 0 4 = S 0 4 := go_0 _ (by decide) _
  unfold othS
  by_cases e : goS 72 S 14 t = 1
  · rw [if_pos e]
    have : 1 ≤ cntS (goS 72 S) 1 := by
      unfold cntS
      refine cnt_lt t.toNat (by omega) ?_
      rw [show ((t.toNat : Nat) : Int) = t by omega]
      exact e
    omega
  · rw [if_neg e]; omega
theorem wto_b {S : LT} (V : Val S) (t : Int) : 0 ≤ wtoS S t ∧ wtoS S t ≤ 5 := cntS_b (Val_go (Val_lw V (by omega)) 72) 1
/-- best and most -/
noncomputable def bkN (S : LT) : Nat → Int × Int
  | 0 => (-9, -1)
  | k + 1 => cif (S 14 k = 0 ∧ othS S k < wtoS S k ∧ (bkN S k).2 < wtoS S k) ((k : Int), wtoS S k) (bkN S k)
theorem bk_b {S : LT} (V : Val S) : ∀ k : Nat, bkN S k = (-9, -1) ∨ 0 ≤ (bkN S k).1 ∧ 0 ≤ (bkN S k).2
  | 0 => Or.inl rfl
  | k + 1 => by
    have ih := bk_b V k
    have w := wto_b V k
    unfold bkN
    by_cases q : S 14 k = 0 ∧ othS S k < wtoS S k ∧ (bkN S k).2 < wtoS S k
    · rw [cif_t q]
      exact Or.inr ⟨by simp only; omega, by simp only; omega⟩
    · rw [cif_f q]; exact ih
theorem c_oth {a : Ab} {C D : GG} (hc : RC a C) (cf : CF C D) (V : Vg a.s) {t : Int} (t0 : 0 ≤ t) (t1 : t < a.s 0 4) : Ok (X4_othersThroughNow D t) (fun z => z.1 = othS a.s t ∧ CF C z.2) := by
  have d0 : D 1 0 = C 1 0 := cf 1 0 (by omega)
  have tv := V.1.1
  have ob := oth_b V.1 t0 t1
  unfold X4_othersThroughNow
  rw [d0]
  refine okB (c_become hc.1 V.1) ?_
  intro L hL
  refine okL (okB (c_thr (S := a.s) (by rw [gs_at]; exact hL) V) ?_)
  rintro ⟨r, D1⟩ ⟨e, cf1, m, cl, hm⟩
  simp only at e cf1 cl
  subst e
  have c4 : goS m a.s 0 4 = a.s 0 4 := go_0 _ (by decide) _
  have e14 := (cl.1.1.2.2 t t0 (by omega)).2.2.2.2.2
  rw [← hm t t0 t1] at e14
  refine okG ⟨t0, by omega⟩ (okS ⟨?_, CF_t (CF_t cf (CF_gs D L)) cf1⟩)
  simp only
  rw [e14]
  unfold othS at ob ⊢
  by_cases q : goS 72 a.s 14 t = 1
  · rw [if_pos q] at ob ⊢
    rw [if_pos q, w32_eq (by omega) (by omega)]
  · rw [if_neg q, if_neg q]
    omega
theorem c_wto {a : Ab} {C D : GG} (hc : RC a C) (cf : CF C D) (V : Vg a.s) {t : Int} (t0 : 0 ≤ t) (t1 : t < a.s 0 4) : Ok (X4_othersThroughWithout D t) (fun z => z.1 = wtoS a.s t ∧ CF C z.2) := by
  have d0 : D 1 0 = C 1 0 := cf 1 0 (by omega)
  have tv := V.1.1
  unfold X4_othersThroughWithout
  rw [d0]
  refine okB (c_become hc.1 V.1) ?_
  intro L hL
  refine okL (okG ⟨t0, by omega⟩ (okL ?_))
  rw [hw_gs]
  refine okB (c_thr (S := lw a.s 14 t 3) (by rw [gs_at]; exact PL_lw hL (by omega)) (Vg_lw V (by omega) (by omega))) ?_
  rintro ⟨r, D1⟩ ⟨e, cf1, -⟩
  exact okS ⟨e, CF_t (CF_t cf (CF_gs D _)) cf1⟩
theorem m_oth {a : Ab} {S M N : LT} (ha : OkA a) (hs : Sm S N) (hi : IM a M N) (V : Vg S) {t : Int} (t0 : 0 ≤ t) (t1 : t < S 0 4) : Ok (X5_othersThrough N t) (fun z => z.1 = othS S t ∧ Sm a.s z.2 ∧ IM a M z.2) := by
  have tv := V.1.1
  have ob := oth_b V.1 t0 t1
  have c4 : goS 72 S 0 4 = S 0 4 := go_0 _ (by decide) _
  unfold X5_othersThrough
  refine okB (f_hours hs hi V (n := 72) (by omega) (by omega)) ?_
  rintro P ⟨p1, p2, -⟩
  refine okB (m_howMany p1 (Val_go V.1 _) 1) ?_
  rintro r rfl
  have e14 : P 14 t = goS 72 S 14 t := (p1.2.2 t t0 (by rw [show (72 : Int).toNat = 72 from rfl]; omega)).2.2.2.2.2
  refine okG ⟨t0, by omega⟩ (okL (okB (f_close ha p2) ?_))
  rintro Q ⟨q1, q2, -⟩
  refine okS ⟨?_, q1, q2⟩
  simp only
  rw [e14]
  show w32 (othS S t) = othS S t
  exact w32_eq (by omega) (by omega)
theorem op_blocker : Op0 X4_blocker X5_blocker := by
  rintro C M ⟨a, ha, hc, hm⟩
  have hm1 := RM_14 hm 0
  have V := Vs_g ha.1
  have tv := V.1.1
  refine Bo_op ⟨a, (bkN a.s (a.s 0 4).toNat).1, ha, ?_, ?_⟩
  · unfold X4_blocker
    refine okB (P := fun z => z.2.1 = (bkN a.s (a.s 0 4).toNat).1 ∧ RC a z.2.2.2) ?_ (fun z q => okS q)
    refine okLoop (fun s => ∃ k : Nat, s.2.2.1 = (k : Int) ∧ (k : Int) ≤ a.s 0 4 ∧ s.2.1 = (bkN a.s k).1 ∧ s.1 = (if (bkN a.s k).1 = -9 then -9 else (bkN a.s k).2) ∧ CF C s.2.2.2) (fun s => (a.s 0 4 - s.2.2.1).toNat) ?_ ⟨0, rfl, by omega, rfl, rfl, CF_r C⟩
    rintro ⟨m, b, k', D⟩ ⟨k, e1, hk, e2, e3, cf⟩
    simp only at e1 e2 e3 cf
    subst e1
    have d0 : D 1 0 = C 1 0 := cf 1 0 (by omega)
    have bb := bk_b V.1 k
    have wb := wto_b V.1 k
    have en : bkN a.s (k + 1) = cif (a.s 14 k = 0 ∧ othS a.s k < wtoS a.s k ∧ (bkN a.s k).2 < wtoS a.s k) ((k : Int), wtoS a.s k) (bkN a.s k) := rfl
    unfold X4_blocker_s1
    simp only
    rw [d0, hc.1.1.2.2.2.2, w32_eq (x := (k : Int) + 1) (by omega) (by omega)]
    have mu : (k : Int) < a.s 0 4 → (a.s 0 4 - ((k : Int) + 1)).toNat < (a.s 0 4 - (k : Int)).toNat := fun _ => by omega
    refine okI (fun hlt => okG ⟨by omega, by omega⟩ ?_) (fun hlt => okS ⟨by rw [show (a.s 0 4).toNat = k by omega]; exact e2, RC_G ha hc (CF_G cf)⟩)
    rw [(hc.1.2.2 k (by omega) hlt).2.2.2.2.2]
    refine okI (fun h14 => okB (c_oth hc cf V (t := k) (by omega) hlt) ?_) (fun h14 => okS ⟨⟨k + 1, rfl, by omega, ?_, ?_, cf⟩, mu hlt⟩)
    · rintro ⟨o, D1⟩ ⟨eo, cf1⟩
      simp only at eo cf1
      subst eo
      refine okB (c_wto hc cf1 V (t := k) (by omega) hlt) ?_
      rintro ⟨w, D2⟩ ⟨ew, cf2⟩
      simp only at ew cf2
      subst ew
      simp only
      have cm : (othS a.s k < wtoS a.s k ∧ m < wtoS a.s k) ↔ (a.s 14 k = 0 ∧ othS a.s k < wtoS a.s k ∧ (bkN a.s k).2 < wtoS a.s k) := by
        rw [e3]
        rcases bb with e | e
        · rw [e]
          simp only
          rw [if_pos trivial]
          exact ⟨fun z => ⟨h14, z.1, by omega⟩, fun z => ⟨z.2.1, by omega⟩⟩
        · rw [if_neg (by omega)]
          exact ⟨fun z => ⟨h14, z.1, z.2⟩, fun z => ⟨z.2.1, z.2.2⟩⟩
      refine okI (fun q => okS ⟨⟨k + 1, rfl, by omega, ?_, ?_, cf2⟩, mu hlt⟩) (fun q => okS ⟨⟨k + 1, rfl, by omega, ?_, ?_, cf2⟩, mu hlt⟩)
      · rw [en, cif_t (cm.mp q)]
      · rw [en, cif_t (cm.mp q)]
        simp only
        rw [if_neg (by omega)]
      · rw [en, cif_f (fun z => q (cm.mpr z))]
        exact e2
      · rw [en, cif_f (fun z => q (cm.mpr z))]
        exact e3
    · rw [en, cif_f (fun z => h14 z.1)]
      exact e2
    · rw [en, cif_f (fun z => h14 z.1)]
      exact e3
  · unfold X5_blocker
    refine okL (okB (f_open ha hm1) ?_)
    rintro N ⟨n1, n2⟩
    refine okB (P := fun z => z.1 = (bkN a.s (a.s 0 4).toNat).1 ∧ Sm a.s z.2.2.2 ∧ IM a (lw M 0 14 0) z.2.2.2) ?_ (fun z q => okS ⟨q.1, IM_RM q.2.2 hm1 q.2.1⟩)
    refine okLoop (fun s => ∃ k : Nat, s.2.2.1 = (k : Int) ∧ (k : Int) ≤ a.s 0 4 ∧ (s.1, s.2.1) = bkN a.s k ∧ Sm a.s s.2.2.2 ∧ IM a (lw M 0 14 0) s.2.2.2) (fun s => (a.s 0 4 - s.2.2.1).toNat) ?_ ⟨0, rfl, by omega, rfl, n1, n2⟩
    rintro ⟨b, m, k', P⟩ ⟨k, e1, hk, e2, p1, p2⟩
    simp only at e1 e2 p1 p2
    subst e1
    have en : bkN a.s (k + 1) = cif (a.s 14 k = 0 ∧ othS a.s k < wtoS a.s k ∧ (bkN a.s k).2 < wtoS a.s k) ((k : Int), wtoS a.s k) (bkN a.s k) := rfl
    rw [← e2] at en
    simp only at en
    unfold X5_blocker_s1
    simp only
    rw [p1.1.2.2.2.2, w32_eq (x := (k : Int) + 1) (by omega) (by omega)]
    have mu : (k : Int) < a.s 0 4 → (a.s 0 4 - ((k : Int) + 1)).toNat < (a.s 0 4 - (k : Int)).toNat := fun _ => by omega
    refine okI (fun hlt => okG ⟨by omega, by omega⟩ ?_) (fun hlt => okS ⟨by rw [show (a.s 0 4).toNat = k by omega, ← e2], p1, p2⟩)
    rw [(p1.2.2 k (by omega) hlt).2.2.2.2.2]
    refine okI (fun h14 => okB (m_oth ha p1 p2 V (t := k) (by omega) hlt) ?_) (fun h14 => okS ⟨⟨k + 1, rfl, by omega, ?_, p1, p2⟩, mu hlt⟩)
    · rintro ⟨o, P1⟩ ⟨eo, q1, q2⟩
      simp only at eo q1 q2
      subst eo
      refine okL (okB (m_oth (S := lw a.s 14 k 2) ha (Sm_lw q1 (by omega)) (IM_lw q2 (by omega)) (Vg_lw V (by omega) (by omega)) (t := k) (by omega) (by rw [lw_i (by decide)]; exact hlt)) ?_)
      rintro ⟨w, P2⟩ ⟨ew, r1, r2⟩
      simp only at ew r1 r2
      have ew' : w = wtoS a.s k := by
        obtain ⟨w1, w2⟩ := wto_2 V.1 (t := (k : Int)) (by omega) hlt
        rw [ew]
        unfold othS
        rw [w1, w2, if_neg (by decide)]
        omega
      subst ew'
      refine okL (okL (okS ⟨⟨k + 1, rfl, by omega, ?_, r1, r2⟩, mu hlt⟩))
      simp only
      rw [en]
      by_cases q : othS a.s k < wtoS a.s k ∧ m < wtoS a.s k
      · rw [if_pos q, if_pos q, cif_t ⟨h14, q⟩]
      · rw [if_neg q, if_neg q, cif_f (fun z => q z.2)]
    · rw [en, cif_f (fun z => h14 z.1)]
