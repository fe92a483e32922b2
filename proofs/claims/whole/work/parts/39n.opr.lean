/-! timetable -/
theorem stp_end (S : LT) (t : Int) : ∀ n, stpN S t n = n ∨ goS (stpN S t n) S 14 t ≠ 0
  | 0 => Or.inl rfl
  | n + 1 => by
    rcases stp_end S t n with h | h
    · by_cases e : goS n S 14 t = 0
      · exact Or.inl (stpN_on h e)
      · right
        rw [stpN_off h e (n + 1) (by omega)]
        exact e
    · right
      unfold stpN
      rw [cif_f h]
      exact h
theorem end_pos {S : LT} {t : Int} : ∀ n : Nat, S 14 t = 0 → goS n S 14 t ≠ 0 → 1 ≤ endS S n t ∧ endS S n t ≤ n
  | 0, h0, h => absurd h0 h
  | n + 1, h0, h => by
    show 1 ≤ cif (goS n S 14 t = 0 ∧ goS (n + 1) S 14 t ≠ 0) ((n : Int) + 1) (endS S n t) ∧ cif (goS n S 14 t = 0 ∧ goS (n + 1) S 14 t ≠ 0) ((n : Int) + 1) (endS S n t) ≤ ((n + 1 : Nat) : Int)
    by_cases e : goS n S 14 t = 0
    · rw [cif_t ⟨e, h⟩]; omega
    · rw [cif_f (fun z => e z.1)]
      have := end_pos n h0 e
      omega
/-- the later of both, 99 never -/
noncomputable def laF (S : LT) (x y : Int) : Int := if goS 72 S 14 x = 1 ∧ goS 72 S 14 y = 1 then (if endS S 72 y < endS S 72 x then endS S 72 x else endS S 72 y) else 99
theorem laF_b {S : LT} {x y : Int} (hx : S 14 x = 0) (hy : S 14 y = 0) : 0 ≤ laF S x y ∧ (laF S x y ≤ 72 ∨ laF S x y = 99) := by
  unfold laF
  by_cases h : goS 72 S 14 x = 1 ∧ goS 72 S 14 y = 1
  · rw [if_pos h]
    have e1 := end_pos 72 hx (by rw [h.1]; decide)
    have e2 := end_pos 72 hy (by rw [h.2]; decide)
    split <;> omega
  · rw [if_neg h]; omega
def ttS (S : LT) (x y v w : Int) : LT := lw (lw S 13 x v) 13 y w
theorem ttS_4 (S : LT) (x y v w : Int) : ttS S x y v w 0 4 = S 0 4 := by unfold ttS; rw [lw_i (by decide), lw_i (by decide)]
theorem ttS_14 (S : LT) (x y v w t : Int) : ttS S x y v w 14 t = S 14 t := by unfold ttS; rw [lw_i (by decide), lw_i (by decide)]
theorem Vg_tt {S : LT} (V : Vg S) (x y : Int) {v w : Int} (hv : 0 ≤ v ∧ v ≤ 48) (hw : 0 ≤ w ∧ w ≤ 48) : Vg (ttS S x y v w) := Vg_lw (Vg_lw V (by omega) (by omega)) (by omega) (by omega)
theorem c_later {a : Ab} {C D : GG} (hc : RC a C) (cf : CF C D) (V : Vg a.s) {x y v w : Int} (x0 : 0 ≤ x) (x1 : x < a.s 0 4) (y0 : 0 ≤ y) (y1 : y < a.s 0 4) (hv : 0 ≤ v ∧ v ≤ 48) (hw : 0 ≤ w ∧ w ≤ 48) (hx : a.s 14 x = 0) (hy : a.s 14 y = 0) : Ok (X4_laterOf D x v y w) (fun z => z.1 = (if laF (ttS a.s x y v w) x y < 99 then laF (ttS a.s x y v w) x y else -9) ∧ CF C z.2) := by
  have d0 : D 1 0 = C 1 0 := cf 1 0 (by omega)
  have tv := V.1.1
  have VT := Vg_tt V x y hv hw
  have T4 := ttS_4 a.s x y v w
  have Tx : ttS a.s x y v w 14 x = 0 := by rw [ttS_14]; exact hx
  have Ty : ttS a.s x y v w 14 y = 0 := by rw [ttS_14]; exact hy
  have lb := laF_b Tx Ty
  unfold X4_laterOf
  rw [d0]
  refine okB (c_become hc.1 V.1) ?_
  intro L hL
  refine okL (okG ⟨x0, by omega⟩ (okL (okG ⟨y0, by omega⟩ (okL ?_))))
  rw [hw_gs, hw_gs]
  have hP : PL (ttS a.s x y v w) 0 True (lw (lw L 13 x v) 13 y w) := PL_lw (PL_lw hL (by omega)) (by omega)
  generalize ttS a.s x y v w = T at VT T4 Tx Ty lb hP
  refine okB (c_gets (S := T) (by rw [gs_at]; exact hP) VT x0 (by omega)) ?_
  rintro ⟨r, D1⟩ ⟨e, cf1, cl, -⟩
  simp only at e cf1 cl
  have cf2 := CF_t (CF_t cf (CF_gs D _)) cf1
  have ml := stpN_le T x 72
  have ti := thr_i T x
  have me := stp_end T x 72
  generalize stpN T x 72 = m at cl ml ti me
  subst e
  simp only
  refine okI (fun q => ?_) (fun q => okS ⟨?_, cf2⟩)
  · have g1 : goS m T 14 x = 1 := ti.mp (if10.mp q)
    have gx := go_off (S := T) (u := x) (m := m) (by rw [g1]; decide) 72 ml
    have c4 : goS m T 0 4 = T 0 4 := go_0 _ (by decide) _
    rw [(cl.1.2 trivial).1, w32_eq (x := 72 - (m : Int)) (by omega) (by omega)]
    refine okB (c_way (S := T) cl.1 VT.1 VT.2.1 VT.2.2 (by omega) (n := 72 - (m : Int)) (by omega) (by omega) y0 (by omega)) ?_
    intro L3 h3
    have nl := stpN_le (goS m T) y (72 - (m : Int)).toNat
    have ne := stp_end (goS m T) y (72 - (m : Int)).toNat
    rw [go_add] at ne
    generalize stpN (goS m T) y (72 - (m : Int)).toNat = p at h3 nl ne
    refine okL ?_
    simp only [gs_at]
    have d4 : goS (m + p) T 0 4 = T 0 4 := go_0 _ (by decide) _
    have ey : goS 72 T 14 y = goS (m + p) T 14 y ∧ endS T 72 y = endS T (m + p) y := by
      rcases ne with e | e
      · rw [show m + p = 72 by omega]
        exact ⟨rfl, rfl⟩
      · have := go_off e 72 (by omega)
        exact ⟨this.1, this.2.2⟩
    have ex := go_off (S := T) (u := x) (m := m) (by rw [g1]; decide) (m + p) (by omega)
    have e16 := (h3.1.2 trivial).2
    rw [(h3.1.1.2.2 y y0 (by omega)).2.2.2.2.2, ← ey.1, e16 x x0 (by omega), e16 y y0 (by omega), ← ey.2, ex.2.2, ← gx.2.2]
    have cf3 : CF C (gs D1 1 1 L3) := CF_t cf2 (CF_gs D1 L3)
    refine okI (fun n => okS ⟨?_, cf3⟩) (fun n => okS ⟨?_, cf3⟩)
    · simp only
      unfold laF
      rw [if_neg (c := goS 72 T 14 x = 1 ∧ goS 72 T 14 y = 1) (fun z => n z.2), if_neg (by decide)]
    · simp only
      have n' : goS 72 T 14 y = 1 := by
        by_cases z : goS 72 T 14 y = 1
        · exact z
        · exact absurd z n
      have ef : laF T x y = imax (endS T 72 x) (endS T 72 y) := by
        unfold laF imax
        rw [if_pos ⟨gx.1.trans g1, n'⟩]
        split <;> split <;> omega
      have l99 : laF T x y < 99 := by
        have e1 := end_pos 72 Tx (by rw [gx.1, g1]; decide)
        have e2 := end_pos 72 Ty (by rw [n']; decide)
        rw [ef]
        unfold imax
        split <;> omega
      rw [if_pos l99, ef]
  · have g1 : ¬ goS m T 14 x = 1 := fun z => q (if10.mpr (ti.mpr z))
    have gx : goS 72 T 14 x = goS m T 14 x := by
      rcases me with e | e
      · rw [e]
      · exact (go_off e 72 ml).1
    simp only
    unfold laF
    rw [if_neg (c := goS 72 T 14 x = 1 ∧ goS 72 T 14 y = 1) (fun z => g1 (gx.symm.trans z.1)), if_neg (by decide)]
/-- how late, 99 never or alike -/
noncomputable def ttF (S : LT) (x y : Int) (i j : Nat) : Int := if i = j then 99 else laF (ttS S x y (6 * i) (6 * j)) x y
noncomputable def ttIn (S : LT) (x y : Int) (i : Nat) (p : Int × Int) : Nat → Int × Int
  | 0 => p
  | j + 1 => bwF (ttIn S x y i p j) (100 * (6 * i) + 6 * j) (ttF S x y i j)
noncomputable def ttOut (S : LT) (x y : Int) : Nat → Int × Int
  | 0 => (-9, 99)
  | i + 1 => ttIn S x y i (ttOut S x y i) 5
def ttG (p : Int × Int) : Prop := p = (-9, 99) ∨ 0 ≤ p.1 ∧ 0 ≤ p.2 ∧ p.2 ≤ 72
theorem ttF_b {S : LT} {x y : Int} (hx : S 14 x = 0) (hy : S 14 y = 0) (i j : Nat) : 0 ≤ ttF S x y i j ∧ (ttF S x y i j ≤ 72 ∨ ttF S x y i j = 99) := by
  unfold ttF
  split
  · omega
  · exact laF_b (by rw [ttS_14]; exact hx) (by rw [ttS_14]; exact hy)
theorem ttG_F {p : Int × Int} (h : ttG p) {v x : Int} (hv : 0 ≤ v) (hx : 0 ≤ x ∧ (x ≤ 72 ∨ x = 99)) : ttG (bwF p v x) := by
  unfold bwF
  split
  · rename_i q
    rcases h with e | e
    · rw [e] at q
      simp only at q
      exact Or.inr ⟨by simp only; omega, by simp only; omega, by simp only; omega⟩
    · exact Or.inr ⟨by simp only; omega, by simp only; omega, by simp only; omega⟩
  · exact h
theorem ttG_in {S : LT} {x y : Int} (hx : S 14 x = 0) (hy : S 14 y = 0) (i : Nat) {p : Int × Int} (h : ttG p) : ∀ j, ttG (ttIn S x y i p j)
  | 0 => h
  | j + 1 => ttG_F (ttG_in hx hy i h j) (by omega) (ttF_b hx hy i j)
theorem ttG_out {S : LT} {x y : Int} (hx : S 14 x = 0) (hy : S 14 y = 0) : ∀ i, ttG (ttOut S x y i)
  | 0 => Or.inl rfl
  | i + 1 => ttG_in hx hy i (ttG_out hx hy i) 5
/-- the class's pair -/
def ttK (p : Int × Int) : Int := if p.1 = -9 then -9 else p.2
theorem ttK_F {p : Int × Int} (h : ttG p) {v x l : Int} (hv : 0 ≤ v) (hx : 0 ≤ x ∧ (x ≤ 72 ∨ x = 99)) (hl : l = if x < 99 then x else -9) : ((¬ l = -9 ∧ (p.1 = -9 ∨ l < ttK p)) ↔ x < p.2) ∧ (x < p.2 → bwF p v x = (v, x) ∧ ttK (bwF p v x) = l) ∧ (¬ x < p.2 → bwF p v x = p) := by
  refine ⟨?_, fun q => ?_, fun q => ?_⟩
  · unfold ttK
    by_cases q : x < 99
    · rw [if_pos q] at hl
      rw [hl]
      rcases h with e | e
      · rw [e]
        exact ⟨fun _ => q, fun _ => ⟨by omega, Or.inl rfl⟩⟩
      · rw [if_neg (show ¬ p.1 = -9 by omega)]
        exact ⟨fun z => by omega, fun z => ⟨by omega, Or.inr z⟩⟩
    · rw [if_neg q] at hl
      refine ⟨fun z => absurd hl z.1, fun z => ?_⟩
      rcases h with e | e
      · rw [e] at z; exact absurd z q
      · omega
  · have x9 : x < 99 := by
      rcases h with e | e
      · rw [e] at q; exact q
      · omega
    rw [if_pos x9] at hl
    unfold bwF ttK
    rw [if_pos q]
    refine ⟨rfl, ?_⟩
    simp only
    rw [if_neg (by omega), hl]
  · unfold bwF
    rw [if_neg q]
theorem op_timetable : Op2 X4_timetable X5_timetable := by
  rintro C M ⟨a, ha, hc, hm⟩ x y - -
  have hm1 := RM_14 hm 0
  have V := Vs_g ha.1
  have tv := V.1.1
  refine Bo_op ?_
  unfold X4_timetable X5_timetable X2_isAhead_c X2_isAhead_v
  simp only [lt]
  rw [m_isT hm1.1 V.1 x, m_isT hm1.1 V.1 y, (m_ahead hm1.1 V.1 x 0).2, (m_ahead hm1.1 V.1 y 0).2]
  by_cases h1 : ((0 ≤ x ∧ x < a.s 0 4) ∧ 0 ≤ y ∧ y < a.s 0 4) ∧ ¬ x = y
  · obtain ⟨⟨⟨x0, x1⟩, y0, y1⟩, xy⟩ := h1
    have gx : gd x 5 := ⟨x0, by omega⟩
    have gy : gd y 5 := ⟨y0, by omega⟩
    refine bo_f_ (fun q => ?_) ?_
    · rcases q with (q | q) | q
      · exact (c_noT hc x).mp q ⟨x0, x1⟩
      · exact (c_noT hc y).mp q ⟨y0, y1⟩
      · exact xy q
    rw [if_pos (c := 0 ≤ x ∧ x < a.s 0 4) ⟨x0, x1⟩, if_pos (c := 0 ≤ y ∧ y < a.s 0 4) ⟨y0, y1⟩, if_pos (c := (¬ (1 : Int) = 0 ∧ ¬ (1 : Int) = 0) ∧ ¬ x = y) ⟨⟨by decide, by decide⟩, xy⟩]
    rw [grd_t (c := gd x 5) gx, grd_t (c := _ → gd y 5) (fun _ => gy), grd_t (c := (0 : Int) = 0 → X5_wrongAhead_c (lw M 0 14 0) x 0) (fun _ => (m_ahead hm1.1 V.1 x 0).1), grd_t (c := (0 : Int) = 0 → _ → X5_wrongAhead_c (lw M 0 14 0) y 0) (fun _ _ => (m_ahead hm1.1 V.1 y 0).1)]
    obtain ⟨-, -, -, k4, -, k6⟩ := hc.1.2.2 x x0 x1
    obtain ⟨-, -, -, l4, -, l6⟩ := hc.1.2.2 y y0 y1
    rw [k4, k6, l4, l6]
    have ax : ahW a.s x 0 = if a.s 14 x = 0 ∧ a.s 12 x = -1 then 0 else -3 := by unfold ahW; rw [if_pos ⟨x0, x1⟩, if_neg (by decide)]
    have ay : ahW a.s y 0 = if a.s 14 y = 0 ∧ a.s 12 y = -1 then 0 else -3 := by unfold ahW; rw [if_pos ⟨y0, y1⟩, if_neg (by decide)]
    rw [ax, ay]
    by_cases hh : (a.s 14 x = 0 ∧ a.s 12 x = -1) ∧ a.s 14 y = 0 ∧ a.s 12 y = -1
    · obtain ⟨hx, hy⟩ := hh
      rw [if_pos (c := a.s 14 x = 0 ∧ a.s 12 x = -1) hx, if_pos (c := a.s 14 x = 0 ∧ a.s 12 x = -1) hx, if_pos (c := a.s 14 y = 0 ∧ a.s 12 y = -1) hy, if_pos (c := a.s 14 y = 0 ∧ a.s 12 y = -1) hy]
      refine bo_ff (by omega) (by decide) ⟨a, (ttOut a.s x y 5).1, ha, ?_, ?_⟩
      · refine okB (P := fun z => z.1 = (ttOut a.s x y 5).1 ∧ RC a z.2.2.2) ?_ (fun z q => okS q)
        refine okLoop (fun s => ∃ i : Nat, s.2.2.1 = 6 * (i : Int) ∧ i ≤ 5 ∧ s.1 = (ttOut a.s x y i).1 ∧ s.2.1 = ttK (ttOut a.s x y i) ∧ CF C s.2.2.2) (fun s => (30 - s.2.2.1).toNat) ?_ ⟨0, rfl, by omega, rfl, rfl, CF_r C⟩
        rintro ⟨b, l, v, D⟩ ⟨i, e1, hi, e2, e3, cf⟩
        simp only at e1 e2 e3 cf
        subst e1
        unfold X4_timetable_s2
        simp only
        rw [w32_eq (x := 6 * (i : Int) + 6) (by omega) (by omega)]
        refine okI (fun hle => ?_) (fun hle => okS ⟨by rw [show 5 = i by omega]; exact e2, RC_G ha hc (CF_G cf)⟩)
        refine okB (P := fun z => z.1 = (ttOut a.s x y (i + 1)).1 ∧ z.2.1 = ttK (ttOut a.s x y (i + 1)) ∧ CF C z.2.2.2) ?_ ?_
        · refine okLoop (fun s => ∃ j : Nat, s.2.2.1 = 6 * (j : Int) ∧ j ≤ 5 ∧ s.1 = (ttIn a.s x y i (ttOut a.s x y i) j).1 ∧ s.2.1 = ttK (ttIn a.s x y i (ttOut a.s x y i) j) ∧ CF C s.2.2.2) (fun s => (30 - s.2.2.1).toNat) ?_ ⟨0, rfl, by omega, e2, e3, cf⟩
          rintro ⟨b', l', w, D'⟩ ⟨j, f1, hj, f2, f3, cf'⟩
          simp only at f1 f2 f3 cf'
          subst f1
          unfold X4_timetable_s1
          simp only
          rw [w32_eq (x := 6 * (j : Int) + 6) (by omega) (by omega), w32_eq (x := 100 * (6 * (i : Int))) (by omega) (by omega)]
          refine okI (fun hle' => ?_) (fun hle' => okS ?_)
          · have gi := ttG_in hx.1 hy.1 i (ttG_out hx.1 hy.1 i) j
            have fb := ttF_b (S := a.s) hx.1 hy.1 i j
            have en : ttIn a.s x y i (ttOut a.s x y i) (j + 1) = bwF (ttIn a.s x y i (ttOut a.s x y i) j) (100 * (6 * i) + 6 * j) (ttF a.s x y i j) := rfl
            have mu : (30 - (6 * (j : Int) + 6)).toNat < (30 - 6 * (j : Int)).toNat := by omega
            have ej : 6 * (j : Int) + 6 = 6 * ((j + 1 : Nat) : Int) := by omega
            refine okB (P := fun z => z.1 = (if ttF a.s x y i j < 99 then ttF a.s x y i j else -9) ∧ CF C z.2) (okI (fun q => okS ⟨?_, cf'⟩) (fun q => ?_)) ?_
            · simp only
              unfold ttF
              rw [if_pos (show i = j by omega), if_neg (by decide)]
            · have ef : ttF a.s x y i j = laF (ttS a.s x y (6 * i) (6 * j)) x y := by
                unfold ttF
                rw [if_neg (show ¬ i = j by omega)]
              rw [ef]
              exact okB (c_later hc cf' V x0 x1 y0 y1 (v := 6 * (i : Int)) (w := 6 * (j : Int)) (by omega) (by omega) hx.1 hy.1) (fun z q => okS q)
            · rintro ⟨l2, D2⟩ ⟨q1, q2⟩
              simp only at q1 q2
              obtain ⟨t1, t2, t3⟩ := ttK_F (v := 100 * (6 * (i : Int)) + 6 * j) gi (by omega) fb q1
              simp only
              rw [f2, f3]
              refine okI (fun c => okL (okS ⟨⟨j + 1, ej, by omega, ?_, ?_, q2⟩, mu⟩)) (fun c => okS ⟨⟨j + 1, ej, by omega, ?_, ?_, q2⟩, mu⟩)
              · rw [en, (t2 (t1.mp c)).1]
                simp only
                rw [w32_eq (by omega) (by omega)]
              · rw [en, (t2 (t1.mp c)).2]
              · rw [en, t3 (fun z => c (t1.mpr z))]
              · rw [en, t3 (fun z => c (t1.mpr z))]
          · have e : j = 5 := by omega
            subst e
            exact ⟨f2, f3, cf'⟩
        · rintro ⟨b', l', w, D'⟩ ⟨q1, q2, q3⟩
          exact okS ⟨⟨i + 1, by simp only; omega, by omega, q1, q2, q3⟩, by show (30 - (6 * (i : Int) + 6)).toNat < (30 - 6 * (i : Int)).toNat; omega⟩
      · refine okB (f_open ha hm1) ?_
        rintro N ⟨n1, n2⟩
        refine okB (P := fun z => z.1 = (ttOut a.s x y 5).1 ∧ Sm a.s z.2.2.2 ∧ IM a (lw M 0 14 0) z.2.2.2) ?_ (fun z q => okS ⟨q.1, IM_RM q.2.2 hm1 q.2.1⟩)
        refine okLoop (fun s => ∃ i : Nat, s.2.2.1 = 6 * (i : Int) ∧ i ≤ 5 ∧ (s.1, s.2.1) = ttOut a.s x y i ∧ Sm a.s s.2.2.2 ∧ IM a (lw M 0 14 0) s.2.2.2) (fun s => (30 - s.2.2.1).toNat) ?_ ⟨0, rfl, by omega, rfl, n1, n2⟩
        rintro ⟨b, l, v, P⟩ ⟨i, e1, hi, e2, p1, p2⟩
        simp only at e1 e2 p1 p2
        subst e1
        unfold X5_timetable_s2
        simp only
        rw [w32_eq (x := 6 * (i : Int) + 6) (by omega) (by omega)]
        refine okI (fun hle => ?_) (fun hle => okS ⟨by rw [show 5 = i by omega, ← e2], p1, p2⟩)
        refine okB (P := fun z => (z.1, z.2.1) = ttOut a.s x y (i + 1) ∧ Sm a.s z.2.2.2 ∧ IM a (lw M 0 14 0) z.2.2.2) ?_ ?_
        · refine okLoop (fun s => ∃ j : Nat, s.2.2.1 = 6 * (j : Int) ∧ j ≤ 5 ∧ (s.1, s.2.1) = ttIn a.s x y i (ttOut a.s x y i) j ∧ Sm a.s s.2.2.2 ∧ IM a (lw M 0 14 0) s.2.2.2) (fun s => (30 - s.2.2.1).toNat) ?_ ⟨0, rfl, by omega, e2, p1, p2⟩
          rintro ⟨b', l', w, P'⟩ ⟨j, f1, hj, f2, p1', p2'⟩
          simp only at f1 f2 p1' p2'
          subst f1
          unfold X5_timetable_s1
          simp only
          rw [w32_eq (x := 6 * (j : Int) + 6) (by omega) (by omega), w32_eq (x := 100 * (6 * (i : Int))) (by omega) (by omega), w32_eq (x := 100 * (6 * (i : Int)) + 6 * (j : Int)) (by omega) (by omega)]
          have mu : (30 - (6 * (j : Int) + 6)).toNat < (30 - 6 * (j : Int)).toNat ∨ ¬ 6 * (j : Int) ≤ 24 := by omega
          have ej : 6 * (j : Int) + 6 = 6 * ((j + 1 : Nat) : Int) := by omega
          have en : ttIn a.s x y i (ttOut a.s x y i) (j + 1) = bwF (ttIn a.s x y i (ttOut a.s x y i) j) (100 * (6 * i) + 6 * j) (ttF a.s x y i j) := rfl
          rw [← f2] at en
          refine okI (fun hle' => ?_) (fun hle' => okS ?_)
          · have mu' : (30 - (6 * (j : Int) + 6)).toNat < (30 - 6 * (j : Int)).toNat := by omega
            refine okI (fun q => okG gx (okL (okG gy (okL ?_)))) (fun q => okS ⟨⟨j + 1, ej, by omega, ?_, p1', p2'⟩, mu'⟩)
            · have VT := Vg_tt V x y (v := 6 * (i : Int)) (w := 6 * (j : Int)) (by omega) (by omega)
              have T4 := ttS_4 a.s x y (6 * (i : Int)) (6 * (j : Int))
              have ef : ttF a.s x y i j = laF (ttS a.s x y (6 * i) (6 * j)) x y := by
                unfold ttF
                rw [if_neg (show ¬ i = j by omega)]
              have Tx : ttS a.s x y (6 * i) (6 * j) 14 x = 0 := by rw [ttS_14]; exact hx.1
              have Ty : ttS a.s x y (6 * i) (6 * j) 14 y = 0 := by rw [ttS_14]; exact hy.1
              rw [ef] at en
              have sT : Sm (ttS a.s x y (6 * i) (6 * j)) (lw (lw P' 13 x (6 * (i : Int))) 13 y (6 * (j : Int))) := Sm_lw (Sm_lw p1' (by omega)) (by omega)
              generalize ttS a.s x y (6 * i) (6 * j) = T at VT T4 en Tx Ty sT
              refine okB (f_hours (S := T) sT (IM_lw (IM_lw p2' (by omega)) (by omega)) VT (n := 72) (by omega) (by omega)) ?_
              rintro P3 ⟨r1, r2, r3⟩
              have c4 : goS (72 : Int).toNat T 0 4 = T 0 4 := go_0 _ (by decide) _
              rw [(r1.2.2 x x0 (by omega)).2.2.2.2.2, (r1.2.2 y y0 (by omega)).2.2.2.2.2, (r3 x x0 (by omega)).2, (r3 y y0 (by omega)).2]
              rw [show (72 : Int).toNat = 72 from rfl]
              refine okL (okL (okB (f_close ha r2) ?_))
              rintro Q ⟨q1, q2, -⟩
              refine okL (okL (okS ⟨⟨j + 1, ej, by omega, ?_, q1, q2⟩, mu'⟩))
              simp only
              rw [en]
              unfold laF bwF
              simp only
              have gi := ttG_in hx.1 hy.1 i (ttG_out hx.1 hy.1 i) j
              rw [← f2] at gi
              have l9 : l' ≤ 99 := by
                rcases gi with e | e
                · have := congrArg Prod.snd e
                  simp only at this
                  omega
                · have := e.2.2
                  simp only at this
                  omega
              by_cases z : goS 72 T 14 x = 1 ∧ goS 72 T 14 y = 1
              · rw [if_pos (c := goS 72 T 14 x = 1 ∧ goS 72 T 14 y = 1) z, if_pos (c := goS 72 T 14 x = 1 ∧ goS 72 T 14 y = 1) z]
                by_cases z2 : (if endS T 72 y < endS T 72 x then endS T 72 x else endS T 72 y) < l'
                · rw [if_pos (c := ¬ (1 : Int) = 0 ∧ _) ⟨by decide, z2⟩, if_pos (c := ¬ (1 : Int) = 0 ∧ _) ⟨by decide, z2⟩, if_pos z2]
                · rw [if_neg (c := ¬ (1 : Int) = 0 ∧ _) (fun w => z2 w.2), if_neg (c := ¬ (1 : Int) = 0 ∧ _) (fun w => z2 w.2), if_neg z2]
              · rw [if_neg (c := goS 72 T 14 x = 1 ∧ goS 72 T 14 y = 1) z, if_neg (c := goS 72 T 14 x = 1 ∧ goS 72 T 14 y = 1) z, if_neg (c := ¬ (0 : Int) = 0 ∧ _) (fun w => w.1 rfl), if_neg (c := ¬ (0 : Int) = 0 ∧ _) (fun w => w.1 rfl), if_neg (by omega)]
            · have e9 : ttF a.s x y i j = 99 := by
                unfold ttF
                rw [if_pos (show i = j by omega)]
              have gi := ttG_in hx.1 hy.1 i (ttG_out hx.1 hy.1 i) j
              rw [← f2] at gi
              have l9 : l' ≤ 99 := by
                rcases gi with e | e
                · have := congrArg Prod.snd e
                  simp only at this
                  omega
                · have := e.2.2
                  simp only at this
                  omega
              rw [en, e9]
              unfold bwF
              rw [if_neg (by simp only; omega)]
          · have e : j = 5 := by omega
            subst e
            exact ⟨f2, p1', p2'⟩
        · rintro ⟨b', l', w, P'⟩ ⟨q1, q2, q3⟩
          exact okS ⟨⟨i + 1, by simp only; omega, by omega, q1, q2, q3⟩, by show (30 - (6 * (i : Int) + 6)).toNat < (30 - 6 * (i : Int)).toNat; omega⟩
    · have e3 : (0 : Int) = 0 ∧ ((if a.s 14 x = 0 ∧ a.s 12 x = -1 then (0 : Int) else -3) < 0 ∨ (if a.s 14 y = 0 ∧ a.s 12 y = -1 then (0 : Int) else -3) < 0) := by
        refine ⟨rfl, ?_⟩
        by_cases z : a.s 14 x = 0 ∧ a.s 12 x = -1
        · exact Or.inr (by rw [if_neg (fun w => hh ⟨z, w⟩)]; decide)
        · exact Or.inl (by rw [if_neg z]; decide)
      rw [if_pos e3]
      refine bo_tt ?_ (by decide) (Bo_ref ha hc hm1 (by decide))
      by_cases z : a.s 14 x = 0 ∧ a.s 12 x = -1
      · exact Or.inr (if_neg (fun w => hh ⟨z, w⟩))
      · exact Or.inl (if_neg z)
  · have e9 : (if (¬ (if 0 ≤ x ∧ x < a.s 0 4 then (1 : Int) else 0) = 0 ∧ ¬ (if 0 ≤ y ∧ y < a.s 0 4 then (1 : Int) else 0) = 0) ∧ ¬ x = y then (0 : Int) else -1) = -1 := by
      rw [if_neg]
      rintro ⟨⟨z1, z2⟩, z3⟩
      exact h1 ⟨⟨if10.mp z1, if10.mp z2⟩, z3⟩
    rw [e9, grd_t (c := (-1 : Int) = 0 → X5_wrongAhead_c (lw M 0 14 0) x 0) (fun z => by omega), grd_t (c := (-1 : Int) = 0 → _ → X5_wrongAhead_c (lw M 0 14 0) y 0) (fun z => by omega), if_neg (c := (-1 : Int) = 0 ∧ _) (fun z => by omega)]
    refine bo_tt ?_ (by decide) (Bo_ref ha hc hm1 (by decide))
    by_cases zx : 0 ≤ x ∧ x < a.s 0 4
    · by_cases zy : 0 ≤ y ∧ y < a.s 0 4
      · by_cases e : x = y
        · exact Or.inr e
        · exact absurd ⟨⟨zx, zy⟩, e⟩ h1
      · exact Or.inl (Or.inr ((c_noT hc y).mpr zy))
    · exact Or.inl (Or.inl ((c_noT hc x).mpr zx))
