/-! A train ahead of the line: last, bestWait, heaviest; needed, noon -/
def SuQ {α β : Type} (A : α → Prop) (B : β → Prop) : α ⊕ β → Prop
  | .inl x => A x
  | .inr y => B y
def ahW (S : LT) (t w : Int) : Int := if 0 ≤ t ∧ t < S 0 4 then (if w < 0 then w else if S 14 t = 0 ∧ S 12 t = -1 then 0 else -3) else -1
theorem c_ahead {a : Ab} {C : GG} (hc : RC a C) (t : Int) (V : Val a.s) : X4_notAhead_c C t ∧ X4_notAhead_v C t = ahW a.s t 0 := by
  have hv := V.1
  have nt := c_noT hc t
  unfold X4_notAhead_c X4_notAhead_v X2_isAhead_c X2_isAhead_v ahW
  by_cases ht : 0 ≤ t ∧ t < a.s 0 4
  · obtain ⟨-, -, -, k4, -, k6⟩ := hc.1.2.2 t ht.1 ht.2
    refine ⟨fun _ => ⟨ht.1, by omega⟩, ?_⟩
    rw [if_neg (fun q => nt.mp q ht), if_pos ht, if_neg (show ¬ (0 : Int) < 0 by omega), k4, k6]
    by_cases q : a.s 14 t = 0 ∧ a.s 12 t = -1
    · rw [if_pos q, if_pos q]; rfl
    · rw [if_neg q, if_neg q]; rfl
  · refine ⟨fun q => absurd (nt.mpr ht) q, ?_⟩
    rw [if_pos (nt.mpr ht), if_neg ht]
theorem m_ahead {S M : LT} (h : Sm S M) (V : Val S) (t w : Int) : X5_wrongAhead_c M t w ∧ X5_wrongAhead_v M t w = ahW S t w := by
  have hv := V.1
  unfold X5_wrongAhead_c X5_wrongAhead_v ahW
  rw [m_isT h V t]
  by_cases ht : 0 ≤ t ∧ t < S 0 4
  · obtain ⟨-, -, -, k4, -, k6⟩ := h.2.2 t ht.1 ht.2
    have tb := V.2.2 t ht.1 ht.2
    refine ⟨⟨fun _ _ => ⟨ht.1, by omega⟩, fun _ _ _ => ⟨ht.1, by omega⟩⟩, ?_⟩
    rw [if_pos ht, if_pos ht, if_neg (show ¬ (1 : Int) = 0 by decide), k4, k6]
    by_cases q : w < 0
    · rw [if_pos q, if_pos q]
    · rw [if_neg q, if_neg q]
      by_cases q : S 14 t = 0 ∧ S 12 t = -1
      · rw [if_pos q, if_neg (by omega)]
      · rw [if_neg q, if_pos (by omega)]
  · rw [if_neg ht, if_neg ht]
    exact ⟨⟨fun q => absurd rfl q, fun q => absurd rfl q⟩, if_pos rfl⟩
theorem ah_0 {S : LT} {t : Int} (h : ahW S t 0 = 0) : 0 ≤ t ∧ t < S 0 4 ∧ S 14 t = 0 ∧ S 12 t = -1 := by
  unfold ahW at h
  by_cases ht : 0 ≤ t ∧ t < S 0 4
  · rw [if_pos ht, if_neg (show ¬ (0 : Int) < 0 by omega)] at h
    by_cases q : S 14 t = 0 ∧ S 12 t = -1
    · exact ⟨ht.1, ht.2, q⟩
    · rw [if_neg q] at h; omega
  · rw [if_neg ht] at h; omega
theorem ah_r (S : LT) (t : Int) : ahW S t 0 = 0 ∨ -6 ≤ ahW S t 0 ∧ ahW S t 0 ≤ -1 := by
  unfold ahW
  (repeat' split) <;> omega
theorem c_try {α : Type} {a : Ab} {C D : GG} (hc : RC a C) (cf : CF C D) (V : Vg a.s) {i : Nat} {j v : Int} (hi : i = 6 ∨ i = 7 ∨ i = 8 ∨ i = 9 ∨ i = 10 ∨ i = 11 ∨ i = 12 ∨ i = 13 ∨ i = 14 ∨ i = 0 ∧ j ≠ 4 ∧ j ≠ 14) (V2 : Vg (lw a.s i j v)) {t : Int} (t0 : 0 ≤ t) (t1 : t < a.s 0 4) {g : Prop} (hg : g) {K : Int × GG → Option α} {Q : α → Prop} (hK : ∀ z : Int × GG, z.1 = (if thrS (lw a.s i j v) t < 99 then 1 else 0) → CF C z.2 → (lw a.s i j v 14 t = 0 → thrS (lw a.s i j v) t < 99 → z.2 1 1 16 t = thrS (lw a.s i j v) t) → Ok (K z) Q) :
    Ok (Option.bind (X2_become (D 1 1) (D 1 0)) fun z => lt (gs D 1 1 z : GG) fun C1 => grd g <| lt (hw C1 (1, 1, i) j v : GG) fun C2 => Option.bind (X4_getsThrough C2 t) K) Q := by
  have d0 : D 1 0 = C 1 0 := cf 1 0 (by omega)
  rw [d0]
  refine okB (c_become hc.1 V.1) ?_
  intro L hL
  refine okL (okG hg (okL ?_))
  rw [hw_gs]
  have e4 : lw a.s i j v 0 4 = a.s 0 4 := lw_n (by omega)
  refine okB (c_gets (S := lw a.s i j v) (by rw [gs_at]; exact PL_lw hL hi) V2 t0 (by rw [e4]; exact t1)) ?_
  rintro z ⟨z1, z2, -, z4⟩
  exact hK z z1 (CF_t (CF_t cf (CF_gs D _)) z2) z4
theorem if10 {c : Prop} [Decidable c] : (¬ (if c then (1 : Int) else 0) = 0) ↔ c := by
  by_cases h : c
  · rw [if_pos h]; exact ⟨fun _ => h, fun _ => by decide⟩
  · rw [if_neg h]; exact ⟨fun z => absurd rfl z, fun z => absurd z h⟩
/-- the last of lo..n that p holds for, else -9 -/
def Lst (p : Nat → Prop) (lo n : Nat) (r : Int) : Prop := (r = -9 ∧ ∀ k, lo ≤ k → k < n → ¬ p k) ∨ ∃ k : Nat, lo ≤ k ∧ k < n ∧ r = (k : Int) ∧ p k ∧ ∀ i, k < i → i < n → ¬ p i
theorem Lst_u {p : Nat → Prop} {lo n : Nat} {r r' : Int} (h : Lst p lo n r) (h' : Lst p lo n r') : r = r' := by
  rcases h with ⟨e, h⟩ | ⟨k, k0, k1, e, k2, k3⟩ <;> rcases h' with ⟨e', h'⟩ | ⟨k', l0, l1, e', l2, l3⟩
  · rw [e, e']
  · exact absurd l2 (h k' l0 l1)
  · exact absurd k2 (h' k k0 k1)
  · have : k = k' := by
      by_cases q : k < k'
      · exact absurd l2 (k3 k' q l1)
      · by_cases q2 : k' < k
        · exact absurd k2 (l3 k q2 k1)
        · omega
    rw [e, e', this]
theorem Lst_s {p : Nat → Prop} {lo n : Nat} {r : Int} (h : Lst p lo n r) (hn : lo ≤ n) : (p n → Lst p lo (n + 1) n) ∧ (¬ p n → Lst p lo (n + 1) r) := by
  refine ⟨fun q => Or.inr ⟨n, hn, by omega, rfl, q, fun i h1 h2 => by omega⟩, fun q => ?_⟩
  rcases h with ⟨e, h⟩ | ⟨k, k0, k1, e, k2, k3⟩
  · refine Or.inl ⟨e, fun k h1 h2 => ?_⟩
    by_cases ek : k = n
    · rw [ek]; exact q
    · exact h k h1 (by omega)
  · refine Or.inr ⟨k, k0, by omega, e, k2, fun i h1 h2 => ?_⟩
    by_cases ek : i = n
    · rw [ek]; exact q
    · exact k3 i h1 (by omega)
def thP (S : LT) (i : Nat) (j t : Int) (k : Nat) : Prop := thrS (lw S i j k) t < 99
theorem c_down {a : Ab} {C : GG} (ha : OkA a) (hc : RC a C) {t : Int} (t0 : 0 ≤ t) (t1 : t < a.s 0 4) {i : Nat} (hi : i = 9 ∨ i = 10 ∨ i = 13) (lo hi' : Nat) (hv : ∀ v : Int, (lo : Int) ≤ v → v ≤ (hi' : Int) → Vg (lw a.s i t v)) {step : Int × GG → Option ((Int × GG) ⊕ (((Int × GG) ⊕ (Int × GG))))} (hh : hi' ≤ 100) (hl : lo ≤ hi')
    (hs : ∀ s : Int × GG, step s = if (lo : Int) ≤ s.1 then Option.bind (X2_become (s.2 1 1) (s.2 1 0)) fun z => lt (gs s.2 1 1 z : GG) fun C1 => grd (gd t 5) <| lt (hw C1 (1, 1, i) t s.1 : GG) fun C2 => Option.bind (X4_getsThrough C2 t) fun z22 => if ¬ z22.1 = 0 then some (.inr (.inr ((s.1, z22.2)))) else some (.inl (w32 (s.1 + (-1)), z22.2)) else some (.inr (.inl (s.1, s.2)))) :
    Ok (lp step ((hi' : Int), C)) (SuQ (fun z => (∀ k, lo ≤ k → k < hi' + 1 → ¬ thP a.s i t t k) ∧ RC a z.2) (fun y => Lst (thP a.s i t t) lo (hi' + 1) y.1 ∧ RC a y.2)) := by
  have V := Vs_g ha.1
  have tv := V.1.1
  refine okLoop (fun s => (lo : Int) - 1 ≤ s.1 ∧ s.1 ≤ (hi' : Int) ∧ CF C s.2 ∧ ∀ k : Nat, s.1 < (k : Int) → k < hi' + 1 → ¬ thP a.s i t t k) (fun s => (s.1 + 1).toNat) ?_ ⟨by show (lo : Int) - 1 ≤ (hi' : Int); omega, by show (hi' : Int) ≤ (hi' : Int); omega, CF_r C, fun k q1 q2 => by simp only at q1; omega⟩
  rintro ⟨v, D⟩ ⟨v0, v1, cf, hI⟩
  simp only at v0 v1 cf hI
  rw [hs]
  simp only
  refine okI (fun hle => ?_) (fun hle => okS ⟨fun k k0 k1 => hI k (by omega) k1, RC_G ha hc (CF_G cf)⟩)
  obtain ⟨k, rfl⟩ : ∃ k : Nat, v = (k : Int) := ⟨v.toNat, by omega⟩
  refine c_try hc cf V (by omega) (hv k hle v1) t0 t1 ⟨t0, by omega⟩ ?_
  intro z z1 z2 z3
  rw [z1]
  refine okI (fun q => okS ⟨Or.inr ⟨k, by omega, by omega, rfl, (show thrS (lw a.s i t k) t < 99 from if10.mp q), fun i' h1 h2 => hI i' (by omega) h2⟩, RC_G ha hc (CF_G z2)⟩) (fun q => okS ⟨⟨?_, ?_, z2, fun k' h1 h2 => ?_⟩, ?_⟩)
  · simp only; rw [w32_eq (by omega) (by omega)]; omega
  · simp only; rw [w32_eq (by omega) (by omega)]; omega
  · simp only at h1
    rw [w32_eq (by omega) (by omega)] at h1
    by_cases e : k' = k
    · rw [e]; exact fun z => q (if10.mpr z)
    · exact hI k' (by omega) h2
  · simp only
    rw [w32_eq (by omega) (by omega)]
    omega
theorem op_last : Op1 X4_last X5_last := by
  rintro C M ⟨a, ha, hc, hm⟩ t -
  have hm1 := RM_14 hm 0
  have V := Vs_g ha.1
  have tv := V.1.1
  refine Bo_op ?_
  unfold X4_last X5_last
  simp only [lt]
  rw [grd_t (c_ahead hc t V.1).1, grd_t (m_ahead hm1.1 V.1 t 0).1, (c_ahead hc t V.1).2, (m_ahead hm1.1 V.1 t 0).2]
  rcases ah_r a.s t with q | q
  · rw [q]
    obtain ⟨t0, t1, q14, q12⟩ := ah_0 q
    have hv : ∀ v : Int, ((0 : Nat) : Int) ≤ v → v ≤ ((48 : Nat) : Int) → Vg (lw a.s 13 t v) := fun v v0 v1 => Vg_lw V (by omega) (by omega)
    refine bo_ff (fun z => z rfl) (by omega) (Bo_rel (Lst (thP a.s 13 t t) 0 49) ha (fun _ _ => Lst_u) ?_ ?_)
    · refine okB (c_down ha hc t0 t1 (i := 13) (by omega) 0 48 hv (by omega) (by omega) (fun s => rfl)) ?_
      rintro (z | z) hz
      · exact okS ⟨Or.inl ⟨rfl, hz.1⟩, hz.2⟩
      · exact okS hz
    · refine okB (f_open ha hm1) ?_
      rintro N ⟨n1, n2⟩
      refine okB (P := fun z => Lst (thP a.s 13 t t) 0 49 z.1 ∧ Sm a.s z.2.2 ∧ IM a (lw M 0 14 0) z.2.2) ?_ (fun z q => okS ⟨q.1, IM_RM q.2.2 hm1 q.2.1⟩)
      refine okLoop (fun s => ∃ k : Nat, s.2.1 = (k : Int) ∧ k ≤ 49 ∧ Lst (thP a.s 13 t t) 0 k s.1 ∧ Sm a.s s.2.2 ∧ IM a (lw M 0 14 0) s.2.2) (fun s => (49 - s.2.1).toNat) ?_ ⟨0, rfl, by omega, Or.inl ⟨rfl, fun k h1 h2 => by omega⟩, n1, n2⟩
      rintro ⟨b, k', P⟩ ⟨k, e1, hk, hL, p1, p2⟩
      simp only at e1 hL p1 p2
      subst e1
      unfold X5_last_s1
      simp only
      rw [w32_eq (x := (k : Int) + 1) (by omega) (by omega)]
      refine okI (fun hle => okG ⟨t0, by omega⟩ (okL ?_)) (fun hle => okS ⟨by rw [show 49 = k by omega]; exact hL, p1, p2⟩)
      have ls := Lst_s hL (Nat.zero_le k)
      have V2 := hv k (by omega) (by omega)
      have mu : (49 - ((k : Int) + 1)).toNat < (49 - (k : Int)).toNat := by omega
      refine okB (P := fun z => Lst (thP a.s 13 t t) 0 (k + 1) z.1 ∧ Sm a.s z.2 ∧ IM a (lw M 0 14 0) z.2) (okB (f_thr ha (Sm_lw p1 (by omega)) (IM_lw p2 (by omega)) V2 t0 (by rw [lw_n (by omega)]; exact t1)) ?_) ?_
      · rintro ⟨r, Q⟩ ⟨q0, q1, q2⟩
        simp only at q0 q1 q2
        simp only
        rw [q0]
        exact okI (fun z => okS ⟨ls.1 z, q1, q2⟩) (fun z => okS ⟨ls.2 z, q1, q2⟩)
      · rintro ⟨r, Q⟩ hq
        exact okS ⟨⟨k + 1, rfl, by omega, hq⟩, mu⟩
  · exact bo_tt (by omega) (by omega) (Bo_ref ha hc hm1 q)
/-- the soonest: which, how soon (99 never) -/
def bwF (p : Int × Int) (v x : Int) : Int × Int := if x < p.2 then (v, x) else p
def bwN (f : Int → Int) (lo : Int) : Nat → Int × Int
  | 0 => (-9, 99)
  | k + 1 => bwF (bwN f lo k) (lo + k) (f (lo + k))
theorem bw_b {f : Int → Int} {lo : Int} (hlo : 0 ≤ lo) (hf : ∀ v, 0 ≤ f v ∧ (f v ≤ 72 ∨ f v = 99)) : ∀ k : Nat, bwN f lo k = (-9, 99) ∨ 0 ≤ (bwN f lo k).1 ∧ 0 ≤ (bwN f lo k).2 ∧ (bwN f lo k).2 ≤ 72
  | 0 => Or.inl rfl
  | k + 1 => by
    have ih := bw_b hlo hf k
    have h := hf (lo + k)
    unfold bwN bwF
    split
    · rename_i q
      rcases ih with e | e
      · rw [e] at q
        simp only at q
        exact Or.inr ⟨by simp only; omega, by simp only; omega, by simp only; omega⟩
      · exact Or.inr ⟨by simp only; omega, by simp only; omega, by simp only; omega⟩
    · exact ih
theorem c_soon {a : Ab} {C : GG} (ha : OkA a) (hc : RC a C) {t : Int} (t0 : 0 ≤ t) (t1 : t < a.s 0 4) (h14 : a.s 14 t = 0) {i : Nat} (hi : i = 11 ∨ i = 13) (lo : Int) (n : Nat) (l0 : 0 ≤ lo) (ln : lo + n ≤ 100) (hv : ∀ v : Int, lo ≤ v → v < lo + n → Vg (lw a.s i t v)) {step : Int × Int × Int × GG → Option ((Int × Int × Int × GG) ⊕ (Int × Int × Int × GG))}
    (hs : ∀ s : Int × Int × Int × GG, step s = if s.2.2.1 ≤ lo + n - 1 then Option.bind (X2_become (s.2.2.2 1 1) (s.2.2.2 1 0)) fun z => lt (gs s.2.2.2 1 1 z : GG) fun C1 => grd (gd t 5) <| lt (hw C1 (1, 1, i) t s.2.2.1 : GG) fun C2 => Option.bind (X4_getsThrough C2 t) fun z28 => if ¬ z28.1 = 0 then (if (s.1 = (-9)) ∨ ((z28.2 1 1 16 t) < s.2.1) then lt (z28.2 1 1 16 t : Int) fun x35 => some (.inl (s.2.2.1, x35, w32 (s.2.2.1 + 1), z28.2)) else some (.inl (s.1, s.2.1, w32 (s.2.2.1 + 1), z28.2))) else some (.inl (s.1, s.2.1, w32 (s.2.2.1 + 1), z28.2)) else some (.inr (s.1, s.2.1, s.2.2.1, s.2.2.2))) :
    Ok (lp step (-9, -9, lo, C)) (fun z => z.1 = (bwN (fun v => thrS (lw a.s i t v) t) lo n).1 ∧ z.2.1 = (if (bwN (fun v => thrS (lw a.s i t v) t) lo n).1 = -9 then -9 else (bwN (fun v => thrS (lw a.s i t v) t) lo n).2) ∧ RC a z.2.2.2) := by
  have V := Vs_g ha.1
  have tv := V.1.1
  have hf : ∀ v, 0 ≤ thrS (lw a.s i t v) t ∧ (thrS (lw a.s i t v) t ≤ 72 ∨ thrS (lw a.s i t v) t = 99) := fun v => thr_b _ _
  generalize hF : (fun v => thrS (lw a.s i t v) t) = F
  have hF' : ∀ v, thrS (lw a.s i t v) t = F v := fun v => congrFun hF v
  have hf' : ∀ v, 0 ≤ F v ∧ (F v ≤ 72 ∨ F v = 99) := fun v => by rw [← hF' v]; exact hf v
  refine okLoop (fun s => ∃ k : Nat, s.2.2.1 = lo + k ∧ k ≤ n ∧ s.1 = (bwN F lo k).1 ∧ s.2.1 = (if (bwN F lo k).1 = -9 then -9 else (bwN F lo k).2) ∧ CF C s.2.2.2) (fun s => (lo + n - s.2.2.1).toNat) ?_ ⟨0, by show lo = lo + ((0 : Nat) : Int); omega, by omega, rfl, rfl, CF_r C⟩
  rintro ⟨b, l, v, D⟩ ⟨k, e1, hk, e2, e3, cf⟩
  simp only at e1 e2 e3 cf
  subst e1
  subst e2
  subst e3
  rw [hs]
  simp only
  rw [w32_eq (x := lo + k + 1) (by omega) (by omega)]
  refine okI (fun hle => ?_) (fun hle => okS ?_)
  · refine c_try hc cf V (by omega) (hv (lo + k) (by omega) (by omega)) t0 t1 ⟨t0, by omega⟩ ?_
    intro z z1 z2 z3
    rw [hF'] at z1 z3
    rw [z1]
    have bb := bw_b l0 hf' k
    have fb := hf' (lo + k)
    have en : bwN F lo (k + 1) = bwF (bwN F lo k) (lo + k) (F (lo + k)) := rfl
    have mu : (lo + n - (lo + k + 1)).toNat < (lo + n - (lo + k)).toNat := by omega
    have ek : lo + (k : Int) + 1 = lo + ((k + 1 : Nat) : Int) := by omega
    refine okI (fun q => ?_) (fun q => okS ⟨⟨k + 1, ek, by omega, ?_, ?_, z2⟩, mu⟩)
    · have q' : F (lo + k) < 99 := if10.mp q
      rw [z3 (by rw [lw_i (by omega)]; exact h14) q']
      refine okI (fun c => okL (okS ⟨⟨k + 1, ek, by omega, ?_, ?_, z2⟩, mu⟩)) (fun c => okS ⟨⟨k + 1, ek, by omega, ?_, ?_, z2⟩, mu⟩)
      · have c' : F (lo + k) < (bwN F lo k).2 := by
          rcases bb with e | e
          · rw [e]; exact q'
          · rcases c with c | c
            · omega
            · rw [if_neg (by omega)] at c; exact c
        rw [en]; unfold bwF; rw [if_pos c']
      · have c' : F (lo + k) < (bwN F lo k).2 := by
          rcases bb with e | e
          · rw [e]; exact q'
          · rcases c with c | c
            · omega
            · rw [if_neg (by omega)] at c; exact c
        rw [en]; unfold bwF; rw [if_pos c']
        simp only
        rw [if_neg (by omega)]
      · have c' : ¬ F (lo + k) < (bwN F lo k).2 := by
          rcases bb with e | e
          · exact absurd (Or.inl (by rw [e])) c
          · intro z
            exact c (Or.inr (by rw [if_neg (by omega)]; exact z))
        rw [en]; unfold bwF; rw [if_neg c']
      · have c' : ¬ F (lo + k) < (bwN F lo k).2 := by
          rcases bb with e | e
          · exact absurd (Or.inl (by rw [e])) c
          · intro z
            exact c (Or.inr (by rw [if_neg (by omega)]; exact z))
        rw [en]; unfold bwF; rw [if_neg c']
    · have c' : ¬ F (lo + k) < (bwN F lo k).2 := by
        intro z
        refine q (if10.mpr ?_)
        rcases bb with e | e
        · rw [e] at z; exact z
        · omega
      rw [en]; unfold bwF; rw [if_neg c']
    · have c' : ¬ F (lo + k) < (bwN F lo k).2 := by
        intro z
        refine q (if10.mpr ?_)
        rcases bb with e | e
        · rw [e] at z; exact z
        · omega
      rw [en]; unfold bwF; rw [if_neg c']
  · have e : k = n := by omega
    rw [e]
    exact ⟨rfl, rfl, RC_G ha hc (CF_G cf)⟩
theorem op_bestWait : Op2 X4_bestWait X5_bestWait := by
  rintro C M ⟨a, ha, hc, hm⟩ t w - -
  have hm1 := RM_14 hm 0
  have V := Vs_g ha.1
  have tv := V.1.1
  refine Bo_op ?_
  unfold X4_bestWait X5_bestWait
  simp only [lt]
  unfold X5_wrongBit_v
  rw [m_in]
  by_cases ht : 0 ≤ t ∧ t < a.s 0 4
  · refine bo_f_ (fun q => (c_noT hc t).mp q ht) ?_
    by_cases hw : w = 0 ∨ w = 1
    · rw [if_pos (show 0 ≤ w ∧ w ≤ 1 by omega), if_neg (show ¬ ((0 : Int) = 0 ∧ (1 : Int) = 0) by omega)]
      refine bo_f_ (fun z => (c_nei w).mp z hw) ?_
      rw [grd_t (c_ahead hc t V.1).1, grd_t (m_ahead hm1.1 V.1 t 0).1, (c_ahead hc t V.1).2, (m_ahead hm1.1 V.1 t 0).2]
      rcases ah_r a.s t with q | q
      · rw [q]
        obtain ⟨t0, t1, q14, q12⟩ := ah_0 q
        have hv : ∀ v : Int, 0 ≤ v → v < 0 + ((49 : Nat) : Int) → Vg (lw a.s 13 t v) := fun v v0 v1 => Vg_lw V (by omega) (by omega)
        have bb := bw_b (f := fun v => thrS (lw a.s 13 t v) t) (lo := 0) (by omega) (fun v => thr_b _ _) 49
        have cs := c_soon ha hc t0 t1 q14 (i := 13) (by omega) 0 49 (by omega) (by omega) hv (step := X4_bestWait_s1 t) (fun s => rfl)
        generalize hF : (fun v => thrS (lw a.s 13 t v) t) = F at bb cs
        have hF' : ∀ v, thrS (lw a.s 13 t v) t = F v := fun v => congrFun hF v
        refine bo_ff (fun z => z rfl) (by omega) ⟨a, if w = 0 ∨ (bwN F 0 49).1 < 0 then (bwN F 0 49).1 else (bwN F 0 49).2, ha, okB cs ?_, ?_⟩
        · rintro ⟨b, l, v, D⟩ ⟨e1, e2, e3⟩
          simp only at e1 e2 e3
          refine okS ⟨?_, e3⟩
          simp only
          rw [e1, e2]
          by_cases w0 : w = 0
          · rw [if_pos w0, if_pos (Or.inl w0)]
          · rw [if_neg w0]
            rcases bb with e | e
            · rw [e, if_pos (rfl : ((-9 : Int), (99 : Int)).1 = -9), if_pos (Or.inr (by decide))]
            · rw [if_neg (by omega), if_neg (by omega)]
        · refine okB (f_open ha hm1) ?_
          rintro N ⟨n1, n2⟩
          refine okB (P := fun z => z.1 = (bwN F 0 49).1 ∧ z.2.1 = (bwN F 0 49).2 ∧ Sm a.s z.2.2.2 ∧ IM a (lw M 0 14 0) z.2.2.2) ?_ (fun z q => okS ⟨by simp only; rw [q.1, q.2.1], IM_RM q.2.2.2 hm1 q.2.2.1⟩)
          refine okLoop (fun s => ∃ k : Nat, s.2.2.1 = (k : Int) ∧ k ≤ 49 ∧ s.1 = (bwN F 0 k).1 ∧ s.2.1 = (bwN F 0 k).2 ∧ Sm a.s s.2.2.2 ∧ IM a (lw M 0 14 0) s.2.2.2) (fun s => (49 - s.2.2.1).toNat) ?_ ⟨0, rfl, by omega, rfl, rfl, n1, n2⟩
          rintro ⟨b, l, k', P⟩ ⟨k, e1, hk, e2, e3, p1, p2⟩
          simp only at e1 e2 e3 p1 p2
          subst e1
          subst e2
          subst e3
          unfold X5_bestWait_s1
          simp only
          rw [w32_eq (x := (k : Int) + 1) (by omega) (by omega)]
          refine okI (fun hle => okG ⟨t0, by omega⟩ (okL ?_)) (fun hle => okS (by rw [show 49 = k by omega]; exact ⟨rfl, rfl, p1, p2⟩))
          refine okB (f_thr ha (Sm_lw p1 (by omega)) (IM_lw p2 (by omega)) (hv k (by omega) (by omega)) t0 (by rw [lw_n (by omega)]; exact t1)) ?_
          rintro ⟨r, Q⟩ ⟨q0, q1, q2⟩
          simp only at q0 q1 q2
          rw [hF'] at q0
          simp only
          rw [q0]
          have en : bwN F 0 (k + 1) = bwF (bwN F 0 k) (0 + k) (F (0 + k)) := rfl
          rw [Int.zero_add] at en
          refine okL (okL (okS ⟨⟨k + 1, rfl, by omega, ?_, ?_, q1, q2⟩, by show (49 - ((k : Int) + 1)).toNat < (49 - (k : Int)).toNat; omega⟩))
          · simp only
            rw [en]; unfold bwF; split <;> rfl
          · simp only
            rw [en]; unfold bwF; split <;> rfl
      · exact bo_tt (by omega) (by omega) (Bo_ref ha hc hm1 q)
    · rw [if_neg (show ¬ (0 ≤ w ∧ w ≤ 1) by omega), if_pos (show (0 : Int) = 0 ∧ (0 : Int) = 0 by omega)]
      rw [grd_t (m_ahead hm1.1 V.1 t (-2)).1, (m_ahead hm1.1 V.1 t (-2)).2]
      have e : ahW a.s t (-2) = -2 := by unfold ahW; rw [if_pos ht, if_pos (by decide)]
      rw [e]
      exact bo_tt ((c_nei w).mpr hw) (by decide) (Bo_ref ha hc hm1 (by decide))
  · generalize (if (0 : Int) = 0 ∧ (if 0 ≤ w ∧ w ≤ 1 then (1 : Int) else 0) = 0 then (-2 : Int) else 0) = x
    rw [grd_t (m_ahead hm1.1 V.1 t x).1, (m_ahead hm1.1 V.1 t x).2]
    have e : ahW a.s t x = -1 := by unfold ahW; rw [if_neg ht]
    rw [e]
    exact bo_tt ((c_noT hc t).mpr ht) (by decide) (Bo_ref ha hc hm1 (by decide))
