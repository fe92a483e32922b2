/-! Orders of at most four -/
theorem okUn {σ ρ : Type} {step : σ → Option (σ ⊕ ρ)} {s : σ} {Q : ρ → Prop} (h : Ok (step s) (SuQ (fun s' => Ok (lp step s') Q) Q)) : Ok (lp step s) Q := by
  rw [lp_eq]
  obtain ⟨o, ho, hq⟩ := h
  rw [ho]
  cases o with
  | inl s' => exact hq
  | inr r => exact ⟨r, rfl, hq⟩
def fa (m : Int) : Int := if m ≤ 1 then 1 else if m = 2 then 2 else if m = 3 then 6 else 24
theorem fa_0 : lpn (X5_ordersOf_s1 0) 5 (1, 2) = some (1, 2) := by decide +kernel
theorem fa_1 : lpn (X5_ordersOf_s1 1) 5 (1, 2) = some (1, 2) := by decide +kernel
theorem fa_2 : lpn (X5_ordersOf_s1 2) 5 (1, 2) = some (2, 3) := by decide +kernel
theorem fa_3 : lpn (X5_ordersOf_s1 3) 5 (1, 2) = some (6, 4) := by decide +kernel
theorem fa_4 : lpn (X5_ordersOf_s1 4) 5 (1, 2) = some (24, 5) := by decide +kernel
theorem m_fa {m : Int} (m0 : 0 ≤ m) (m1 : m ≤ 4) : Ok (X5_ordersOf m) (fun r => r = fa m) := by
  unfold X5_ordersOf
  have h : m = 0 ∨ m = 1 ∨ m = 2 ∨ m = 3 ∨ m = 4 := by omega
  rcases h with rfl | rfl | rfl | rfl | rfl
  · rw [lp_of fa_0]; exact ⟨1, rfl, by decide⟩
  · rw [lp_of fa_1]; exact ⟨1, rfl, by decide⟩
  · rw [lp_of fa_2]; exact ⟨2, rfl, by decide⟩
  · rw [lp_of fa_3]; exact ⟨6, rfl, by decide⟩
  · rw [lp_of fa_4]; exact ⟨24, rfl, by decide⟩
theorem fa_b {m : Int} : 1 ≤ fa m ∧ fa m ≤ 24 := by
  unfold fa
  (repeat' split) <;> omega
def sk1 (used : Int) : Nat → Int → Int → Option Int
  | 0, _, _ => none
  | f + 1, skip, one => if (¬ (X5_hasBit_v used one) = 0) ∨ (0 < skip) then sk1 used f (w32 (skip - (if ¬ (X5_hasBit_v used one) = 0 then 0 else 1))) (w32 (one + 1)) else some one
def layR (n : Int) : Nat → Int → Int → Int → (Int → Int) → Option (Int → Int)
  | 0, _, _, _, f => some f
  | r + 1, i, rest, used, f => match sk1 used 9 (jdiv rest (fa (n - 1 - i))) 0 with
    | none => none
    | some one => layR n r (i + 1) (jrem rest (fa (n - 1 - i))) (b_or used (b_shl 1 one)) (fun j => if j = i then one else f j)
theorem m_sk (x : Int × Int × Int × LT) : ∀ (f : Nat) (skip one r : Int), sk1 x.2.1 f skip one = some r → Ok (lp (X5_layOrder_s1 x) (skip, one)) (fun z => z.2 = r)
  | 0, _, _, _, h => by cases h
  | f + 1, skip, one, r, h => by
    unfold sk1 at h
    refine okUn ?_
    unfold X5_layOrder_s1
    simp only
    by_cases c : (¬ (X5_hasBit_v x.2.1 one) = 0) ∨ (0 < skip)
    · rw [if_pos c] at h
      exact okT c (okL (okS (m_sk x f _ _ r h)))
    · rw [if_neg c] at h
      refine okF c (okS ?_)
      show one = r
      exact Option.some.inj h
theorem m_layR {n : Int} (n4 : n ≤ 4) : ∀ (r : Nat) (i rest used : Int) (f h : Int → Int) (L : LT), layR n r i rest used f = some h → 0 ≤ i → n = i + r → (∀ j, 0 ≤ j → j < i → L 38 j = f j) → Ok (lp (X5_layOrder_s2 n) (rest, used, i, L)) (fun z => (∀ j, 0 ≤ j → j < n → z.2.2.2 38 j = h j) ∧ ∀ a b, a ≠ 38 → z.2.2.2 a b = L a b)
  | 0, i, rest, used, f, h, L, e, i0, en, hL => by
    unfold layR at e
    have e' : f = h := Option.some.inj e
    refine okUn ?_
    unfold X5_layOrder_s2
    refine okF (by simp only; omega) (okS ⟨fun j j0 j1 => ?_, fun a b q => rfl⟩)
    rw [← e']
    exact hL j j0 (by omega)
  | r + 1, i, rest, used, f, h, L, e, i0, en, hL => by
    unfold layR at e
    refine okUn ?_
    rw [X5_layOrder_s2]
    simp only
    have hf := fa_b (m := n - 1 - i)
    rw [w32_eq (x := n - 1) (by omega) (by omega), w32_eq (x := n - 1 - i) (by omega) (by omega), w32_eq (x := i + 1) (by omega) (by omega)]
    refine okT (by omega) (okB (m_fa (m := n - 1 - i) (by omega) (by omega)) ?_)
    rintro z rfl
    refine okG (by omega) (okL (okL ?_))
    cases hs : sk1 used 9 (jdiv rest (fa (n - 1 - i))) 0 with
    | none => rw [hs] at e; cases e
    | some one =>
      rw [hs] at e
      refine okB (m_sk (rest, used, i, L) 9 _ _ one hs) ?_
      rintro ⟨z1, z2⟩ q
      simp only at q
      subst q
      refine okG ⟨i0, by omega⟩ (okL (okL (okS ?_)))
      show Ok (lp (X5_layOrder_s2 n) (jrem rest (fa (n - 1 - i)), b_or used (b_shl 1 z2), i + 1, lw L 38 i z2)) _
      refine okW (m_layR n4 r (i + 1) _ _ _ h (lw L 38 i z2) e (by omega) (by omega) (fun j j0 j1 => ?_)) ?_
      · by_cases ej : j = i
        · rw [ej, lw_s, if_pos rfl]
        · rw [lw_j ej, if_neg ej]
          exact hL j j0 (by omega)
      · rintro z ⟨z1, z2'⟩
        refine ⟨z1, fun a b q => ?_⟩
        rw [z2' a b q, lw_i q]
def pmO (n k : Nat) : Option (Int → Int) := layR n n 0 k 0 (fun _ => 0)
def pm (n k : Nat) : Int → Int := (pmO n k).getD (fun _ => 0)
theorem pm_ok : ∀ n : Fin 5, ∀ k : Fin 24, (k.val : Int) < fa n.val → (pmO n.val k.val).isSome = true := by decide +kernel
theorem pm_rg : ∀ n : Fin 5, ∀ k : Fin 24, (k.val : Int) < fa n.val → ∀ i : Fin 5, i.val < n.val → 0 ≤ pm n.val k.val (i.val : Nat) ∧ pm n.val k.val (i.val : Nat) < n.val := by decide +kernel
theorem pm_0 : ∀ n : Fin 5, ∀ i : Fin 5, i.val < n.val → pm n.val 0 (i.val : Nat) = (i.val : Nat) := by decide +kernel
def nr1 (q : Int → Int) : Nat → Int → Int
  | 0, r => r
  | f + 1, r => if 0 ≤ r ∧ q (r + 1) < q r then nr1 q f (r - 1) else r
def nr2 (q : Int → Int) (z : Int) : Nat → Int → Int
  | 0, o => o
  | f + 1, o => if z < o ∧ q o < q z then nr2 q z f (o - 1) else o
def swF (q : Int → Int) (a b : Int) : Int → Int := fun i => if i = b then q a else if i = a then q b else q i
def nr3 : Nat → Int → Int → (Int → Int) → (Int → Int)
  | 0, _, _, q => q
  | f + 1, l, r, q => if l < r then nr3 f (l + 1) (r - 1) (swF q l r) else q
def nxR (n : Int) (q : Int → Int) : Int := nr1 q 6 (n - 2)
def nxF (n : Int) (q : Int → Int) : Int → Int := nr3 6 (nxR n q + 1) (n - 1) (swF q (nxR n q) (nr2 q (nxR n q) 6 (n - 1)))
theorem nx_ok : ∀ n : Fin 5, ∀ k : Fin 24, (k.val : Int) < fa n.val → (nxR n.val (pm n.val k.val) < 0 ↔ (k.val : Int) + 1 = fa n.val) ∧ ((k.val : Int) + 1 < fa n.val → ∀ i : Fin 5, i.val < n.val → nxF n.val (pm n.val k.val) (i.val : Nat) = pm n.val (k.val + 1) (i.val : Nat)) := by decide +kernel
/-- the queue holds pl of q -/
def Qr (pl : Int → Int) (n : Int) (C : GG) (q : Int → Int) : Prop := ∀ i, 0 ≤ i → i < n → C 0 0 10 i = pl (q i) ∧ 0 ≤ q i ∧ q i < n
def Mo (pl : Int → Int) (n : Int) : Prop := ∀ i j, 0 ≤ i → i < n → 0 ≤ j → j < n → (pl i < pl j ↔ i < j)
def CQ (C C' : GG) : Prop := ∀ t l i j, ¬ (t = 0 ∧ l = 0 ∧ i = 10) → C' t l i j = C t l i j
theorem CQ_t {A B C : GG} (h1 : CQ A B) (h2 : CQ B C) : CQ A C := fun t l i j q => (h2 t l i j q).trans (h1 t l i j q)
theorem c_nr1 {pl : Int → Int} {n : Int} {C : GG} {q : Int → Int} (n4 : n ≤ 4) (hq : Qr pl n C q) (hm : Mo pl n) : ∀ (f : Nat) (r : Int), -2 ≤ r → r ≤ n - 2 → r < f → Ok (lp (X4_nextQueue_s1 C) r) (fun z => z = nr1 q f r)
  | 0, r, r0, r1, r2 => by
    refine okUn ?_
    unfold X4_nextQueue_s1
    refine okG (fun z => by omega) (okG (fun z => by omega) (okF (fun z => by omega) (okS ?_)))
    rfl
  | f + 1, r, r0, r1, r2 => by
    refine okUn ?_
    unfold X4_nextQueue_s1
    rw [w32_eq (x := r + 1) (by omega) (by omega), w32_eq (x := r + (-1)) (by omega) (by omega)]
    refine okG (fun z => ⟨z, by omega⟩) (okG (fun z => ⟨by omega, by omega⟩) ?_)
    have cm : (0 ≤ r ∧ C 0 0 10 (r + 1) < C 0 0 10 r) ↔ (0 ≤ r ∧ q (r + 1) < q r) := by
      refine and_congr_right (fun h0 => ?_)
      obtain ⟨a1, a2, a3⟩ := hq (r + 1) (by omega) (by omega)
      obtain ⟨b1, b2, b3⟩ := hq r h0 (by omega)
      rw [a1, b1]
      exact hm _ _ a2 a3 b2 b3
    refine okI (fun c => okS ?_) (fun c => okS ?_)
    · show Ok (lp (X4_nextQueue_s1 C) (r + (-1))) _
      unfold nr1
      rw [if_pos (cm.mp c)]
      exact c_nr1 n4 hq hm f (r - 1) (by omega) (by omega) (by omega)
    · show r = nr1 q (f + 1) r
      unfold nr1
      rw [if_neg (fun z => c (cm.mpr z))]
theorem c_nr2 {pl : Int → Int} {n z : Int} {C : GG} {q : Int → Int} (n4 : n ≤ 4) (hq : Qr pl n C q) (hm : Mo pl n) (z0 : 0 ≤ z) : ∀ (f : Nat) (o : Int), z ≤ o → o ≤ n - 1 → o < f → Ok (lp (X4_nextQueue_s2 C z) o) (fun r => r = nr2 q z f o ∧ z ≤ r ∧ r ≤ n - 1)
  | 0, o, r0, r1, r2 => by omega
  | f + 1, o, r0, r1, r2 => by
    refine okUn ?_
    unfold X4_nextQueue_s2
    rw [w32_eq (x := o + (-1)) (by omega) (by omega)]
    refine okG (fun z => ⟨by omega, by omega⟩) (okG (fun z => ⟨by omega, by omega⟩) ?_)
    obtain ⟨a1, a2, a3⟩ := hq o (by omega) (by omega)
    obtain ⟨b1, b2, b3⟩ := hq z (by omega) (by omega)
    have cm : (z < o ∧ C 0 0 10 o < C 0 0 10 z) ↔ (z < o ∧ q o < q z) := by
      rw [a1, b1, hm _ _ a2 a3 b2 b3]
    refine okI (fun c => okS ?_) (fun c => okS ?_)
    · show Ok (lp (X4_nextQueue_s2 C z) (o + (-1))) _
      unfold nr2
      rw [if_pos (cm.mp c)]
      exact c_nr2 n4 hq hm z0 f (o - 1) (by omega) (by omega) (by omega)
    · show o = nr2 q z (f + 1) o ∧ z ≤ o ∧ o ≤ n - 1
      unfold nr2
      rw [if_neg (fun z => c (cm.mpr z))]
      exact ⟨rfl, r0, r1⟩
theorem c_swap {pl : Int → Int} {n : Int} {C : GG} {q : Int → Int} (n4 : n ≤ 4) (hq : Qr pl n C q) {a b : Int} (a0 : 0 ≤ a) (a1 : a < n) (b0 : 0 ≤ b) (b1 : b < n) : Ok (X4_swapQueue C a b) (fun C' => Qr pl n C' (swF q a b) ∧ CQ C C') := by
  unfold X4_swapQueue
  refine okG ⟨a0, by omega⟩ (okL (okG ⟨b0, by omega⟩ (okL (okL (okS ⟨fun i i0 i1 => ?_, fun t l i j h => ?_⟩)))))
  · obtain ⟨p1, p2, p3⟩ := hq i i0 i1
    obtain ⟨q1, q2, q3⟩ := hq a a0 a1
    obtain ⟨r1, r2, r3⟩ := hq b b0 b1
    simp only [hw, swF]
    by_cases e : i = b
    · rw [if_pos ⟨trivial, trivial, trivial, e⟩, if_pos e]
      exact ⟨q1, q2, q3⟩
    · rw [if_neg (fun z => e z.2.2.2), if_neg e]
      by_cases e2 : i = a
      · rw [if_pos ⟨trivial, trivial, trivial, e2⟩, if_pos e2]
        exact ⟨r1, r2, r3⟩
      · rw [if_neg (fun z => e2 z.2.2.2), if_neg e2]
        exact ⟨p1, p2, p3⟩
  · simp only [hw]
    rw [if_neg (fun z => h ⟨z.1, z.2.1, z.2.2.1⟩), if_neg (fun z => h ⟨z.1, z.2.1, z.2.2.1⟩)]
theorem c_nr3 {pl : Int → Int} {n : Int} (n4 : n ≤ 4) : ∀ (f : Nat) (l r : Int) (C : GG) (q : Int → Int), Qr pl n C q → 0 ≤ l → l ≤ n → r ≤ n - 1 → r - l < f → Ok (lp (X4_nextQueue_s3) (l, r, C)) (fun z => Qr pl n z.2.2 (nr3 f l r q) ∧ CQ C z.2.2)
  | 0, l, r, C, q, hq, l0, l1, r1, h => by
    refine okUn ?_
    unfold X4_nextQueue_s3
    refine okF (by simp only; omega) (okS ⟨hq, fun _ _ _ _ _ => rfl⟩)
  | f + 1, l, r, C, q, hq, l0, l1, r1, h => by
    refine okUn ?_
    unfold X4_nextQueue_s3 nr3
    simp only
    by_cases c : l < r
    · rw [if_pos c, if_pos c, w32_eq (x := l + 1) (by omega) (by omega), w32_eq (x := r + (-1)) (by omega) (by omega)]
      refine okB (c_swap n4 hq (a := l) (b := r) (by omega) (by omega) (by omega) (by omega)) ?_
      rintro C' ⟨h1, h2⟩
      refine okS ?_
      show Ok (lp (X4_nextQueue_s3) (l + 1, r - 1, C')) _
      exact okW (c_nr3 n4 f (l + 1) (r - 1) C' _ h1 (by omega) (by omega) (by omega) (by omega)) (fun z y => ⟨y.1, CQ_t h2 y.2⟩)
    · rw [if_neg c, if_neg c]
      exact okS ⟨hq, fun _ _ _ _ _ => rfl⟩
theorem nr1_b (q : Int → Int) : ∀ (f : Nat) (r : Int), nr1 q f r ≤ r
  | 0, r => Int.le_refl r
  | f + 1, r => by
    unfold nr1
    split
    · have := nr1_b q f (r - 1)
      omega
    · exact Int.le_refl r
theorem c_nx {pl : Int → Int} {n : Int} {C : GG} {q : Int → Int} (n0 : 0 ≤ n) (n4 : n ≤ 4) (hq : Qr pl n C q) (hm : Mo pl n) : Ok (X4_nextQueue C n) (fun z => (z.1 = 0 ∧ z.2 = C ∧ nxR n q < 0) ∨ (z.1 = 1 ∧ Qr pl n z.2 (nxF n q) ∧ CQ C z.2 ∧ ¬ nxR n q < 0)) := by
  unfold X4_nextQueue
  rw [w32_eq (x := n - 2) (by omega) (by omega), w32_eq (x := n - 1) (by omega) (by omega)]
  refine okL (okB (c_nr1 n4 hq hm 6 (n - 2) (by omega) (by omega) (by omega)) ?_)
  rintro z rfl
  have rb := nr1_b q 6 (n - 2)
  have e : nxR n q = nr1 q 6 (n - 2) := rfl
  have eF : nxF n q = nr3 6 (nxR n q + 1) (n - 1) (swF q (nxR n q) (nr2 q (nxR n q) 6 (n - 1))) := rfl
  rw [eF, e]
  generalize nr1 q 6 (n - 2) = z at rb
  refine okI (fun h => okS (Or.inl ⟨rfl, rfl, h⟩)) (fun h => okL (okB (c_nr2 n4 hq hm (z := z) (by omega) 6 (n - 1) (by omega) (by omega) (by omega)) ?_))
  rintro o ⟨eo, o1, o2⟩
  subst eo
  rw [w32_eq (x := z + 1) (by omega) (by omega)]
  refine okB (c_swap n4 hq (a := z) (by omega) (by omega) (by omega) (by omega)) ?_
  rintro C' ⟨h1, h2⟩
  refine okL (okL (okB (c_nr3 n4 6 (z + 1) (n - 1) C' _ h1 (by omega) (by omega) (by omega) (by omega)) ?_))
  rintro ⟨w1, w2, C2⟩ ⟨g1, g2⟩
  exact okS (Or.inr ⟨rfl, g1, CQ_t h2 g2, h⟩)
