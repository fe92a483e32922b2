/-! The world of cells by abstract addresses, the judgement J, its rows. -/
/-- a field: none: an int; a fixed reference; a reference told by a number (0: a line; else a row of the model) -/
abbrev Fk : Type := Option (Ad ⊕ Nat)
/-- a cell: an object (its class's place in vwCl, its fields), a row of ints, a row of lines -/
abbrev Sh : Type := (Nat × List Fk) ⊕ (Nat ⊕ Nat)
abbrev iv (x : Int) : Value := .int (Int32.ofInt x)
abbrev lgv (x : Int) : Value := .long (Int64.ofInt x)
def drf (k : Nat) (x : Int) : Option Ad := if x < 0 then none else some (if k = 0 then (1, x.toNat, 0) else (4, 0, x.toNat))
def fv (ad : Ad → Nat) (g : GG) (a : Ad) (k : Nat) (f : Fk) : Value := match f with
  | none => iv (g a.1 a.2.1 a.2.2 (k : Int))
  | some (.inl b) => .ref (ad b)
  | some (.inr q) => va_rf ((drf q (g a.1 a.2.1 a.2.2 (k : Int))).map ad)
def fvs (ad : Ad → Nat) (g : GG) (a : Ad) : Nat → List Fk → List Value
  | _, [] => []
  | k, f :: l => fv ad g a k f :: fvs ad g a (k + 1) l
theorem fvs_len (ad : Ad → Nat) (g : GG) (a : Ad) : ∀ (l : List Fk) (k : Nat), (fvs ad g a k l).length = l.length
  | [], _ => rfl
  | _ :: l, k => congrArg (· + 1) (fvs_len ad g a l (k + 1))
theorem fvs_get (ad : Ad → Nat) (g : GG) (a : Ad) : ∀ (l : List Fk) (b k : Nat) (f : Fk), l[k]? = some f → (fvs ad g a b l)[k]? = some (fv ad g a (b + k) f)
  | [], _, _, _, h => by simp at h
  | f0 :: l, b, 0, f, h => by
    rw [List.getElem?_cons_zero] at h
    cases h
    rfl
  | f0 :: l, b, k + 1, f, h => by
    rw [List.getElem?_cons_succ] at h
    show (fvs ad g a (b + 1) l)[k]? = _
    rw [fvs_get ad g a l (b + 1) k f h, show b + 1 + k = b + (k + 1) by omega]
theorem fv_keep {ad : Ad → Nat} {g g' : GG} {a : Ad} {k : Nat} (f : Fk) (h : g' a.1 a.2.1 a.2.2 (k : Int) = g a.1 a.2.1 a.2.2 (k : Int)) : fv ad g' a k f = fv ad g a k f := by
  unfold fv
  cases f with
  | none => rw [h]
  | some q => cases q with
    | inl b => rfl
    | inr b => simp only [h]
theorem fvs_keep {ad : Ad → Nat} {g g' : GG} {a : Ad} : ∀ (l : List Fk) (b : Nat), (∀ k : Nat, b ≤ k → g' a.1 a.2.1 a.2.2 (k : Int) = g a.1 a.2.1 a.2.2 (k : Int)) → fvs ad g' a b l = fvs ad g a b l
  | [], _, _ => rfl
  | f :: l, b, h => by
    unfold fvs
    rw [fv_keep f (h b (Nat.le_refl _)), fvs_keep l (b + 1) (fun k hk => h k (by omega))]
theorem fvs_set {ad : Ad → Nat} {g g' : GG} {a : Ad} : ∀ (l : List Fk) (b k : Nat) (f : Fk), l[k]? = some f → (∀ j : Nat, j ≠ b + k → g' a.1 a.2.1 a.2.2 (j : Int) = g a.1 a.2.1 a.2.2 (j : Int)) → (fvs ad g a b l).set k (fv ad g' a (b + k) f) = fvs ad g' a b l
  | [], _, _, _, h, _ => by simp at h
  | f0 :: l, b, 0, f, h, hk => by
    rw [List.getElem?_cons_zero] at h
    cases h
    show fv ad g' a (b + 0) f0 :: fvs ad g a (b + 1) l = fv ad g' a b f0 :: fvs ad g' a (b + 1) l
    rw [fvs_keep (g := g) (g' := g') l (b + 1) (fun j hj => hk j (by omega))]
    rfl
  | f0 :: l, b, k + 1, f, h, hk => by
    rw [List.getElem?_cons_succ] at h
    show fv ad g a b f0 :: (fvs ad g a (b + 1) l).set k (fv ad g' a (b + (k + 1)) f) = fv ad g' a b f0 :: fvs ad g' a (b + 1) l
    rw [show b + (k + 1) = b + 1 + k by omega, fvs_set l (b + 1) k f h (fun j hj => hk j (by omega)), fv_keep (g := g) (g' := g') f0 (hk b (by omega))]
def cel (cI cQ : ClassId) (ad : Ad → Nat) (g : GG) (a : Ad) (h : Sh) : va_E := match h with
  | .inl q => .inr (q.1, fvs ad g a 0 q.2)
  | .inr (.inl n) => .inl (cI, n, .inl (fun j => Int32.ofInt (g a.1 a.2.1 a.2.2 (j : Int))))
  | .inr (.inr n) => .inl (cQ, n, .inr (.inr (.inr (.inr (fun j => (drf 0 (g a.1 a.2.1 a.2.2 (j : Int))).map ad)))))
def wsO (cI cQ : ClassId) (ad : Ad → Nat) (W0 : List (Ad × Sh)) (g : GG) : va_W := W0.map (fun q => (ad q.1, cel cI cQ ad g q.1 q.2))
theorem cel_keep {cI cQ : ClassId} {ad : Ad → Nat} {g g' : GG} {a : Ad} (h : Sh) (e : ∀ j : Int, g' a.1 a.2.1 a.2.2 j = g a.1 a.2.1 a.2.2 j) : cel cI cQ ad g' a h = cel cI cQ ad g a h := by
  unfold cel
  cases h with
  | inl q => simp only [fvs_keep (g := g) (g' := g') q.2 0 (fun k _ => e k)]
  | inr q => cases q with
    | inl n => simp only [e]
    | inr n => simp only [e]
/-- each abstract address has one cell -/
def WOk (W0 : List (Ad × Sh)) : Prop := ∀ (i j : Nat) (p q : Ad × Sh), W0[i]? = some p → W0[j]? = some q → p.1 = q.1 → i = j
theorem wsO_at {cI cQ : ClassId} {ad : Ad → Nat} {W0 : List (Ad × Sh)} {g : GG} {q0 : Nat} {a : Ad} {h : Sh} (hq : W0[q0]? = some (a, h)) : (wsO cI cQ ad W0 g)[q0]? = some (ad a, cel cI cQ ad g a h) := by
  unfold wsO
  rw [List.getElem?_map, hq]
  rfl
theorem wsO_set {cI cQ : ClassId} {ad : Ad → Nat} {W0 : List (Ad × Sh)} {g g' : GG} {q0 : Nat} {a : Ad} {h : Sh} (hW : WOk W0) (hq : W0[q0]? = some (a, h)) (e : ∀ (b : Ad), b ≠ a → ∀ j : Int, g' b.1 b.2.1 b.2.2 j = g b.1 b.2.1 b.2.2 j) : (wsO cI cQ ad W0 g).set q0 (ad a, cel cI cQ ad g' a h) = wsO cI cQ ad W0 g' := by
  apply List.ext_getElem?
  intro i
  have hl : q0 < W0.length := (List.getElem?_eq_some_iff.mp hq).1
  by_cases hi : i = q0
  · subst hi
    rw [List.getElem?_set_self (by unfold wsO; rw [List.length_map]; exact hl), wsO_at hq]
  · rw [List.getElem?_set_ne (Ne.symm hi)]
    unfold wsO
    rw [List.getElem?_map, List.getElem?_map]
    cases hw : W0[i]? with
    | none => rfl
    | some q =>
      have hne : q.1 ≠ a := fun z => hi (hW i q0 q (a, h) hw hq z)
      show some (ad q.1, cel cI cQ ad g q.1 q.2) = some (ad q.1, cel cI cQ ad g' q.1 q.2)
      rw [cel_keep (g := g) (g' := g') q.2 (e q.1 hne)]
theorem wsO_A {cI cQ : ClassId} {ad : Ad → Nat} {W0 : List (Ad × Sh)} {g g' : GG} {sz : Nat} {q : Nat} (h : va_A (wsO cI cQ ad W0 g) sz q) : va_A (wsO cI cQ ad W0 g') sz q := by
  rcases h with ⟨k, e, h⟩ | h
  · unfold wsO at h
    rw [List.getElem?_map] at h
    cases hk : W0[k]? with
    | none => rw [hk] at h; cases h
    | some z =>
      rw [hk] at h
      have h1 : (ad z.1, cel cI cQ ad g z.1 z.2) = (q, e) := Option.some.inj h
      refine Or.inl ⟨k, cel cI cQ ad g' z.1 z.2, ?_⟩
      unfold wsO
      rw [List.getElem?_map, hk, ← (Prod.mk.inj h1).1]
      rfl
  · exact Or.inr h
def RgG (g : GG) : Prop := ∀ (t l i : Nat) (j : Int), Rg (g t l i j)
theorem RgG_hw {g : GG} {a : Ad} {j v : Int} (h : RgG g) (hv : Rg v) : RgG (hw g a j v) := by
  intro t l i j'
  unfold hw
  split
  · exact hv
  · exact h t l i j'
theorem RgG_hcp {g : GG} {a b : Ad} {n : Int} (h : RgG g) : RgG (hcp g a b n) := by
  intro t l i j'
  unfold hcp
  split
  · exact h _ _ _ _
  · exact h t l i j'
theorem hw_other {g : GG} {a : Ad} {j v : Int} {b : Ad} (h : b ≠ a) (j' : Int) : hw g a j v b.1 b.2.1 b.2.2 j' = g b.1 b.2.1 b.2.2 j' := by
  unfold hw
  rw [if_neg]
  rintro ⟨h1, h2, h3, -⟩
  exact h (Prod.ext h1 (Prod.ext h2 h3))
theorem hw_own {g : GG} {a : Ad} {j v : Int} {j' : Int} (h : j' ≠ j) : hw g a j v a.1 a.2.1 a.2.2 j' = g a.1 a.2.1 a.2.2 j' := by
  unfold hw
  rw [if_neg]
  rintro ⟨-, -, -, h4⟩
  exact h h4
theorem hw_same (g : GG) (a : Ad) (j v : Int) : hw g a j v a.1 a.2.1 a.2.2 j = v := by
  unfold hw
  rw [if_pos ⟨rfl, rfl, rfl, rfl⟩]
def lw_tb : List Cond := lw_tbl.filter goodWord
def tyS (cI cQ : ClassId) : List (ClassId × FieldType) := [(cI, .int), (cQ, .object RX2)]
abbrev Cx : Type := Program × Launch × Env × Room × State × MethodId × Array Value × List Frame × Method × Code × (Nat × Nat) × va_G × (ClassId × ClassId) × (Ad → Nat) × List (Ad × Sh) × (Nat → Prop) × (State → Prop)
def xad (X : Cx) : Ad → Nat := X.2.2.2.2.2.2.2.2.2.2.2.2.2.1
def xl (X : Cx) : Launch := X.2.1
def J (X : Cx) (pc : Nat) (lv : List (Nat × Value)) (st : List Value) (g : GG) : Prop := match X with
  | (p, l, e, R, s, m, args, below, meth, c, (ce, sl), D, (cI, cQ), ad, WL, A, Q) => ∀ (H : Heap) (locs : List Loc) (ls : Array Slot), va_P D vwCl (wsO cI cQ ad WL g) H → va_D A (wsO cI cQ ad WL g) → va_S A s.heap H locs → RgG g → lv_has ls c.maxLocals lv → W p l e R s m args below meth c H locs ce sl Q (F0 m pc ls st)
def FX (X : Cx) (cc : ByteArray) (own : String) (nL : Nat) (rt : Option FieldType) (W0 : List (Ad × Sh)) (d : Nat) : Prop := match X with
  | (p, l, e, R, s, m, args, below, meth, c, (ce, sl), D, (cI, cQ), ad, WL, A, Q) => p.tables.exec = Jvm.exec ∧ c.code = cc ∧ c.maxLocals = nL ∧ s.vm.findClass own = some m.cls ∧ (∀ w ∈ lw_tb, w.before args s = true) ∧ va_K D vwCl (tyS cI cQ) s ∧ (∀ q : Nat, s.heap.size ≤ q → A q) ∧ meth.locks = false ∧ meth.sig.returnType = rt ∧ (WL = W0 ∧ WOk W0) ∧ d ≤ R.frames ∧ 36 * d ≤ R.locals ∧ ce ≤ R.cells ∧ sl ≤ R.slots
def QG (D : va_G) (cI cQ : ClassId) (ad : Ad → Nat) (W0 : List (Ad × Sh)) (Qp : Option Value → GG → Prop) (A : Nat → Prop) : Array Value → State → Outcome → State → Prop := fun _ st oc t => (∃ (r : Option Value) (g' : GG), oc = .returned r ∧ Qp r g' ∧ va_P D vwCl (wsO cI cQ ad W0 g') t.heap ∧ va_K D vwCl (tyS cI cQ) t ∧ va_D A (wsO cI cQ ad W0 g') ∧ RgG g') ∧ va_F A st t
def RTX (X : Cx) (Qp : Option Value → GG → Prop) : Prop := match X with
  | (p, l, e, R, s, m, args, below, meth, c, (ce, sl), D, (cI, cQ), ad, WL, A, Q) => Q = MQ below (QG D cI cQ ad WL Qp A) args s ce sl A
def rmL (d : Nat) : Room := { frames := d, cells := 0, slots := 0, locals := 36 * d }
def MetG (W0 : List (Ad × Sh)) (y : MethodName) (cc : ByteArray) (maxL : Nat) (ret : Option FieldType) (d : Nat) (av : (Ad → Nat) → List Value) (g : GG) (Qp : Option Value → GG → Prop) : Prop :=
  ∀ (l : Launch) (D : va_G) (cI cQ : ClassId) (ad : Ad → Nat) (sz : Nat), Met l y (Cond.code y cc maxL ret :: lw_tb) (rmL d) (va_Pc (av ad) (fun U => U.heap.size = sz ∧ va_P D vwCl (wsO cI cQ ad W0 g) U.heap ∧ va_K D vwCl (tyS cI cQ) U ∧ va_D (fun _ => True) (wsO cI cQ ad W0 g) ∧ RgG g)) (QG D cI cQ ad W0 Qp (va_A (wsO cI cQ ad W0 g) sz)) 0 0 (va_A (wsO cI cQ ad W0 g) sz)
set_option maxHeartbeats 1000000 in
theorem met_intro {W0 : List (Ad × Sh)} {y : MethodName} {cc : ByteArray} {maxL : Nat} {ret : Option FieldType} {d : Nat} {av : (Ad → Nat) → List Value} {g : GG} {Qp : Option Value → GG → Prop} (hW : WOk W0) (hy : plainName y.cls = true) (hlen : ∀ ad, (lg_sl (av ad)).length ≤ maxL)
    (B : ∀ X : Cx, FX X cc y.cls maxL ret W0 d → RTX X Qp → RgG g → J X 0 (lv_args 0 (av (xad X))) [] g) : MetG W0 y cc maxL ret d av g Qp := by
  intro l D cI cQ ad sz
  refine Met.ofW (cc := cc) (maxL := maxL) (ret := ret) hy rfl ?_
  intro p e s m args below meth c s₁ B0 hml hv
  obtain ⟨rfl, hsz, hP, hK, hD0, hR⟩ := hv
  have hts := atoms_spec (ws := Cond.code y cc maxL ret :: lw_tb) B0.pre
  have hown : s.vm.findClass y.cls = some m.cls := findClass_of_methodNamed B0.named
  subst hsz
  have hD := hD0.self (sz := s.heap.size)
  have hl := lv_entry (av ad) (n := maxL) (hlen ad)
  rw [lg_entry_eq]
  have K := B (p, l, e, rmL d, s, m, (av ad).toArray, below, meth, c, (0, 0), D, (cI, cQ), ad, W0, va_A (wsO cI cQ ad W0 g) s.heap.size, MQ below (QG D cI cQ ad W0 Qp (va_A (wsO cI cQ ad W0 g) s.heap.size)) (av ad).toArray s 0 0 (va_A (wsO cI cQ ad W0 g) s.heap.size))
    ⟨B0.exec, B0.bytes, hml, hown, fun w h => hts w (List.mem_cons_of_mem _ h), hK, fun q h => Or.inr h, B0.notSynchronized, B0.returns, ⟨rfl, hW⟩, Nat.le_refl _, Nat.le_refl _, Nat.zero_le _, Nat.zero_le _⟩ rfl hR
  exact K s.heap [] _ hP hD va_S.rf hR (by rw [hml]; exact hl)
theorem i32_w (x : Int) : Int32.ofInt (w32 x) = Int32.ofInt x := by
  apply Int32.toInt_inj.mp
  rw [Int32.toInt_ofInt, Int32.toInt_ofInt]
  exact Int.bmod_bmod
theorem i64_w (x : Int) : Int64.ofInt (w64 x) = Int64.ofInt x := by
  apply Int64.toInt_inj.mp
  rw [Int64.toInt_ofInt, Int64.toInt_ofInt]
  exact Int.bmod_bmod
theorem rg_0 : Rg 0 := by unfold Rg; omega
theorem i32_to {x : Int} (h : Rg x) : (Int32.ofInt x).toInt = x := Int32.toInt_ofInt_of_le (by have := h.1; omega) (by have := h.2; omega)
theorem i64_to {x : Int} (h : Rl x) : (Int64.ofInt x).toInt = x := Int64.toInt_ofInt_of_le (by have := h.1; omega) (by have := h.2; omega)
theorem i32_of {x : Int32} : Int32.ofInt x.toInt = x := Int32.ofInt_toInt x
theorem i32_lt {x y : Int} (hx : Rg x) (hy : Rg y) : Int32.ofInt x < Int32.ofInt y ↔ x < y := by rw [Int32.lt_iff_toInt_lt, i32_to hx, i32_to hy]
theorem i32_le {x y : Int} (hx : Rg x) (hy : Rg y) : Int32.ofInt x ≤ Int32.ofInt y ↔ x ≤ y := by rw [Int32.le_iff_toInt_le, i32_to hx, i32_to hy]
theorem i32_eq {x y : Int} (hx : Rg x) (hy : Rg y) : Int32.ofInt x = Int32.ofInt y ↔ x = y := by rw [← Int32.toInt_inj, i32_to hx, i32_to hy]
theorem i32_ne0 {y : Int} (hy : Rg y) (h : ¬ y = 0) : ¬ Int32.ofInt y = 0 := fun q => h ((i32_eq hy rg_0).mp q)
theorem i64_ne0 {y : Int} (hy : Rl y) (h : ¬ y = 0) : ¬ Int64.ofInt y = 0 := by
  intro q
  have q2 : Int64.ofInt y = Int64.ofInt 0 := q
  rw [← Int64.toInt_inj, i64_to hy, i64_to (by unfold Rl; omega)] at q2
  exact h q2
theorem i32_div {x y : Int} (hx : Rg x) (hy : Rg y) : Int32.ofInt (jdiv x y) = Int32.ofInt x / Int32.ofInt y := by
  apply Int32.toInt_inj.mp
  rw [Int32.toInt_div, i32_to hx, i32_to hy]
  unfold jdiv
  rw [i32_w, Int32.toInt_ofInt]
theorem i64_div {x y : Int} (hx : Rl x) (hy : Rl y) : Int64.ofInt (ldvi x y) = Int64.ofInt x / Int64.ofInt y := by
  apply Int64.toInt_inj.mp
  rw [Int64.toInt_div, i64_to hx, i64_to hy]
  unfold ldvi
  rw [i64_w, Int64.toInt_ofInt]
theorem i32_rem {x y : Int} (hx : Rg x) (hy : Rg y) : Int32.ofInt (jrem x y) = Int32.ofInt x - Int32.ofInt x / Int32.ofInt y * Int32.ofInt y := by
  rw [← i32_div hx hy, ← Int32.ofInt_mul, ← Int32.ofInt_sub]
  apply Int32.toInt_inj.mp
  rw [Int32.toInt_ofInt, Int32.toInt_ofInt]
  unfold jrem jdiv w32
  rw [Int.tmod_def]
  have e : ∀ a b c : Int, Int.bmod (a - b * c) 4294967296 = Int.bmod (a - (Int.bmod b 4294967296) * c) 4294967296 := by
    intro a b c
    rw [← Int.sub_bmod_bmod, ← Int.bmod_mul_bmod, Int.sub_bmod_bmod]
  show Int.bmod (x - y * Int.tdiv x y) 4294967296 = Int.bmod (x - (Int.bmod (Int.tdiv x y) 4294967296) * y) 4294967296
  rw [← e, Int.mul_comm]
theorem i64_rem {x y : Int} (hx : Rl x) (hy : Rl y) : Int64.ofInt (lrmi x y) = Int64.ofInt x - Int64.ofInt x / Int64.ofInt y * Int64.ofInt y := by
  rw [← i64_div hx hy, ← Int64.ofInt_mul, ← Int64.ofInt_sub]
  apply Int64.toInt_inj.mp
  rw [Int64.toInt_ofInt, Int64.toInt_ofInt]
  unfold lrmi ldvi w64
  rw [Int.tmod_def]
  have e : ∀ a b c : Int, Int.bmod (a - b * c) 18446744073709551616 = Int.bmod (a - (Int.bmod b 18446744073709551616) * c) 18446744073709551616 := by
    intro a b c
    rw [← Int.sub_bmod_bmod, ← Int.bmod_mul_bmod, Int.sub_bmod_bmod]
  show Int.bmod (x - y * Int.tdiv x y) 18446744073709551616 = Int.bmod (x - (Int.bmod (Int.tdiv x y) 18446744073709551616) * y) 18446744073709551616
  rw [← e, Int.mul_comm]
theorem i32_64 {x : Int} (h : Rg x) : (Int32.ofInt x).toInt64 = Int64.ofInt x := by
  apply Int64.toInt_inj.mp
  rw [Int32.toInt_toInt64, i32_to h, i64_to (rl_rg h)]
theorem lg_cmp3 {x y : Int} (hx : Rl x) (hy : Rl y) : (x < y ∧ lg_cmp (Int64.ofInt x) (Int64.ofInt y) = -1) ∨ (x = y ∧ lg_cmp (Int64.ofInt x) (Int64.ofInt y) = 0) ∨ (y < x ∧ lg_cmp (Int64.ofInt x) (Int64.ofInt y) = 1) := by
  unfold lg_cmp
  simp only [gt_iff_lt, Int64.lt_iff_toInt_lt, ← Int64.toInt_inj, i64_to hx, i64_to hy]
  rcases Int.lt_trichotomy x y with h | h | h
  · exact Or.inl ⟨h, by rw [if_neg (by omega), if_neg (by omega)]⟩
  · exact Or.inr (Or.inl ⟨h, by rw [if_neg (by omega), if_pos h]⟩)
  · exact Or.inr (Or.inr ⟨h, by rw [if_pos h]⟩)
theorem i32_lt_t {x y : Int} (hx : Rg x) (hy : Rg y) (q : Int32.ofInt x < Int32.ofInt y) : x < y := (i32_lt hx hy).mp q
theorem i32_lt_f {x y : Int} (hx : Rg x) (hy : Rg y) (q : ¬ (Int32.ofInt x < Int32.ofInt y)) : y ≤ x := Int.not_lt.mp (fun z => q ((i32_lt hx hy).mpr z))
theorem i64_lt_t {x y : Int} (hx : Rl x) (hy : Rl y) (q : (lg_cmp (Int64.ofInt x) (Int64.ofInt y) < 0)) : x < y := by
  have h := lg_cmp3 hx hy
  rcases h with ⟨h1, h2⟩ | ⟨h1, h2⟩ | ⟨h1, h2⟩ <;> rw [h2] at q <;> first | omega | exact absurd q (by decide) | exact absurd (by decide) q
theorem i64_lt_f {x y : Int} (hx : Rl x) (hy : Rl y) (q : ¬ (lg_cmp (Int64.ofInt x) (Int64.ofInt y) < 0)) : y ≤ x := by
  have h := lg_cmp3 hx hy
  rcases h with ⟨h1, h2⟩ | ⟨h1, h2⟩ | ⟨h1, h2⟩ <;> rw [h2] at q <;> first | omega | exact absurd q (by decide) | exact absurd (by decide) q
theorem i32_ge_t {x y : Int} (hx : Rg x) (hy : Rg y) (q : Int32.ofInt y ≤ Int32.ofInt x) : y ≤ x := (i32_le hy hx).mp q
theorem i32_ge_f {x y : Int} (hx : Rg x) (hy : Rg y) (q : ¬ (Int32.ofInt y ≤ Int32.ofInt x)) : x < y := Int.not_le.mp (fun z => q ((i32_le hy hx).mpr z))
theorem i64_ge_t {x y : Int} (hx : Rl x) (hy : Rl y) (q : (0 ≤ lg_cmp (Int64.ofInt x) (Int64.ofInt y))) : y ≤ x := by
  have h := lg_cmp3 hx hy
  rcases h with ⟨h1, h2⟩ | ⟨h1, h2⟩ | ⟨h1, h2⟩ <;> rw [h2] at q <;> first | omega | exact absurd q (by decide) | exact absurd (by decide) q
theorem i64_ge_f {x y : Int} (hx : Rl x) (hy : Rl y) (q : ¬ (0 ≤ lg_cmp (Int64.ofInt x) (Int64.ofInt y))) : x < y := by
  have h := lg_cmp3 hx hy
  rcases h with ⟨h1, h2⟩ | ⟨h1, h2⟩ | ⟨h1, h2⟩ <;> rw [h2] at q <;> first | omega | exact absurd q (by decide) | exact absurd (by decide) q
theorem i32_gt_t {x y : Int} (hx : Rg x) (hy : Rg y) (q : Int32.ofInt y < Int32.ofInt x) : y < x := (i32_lt hy hx).mp q
theorem i32_gt_f {x y : Int} (hx : Rg x) (hy : Rg y) (q : ¬ (Int32.ofInt y < Int32.ofInt x)) : x ≤ y := Int.not_lt.mp (fun z => q ((i32_lt hy hx).mpr z))
theorem i64_gt_t {x y : Int} (hx : Rl x) (hy : Rl y) (q : (0 < lg_cmp (Int64.ofInt x) (Int64.ofInt y))) : y < x := by
  have h := lg_cmp3 hx hy
  rcases h with ⟨h1, h2⟩ | ⟨h1, h2⟩ | ⟨h1, h2⟩ <;> rw [h2] at q <;> first | omega | exact absurd q (by decide) | exact absurd (by decide) q
theorem i64_gt_f {x y : Int} (hx : Rl x) (hy : Rl y) (q : ¬ (0 < lg_cmp (Int64.ofInt x) (Int64.ofInt y))) : x ≤ y := by
  have h := lg_cmp3 hx hy
  rcases h with ⟨h1, h2⟩ | ⟨h1, h2⟩ | ⟨h1, h2⟩ <;> rw [h2] at q <;> first | omega | exact absurd q (by decide) | exact absurd (by decide) q
theorem i32_le_t {x y : Int} (hx : Rg x) (hy : Rg y) (q : Int32.ofInt x ≤ Int32.ofInt y) : x ≤ y := (i32_le hx hy).mp q
theorem i32_le_f {x y : Int} (hx : Rg x) (hy : Rg y) (q : ¬ (Int32.ofInt x ≤ Int32.ofInt y)) : y < x := Int.not_le.mp (fun z => q ((i32_le hx hy).mpr z))
theorem i64_le_t {x y : Int} (hx : Rl x) (hy : Rl y) (q : (lg_cmp (Int64.ofInt x) (Int64.ofInt y) ≤ 0)) : x ≤ y := by
  have h := lg_cmp3 hx hy
  rcases h with ⟨h1, h2⟩ | ⟨h1, h2⟩ | ⟨h1, h2⟩ <;> rw [h2] at q <;> first | omega | exact absurd q (by decide) | exact absurd (by decide) q
theorem i64_le_f {x y : Int} (hx : Rl x) (hy : Rl y) (q : ¬ (lg_cmp (Int64.ofInt x) (Int64.ofInt y) ≤ 0)) : y < x := by
  have h := lg_cmp3 hx hy
  rcases h with ⟨h1, h2⟩ | ⟨h1, h2⟩ | ⟨h1, h2⟩ <;> rw [h2] at q <;> first | omega | exact absurd q (by decide) | exact absurd (by decide) q
theorem i32_eq_t {x y : Int} (hx : Rg x) (hy : Rg y) (q : Int32.ofInt x = Int32.ofInt y) : x = y := (i32_eq hx hy).mp q
theorem i32_eq_f {x y : Int} (hx : Rg x) (hy : Rg y) (q : ¬ (Int32.ofInt x = Int32.ofInt y)) : ¬ x = y := fun z => q ((i32_eq hx hy).mpr z)
theorem i64_eq_t {x y : Int} (hx : Rl x) (hy : Rl y) (q : (lg_cmp (Int64.ofInt x) (Int64.ofInt y) = 0)) : x = y := by
  have h := lg_cmp3 hx hy
  rcases h with ⟨h1, h2⟩ | ⟨h1, h2⟩ | ⟨h1, h2⟩ <;> rw [h2] at q <;> first | omega | exact absurd q (by decide) | exact absurd (by decide) q
theorem i64_eq_f {x y : Int} (hx : Rl x) (hy : Rl y) (q : ¬ (lg_cmp (Int64.ofInt x) (Int64.ofInt y) = 0)) : ¬ x = y := by
  have h := lg_cmp3 hx hy
  rcases h with ⟨h1, h2⟩ | ⟨h1, h2⟩ | ⟨h1, h2⟩ <;> rw [h2] at q <;> first | omega | exact absurd q (by decide) | exact absurd (by decide) q
theorem i32_ne_t {x y : Int} (hx : Rg x) (hy : Rg y) (q : ¬ Int32.ofInt x = Int32.ofInt y) : ¬ x = y := fun z => q ((i32_eq hx hy).mpr z)
theorem i32_ne_f {x y : Int} (hx : Rg x) (hy : Rg y) (q : Int32.ofInt x = Int32.ofInt y) : x = y := (i32_eq hx hy).mp q
theorem i64_ne_t {x y : Int} (hx : Rl x) (hy : Rl y) (q : (¬ lg_cmp (Int64.ofInt x) (Int64.ofInt y) = 0)) : ¬ x = y := by
  have h := lg_cmp3 hx hy
  rcases h with ⟨h1, h2⟩ | ⟨h1, h2⟩ | ⟨h1, h2⟩ <;> rw [h2] at q <;> first | omega | exact absurd q (by decide) | exact absurd (by decide) q
theorem i64_ne_f {x y : Int} (hx : Rl x) (hy : Rl y) (q : (lg_cmp (Int64.ofInt x) (Int64.ofInt y) = 0)) : x = y := by
  have h := lg_cmp3 hx hy
  rcases h with ⟨h1, h2⟩ | ⟨h1, h2⟩ | ⟨h1, h2⟩ <;> rw [h2] at q <;> first | omega | exact absurd q (by decide) | exact absurd (by decide) q
theorem jr_iconst {X : Cx} {cc : ByteArray} {own : String} {nL : Nat} {rt : Option FieldType} {W0 : List (Ad × Sh)} {d : Nat} (F : FX X cc own nL rt W0 d) {pc : Nat} {lv : List (Nat × Value)} {st : List Value} {g : GG} {n : Int} (hd : decode cc pc = .ok (.iconst n, 1)) (K : J X (pc + 1) lv (iv n :: st) g) : J X pc lv st g := by
  obtain ⟨p, l, e, R, s, m, args, below, meth, c, ⟨ce, sl⟩, D, ⟨cI, cQ⟩, ad, WL, A, Q⟩ := X
  obtain ⟨hx, hb, hml, hown, hts, hK, hA, hlk, hrt, hWL, hfr, hlo, hce, hsl⟩ := F
  intro H locs ls hP hD hS hR hl'
  exact lv_iconst hx hb hd rfl (K H locs ls hP hD hS hR hl')
theorem jr_bipush {X : Cx} {cc : ByteArray} {own : String} {nL : Nat} {rt : Option FieldType} {W0 : List (Ad × Sh)} {d : Nat} (F : FX X cc own nL rt W0 d) {pc : Nat} {lv : List (Nat × Value)} {st : List Value} {g : GG} {n : Int} (hd : decode cc pc = .ok (.bipush n, 2)) (hn : (Int8.ofInt n).toInt32 = Int32.ofInt n) (K : J X (pc + 2) lv (iv n :: st) g) : J X pc lv st g := by
  obtain ⟨p, l, e, R, s, m, args, below, meth, c, ⟨ce, sl⟩, D, ⟨cI, cQ⟩, ad, WL, A, Q⟩ := X
  obtain ⟨hx, hb, hml, hown, hts, hK, hA, hlk, hrt, hWL, hfr, hlo, hce, hsl⟩ := F
  intro H locs ls hP hD hS hR hl'
  exact lv_bipush hx hb hd hn (K H locs ls hP hD hS hR hl')
theorem jr_sipush {X : Cx} {cc : ByteArray} {own : String} {nL : Nat} {rt : Option FieldType} {W0 : List (Ad × Sh)} {d : Nat} (F : FX X cc own nL rt W0 d) {pc : Nat} {lv : List (Nat × Value)} {st : List Value} {g : GG} {n : Int} (hd : decode cc pc = .ok (.sipush n, 3)) (hn : (Int16.ofInt n).toInt32 = Int32.ofInt n) (K : J X (pc + 3) lv (iv n :: st) g) : J X pc lv st g := by
  obtain ⟨p, l, e, R, s, m, args, below, meth, c, ⟨ce, sl⟩, D, ⟨cI, cQ⟩, ad, WL, A, Q⟩ := X
  obtain ⟨hx, hb, hml, hown, hts, hK, hA, hlk, hrt, hWL, hfr, hlo, hce, hsl⟩ := F
  intro H locs ls hP hD hS hR hl'
  exact lv_sipush hx hb hd hn (K H locs ls hP hD hS hR hl')
theorem jr_lconst {X : Cx} {cc : ByteArray} {own : String} {nL : Nat} {rt : Option FieldType} {W0 : List (Ad × Sh)} {d : Nat} (F : FX X cc own nL rt W0 d) {pc : Nat} {lv : List (Nat × Value)} {st : List Value} {g : GG} {n : Fin 2} {v : Int} (hd : decode cc pc = .ok (.lconst n, 1)) (hn : Int64.ofNat (n : Nat) = Int64.ofInt v) (K : J X (pc + 1) lv (lgv v :: st) g) : J X pc lv st g := by
  obtain ⟨p, l, e, R, s, m, args, below, meth, c, ⟨ce, sl⟩, D, ⟨cI, cQ⟩, ad, WL, A, Q⟩ := X
  obtain ⟨hx, hb, hml, hown, hts, hK, hA, hlk, hrt, hWL, hfr, hlo, hce, hsl⟩ := F
  intro H locs ls hP hD hS hR hl'
  exact lv_lconst hx hb hd hn (K H locs ls hP hD hS hR hl')
theorem jr_ldc {X : Cx} {cc : ByteArray} {own : String} {nL : Nat} {rt : Option FieldType} {W0 : List (Ad × Sh)} {d : Nat} (F : FX X cc own nL rt W0 d) {pc : Nat} {lv : List (Nat × Value)} {st : List Value} {g : GG} {i : Nat} {v : Int} (hc : Cond.constant own i (Int32.ofInt v) ∈ lw_tb) (hd : decode cc pc = .ok (.ldc i, 2)) (K : J X (pc + 2) lv (iv v :: st) g) : J X pc lv st g := by
  obtain ⟨p, l, e, R, s, m, args, below, meth, c, ⟨ce, sl⟩, D, ⟨cI, cQ⟩, ad, WL, A, Q⟩ := X
  obtain ⟨hx, hb, hml, hown, hts, hK, hA, hlk, hrt, hWL, hfr, hlo, hce, hsl⟩ := F
  intro H locs ls hP hD hS hR hl'
  exact lv_ldc hx hb hown (hts _ hc) hd (K H locs ls hP hD hS hR hl')
theorem jr_ldcw {X : Cx} {cc : ByteArray} {own : String} {nL : Nat} {rt : Option FieldType} {W0 : List (Ad × Sh)} {d : Nat} (F : FX X cc own nL rt W0 d) {pc : Nat} {lv : List (Nat × Value)} {st : List Value} {g : GG} {i : Nat} {v : Int} (hc : Cond.constant own i (Int32.ofInt v) ∈ lw_tb) (hd : decode cc pc = .ok (.ldc_w i, 3)) (K : J X (pc + 3) lv (iv v :: st) g) : J X pc lv st g := by
  obtain ⟨p, l, e, R, s, m, args, below, meth, c, ⟨ce, sl⟩, D, ⟨cI, cQ⟩, ad, WL, A, Q⟩ := X
  obtain ⟨hx, hb, hml, hown, hts, hK, hA, hlk, hrt, hWL, hfr, hlo, hce, hsl⟩ := F
  intro H locs ls hP hD hS hR hl'
  exact lv_ldcw hx hb hown (hts _ hc) hd (K H locs ls hP hD hS hR hl')
theorem jr_ldc2 {X : Cx} {cc : ByteArray} {own : String} {nL : Nat} {rt : Option FieldType} {W0 : List (Ad × Sh)} {d : Nat} (F : FX X cc own nL rt W0 d) {pc : Nat} {lv : List (Nat × Value)} {st : List Value} {g : GG} {i : Nat} {v : Int} (hc : Cond.constantLong own i (Int64.ofInt v) ∈ lw_tb) (hd : decode cc pc = .ok (.ldc2_w i, 3)) (K : J X (pc + 3) lv (lgv v :: st) g) : J X pc lv st g := by
  obtain ⟨p, l, e, R, s, m, args, below, meth, c, ⟨ce, sl⟩, D, ⟨cI, cQ⟩, ad, WL, A, Q⟩ := X
  obtain ⟨hx, hb, hml, hown, hts, hK, hA, hlk, hrt, hWL, hfr, hlo, hce, hsl⟩ := F
  intro H locs ls hP hD hS hR hl'
  exact lv_ldc2 hx hb hown (hts _ hc) hd (K H locs ls hP hD hS hR hl')
theorem jr_iload_n {X : Cx} {cc : ByteArray} {own : String} {nL : Nat} {rt : Option FieldType} {W0 : List (Ad × Sh)} {d : Nat} (F : FX X cc own nL rt W0 d) {pc : Nat} {lv : List (Nat × Value)} {st : List Value} {g : GG} {k : Fin 4} {i : Nat} {x : Int32} (q : Nat) (hd : decode cc pc = .ok (.iload_n k, 1)) (hi : (k : Nat) = i) (hl : lv[q]? = some (i, .int x)) (K : J X (pc + 1) lv (.int x :: st) g) : J X pc lv st g := by
  obtain ⟨p, l, e, R, s, m, args, below, meth, c, ⟨ce, sl⟩, D, ⟨cI, cQ⟩, ad, WL, A, Q⟩ := X
  obtain ⟨hx, hb, hml, hown, hts, hK, hA, hlk, hrt, hWL, hfr, hlo, hce, hsl⟩ := F
  intro H locs ls hP hD hS hR hl'
  exact lv_iload_n hx hb hd hi (lv_at hl' q hl) (K H locs ls hP hD hS hR hl')
theorem jr_iload {X : Cx} {cc : ByteArray} {own : String} {nL : Nat} {rt : Option FieldType} {W0 : List (Ad × Sh)} {d : Nat} (F : FX X cc own nL rt W0 d) {pc : Nat} {lv : List (Nat × Value)} {st : List Value} {g : GG} {i : Nat} {x : Int32} (q : Nat) (hd : decode cc pc = .ok (.iload i, 2)) (hl : lv[q]? = some (i, .int x)) (K : J X (pc + 2) lv (.int x :: st) g) : J X pc lv st g := by
  obtain ⟨p, l, e, R, s, m, args, below, meth, c, ⟨ce, sl⟩, D, ⟨cI, cQ⟩, ad, WL, A, Q⟩ := X
  obtain ⟨hx, hb, hml, hown, hts, hK, hA, hlk, hrt, hWL, hfr, hlo, hce, hsl⟩ := F
  intro H locs ls hP hD hS hR hl'
  exact lv_iload hx hb hd (lv_at hl' q hl) (K H locs ls hP hD hS hR hl')
theorem jr_aload_n {X : Cx} {cc : ByteArray} {own : String} {nL : Nat} {rt : Option FieldType} {W0 : List (Ad × Sh)} {d : Nat} (F : FX X cc own nL rt W0 d) {pc : Nat} {lv : List (Nat × Value)} {st : List Value} {g : GG} {k : Fin 4} {i : Nat} {x : Nat} (q : Nat) (hd : decode cc pc = .ok (.aload_n k, 1)) (hi : (k : Nat) = i) (hl : lv[q]? = some (i, .ref x)) (K : J X (pc + 1) lv (.ref x :: st) g) : J X pc lv st g := by
  obtain ⟨p, l, e, R, s, m, args, below, meth, c, ⟨ce, sl⟩, D, ⟨cI, cQ⟩, ad, WL, A, Q⟩ := X
  obtain ⟨hx, hb, hml, hown, hts, hK, hA, hlk, hrt, hWL, hfr, hlo, hce, hsl⟩ := F
  intro H locs ls hP hD hS hR hl'
  exact lv_aload_n hx hb hd hi (lv_at hl' q hl) (K H locs ls hP hD hS hR hl')
theorem jr_aload {X : Cx} {cc : ByteArray} {own : String} {nL : Nat} {rt : Option FieldType} {W0 : List (Ad × Sh)} {d : Nat} (F : FX X cc own nL rt W0 d) {pc : Nat} {lv : List (Nat × Value)} {st : List Value} {g : GG} {i : Nat} {x : Nat} (q : Nat) (hd : decode cc pc = .ok (.aload i, 2)) (hl : lv[q]? = some (i, .ref x)) (K : J X (pc + 2) lv (.ref x :: st) g) : J X pc lv st g := by
  obtain ⟨p, l, e, R, s, m, args, below, meth, c, ⟨ce, sl⟩, D, ⟨cI, cQ⟩, ad, WL, A, Q⟩ := X
  obtain ⟨hx, hb, hml, hown, hts, hK, hA, hlk, hrt, hWL, hfr, hlo, hce, hsl⟩ := F
  intro H locs ls hP hD hS hR hl'
  exact lv_aload hx hb hd (lv_at hl' q hl) (K H locs ls hP hD hS hR hl')
theorem jr_lload_n {X : Cx} {cc : ByteArray} {own : String} {nL : Nat} {rt : Option FieldType} {W0 : List (Ad × Sh)} {d : Nat} (F : FX X cc own nL rt W0 d) {pc : Nat} {lv : List (Nat × Value)} {st : List Value} {g : GG} {k : Fin 4} {i : Nat} {x : Int64} (q : Nat) (hd : decode cc pc = .ok (.lload_n k, 1)) (hi : (k : Nat) = i) (hl : lv[q]? = some (i, .long x)) (K : J X (pc + 1) lv (.long x :: st) g) : J X pc lv st g := by
  obtain ⟨p, l, e, R, s, m, args, below, meth, c, ⟨ce, sl⟩, D, ⟨cI, cQ⟩, ad, WL, A, Q⟩ := X
  obtain ⟨hx, hb, hml, hown, hts, hK, hA, hlk, hrt, hWL, hfr, hlo, hce, hsl⟩ := F
  intro H locs ls hP hD hS hR hl'
  exact lv_lload_n hx hb hd hi (lv_at hl' q hl) (K H locs ls hP hD hS hR hl')
theorem jr_lload {X : Cx} {cc : ByteArray} {own : String} {nL : Nat} {rt : Option FieldType} {W0 : List (Ad × Sh)} {d : Nat} (F : FX X cc own nL rt W0 d) {pc : Nat} {lv : List (Nat × Value)} {st : List Value} {g : GG} {i : Nat} {x : Int64} (q : Nat) (hd : decode cc pc = .ok (.lload i, 2)) (hl : lv[q]? = some (i, .long x)) (K : J X (pc + 2) lv (.long x :: st) g) : J X pc lv st g := by
  obtain ⟨p, l, e, R, s, m, args, below, meth, c, ⟨ce, sl⟩, D, ⟨cI, cQ⟩, ad, WL, A, Q⟩ := X
  obtain ⟨hx, hb, hml, hown, hts, hK, hA, hlk, hrt, hWL, hfr, hlo, hce, hsl⟩ := F
  intro H locs ls hP hD hS hR hl'
  exact lv_lload hx hb hd (lv_at hl' q hl) (K H locs ls hP hD hS hR hl')
theorem jr_istore_n {X : Cx} {cc : ByteArray} {own : String} {nL : Nat} {rt : Option FieldType} {W0 : List (Ad × Sh)} {d : Nat} (F : FX X cc own nL rt W0 d) {pc : Nat} {lv : List (Nat × Value)} {st : List Value} {g : GG} {k : Fin 4} {i : Nat} {x : Int32} (lv' : List (Nat × Value)) (hd : decode cc pc = .ok (.istore_n k, 1)) (hi : (k : Nat) = i) (hn : i < nL) (hl : (i, Value.int x) :: lv.filter (fun q => !(q.1 == i) && !(q.1 + 1 == i && q.2.category == 2)) = lv') (K : J X (pc + 1) lv' st g) : J X pc lv (.int x :: st) g := by
  obtain ⟨p, l, e, R, s, m, args, below, meth, c, ⟨ce, sl⟩, D, ⟨cI, cQ⟩, ad, WL, A, Q⟩ := X
  obtain ⟨hx, hb, hml, hown, hts, hK, hA, hlk, hrt, hWL, hfr, hlo, hce, hsl⟩ := F
  intro H locs ls hP hD hS hR hl'
  exact lv_istore_n hx hb hd hi hl' (by rw [hml]; exact hn) hl (fun ls hl' => K H locs ls hP hD hS hR hl')
theorem jr_istore {X : Cx} {cc : ByteArray} {own : String} {nL : Nat} {rt : Option FieldType} {W0 : List (Ad × Sh)} {d : Nat} (F : FX X cc own nL rt W0 d) {pc : Nat} {lv : List (Nat × Value)} {st : List Value} {g : GG} {i : Nat} {x : Int32} (lv' : List (Nat × Value)) (hd : decode cc pc = .ok (.istore i, 2)) (hn : i < nL) (hl : (i, Value.int x) :: lv.filter (fun q => !(q.1 == i) && !(q.1 + 1 == i && q.2.category == 2)) = lv') (K : J X (pc + 2) lv' st g) : J X pc lv (.int x :: st) g := by
  obtain ⟨p, l, e, R, s, m, args, below, meth, c, ⟨ce, sl⟩, D, ⟨cI, cQ⟩, ad, WL, A, Q⟩ := X
  obtain ⟨hx, hb, hml, hown, hts, hK, hA, hlk, hrt, hWL, hfr, hlo, hce, hsl⟩ := F
  intro H locs ls hP hD hS hR hl'
  exact lv_istore hx hb hd hl' (by rw [hml]; exact hn) hl (fun ls hl' => K H locs ls hP hD hS hR hl')
theorem jr_astore_n {X : Cx} {cc : ByteArray} {own : String} {nL : Nat} {rt : Option FieldType} {W0 : List (Ad × Sh)} {d : Nat} (F : FX X cc own nL rt W0 d) {pc : Nat} {lv : List (Nat × Value)} {st : List Value} {g : GG} {k : Fin 4} {i : Nat} {x : Nat} (lv' : List (Nat × Value)) (hd : decode cc pc = .ok (.astore_n k, 1)) (hi : (k : Nat) = i) (hn : i < nL) (hl : (i, Value.ref x) :: lv.filter (fun q => !(q.1 == i) && !(q.1 + 1 == i && q.2.category == 2)) = lv') (K : J X (pc + 1) lv' st g) : J X pc lv (.ref x :: st) g := by
  obtain ⟨p, l, e, R, s, m, args, below, meth, c, ⟨ce, sl⟩, D, ⟨cI, cQ⟩, ad, WL, A, Q⟩ := X
  obtain ⟨hx, hb, hml, hown, hts, hK, hA, hlk, hrt, hWL, hfr, hlo, hce, hsl⟩ := F
  intro H locs ls hP hD hS hR hl'
  exact lv_astore_n hx hb hd hi hl' (by rw [hml]; exact hn) hl (fun ls hl' => K H locs ls hP hD hS hR hl')
theorem jr_astore {X : Cx} {cc : ByteArray} {own : String} {nL : Nat} {rt : Option FieldType} {W0 : List (Ad × Sh)} {d : Nat} (F : FX X cc own nL rt W0 d) {pc : Nat} {lv : List (Nat × Value)} {st : List Value} {g : GG} {i : Nat} {x : Nat} (lv' : List (Nat × Value)) (hd : decode cc pc = .ok (.astore i, 2)) (hn : i < nL) (hl : (i, Value.ref x) :: lv.filter (fun q => !(q.1 == i) && !(q.1 + 1 == i && q.2.category == 2)) = lv') (K : J X (pc + 2) lv' st g) : J X pc lv (.ref x :: st) g := by
  obtain ⟨p, l, e, R, s, m, args, below, meth, c, ⟨ce, sl⟩, D, ⟨cI, cQ⟩, ad, WL, A, Q⟩ := X
  obtain ⟨hx, hb, hml, hown, hts, hK, hA, hlk, hrt, hWL, hfr, hlo, hce, hsl⟩ := F
  intro H locs ls hP hD hS hR hl'
  exact lv_astore hx hb hd hl' (by rw [hml]; exact hn) hl (fun ls hl' => K H locs ls hP hD hS hR hl')
theorem jr_lstore_n {X : Cx} {cc : ByteArray} {own : String} {nL : Nat} {rt : Option FieldType} {W0 : List (Ad × Sh)} {d : Nat} (F : FX X cc own nL rt W0 d) {pc : Nat} {lv : List (Nat × Value)} {st : List Value} {g : GG} {k : Fin 4} {i : Nat} {x : Int64} (lv' : List (Nat × Value)) (hd : decode cc pc = .ok (.lstore_n k, 1)) (hi : (k : Nat) = i) (hn : i + 1 < nL) (hl : (i, Value.long x) :: lv.filter (fun q => !(q.1 == i) && (!(q.1 == i + 1) && !(q.1 + 1 == i && q.2.category == 2))) = lv') (K : J X (pc + 1) lv' st g) : J X pc lv (.long x :: st) g := by
  obtain ⟨p, l, e, R, s, m, args, below, meth, c, ⟨ce, sl⟩, D, ⟨cI, cQ⟩, ad, WL, A, Q⟩ := X
  obtain ⟨hx, hb, hml, hown, hts, hK, hA, hlk, hrt, hWL, hfr, hlo, hce, hsl⟩ := F
  intro H locs ls hP hD hS hR hl'
  exact lv_lstore_n hx hb hd hi hl' (by rw [hml]; exact hn) hl (fun ls hl' => K H locs ls hP hD hS hR hl')
theorem jr_lstore {X : Cx} {cc : ByteArray} {own : String} {nL : Nat} {rt : Option FieldType} {W0 : List (Ad × Sh)} {d : Nat} (F : FX X cc own nL rt W0 d) {pc : Nat} {lv : List (Nat × Value)} {st : List Value} {g : GG} {i : Nat} {x : Int64} (lv' : List (Nat × Value)) (hd : decode cc pc = .ok (.lstore i, 2)) (hn : i + 1 < nL) (hl : (i, Value.long x) :: lv.filter (fun q => !(q.1 == i) && (!(q.1 == i + 1) && !(q.1 + 1 == i && q.2.category == 2))) = lv') (K : J X (pc + 2) lv' st g) : J X pc lv (.long x :: st) g := by
  obtain ⟨p, l, e, R, s, m, args, below, meth, c, ⟨ce, sl⟩, D, ⟨cI, cQ⟩, ad, WL, A, Q⟩ := X
  obtain ⟨hx, hb, hml, hown, hts, hK, hA, hlk, hrt, hWL, hfr, hlo, hce, hsl⟩ := F
  intro H locs ls hP hD hS hR hl'
  exact lv_lstore hx hb hd hl' (by rw [hml]; exact hn) hl (fun ls hl' => K H locs ls hP hD hS hR hl')
theorem jr_iinc {X : Cx} {cc : ByteArray} {own : String} {nL : Nat} {rt : Option FieldType} {W0 : List (Ad × Sh)} {d : Nat} (F : FX X cc own nL rt W0 d) {pc : Nat} {lv : List (Nat × Value)} {st : List Value} {g : GG} {i : Nat} {n x : Int} (lv' : List (Nat × Value)) (q : Nat) (hd : decode cc pc = .ok (.iinc i n, 3)) (hk : lv[q]? = some (i, iv x)) (hn : i < nL) (hl : (i, iv (w32 (x + n))) :: lv.filter (fun q => !(q.1 == i) && !(q.1 + 1 == i && q.2.category == 2)) = lv') (K : J X (pc + 3) lv' st g) : J X pc lv st g := by
  obtain ⟨p, l, e, R, s, m, args, below, meth, c, ⟨ce, sl⟩, D, ⟨cI, cQ⟩, ad, WL, A, Q⟩ := X
  obtain ⟨hx, hb, hml, hown, hts, hK, hA, hlk, hrt, hWL, hfr, hlo, hce, hsl⟩ := F
  intro H locs ls hP hD hS hR hl'
  exact lv_iinc hx hb hd hl' hk (by rw [i32_w, Int32.ofInt_add]) (by rw [hml]; exact hn) hl (fun ls hl' => K H locs ls hP hD hS hR hl')
theorem jr_sub {X : Cx} {cc : ByteArray} {own : String} {nL : Nat} {rt : Option FieldType} {W0 : List (Ad × Sh)} {d : Nat} (F : FX X cc own nL rt W0 d) {pc : Nat} {lv : List (Nat × Value)} {st : List Value} {g : GG} (ks : List Nat) (lv' : List (Nat × Value)) (hl : lv_pick lv ks = lv') (K : J X pc lv' st g) : J X pc lv st g := by
  obtain ⟨p, l, e, R, s, m, args, below, meth, c, ⟨ce, sl⟩, D, ⟨cI, cQ⟩, ad, WL, A, Q⟩ := X
  obtain ⟨hx, hb, hml, hown, hts, hK, hA, hlk, hrt, hWL, hfr, hlo, hce, hsl⟩ := F
  intro H locs ls hP hD hS hR hl'
  exact K H locs ls hP hD hS hR (lv_sub hl' ks hl)
theorem jr_goto {X : Cx} {cc : ByteArray} {own : String} {nL : Nat} {rt : Option FieldType} {W0 : List (Ad × Sh)} {d : Nat} (F : FX X cc own nL rt W0 d) {pc : Nat} {lv : List (Nat × Value)} {st : List Value} {g : GG} {off : Int} {tgt : Nat} (hd : decode cc pc = .ok (.goto off, 3)) (ht : (pc : Int) + off = (tgt : Int)) (K : J X tgt lv st g) : J X pc lv st g := by
  obtain ⟨p, l, e, R, s, m, args, below, meth, c, ⟨ce, sl⟩, D, ⟨cI, cQ⟩, ad, WL, A, Q⟩ := X
  obtain ⟨hx, hb, hml, hown, hts, hK, hA, hlk, hrt, hWL, hfr, hlo, hce, hsl⟩ := F
  intro H locs ls hP hD hS hR hl'
  exact lv_goto hx hb hd ht (K H locs ls hP hD hS hR hl')
theorem jr_iadd {X : Cx} {cc : ByteArray} {own : String} {nL : Nat} {rt : Option FieldType} {W0 : List (Ad × Sh)} {d : Nat} (F : FX X cc own nL rt W0 d) {pc : Nat} {lv : List (Nat × Value)} {st : List Value} {g : GG} {x y : Int}  (hd : decode cc pc = .ok (.iadd, 1)) (K : J X (pc + 1) lv (iv (w32 (x + y)) :: st) g) : J X pc lv (iv y :: iv x :: st) g := by
  obtain ⟨p, l, e, R, s, m, args, below, meth, c, ⟨ce, sl⟩, D, ⟨cI, cQ⟩, ad, WL, A, Q⟩ := X
  obtain ⟨hx, hb, hml, hown, hts, hK, hA, hlk, hrt, hWL, hfr, hlo, hce, hsl⟩ := F
  intro H locs ls hP hD hS hR hl'
  refine lv_iadd hx hb hd ?_
  rw [← Int32.ofInt_add, ← i32_w]
  exact K H locs ls hP hD hS hR hl'
theorem jr_isub {X : Cx} {cc : ByteArray} {own : String} {nL : Nat} {rt : Option FieldType} {W0 : List (Ad × Sh)} {d : Nat} (F : FX X cc own nL rt W0 d) {pc : Nat} {lv : List (Nat × Value)} {st : List Value} {g : GG} {x y : Int}  (hd : decode cc pc = .ok (.isub, 1)) (K : J X (pc + 1) lv (iv (w32 (x - y)) :: st) g) : J X pc lv (iv y :: iv x :: st) g := by
  obtain ⟨p, l, e, R, s, m, args, below, meth, c, ⟨ce, sl⟩, D, ⟨cI, cQ⟩, ad, WL, A, Q⟩ := X
  obtain ⟨hx, hb, hml, hown, hts, hK, hA, hlk, hrt, hWL, hfr, hlo, hce, hsl⟩ := F
  intro H locs ls hP hD hS hR hl'
  refine lv_isub hx hb hd ?_
  rw [← Int32.ofInt_sub, ← i32_w]
  exact K H locs ls hP hD hS hR hl'
theorem jr_imul {X : Cx} {cc : ByteArray} {own : String} {nL : Nat} {rt : Option FieldType} {W0 : List (Ad × Sh)} {d : Nat} (F : FX X cc own nL rt W0 d) {pc : Nat} {lv : List (Nat × Value)} {st : List Value} {g : GG} {x y : Int}  (hd : decode cc pc = .ok (.imul, 1)) (K : J X (pc + 1) lv (iv (w32 (x * y)) :: st) g) : J X pc lv (iv y :: iv x :: st) g := by
  obtain ⟨p, l, e, R, s, m, args, below, meth, c, ⟨ce, sl⟩, D, ⟨cI, cQ⟩, ad, WL, A, Q⟩ := X
  obtain ⟨hx, hb, hml, hown, hts, hK, hA, hlk, hrt, hWL, hfr, hlo, hce, hsl⟩ := F
  intro H locs ls hP hD hS hR hl'
  refine lv_imul hx hb hd ?_
  rw [← Int32.ofInt_mul, ← i32_w]
  exact K H locs ls hP hD hS hR hl'
theorem jr_iand {X : Cx} {cc : ByteArray} {own : String} {nL : Nat} {rt : Option FieldType} {W0 : List (Ad × Sh)} {d : Nat} (F : FX X cc own nL rt W0 d) {pc : Nat} {lv : List (Nat × Value)} {st : List Value} {g : GG} {x y : Int}  (hd : decode cc pc = .ok (.iand, 1)) (K : J X (pc + 1) lv (iv (b_and x y) :: st) g) : J X pc lv (iv y :: iv x :: st) g := by
  obtain ⟨p, l, e, R, s, m, args, below, meth, c, ⟨ce, sl⟩, D, ⟨cI, cQ⟩, ad, WL, A, Q⟩ := X
  obtain ⟨hx, hb, hml, hown, hts, hK, hA, hlk, hrt, hWL, hfr, hlo, hce, hsl⟩ := F
  intro H locs ls hP hD hS hR hl'
  refine lv_iand hx hb hd ?_
  have K := K H locs ls hP hD hS hR hl'
  unfold b_and iv at K
  rwa [Int32.ofInt_toInt] at K
theorem jr_ior {X : Cx} {cc : ByteArray} {own : String} {nL : Nat} {rt : Option FieldType} {W0 : List (Ad × Sh)} {d : Nat} (F : FX X cc own nL rt W0 d) {pc : Nat} {lv : List (Nat × Value)} {st : List Value} {g : GG} {x y : Int}  (hd : decode cc pc = .ok (.ior, 1)) (K : J X (pc + 1) lv (iv (b_or x y) :: st) g) : J X pc lv (iv y :: iv x :: st) g := by
  obtain ⟨p, l, e, R, s, m, args, below, meth, c, ⟨ce, sl⟩, D, ⟨cI, cQ⟩, ad, WL, A, Q⟩ := X
  obtain ⟨hx, hb, hml, hown, hts, hK, hA, hlk, hrt, hWL, hfr, hlo, hce, hsl⟩ := F
  intro H locs ls hP hD hS hR hl'
  refine lv_ior hx hb hd ?_
  have K := K H locs ls hP hD hS hR hl'
  unfold b_or iv at K
  rwa [Int32.ofInt_toInt] at K
theorem jr_ishl {X : Cx} {cc : ByteArray} {own : String} {nL : Nat} {rt : Option FieldType} {W0 : List (Ad × Sh)} {d : Nat} (F : FX X cc own nL rt W0 d) {pc : Nat} {lv : List (Nat × Value)} {st : List Value} {g : GG} {x y : Int}  (hd : decode cc pc = .ok (.ishl, 1)) (K : J X (pc + 1) lv (iv (b_shl x y) :: st) g) : J X pc lv (iv y :: iv x :: st) g := by
  obtain ⟨p, l, e, R, s, m, args, below, meth, c, ⟨ce, sl⟩, D, ⟨cI, cQ⟩, ad, WL, A, Q⟩ := X
  obtain ⟨hx, hb, hml, hown, hts, hK, hA, hlk, hrt, hWL, hfr, hlo, hce, hsl⟩ := F
  intro H locs ls hP hD hS hR hl'
  refine lv_ishl hx hb hd ?_
  have K := K H locs ls hP hD hS hR hl'
  unfold b_shl iv at K
  rwa [Int32.ofInt_toInt] at K
theorem jr_ishr {X : Cx} {cc : ByteArray} {own : String} {nL : Nat} {rt : Option FieldType} {W0 : List (Ad × Sh)} {d : Nat} (F : FX X cc own nL rt W0 d) {pc : Nat} {lv : List (Nat × Value)} {st : List Value} {g : GG} {x y : Int}  (hd : decode cc pc = .ok (.ishr, 1)) (K : J X (pc + 1) lv (iv (b_shr x y) :: st) g) : J X pc lv (iv y :: iv x :: st) g := by
  obtain ⟨p, l, e, R, s, m, args, below, meth, c, ⟨ce, sl⟩, D, ⟨cI, cQ⟩, ad, WL, A, Q⟩ := X
  obtain ⟨hx, hb, hml, hown, hts, hK, hA, hlk, hrt, hWL, hfr, hlo, hce, hsl⟩ := F
  intro H locs ls hP hD hS hR hl'
  refine lv_ishr hx hb hd ?_
  have K := K H locs ls hP hD hS hR hl'
  unfold b_shr iv at K
  rwa [Int32.ofInt_toInt] at K
theorem jr_iushr {X : Cx} {cc : ByteArray} {own : String} {nL : Nat} {rt : Option FieldType} {W0 : List (Ad × Sh)} {d : Nat} (F : FX X cc own nL rt W0 d) {pc : Nat} {lv : List (Nat × Value)} {st : List Value} {g : GG} {x y : Int}  (hd : decode cc pc = .ok (.iushr, 1)) (K : J X (pc + 1) lv (iv (b_ushr x y) :: st) g) : J X pc lv (iv y :: iv x :: st) g := by
  obtain ⟨p, l, e, R, s, m, args, below, meth, c, ⟨ce, sl⟩, D, ⟨cI, cQ⟩, ad, WL, A, Q⟩ := X
  obtain ⟨hx, hb, hml, hown, hts, hK, hA, hlk, hrt, hWL, hfr, hlo, hce, hsl⟩ := F
  intro H locs ls hP hD hS hR hl'
  refine lv_iushr hx hb hd rfl ?_
  have K := K H locs ls hP hD hS hR hl'
  unfold b_ushr iv at K
  rwa [Int32.ofInt_toInt] at K
theorem jr_idiv {X : Cx} {cc : ByteArray} {own : String} {nL : Nat} {rt : Option FieldType} {W0 : List (Ad × Sh)} {d : Nat} (F : FX X cc own nL rt W0 d) {pc : Nat} {lv : List (Nat × Value)} {st : List Value} {g : GG} {x y : Int} (rx : Rg x) (hy : Rg y) (hne : ¬ y = 0) (hd : decode cc pc = .ok (.idiv, 1)) (K : J X (pc + 1) lv (iv (jdiv x y) :: st) g) : J X pc lv (iv y :: iv x :: st) g := by
  obtain ⟨p, l, e, R, s, m, args, below, meth, c, ⟨ce, sl⟩, D, ⟨cI, cQ⟩, ad, WL, A, Q⟩ := X
  obtain ⟨hx, hb, hml, hown, hts, hK, hA, hlk, hrt, hWL, hfr, hlo, hce, hsl⟩ := F
  intro H locs ls hP hD hS hR hl'
  refine lv_idiv hx hb hd (i32_ne0 hy hne) ?_
  rw [← i32_div rx hy]
  exact K H locs ls hP hD hS hR hl'
theorem jr_irem {X : Cx} {cc : ByteArray} {own : String} {nL : Nat} {rt : Option FieldType} {W0 : List (Ad × Sh)} {d : Nat} (F : FX X cc own nL rt W0 d) {pc : Nat} {lv : List (Nat × Value)} {st : List Value} {g : GG} {x y : Int} (rx : Rg x) (hy : Rg y) (hne : ¬ y = 0) (hd : decode cc pc = .ok (.irem, 1)) (K : J X (pc + 1) lv (iv (jrem x y) :: st) g) : J X pc lv (iv y :: iv x :: st) g := by
  obtain ⟨p, l, e, R, s, m, args, below, meth, c, ⟨ce, sl⟩, D, ⟨cI, cQ⟩, ad, WL, A, Q⟩ := X
  obtain ⟨hx, hb, hml, hown, hts, hK, hA, hlk, hrt, hWL, hfr, hlo, hce, hsl⟩ := F
  intro H locs ls hP hD hS hR hl'
  refine lv_irem hx hb hd (i32_ne0 hy hne) ?_
  rw [← i32_rem rx hy]
  exact K H locs ls hP hD hS hR hl'
theorem jr_ineg {X : Cx} {cc : ByteArray} {own : String} {nL : Nat} {rt : Option FieldType} {W0 : List (Ad × Sh)} {d : Nat} (F : FX X cc own nL rt W0 d) {pc : Nat} {lv : List (Nat × Value)} {st : List Value} {g : GG} {x : Int} (hd : decode cc pc = .ok (.ineg, 1)) (K : J X (pc + 1) lv (iv (w32 (-x)) :: st) g) : J X pc lv (iv x :: st) g := by
  obtain ⟨p, l, e, R, s, m, args, below, meth, c, ⟨ce, sl⟩, D, ⟨cI, cQ⟩, ad, WL, A, Q⟩ := X
  obtain ⟨hx, hb, hml, hown, hts, hK, hA, hlk, hrt, hWL, hfr, hlo, hce, hsl⟩ := F
  intro H locs ls hP hD hS hR hl'
  refine lv_ineg hx hb hd ?_
  rw [← Int32.ofInt_neg, ← i32_w]
  exact K H locs ls hP hD hS hR hl'
theorem jr_ladd {X : Cx} {cc : ByteArray} {own : String} {nL : Nat} {rt : Option FieldType} {W0 : List (Ad × Sh)} {d : Nat} (F : FX X cc own nL rt W0 d) {pc : Nat} {lv : List (Nat × Value)} {st : List Value} {g : GG} {x y : Int}  (hd : decode cc pc = .ok (.ladd, 1)) (K : J X (pc + 1) lv (lgv (w64 (x + y)) :: st) g) : J X pc lv (lgv y :: lgv x :: st) g := by
  obtain ⟨p, l, e, R, s, m, args, below, meth, c, ⟨ce, sl⟩, D, ⟨cI, cQ⟩, ad, WL, A, Q⟩ := X
  obtain ⟨hx, hb, hml, hown, hts, hK, hA, hlk, hrt, hWL, hfr, hlo, hce, hsl⟩ := F
  intro H locs ls hP hD hS hR hl'
  refine lv_ladd hx hb hd ?_
  rw [← Int64.ofInt_add, ← i64_w]
  exact K H locs ls hP hD hS hR hl'
theorem jr_lsub {X : Cx} {cc : ByteArray} {own : String} {nL : Nat} {rt : Option FieldType} {W0 : List (Ad × Sh)} {d : Nat} (F : FX X cc own nL rt W0 d) {pc : Nat} {lv : List (Nat × Value)} {st : List Value} {g : GG} {x y : Int}  (hd : decode cc pc = .ok (.lsub, 1)) (K : J X (pc + 1) lv (lgv (w64 (x - y)) :: st) g) : J X pc lv (lgv y :: lgv x :: st) g := by
  obtain ⟨p, l, e, R, s, m, args, below, meth, c, ⟨ce, sl⟩, D, ⟨cI, cQ⟩, ad, WL, A, Q⟩ := X
  obtain ⟨hx, hb, hml, hown, hts, hK, hA, hlk, hrt, hWL, hfr, hlo, hce, hsl⟩ := F
  intro H locs ls hP hD hS hR hl'
  refine lv_lsub hx hb hd ?_
  rw [← Int64.ofInt_sub, ← i64_w]
  exact K H locs ls hP hD hS hR hl'
theorem jr_ldiv {X : Cx} {cc : ByteArray} {own : String} {nL : Nat} {rt : Option FieldType} {W0 : List (Ad × Sh)} {d : Nat} (F : FX X cc own nL rt W0 d) {pc : Nat} {lv : List (Nat × Value)} {st : List Value} {g : GG} {x y : Int} (rx : Rl x) (hy : Rl y) (hne : ¬ y = 0) (hd : decode cc pc = .ok (.ldiv, 1)) (K : J X (pc + 1) lv (lgv (ldvi x y) :: st) g) : J X pc lv (lgv y :: lgv x :: st) g := by
  obtain ⟨p, l, e, R, s, m, args, below, meth, c, ⟨ce, sl⟩, D, ⟨cI, cQ⟩, ad, WL, A, Q⟩ := X
  obtain ⟨hx, hb, hml, hown, hts, hK, hA, hlk, hrt, hWL, hfr, hlo, hce, hsl⟩ := F
  intro H locs ls hP hD hS hR hl'
  refine lv_ldiv hx hb hd (i64_ne0 hy hne) ?_
  rw [← i64_div rx hy]
  exact K H locs ls hP hD hS hR hl'
theorem jr_lrem {X : Cx} {cc : ByteArray} {own : String} {nL : Nat} {rt : Option FieldType} {W0 : List (Ad × Sh)} {d : Nat} (F : FX X cc own nL rt W0 d) {pc : Nat} {lv : List (Nat × Value)} {st : List Value} {g : GG} {x y : Int} (rx : Rl x) (hy : Rl y) (hne : ¬ y = 0) (hd : decode cc pc = .ok (.lrem, 1)) (K : J X (pc + 1) lv (lgv (lrmi x y) :: st) g) : J X pc lv (lgv y :: lgv x :: st) g := by
  obtain ⟨p, l, e, R, s, m, args, below, meth, c, ⟨ce, sl⟩, D, ⟨cI, cQ⟩, ad, WL, A, Q⟩ := X
  obtain ⟨hx, hb, hml, hown, hts, hK, hA, hlk, hrt, hWL, hfr, hlo, hce, hsl⟩ := F
  intro H locs ls hP hD hS hR hl'
  refine lv_lrem hx hb hd (i64_ne0 hy hne) ?_
  rw [← i64_rem rx hy]
  exact K H locs ls hP hD hS hR hl'
theorem jr_i2l {X : Cx} {cc : ByteArray} {own : String} {nL : Nat} {rt : Option FieldType} {W0 : List (Ad × Sh)} {d : Nat} (F : FX X cc own nL rt W0 d) {pc : Nat} {lv : List (Nat × Value)} {st : List Value} {g : GG} {x : Int} (rx : Rg x) (hd : decode cc pc = .ok (.i2l, 1)) (K : J X (pc + 1) lv (lgv x :: st) g) : J X pc lv (iv x :: st) g := by
  obtain ⟨p, l, e, R, s, m, args, below, meth, c, ⟨ce, sl⟩, D, ⟨cI, cQ⟩, ad, WL, A, Q⟩ := X
  obtain ⟨hx, hb, hml, hown, hts, hK, hA, hlk, hrt, hWL, hfr, hlo, hce, hsl⟩ := F
  intro H locs ls hP hD hS hR hl'
  exact lv_i2l hx hb hd (i32_64 rx) (K H locs ls hP hD hS hR hl')
theorem jr_dup {X : Cx} {cc : ByteArray} {own : String} {nL : Nat} {rt : Option FieldType} {W0 : List (Ad × Sh)} {d : Nat} (F : FX X cc own nL rt W0 d) {pc : Nat} {lv : List (Nat × Value)} {st : List Value} {g : GG} {v : Value} (hd : decode cc pc = .ok (.dup, 1)) (hv : v.category = 1) (K : J X (pc + 1) lv (v :: v :: st) g) : J X pc lv (v :: st) g := by
  obtain ⟨p, l, e, R, s, m, args, below, meth, c, ⟨ce, sl⟩, D, ⟨cI, cQ⟩, ad, WL, A, Q⟩ := X
  obtain ⟨hx, hb, hml, hown, hts, hK, hA, hlk, hrt, hWL, hfr, hlo, hce, hsl⟩ := F
  intro H locs ls hP hD hS hR hl'
  exact lv_dup hx hb hd hv (K H locs ls hP hD hS hR hl')
theorem jr_dup2 {X : Cx} {cc : ByteArray} {own : String} {nL : Nat} {rt : Option FieldType} {W0 : List (Ad × Sh)} {d : Nat} (F : FX X cc own nL rt W0 d) {pc : Nat} {lv : List (Nat × Value)} {st : List Value} {g : GG} {v u : Value} (hd : decode cc pc = .ok (.dup2, 1)) (hv : v.category = 1) (hu : u.category = 1) (K : J X (pc + 1) lv (v :: u :: v :: u :: st) g) : J X pc lv (v :: u :: st) g := by
  obtain ⟨p, l, e, R, s, m, args, below, meth, c, ⟨ce, sl⟩, D, ⟨cI, cQ⟩, ad, WL, A, Q⟩ := X
  obtain ⟨hx, hb, hml, hown, hts, hK, hA, hlk, hrt, hWL, hfr, hlo, hce, hsl⟩ := F
  intro H locs ls hP hD hS hR hl'
  exact lv_dup2_11 hx hb hd hv hu (K H locs ls hP hD hS hR hl')
theorem jr_pop {X : Cx} {cc : ByteArray} {own : String} {nL : Nat} {rt : Option FieldType} {W0 : List (Ad × Sh)} {d : Nat} (F : FX X cc own nL rt W0 d) {pc : Nat} {lv : List (Nat × Value)} {st : List Value} {g : GG} {v : Value} (hd : decode cc pc = .ok (.pop, 1)) (hv : v.category = 1) (K : J X (pc + 1) lv st g) : J X pc lv (v :: st) g := by
  obtain ⟨p, l, e, R, s, m, args, below, meth, c, ⟨ce, sl⟩, D, ⟨cI, cQ⟩, ad, WL, A, Q⟩ := X
  obtain ⟨hx, hb, hml, hown, hts, hK, hA, hlk, hrt, hWL, hfr, hlo, hce, hsl⟩ := F
  intro H locs ls hP hD hS hR hl'
  exact lv_pop hx hb hd hv (K H locs ls hP hD hS hR hl')
theorem jr_icmp_lt {X : Cx} {cc : ByteArray} {own : String} {nL : Nat} {rt : Option FieldType} {W0 : List (Ad × Sh)} {d : Nat} (F : FX X cc own nL rt W0 d) {pc : Nat} {lv : List (Nat × Value)} {st : List Value} {g : GG} {x y : Int} (rx : Rg x) (ry : Rg y) {off : Int} {tgt : Nat} (hd : decode cc pc = .ok (.if_icmp .lt off, 3)) (ht : (pc : Int) + off = (tgt : Int)) (kt : x < y → J X tgt lv st g) (kf : y ≤ x → J X (pc + 3) lv st g) : J X pc lv (iv y :: iv x :: st) g := by
  obtain ⟨p, l, e, R, s, m, args, below, meth, c, ⟨ce, sl⟩, D, ⟨cI, cQ⟩, ad, WL, A, Q⟩ := X
  obtain ⟨hx, hb, hml, hown, hts, hK, hA, hlk, hrt, hWL, hfr, hlo, hce, hsl⟩ := F
  intro H locs ls hP hD hS hR hl'
  exact lv_icmp_lt hx hb hd ht (fun q => kt (i32_lt_t rx ry q) H locs ls hP hD hS hR hl') (fun q => kf (i32_lt_f rx ry q) H locs ls hP hD hS hR hl')
theorem jr_if_lt {X : Cx} {cc : ByteArray} {own : String} {nL : Nat} {rt : Option FieldType} {W0 : List (Ad × Sh)} {d : Nat} (F : FX X cc own nL rt W0 d) {pc : Nat} {lv : List (Nat × Value)} {st : List Value} {g : GG} {x : Int} (rx : Rg x) {off : Int} {tgt : Nat} (hd : decode cc pc = .ok (.ifCond .lt off, 3)) (ht : (pc : Int) + off = (tgt : Int)) (kt : x < 0 → J X tgt lv st g) (kf : 0 ≤ x → J X (pc + 3) lv st g) : J X pc lv (iv x :: st) g := by
  obtain ⟨p, l, e, R, s, m, args, below, meth, c, ⟨ce, sl⟩, D, ⟨cI, cQ⟩, ad, WL, A, Q⟩ := X
  obtain ⟨hx, hb, hml, hown, hts, hK, hA, hlk, hrt, hWL, hfr, hlo, hce, hsl⟩ := F
  intro H locs ls hP hD hS hR hl'
  exact lv_if_lt hx hb hd ht (fun q => kt (i32_lt_t rx rg_0 q) H locs ls hP hD hS hR hl') (fun q => kf (i32_lt_f rx rg_0 q) H locs ls hP hD hS hR hl')
theorem jr_lcmp_lt {X : Cx} {cc : ByteArray} {own : String} {nL : Nat} {rt : Option FieldType} {W0 : List (Ad × Sh)} {d : Nat} (F : FX X cc own nL rt W0 d) {pc : Nat} {lv : List (Nat × Value)} {st : List Value} {g : GG} {x y : Int} (rx : Rl x) (ry : Rl y) {off : Int} {tgt : Nat} (hd1 : decode cc pc = .ok (.lcmp, 1)) (hd : decode cc (pc + 1) = .ok (.ifCond .lt off, 3)) (ht : ((pc + 1 : Nat) : Int) + off = (tgt : Int)) (kt : x < y → J X tgt lv st g) (kf : y ≤ x → J X (pc + 4) lv st g) : J X pc lv (lgv y :: lgv x :: st) g := by
  obtain ⟨p, l, e, R, s, m, args, below, meth, c, ⟨ce, sl⟩, D, ⟨cI, cQ⟩, ad, WL, A, Q⟩ := X
  obtain ⟨hx, hb, hml, hown, hts, hK, hA, hlk, hrt, hWL, hfr, hlo, hce, hsl⟩ := F
  intro H locs ls hP hD hS hR hl'
  refine W.lcmp hx hb hd1 ?_
  exact lv_if_lt hx hb hd ht (fun q => kt (i64_lt_t rx ry q) H locs ls hP hD hS hR hl') (fun q => kf (i64_lt_f rx ry q) H locs ls hP hD hS hR hl')
theorem jr_icmp_ge {X : Cx} {cc : ByteArray} {own : String} {nL : Nat} {rt : Option FieldType} {W0 : List (Ad × Sh)} {d : Nat} (F : FX X cc own nL rt W0 d) {pc : Nat} {lv : List (Nat × Value)} {st : List Value} {g : GG} {x y : Int} (rx : Rg x) (ry : Rg y) {off : Int} {tgt : Nat} (hd : decode cc pc = .ok (.if_icmp .ge off, 3)) (ht : (pc : Int) + off = (tgt : Int)) (kt : y ≤ x → J X tgt lv st g) (kf : x < y → J X (pc + 3) lv st g) : J X pc lv (iv y :: iv x :: st) g := by
  obtain ⟨p, l, e, R, s, m, args, below, meth, c, ⟨ce, sl⟩, D, ⟨cI, cQ⟩, ad, WL, A, Q⟩ := X
  obtain ⟨hx, hb, hml, hown, hts, hK, hA, hlk, hrt, hWL, hfr, hlo, hce, hsl⟩ := F
  intro H locs ls hP hD hS hR hl'
  exact lv_icmp_ge hx hb hd ht (fun q => kt (i32_ge_t rx ry q) H locs ls hP hD hS hR hl') (fun q => kf (i32_ge_f rx ry q) H locs ls hP hD hS hR hl')
theorem jr_if_ge {X : Cx} {cc : ByteArray} {own : String} {nL : Nat} {rt : Option FieldType} {W0 : List (Ad × Sh)} {d : Nat} (F : FX X cc own nL rt W0 d) {pc : Nat} {lv : List (Nat × Value)} {st : List Value} {g : GG} {x : Int} (rx : Rg x) {off : Int} {tgt : Nat} (hd : decode cc pc = .ok (.ifCond .ge off, 3)) (ht : (pc : Int) + off = (tgt : Int)) (kt : 0 ≤ x → J X tgt lv st g) (kf : x < 0 → J X (pc + 3) lv st g) : J X pc lv (iv x :: st) g := by
  obtain ⟨p, l, e, R, s, m, args, below, meth, c, ⟨ce, sl⟩, D, ⟨cI, cQ⟩, ad, WL, A, Q⟩ := X
  obtain ⟨hx, hb, hml, hown, hts, hK, hA, hlk, hrt, hWL, hfr, hlo, hce, hsl⟩ := F
  intro H locs ls hP hD hS hR hl'
  exact lv_if_ge hx hb hd ht (fun q => kt (i32_ge_t rx rg_0 q) H locs ls hP hD hS hR hl') (fun q => kf (i32_ge_f rx rg_0 q) H locs ls hP hD hS hR hl')
theorem jr_lcmp_ge {X : Cx} {cc : ByteArray} {own : String} {nL : Nat} {rt : Option FieldType} {W0 : List (Ad × Sh)} {d : Nat} (F : FX X cc own nL rt W0 d) {pc : Nat} {lv : List (Nat × Value)} {st : List Value} {g : GG} {x y : Int} (rx : Rl x) (ry : Rl y) {off : Int} {tgt : Nat} (hd1 : decode cc pc = .ok (.lcmp, 1)) (hd : decode cc (pc + 1) = .ok (.ifCond .ge off, 3)) (ht : ((pc + 1 : Nat) : Int) + off = (tgt : Int)) (kt : y ≤ x → J X tgt lv st g) (kf : x < y → J X (pc + 4) lv st g) : J X pc lv (lgv y :: lgv x :: st) g := by
  obtain ⟨p, l, e, R, s, m, args, below, meth, c, ⟨ce, sl⟩, D, ⟨cI, cQ⟩, ad, WL, A, Q⟩ := X
  obtain ⟨hx, hb, hml, hown, hts, hK, hA, hlk, hrt, hWL, hfr, hlo, hce, hsl⟩ := F
  intro H locs ls hP hD hS hR hl'
  refine W.lcmp hx hb hd1 ?_
  exact lv_if_ge hx hb hd ht (fun q => kt (i64_ge_t rx ry q) H locs ls hP hD hS hR hl') (fun q => kf (i64_ge_f rx ry q) H locs ls hP hD hS hR hl')
theorem jr_icmp_gt {X : Cx} {cc : ByteArray} {own : String} {nL : Nat} {rt : Option FieldType} {W0 : List (Ad × Sh)} {d : Nat} (F : FX X cc own nL rt W0 d) {pc : Nat} {lv : List (Nat × Value)} {st : List Value} {g : GG} {x y : Int} (rx : Rg x) (ry : Rg y) {off : Int} {tgt : Nat} (hd : decode cc pc = .ok (.if_icmp .gt off, 3)) (ht : (pc : Int) + off = (tgt : Int)) (kt : y < x → J X tgt lv st g) (kf : x ≤ y → J X (pc + 3) lv st g) : J X pc lv (iv y :: iv x :: st) g := by
  obtain ⟨p, l, e, R, s, m, args, below, meth, c, ⟨ce, sl⟩, D, ⟨cI, cQ⟩, ad, WL, A, Q⟩ := X
  obtain ⟨hx, hb, hml, hown, hts, hK, hA, hlk, hrt, hWL, hfr, hlo, hce, hsl⟩ := F
  intro H locs ls hP hD hS hR hl'
  exact lv_icmp_gt hx hb hd ht (fun q => kt (i32_gt_t rx ry q) H locs ls hP hD hS hR hl') (fun q => kf (i32_gt_f rx ry q) H locs ls hP hD hS hR hl')
theorem jr_if_gt {X : Cx} {cc : ByteArray} {own : String} {nL : Nat} {rt : Option FieldType} {W0 : List (Ad × Sh)} {d : Nat} (F : FX X cc own nL rt W0 d) {pc : Nat} {lv : List (Nat × Value)} {st : List Value} {g : GG} {x : Int} (rx : Rg x) {off : Int} {tgt : Nat} (hd : decode cc pc = .ok (.ifCond .gt off, 3)) (ht : (pc : Int) + off = (tgt : Int)) (kt : 0 < x → J X tgt lv st g) (kf : x ≤ 0 → J X (pc + 3) lv st g) : J X pc lv (iv x :: st) g := by
  obtain ⟨p, l, e, R, s, m, args, below, meth, c, ⟨ce, sl⟩, D, ⟨cI, cQ⟩, ad, WL, A, Q⟩ := X
  obtain ⟨hx, hb, hml, hown, hts, hK, hA, hlk, hrt, hWL, hfr, hlo, hce, hsl⟩ := F
  intro H locs ls hP hD hS hR hl'
  exact lv_if_gt hx hb hd ht (fun q => kt (i32_gt_t rx rg_0 q) H locs ls hP hD hS hR hl') (fun q => kf (i32_gt_f rx rg_0 q) H locs ls hP hD hS hR hl')
theorem jr_lcmp_gt {X : Cx} {cc : ByteArray} {own : String} {nL : Nat} {rt : Option FieldType} {W0 : List (Ad × Sh)} {d : Nat} (F : FX X cc own nL rt W0 d) {pc : Nat} {lv : List (Nat × Value)} {st : List Value} {g : GG} {x y : Int} (rx : Rl x) (ry : Rl y) {off : Int} {tgt : Nat} (hd1 : decode cc pc = .ok (.lcmp, 1)) (hd : decode cc (pc + 1) = .ok (.ifCond .gt off, 3)) (ht : ((pc + 1 : Nat) : Int) + off = (tgt : Int)) (kt : y < x → J X tgt lv st g) (kf : x ≤ y → J X (pc + 4) lv st g) : J X pc lv (lgv y :: lgv x :: st) g := by
  obtain ⟨p, l, e, R, s, m, args, below, meth, c, ⟨ce, sl⟩, D, ⟨cI, cQ⟩, ad, WL, A, Q⟩ := X
  obtain ⟨hx, hb, hml, hown, hts, hK, hA, hlk, hrt, hWL, hfr, hlo, hce, hsl⟩ := F
  intro H locs ls hP hD hS hR hl'
  refine W.lcmp hx hb hd1 ?_
  exact lv_if_gt hx hb hd ht (fun q => kt (i64_gt_t rx ry q) H locs ls hP hD hS hR hl') (fun q => kf (i64_gt_f rx ry q) H locs ls hP hD hS hR hl')
theorem jr_icmp_le {X : Cx} {cc : ByteArray} {own : String} {nL : Nat} {rt : Option FieldType} {W0 : List (Ad × Sh)} {d : Nat} (F : FX X cc own nL rt W0 d) {pc : Nat} {lv : List (Nat × Value)} {st : List Value} {g : GG} {x y : Int} (rx : Rg x) (ry : Rg y) {off : Int} {tgt : Nat} (hd : decode cc pc = .ok (.if_icmp .le off, 3)) (ht : (pc : Int) + off = (tgt : Int)) (kt : x ≤ y → J X tgt lv st g) (kf : y < x → J X (pc + 3) lv st g) : J X pc lv (iv y :: iv x :: st) g := by
  obtain ⟨p, l, e, R, s, m, args, below, meth, c, ⟨ce, sl⟩, D, ⟨cI, cQ⟩, ad, WL, A, Q⟩ := X
  obtain ⟨hx, hb, hml, hown, hts, hK, hA, hlk, hrt, hWL, hfr, hlo, hce, hsl⟩ := F
  intro H locs ls hP hD hS hR hl'
  exact lv_icmp_le hx hb hd ht (fun q => kt (i32_le_t rx ry q) H locs ls hP hD hS hR hl') (fun q => kf (i32_le_f rx ry q) H locs ls hP hD hS hR hl')
theorem jr_if_le {X : Cx} {cc : ByteArray} {own : String} {nL : Nat} {rt : Option FieldType} {W0 : List (Ad × Sh)} {d : Nat} (F : FX X cc own nL rt W0 d) {pc : Nat} {lv : List (Nat × Value)} {st : List Value} {g : GG} {x : Int} (rx : Rg x) {off : Int} {tgt : Nat} (hd : decode cc pc = .ok (.ifCond .le off, 3)) (ht : (pc : Int) + off = (tgt : Int)) (kt : x ≤ 0 → J X tgt lv st g) (kf : 0 < x → J X (pc + 3) lv st g) : J X pc lv (iv x :: st) g := by
  obtain ⟨p, l, e, R, s, m, args, below, meth, c, ⟨ce, sl⟩, D, ⟨cI, cQ⟩, ad, WL, A, Q⟩ := X
  obtain ⟨hx, hb, hml, hown, hts, hK, hA, hlk, hrt, hWL, hfr, hlo, hce, hsl⟩ := F
  intro H locs ls hP hD hS hR hl'
  exact lv_if_le hx hb hd ht (fun q => kt (i32_le_t rx rg_0 q) H locs ls hP hD hS hR hl') (fun q => kf (i32_le_f rx rg_0 q) H locs ls hP hD hS hR hl')
theorem jr_lcmp_le {X : Cx} {cc : ByteArray} {own : String} {nL : Nat} {rt : Option FieldType} {W0 : List (Ad × Sh)} {d : Nat} (F : FX X cc own nL rt W0 d) {pc : Nat} {lv : List (Nat × Value)} {st : List Value} {g : GG} {x y : Int} (rx : Rl x) (ry : Rl y) {off : Int} {tgt : Nat} (hd1 : decode cc pc = .ok (.lcmp, 1)) (hd : decode cc (pc + 1) = .ok (.ifCond .le off, 3)) (ht : ((pc + 1 : Nat) : Int) + off = (tgt : Int)) (kt : x ≤ y → J X tgt lv st g) (kf : y < x → J X (pc + 4) lv st g) : J X pc lv (lgv y :: lgv x :: st) g := by
  obtain ⟨p, l, e, R, s, m, args, below, meth, c, ⟨ce, sl⟩, D, ⟨cI, cQ⟩, ad, WL, A, Q⟩ := X
  obtain ⟨hx, hb, hml, hown, hts, hK, hA, hlk, hrt, hWL, hfr, hlo, hce, hsl⟩ := F
  intro H locs ls hP hD hS hR hl'
  refine W.lcmp hx hb hd1 ?_
  exact lv_if_le hx hb hd ht (fun q => kt (i64_le_t rx ry q) H locs ls hP hD hS hR hl') (fun q => kf (i64_le_f rx ry q) H locs ls hP hD hS hR hl')
theorem jr_icmp_eq {X : Cx} {cc : ByteArray} {own : String} {nL : Nat} {rt : Option FieldType} {W0 : List (Ad × Sh)} {d : Nat} (F : FX X cc own nL rt W0 d) {pc : Nat} {lv : List (Nat × Value)} {st : List Value} {g : GG} {x y : Int} (rx : Rg x) (ry : Rg y) {off : Int} {tgt : Nat} (hd : decode cc pc = .ok (.if_icmp .eq off, 3)) (ht : (pc : Int) + off = (tgt : Int)) (kt : x = y → J X tgt lv st g) (kf : ¬ x = y → J X (pc + 3) lv st g) : J X pc lv (iv y :: iv x :: st) g := by
  obtain ⟨p, l, e, R, s, m, args, below, meth, c, ⟨ce, sl⟩, D, ⟨cI, cQ⟩, ad, WL, A, Q⟩ := X
  obtain ⟨hx, hb, hml, hown, hts, hK, hA, hlk, hrt, hWL, hfr, hlo, hce, hsl⟩ := F
  intro H locs ls hP hD hS hR hl'
  exact lv_icmp_eq hx hb hd ht (fun q => kt (i32_eq_t rx ry q) H locs ls hP hD hS hR hl') (fun q => kf (i32_eq_f rx ry q) H locs ls hP hD hS hR hl')
theorem jr_if_eq {X : Cx} {cc : ByteArray} {own : String} {nL : Nat} {rt : Option FieldType} {W0 : List (Ad × Sh)} {d : Nat} (F : FX X cc own nL rt W0 d) {pc : Nat} {lv : List (Nat × Value)} {st : List Value} {g : GG} {x : Int} (rx : Rg x) {off : Int} {tgt : Nat} (hd : decode cc pc = .ok (.ifCond .eq off, 3)) (ht : (pc : Int) + off = (tgt : Int)) (kt : x = 0 → J X tgt lv st g) (kf : ¬ x = 0 → J X (pc + 3) lv st g) : J X pc lv (iv x :: st) g := by
  obtain ⟨p, l, e, R, s, m, args, below, meth, c, ⟨ce, sl⟩, D, ⟨cI, cQ⟩, ad, WL, A, Q⟩ := X
  obtain ⟨hx, hb, hml, hown, hts, hK, hA, hlk, hrt, hWL, hfr, hlo, hce, hsl⟩ := F
  intro H locs ls hP hD hS hR hl'
  exact lv_if_eq hx hb hd ht (fun q => kt (i32_eq_t rx rg_0 q) H locs ls hP hD hS hR hl') (fun q => kf (i32_eq_f rx rg_0 q) H locs ls hP hD hS hR hl')
theorem jr_lcmp_eq {X : Cx} {cc : ByteArray} {own : String} {nL : Nat} {rt : Option FieldType} {W0 : List (Ad × Sh)} {d : Nat} (F : FX X cc own nL rt W0 d) {pc : Nat} {lv : List (Nat × Value)} {st : List Value} {g : GG} {x y : Int} (rx : Rl x) (ry : Rl y) {off : Int} {tgt : Nat} (hd1 : decode cc pc = .ok (.lcmp, 1)) (hd : decode cc (pc + 1) = .ok (.ifCond .eq off, 3)) (ht : ((pc + 1 : Nat) : Int) + off = (tgt : Int)) (kt : x = y → J X tgt lv st g) (kf : ¬ x = y → J X (pc + 4) lv st g) : J X pc lv (lgv y :: lgv x :: st) g := by
  obtain ⟨p, l, e, R, s, m, args, below, meth, c, ⟨ce, sl⟩, D, ⟨cI, cQ⟩, ad, WL, A, Q⟩ := X
  obtain ⟨hx, hb, hml, hown, hts, hK, hA, hlk, hrt, hWL, hfr, hlo, hce, hsl⟩ := F
  intro H locs ls hP hD hS hR hl'
  refine W.lcmp hx hb hd1 ?_
  exact lv_if_eq hx hb hd ht (fun q => kt (i64_eq_t rx ry q) H locs ls hP hD hS hR hl') (fun q => kf (i64_eq_f rx ry q) H locs ls hP hD hS hR hl')
theorem jr_icmp_ne {X : Cx} {cc : ByteArray} {own : String} {nL : Nat} {rt : Option FieldType} {W0 : List (Ad × Sh)} {d : Nat} (F : FX X cc own nL rt W0 d) {pc : Nat} {lv : List (Nat × Value)} {st : List Value} {g : GG} {x y : Int} (rx : Rg x) (ry : Rg y) {off : Int} {tgt : Nat} (hd : decode cc pc = .ok (.if_icmp .ne off, 3)) (ht : (pc : Int) + off = (tgt : Int)) (kt : ¬ x = y → J X tgt lv st g) (kf : x = y → J X (pc + 3) lv st g) : J X pc lv (iv y :: iv x :: st) g := by
  obtain ⟨p, l, e, R, s, m, args, below, meth, c, ⟨ce, sl⟩, D, ⟨cI, cQ⟩, ad, WL, A, Q⟩ := X
  obtain ⟨hx, hb, hml, hown, hts, hK, hA, hlk, hrt, hWL, hfr, hlo, hce, hsl⟩ := F
  intro H locs ls hP hD hS hR hl'
  exact lv_icmp_ne hx hb hd ht (fun q => kt (i32_ne_t rx ry q) H locs ls hP hD hS hR hl') (fun q => kf (i32_ne_f rx ry q) H locs ls hP hD hS hR hl')
theorem jr_if_ne {X : Cx} {cc : ByteArray} {own : String} {nL : Nat} {rt : Option FieldType} {W0 : List (Ad × Sh)} {d : Nat} (F : FX X cc own nL rt W0 d) {pc : Nat} {lv : List (Nat × Value)} {st : List Value} {g : GG} {x : Int} (rx : Rg x) {off : Int} {tgt : Nat} (hd : decode cc pc = .ok (.ifCond .ne off, 3)) (ht : (pc : Int) + off = (tgt : Int)) (kt : ¬ x = 0 → J X tgt lv st g) (kf : x = 0 → J X (pc + 3) lv st g) : J X pc lv (iv x :: st) g := by
  obtain ⟨p, l, e, R, s, m, args, below, meth, c, ⟨ce, sl⟩, D, ⟨cI, cQ⟩, ad, WL, A, Q⟩ := X
  obtain ⟨hx, hb, hml, hown, hts, hK, hA, hlk, hrt, hWL, hfr, hlo, hce, hsl⟩ := F
  intro H locs ls hP hD hS hR hl'
  exact lv_if_ne hx hb hd ht (fun q => kt (i32_ne_t rx rg_0 q) H locs ls hP hD hS hR hl') (fun q => kf (i32_ne_f rx rg_0 q) H locs ls hP hD hS hR hl')
theorem jr_lcmp_ne {X : Cx} {cc : ByteArray} {own : String} {nL : Nat} {rt : Option FieldType} {W0 : List (Ad × Sh)} {d : Nat} (F : FX X cc own nL rt W0 d) {pc : Nat} {lv : List (Nat × Value)} {st : List Value} {g : GG} {x y : Int} (rx : Rl x) (ry : Rl y) {off : Int} {tgt : Nat} (hd1 : decode cc pc = .ok (.lcmp, 1)) (hd : decode cc (pc + 1) = .ok (.ifCond .ne off, 3)) (ht : ((pc + 1 : Nat) : Int) + off = (tgt : Int)) (kt : ¬ x = y → J X tgt lv st g) (kf : x = y → J X (pc + 4) lv st g) : J X pc lv (lgv y :: lgv x :: st) g := by
  obtain ⟨p, l, e, R, s, m, args, below, meth, c, ⟨ce, sl⟩, D, ⟨cI, cQ⟩, ad, WL, A, Q⟩ := X
  obtain ⟨hx, hb, hml, hown, hts, hK, hA, hlk, hrt, hWL, hfr, hlo, hce, hsl⟩ := F
  intro H locs ls hP hD hS hR hl'
  refine W.lcmp hx hb hd1 ?_
  exact lv_if_ne hx hb hd ht (fun q => kt (i64_ne_t rx ry q) H locs ls hP hD hS hR hl') (fun q => kf (i64_ne_f rx ry q) H locs ls hP hD hS hR hl')
theorem J_rg {X : Cx} {pc : Nat} {lv : List (Nat × Value)} {st : List Value} {g : GG} (K : RgG g → J X pc lv st g) : J X pc lv st g := by
  obtain ⟨p, l, e, R, s, m, args, below, meth, c, ⟨ce, sl⟩, D, ⟨cI, cQ⟩, ad, WL, A, Q⟩ := X
  intro H locs ls hP hD hS hR hl'
  exact K hR H locs ls hP hD hS hR hl'
theorem tb_nat : Cond.native arraycopyName ∈ lw_tb := List.mem_filter.mpr ⟨List.mem_append_right _ (List.mem_of_getElem? (i := 212) (by decide +kernel)), by decide +kernel⟩
theorem tb_stat : Cond.static arraycopyName ∈ lw_tb := List.mem_filter.mpr ⟨List.mem_append_right _ (List.mem_of_getElem? (i := 211) (by decide +kernel)), by decide +kernel⟩
theorem tb_sys : Cond.initialized "java/lang/System" ∈ lw_tb := List.mem_filter.mpr ⟨List.mem_append_right _ (List.mem_of_getElem? (i := 6) (by decide +kernel)), by decide +kernel⟩
theorem tb_math : Cond.initialized "java/lang/Math" ∈ lw_tb := List.mem_filter.mpr ⟨List.mem_append_right _ (List.mem_of_getElem? (i := 8) (by decide +kernel)), by decide +kernel⟩
theorem tb_smin : Cond.static Lib.Math.min.name ∈ lw_tb := List.mem_filter.mpr ⟨List.mem_append_right _ (List.mem_of_getElem? (i := 268) (by decide +kernel)), by decide +kernel⟩
theorem tb_cmin : Cond.code Lib.Math.min.name Lib.Math.min.code 2 (some .int) ∈ lw_tb := List.mem_filter.mpr ⟨List.mem_append_right _ (List.mem_of_getElem? (i := 269) (by decide +kernel)), by decide +kernel⟩
theorem tb_smax : Cond.static Lib.Math.max.name ∈ lw_tb := List.mem_filter.mpr ⟨List.mem_append_right _ (List.mem_of_getElem? (i := 254) (by decide +kernel)), by decide +kernel⟩
theorem tb_cmax : Cond.code Lib.Math.max.name Lib.Math.max.code 2 (some .int) ∈ lw_tb := List.mem_filter.mpr ⟨List.mem_append_right _ (List.mem_of_getElem? (i := 255) (by decide +kernel)), by decide +kernel⟩
theorem tb_sabs : Cond.static Lib.Math.abs.name ∈ lw_tb := List.mem_filter.mpr ⟨List.mem_append_right _ (List.mem_of_getElem? (i := 547) (by decide +kernel)), by decide +kernel⟩
theorem tb_cabs : Cond.code Lib.Math.abs.name Lib.Math.abs.code 1 (some .int) ∈ lw_tb := List.mem_filter.mpr ⟨List.mem_append_right _ (List.mem_of_getElem? (i := 548) (by decide +kernel)), by decide +kernel⟩
/-- what the tables say of the classes -/
def clsF (q : vw_C) : Prop := (∀ w ∈ u_ws q.1 q.2.1 q.2.2, w ∈ lw_tb) ∧ ∃ ty0 : Nat → FieldType, (∀ k, k < q.2.2 → parseFieldDescriptor (q.2.1 k).2.2.1 = some (ty0 k)) ∧ ∀ a, a < q.2.2 → ∀ b, b < q.2.2 → a ≠ b → (q.2.1 a).2.1 ≠ (q.2.1 b).2.1
/-- a field's link: in class own, at index idx, stands field k of class ci -/
def Fld (own : String) (idx ci k : Nat) : Prop := ∃ q : vw_C, vwCl[ci]? = some q ∧ k < q.2.2 ∧ Cond.fieldLink own idx (q.2.1 k).1 (q.2.1 k).2.1 (q.2.1 k).2.2.1 ∈ lw_tb
def FldW (own : String) (idx ci k : Nat) (ty : FieldType) : Prop := ∃ q : vw_C, vwCl[ci]? = some q ∧ k < q.2.2 ∧ Cond.fieldLink own idx (q.2.1 k).1 (q.2.1 k).2.1 (q.2.1 k).2.2.1 ∈ lw_tb ∧ (q.2.1 k).2.2.2 = false ∧ parseFieldDescriptor (q.2.1 k).2.2.1 = some ty
theorem cls_ok : ∀ (ci : Nat) (q : vw_C), vwCl[ci]? = some q → clsF q := by
  intro ci q h
  match ci, h with
  | 0, h => cases h; exact ⟨by decide +kernel, tyX1, tyX1_ok, nmX1⟩
  | 1, h => cases h; exact ⟨by decide +kernel, tyX2, tyX2_ok, nmX2⟩
  | 2, h => cases h; exact ⟨by decide +kernel, tyX3, tyX3_ok, nmX3⟩
  | 3, h => cases h; exact ⟨by decide +kernel, tyX4, tyX4_ok, nmX4⟩
  | 4, h => cases h; exact ⟨by decide +kernel, tyX5, tyX5_ok, nmX5⟩
  | n + 5, h => simp [vwCl] at h
theorem vp_in_gd {y : Int} {n : Nat} (h : gd y (n : Int)) (hn : n ≤ 2147483648) : vp_in (Int32.ofInt y) n := by
  have hr : Rg y := gd_rg h (by omega)
  rw [vp_in_iff, i32_to hr]
  exact h
theorem clamp_gd {y : Int} {n : Nat} (h : gd y (n : Int)) (hn : n ≤ 2147483648) : (((Int32.ofInt y).toNatClampNeg : Nat) : Int) = y := by
  have hr : Rg y := gd_rg h (by omega)
  rw [← Int32.toNat_toInt, i32_to hr]
  exact Int.toNat_of_nonneg h.1
theorem jr_get {X : Cx} {cc : ByteArray} {own : String} {nL : Nat} {rt : Option FieldType} {W0 : List (Ad × Sh)} {d : Nat} (F : FX X cc own nL rt W0 d) {pc : Nat} {lv : List (Nat × Value)} {st : List Value} {g : GG} {idx ci k : Nat} {a : Ad} {ks : List Fk} {f : Fk} (hF : Fld own idx ci k) (hm : (a, (.inl (ci, ks) : Sh)) ∈ W0) (hk : ks[k]? = some f) (hd : decode cc pc = .ok (.getfield idx, 3)) (K : J X (pc + 3) lv (fv (xad X) g a k f :: st) g) : J X pc lv (.ref (xad X a) :: st) g := by
  obtain ⟨p, l, e, R, s, m, args, below, meth, c, ⟨ce, sl⟩, D, ⟨cI, cQ⟩, ad, WL, A, Q⟩ := X
  obtain ⟨hx, hb, hml, hown, hts, hK, hA, hlk, hrt, hWL, hfr, hlo, hce, hsl⟩ := F
  intro H locs ls hP hD hS hR hl'
  obtain ⟨q, hq, hkq, hlink⟩ := hF
  obtain ⟨q0, hq0⟩ := List.getElem?_of_mem hm
  have hcl := cls_ok ci q hq
  rw [← hWL.1] at hq0
  have he := wsO_at (cI := cI) (cQ := cQ) (ad := ad) (g := g) hq0
  have hv : (fvs ad g a 0 ks)[k]? = some (fv ad g a k f) := by
    have := fvs_get ad g a ks 0 k f hk
    rwa [Nat.zero_add] at this
  exact va_get (D := D) (C := q.1) (T := q.2.1) (N := q.2.2) hx hb hts hcl.1 hown hK hP q0 he hq k hkq (hts _ hlink) (fun _ h9 => h9) hv hd (K H locs ls hP hD hS hR hl')
theorem fv_i {ad : Ad → Nat} {g : GG} {a : Ad} {k : Nat} : fv ad g a k none = iv (g a.1 a.2.1 a.2.2 (k : Int)) := rfl
theorem jr_getI {X : Cx} {cc : ByteArray} {own : String} {nL : Nat} {rt : Option FieldType} {W0 : List (Ad × Sh)} {d : Nat} (F : FX X cc own nL rt W0 d) {pc : Nat} {lv : List (Nat × Value)} {st : List Value} {g : GG} {idx ci k : Nat} {a : Ad} {ks : List Fk} (x : Int) (hF : Fld own idx ci k) (hm : (a, (.inl (ci, ks) : Sh)) ∈ W0) (hk : ks[k]? = some none) (hg : g a.1 a.2.1 a.2.2 (k : Int) = x) (hd : decode cc pc = .ok (.getfield idx, 3)) (K : Rg x → J X (pc + 3) lv (iv x :: st) g) : J X pc lv (.ref (xad X a) :: st) g := by
  refine jr_get F hF hm hk hd ?_
  rw [fv_i, hg]
  exact J_rg (fun hR => K (by rw [← hg]; exact hR _ _ _ _))
theorem jr_getR {X : Cx} {cc : ByteArray} {own : String} {nL : Nat} {rt : Option FieldType} {W0 : List (Ad × Sh)} {d : Nat} (F : FX X cc own nL rt W0 d) {pc : Nat} {lv : List (Nat × Value)} {st : List Value} {g : GG} {idx ci k : Nat} {a b : Ad} {ks : List Fk} (hF : Fld own idx ci k) (hm : (a, (.inl (ci, ks) : Sh)) ∈ W0) (hk : ks[k]? = some (some (.inl b))) (hd : decode cc pc = .ok (.getfield idx, 3)) (K : J X (pc + 3) lv (.ref (xad X b) :: st) g) : J X pc lv (.ref (xad X a) :: st) g := jr_get F hF hm hk hd K
theorem jr_getD {X : Cx} {cc : ByteArray} {own : String} {nL : Nat} {rt : Option FieldType} {W0 : List (Ad × Sh)} {d : Nat} (F : FX X cc own nL rt W0 d) {pc : Nat} {lv : List (Nat × Value)} {st : List Value} {g : GG} {idx ci k q : Nat} {a b : Ad} {ks : List Fk} (hF : Fld own idx ci k) (hm : (a, (.inl (ci, ks) : Sh)) ∈ W0) (hk : ks[k]? = some (some (.inr q))) (hb : drf q (g a.1 a.2.1 a.2.2 (k : Int)) = some b) (hd : decode cc pc = .ok (.getfield idx, 3)) (K : J X (pc + 3) lv (.ref (xad X b) :: st) g) : J X pc lv (.ref (xad X a) :: st) g := by
  refine jr_get F hF hm hk hd ?_
  unfold fv
  simp only [hb]
  exact K
theorem jr_put {X : Cx} {cc : ByteArray} {own : String} {nL : Nat} {rt : Option FieldType} {W0 : List (Ad × Sh)} {d : Nat} (F : FX X cc own nL rt W0 d) {pc : Nat} {lv : List (Nat × Value)} {st : List Value} {g : GG} {idx ci k : Nat} {ty : FieldType} {a : Ad} {ks : List Fk} {f : Fk} {x : Int} (g' : GG) (hF : FldW own idx ci k ty) (hm : (a, (.inl (ci, ks) : Sh)) ∈ W0) (hk : ks[k]? = some f) (rx : Rg x) (hg : hw g a (k : Int) x = g') (hn : narrow ty (fv (xad X) g' a k f) = fv (xad X) g' a k f) (hfit : fits ty (fv (xad X) g' a k f) = true) (hd : decode cc pc = .ok (.putfield idx, 3)) (K : J X (pc + 3) lv st g') : J X pc lv (fv (xad X) g' a k f :: .ref (xad X a) :: st) g := by
  obtain ⟨p, l, e, R, s, m, args, below, meth, c, ⟨ce, sl⟩, D, ⟨cI, cQ⟩, ad, WL, A, Q⟩ := X
  obtain ⟨hx, hb, hml, hown, hts, hK, hA, hlk, hrt, hWL, hfr, hlo, hce, hsl⟩ := F
  intro H locs ls hP hD hS hR hl'
  obtain ⟨q, hq, hkq, hlink, hfin, hty⟩ := hF
  obtain ⟨q0, hq0⟩ := List.getElem?_of_mem hm
  obtain ⟨hc1, ty0, hc2, hc3⟩ := cls_ok ci q hq
  have hW := hWL.2
  rw [← hWL.1] at hq0 hW
  have he := wsO_at (cI := cI) (cQ := cQ) (ad := ad) (g := g) hq0
  have hlt : k < (fvs ad g a 0 ks).length := by rw [fvs_len]; exact (List.getElem?_eq_some_iff.mp hk).1
  refine va_put (D := D) (C := q.1) (T := q.2.1) (N := q.2.2) hx hb hts hc1 ty0 hc2 hc3 hown hK hP hD hS q0 he hq k hkq (hts _ hlink) (fun _ h9 => h9) hfin hty hn hfit hlt hd (fun H1 locs1 hP1 hD1 hS1 => ?_)
  have e1 : (fvs ad g a 0 ks).set k (fv ad g' a k f) = fvs ad g' a 0 ks := by
    have h1 := fvs_set (ad := ad) (g := g) (g' := g') (a := a) ks 0 k f hk (fun j hj => by rw [← hg]; exact hw_own (by omega))
    rwa [Nat.zero_add] at h1
  have e2 : (wsO cI cQ ad WL g).set q0 (ad a, .inr (ci, (fvs ad g a 0 ks).set k (fv ad g' a k f))) = wsO cI cQ ad WL g' := by
    rw [e1]
    exact wsO_set hW hq0 (fun b hb j => by rw [← hg]; exact hw_other hb j)
  exact K H1 locs1 ls (e2 ▸ hP1) (e2 ▸ hD1) hS1 (by rw [← hg]; exact RgG_hw hR rx) hl'
theorem jr_putI {X : Cx} {cc : ByteArray} {own : String} {nL : Nat} {rt : Option FieldType} {W0 : List (Ad × Sh)} {d : Nat} (F : FX X cc own nL rt W0 d) {pc : Nat} {lv : List (Nat × Value)} {st : List Value} {g : GG} {idx ci k : Nat} {a : Ad} {ks : List Fk} {x : Int} (g' : GG) (hF : FldW own idx ci k .int) (hm : (a, (.inl (ci, ks) : Sh)) ∈ W0) (hk : ks[k]? = some none) (rx : Rg x) (hg : hw g a (k : Int) x = g') (hd : decode cc pc = .ok (.putfield idx, 3)) (K : J X (pc + 3) lv st g') : J X pc lv (iv x :: .ref (xad X a) :: st) g := by
  have e : fv (xad X) g' a k none = iv x := by rw [fv_i, ← hg, hw_same]
  have h := jr_put (f := none) F (st := st) (lv := lv) g' hF hm hk rx hg (by rw [e]; rfl) (by rw [e]; rfl) hd K
  rwa [e] at h
theorem jr_putZ {X : Cx} {cc : ByteArray} {own : String} {nL : Nat} {rt : Option FieldType} {W0 : List (Ad × Sh)} {d : Nat} (F : FX X cc own nL rt W0 d) {pc : Nat} {lv : List (Nat × Value)} {st : List Value} {g : GG} {idx ci k : Nat} {a : Ad} {ks : List Fk} {x : Int} (g' : GG) (hF : FldW own idx ci k .boolean) (hm : (a, (.inl (ci, ks) : Sh)) ∈ W0) (hk : ks[k]? = some none) (rz : x = 0 ∨ x = 1) (hg : hw g a (k : Int) x = g') (hd : decode cc pc = .ok (.putfield idx, 3)) (K : J X (pc + 3) lv st g') : J X pc lv (iv x :: .ref (xad X a) :: st) g := by
  have e : fv (xad X) g' a k none = iv x := by rw [fv_i, ← hg, hw_same]
  have rx : Rg x := by unfold Rg; omega
  have h := jr_put (f := none) F (st := st) (lv := lv) g' hF hm hk rx hg (by rw [e]; rcases rz with rfl | rfl <;> rfl) (by rw [e]; rcases rz with rfl | rfl <;> rfl) hd K
  rwa [e] at h
theorem jr_putD {X : Cx} {cc : ByteArray} {own : String} {nL : Nat} {rt : Option FieldType} {W0 : List (Ad × Sh)} {d : Nat} (F : FX X cc own nL rt W0 d) {pc : Nat} {lv : List (Nat × Value)} {st : List Value} {g : GG} {idx ci k q : Nat} {ty : FieldType} {a b : Ad} {ks : List Fk} (x : Int) (g' : GG) (hty : ty = .array .int) (hF : FldW own idx ci k ty) (hm : (a, (.inl (ci, ks) : Sh)) ∈ W0) (hk : ks[k]? = some (some (.inr q))) (rx : Rg x) (hb : drf q x = some b) (hg : hw g a (k : Int) x = g') (hd : decode cc pc = .ok (.putfield idx, 3)) (K : J X (pc + 3) lv st g') : J X pc lv (.ref (xad X b) :: .ref (xad X a) :: st) g := by
  have e : fv (xad X) g' a k (some (.inr q)) = .ref (xad X b) := by
    unfold fv
    simp only [← hg, hw_same, hb]
    rfl
  have h := jr_put (f := some (.inr q)) F (st := st) (lv := lv) g' hF hm hk rx hg (by rw [e, hty]; rfl) (by rw [e, hty]; rfl) hd K
  rwa [e] at h
theorem jr_iald {X : Cx} {cc : ByteArray} {own : String} {nL : Nat} {rt : Option FieldType} {W0 : List (Ad × Sh)} {d : Nat} (F : FX X cc own nL rt W0 d) {pc : Nat} {lv : List (Nat × Value)} {st : List Value} {g : GG} {a : Ad} {n : Nat} {y : Int} (x : Int) (hm : (a, (.inr (.inl n) : Sh)) ∈ W0) (hn : n ≤ 2147483648) (hi : gd y (n : Int)) (hg : g a.1 a.2.1 a.2.2 y = x) (hd : decode cc pc = .ok (.iaload, 1)) (K : Rg x → J X (pc + 1) lv (iv x :: st) g) : J X pc lv (iv y :: .ref (xad X a) :: st) g := by
  obtain ⟨p, l, e, R, s, m, args, below, meth, c, ⟨ce, sl⟩, D, ⟨cI, cQ⟩, ad, WL, A, Q⟩ := X
  obtain ⟨hx, hb, hml, hown, hts, hK, hA, hlk, hrt, hWL, hfr, hlo, hce, hsl⟩ := F
  intro H locs ls hP hD hS hR hl'
  obtain ⟨q0, hq0⟩ := List.getElem?_of_mem hm
  rw [← hWL.1] at hq0
  have he := wsO_at (cI := cI) (cQ := cQ) (ad := ad) (g := g) hq0
  refine va_iald (D := D) hx hb hK hP q0 0 he rfl (vp_in_gd hi hn) hd ?_
  rw [clamp_gd hi hn, hg]
  exact K (by rw [← hg]; exact hR _ _ _ _) H locs ls hP hD hS hR hl'
theorem jr_iast {X : Cx} {cc : ByteArray} {own : String} {nL : Nat} {rt : Option FieldType} {W0 : List (Ad × Sh)} {d : Nat} (F : FX X cc own nL rt W0 d) {pc : Nat} {lv : List (Nat × Value)} {st : List Value} {g : GG} {a : Ad} {n : Nat} {x y : Int} (g' : GG) (hm : (a, (.inr (.inl n) : Sh)) ∈ W0) (hn : n ≤ 2147483648) (hi : gd y (n : Int)) (rx : Rg x) (hg : hw g a y x = g') (hd : decode cc pc = .ok (.iastore, 1)) (K : J X (pc + 1) lv st g') : J X pc lv (iv x :: iv y :: .ref (xad X a) :: st) g := by
  obtain ⟨p, l, e, R, s, m, args, below, meth, c, ⟨ce, sl⟩, D, ⟨cI, cQ⟩, ad, WL, A, Q⟩ := X
  obtain ⟨hx, hb, hml, hown, hts, hK, hA, hlk, hrt, hWL, hfr, hlo, hce, hsl⟩ := F
  intro H locs ls hP hD hS hR hl'
  obtain ⟨q0, hq0⟩ := List.getElem?_of_mem hm
  have hW := hWL.2
  rw [← hWL.1] at hq0 hW
  have he := wsO_at (cI := cI) (cQ := cQ) (ad := ad) (g := g) hq0
  refine va_iast (D := D) hx hb hK hP hD hS q0 0 he rfl (vp_in_gd hi hn) hd (fun H1 locs1 hP1 hD1 hS1 => ?_)
  have e1 : upd (fun j : Nat => Int32.ofInt (g a.1 a.2.1 a.2.2 (j : Int))) (Int32.ofInt y).toNatClampNeg (Int32.ofInt x) = fun j : Nat => Int32.ofInt (g' a.1 a.2.1 a.2.2 (j : Int)) := by
    funext j
    have hc := clamp_gd hi hn
    by_cases hj : j = (Int32.ofInt y).toNatClampNeg
    · subst hj
      rw [pk_us, hc, ← hg, hw_same]
    · rw [pk_un hj, ← hg, hw_own (fun z => hj (by omega))]
  have e2 : (wsO cI cQ ad WL g).set q0 (ad a, .inl (cI, n, .inl (upd (fun j : Nat => Int32.ofInt (g a.1 a.2.1 a.2.2 (j : Int))) (Int32.ofInt y).toNatClampNeg (Int32.ofInt x)))) = wsO cI cQ ad WL g' := by
    rw [e1]
    exact wsO_set hW hq0 (fun b hb j => by rw [← hg]; exact hw_other hb j)
  exact K H1 locs1 ls (e2 ▸ hP1) (e2 ▸ hD1) hS1 (by rw [← hg]; exact RgG_hw hR rx) hl'
theorem jr_aald {X : Cx} {cc : ByteArray} {own : String} {nL : Nat} {rt : Option FieldType} {W0 : List (Ad × Sh)} {d : Nat} (F : FX X cc own nL rt W0 d) {pc : Nat} {lv : List (Nat × Value)} {st : List Value} {g : GG} {a b : Ad} {n : Nat} {y : Int} (hm : (a, (.inr (.inr n) : Sh)) ∈ W0) (hn : n ≤ 2147483648) (hi : gd y (n : Int)) (hg : drf 0 (g a.1 a.2.1 a.2.2 y) = some b) (hd : decode cc pc = .ok (.aaload, 1)) (K : J X (pc + 1) lv (.ref (xad X b) :: st) g) : J X pc lv (iv y :: .ref (xad X a) :: st) g := by
  obtain ⟨p, l, e, R, s, m, args, below, meth, c, ⟨ce, sl⟩, D, ⟨cI, cQ⟩, ad, WL, A, Q⟩ := X
  obtain ⟨hx, hb, hml, hown, hts, hK, hA, hlk, hrt, hWL, hfr, hlo, hce, hsl⟩ := F
  intro H locs ls hP hD hS hR hl'
  obtain ⟨q0, hq0⟩ := List.getElem?_of_mem hm
  rw [← hWL.1] at hq0
  have he := wsO_at (cI := cI) (cQ := cQ) (ad := ad) (g := g) hq0
  refine va_aldq (D := D) (C := RX2) hx hb hK hP q0 1 he rfl (vp_in_gd hi hn) hd ?_
  rw [clamp_gd hi hn, hg]
  exact K H locs ls hP hD hS hR hl'
set_option maxHeartbeats 1000000 in
theorem jr_aast {X : Cx} {cc : ByteArray} {own : String} {nL : Nat} {rt : Option FieldType} {W0 : List (Ad × Sh)} {d : Nat} (F : FX X cc own nL rt W0 d) {pc : Nat} {lv : List (Nat × Value)} {st : List Value} {g : GG} {a b : Ad} {n : Nat} {x y : Int} {vs : List Fk} (g' : GG) (hm : (a, (.inr (.inr n) : Sh)) ∈ W0) (hmb : (b, (.inl (1, vs) : Sh)) ∈ W0) (hn : n ≤ 2147483648) (hi : gd y (n : Int)) (rx : Rg x) (hb0 : drf 0 x = some b) (hg : hw g a y x = g') (hd : decode cc pc = .ok (.aastore, 1)) (K : J X (pc + 1) lv st g') : J X pc lv (.ref (xad X b) :: iv y :: .ref (xad X a) :: st) g := by
  obtain ⟨p, l, e, R, s, m, args, below, meth, c, ⟨ce, sl⟩, D, ⟨cI, cQ⟩, ad, WL, A, Q⟩ := X
  obtain ⟨hx, hb, hml, hown, hts, hK, hA, hlk, hrt, hWL, hfr, hlo, hce, hsl⟩ := F
  intro H locs ls hP hD hS hR hl'
  obtain ⟨q0, hq0⟩ := List.getElem?_of_mem hm
  obtain ⟨q1, hq1⟩ := List.getElem?_of_mem hmb
  have hW := hWL.2
  rw [← hWL.1] at hq0 hq1 hW
  have he := wsO_at (cI := cI) (cQ := cQ) (ad := ad) (g := g) hq0
  have he1 := wsO_at (cI := cI) (cQ := cQ) (ad := ad) (g := g) hq1
  refine va_astq (D := D) (r := (RX2, TX2, 18)) hx hb hK hP hD hS q0 1 q1 1 he rfl he1 rfl (vp_in_gd hi hn) hd (fun H1 locs1 hP1 hD1 hS1 => ?_)
  have e1 : va_up (fun j : Nat => (drf 0 (g a.1 a.2.1 a.2.2 (j : Int))).map ad) (Int32.ofInt y).toNatClampNeg (some (ad b)) = fun j : Nat => (drf 0 (g' a.1 a.2.1 a.2.2 (j : Int))).map ad := by
    funext j
    have hc := clamp_gd hi hn
    unfold va_up
    by_cases hj : j = (Int32.ofInt y).toNatClampNeg
    · subst hj
      rw [if_pos rfl, hc, ← hg, hw_same, hb0]
      rfl
    · rw [if_neg hj, ← hg, hw_own (fun z => hj (by omega))]
  have e2 : (wsO cI cQ ad WL g).set q0 (ad a, .inl (cQ, n, .inr (.inr (.inr (.inr (va_up (fun j : Nat => (drf 0 (g a.1 a.2.1 a.2.2 (j : Int))).map ad) (Int32.ofInt y).toNatClampNeg (some (ad b)))))))) = wsO cI cQ ad WL g' := by
    rw [e1]
    exact wsO_set hW hq0 (fun b hb j => by rw [← hg]; exact hw_other hb j)
  exact K H1 locs1 ls (e2 ▸ hP1) (e2 ▸ hD1) hS1 (by rw [← hg]; exact RgG_hw hR rx) hl'
set_option maxHeartbeats 1000000 in
theorem jr_copy {X : Cx} {cc : ByteArray} {own : String} {nL : Nat} {rt : Option FieldType} {W0 : List (Ad × Sh)} {d : Nat} (F : FX X cc own nL rt W0 d) {pc : Nat} {lv : List (Nat × Value)} {st : List Value} {g : GG} {idx : Nat} {a b : Ad} {n0 n1 n : Nat} (g' : GG) (hl0 : Cond.methodLink own idx arraycopyName ∈ lw_tb) (hm : (a, (.inr (.inl n0) : Sh)) ∈ W0) (hmb : (b, (.inr (.inl n1) : Sh)) ∈ W0) (hn0 : n ≤ n0) (hn1 : n ≤ n1) (hnb : n < 2147483648) (hg : hcp g a b (n : Int) = g') (hst : st = []) (hd1 : 1 ≤ d) (hd : decode cc pc = .ok (.invokestatic idx, 3)) (K : J X (pc + 3) lv st g') : J X pc lv (iv (n : Int) :: iv 0 :: .ref (xad X a) :: iv 0 :: .ref (xad X b) :: st) g := by
  obtain ⟨p, l, e, R, s, m, args, below, meth, c, ⟨ce, sl⟩, D, ⟨cI, cQ⟩, ad, WL, A, Q⟩ := X
  obtain ⟨hx, hb, hml, hown, hts, hK, hA, hlk, hrt, hWL, hfr, hlo, hce, hsl⟩ := F
  intro H locs ls hP hD hS hR hl'
  obtain ⟨q0, hq0⟩ := List.getElem?_of_mem hm
  obtain ⟨q1, hq1⟩ := List.getElem?_of_mem hmb
  have hW := hWL.2
  rw [← hWL.1] at hq0 hq1 hW
  have he := wsO_at (cI := cI) (cQ := cQ) (ad := ad) (g := g) hq0
  have he1 := wsO_at (cI := cI) (cQ := cQ) (ad := ad) (g := g) hq1
  have hz : (Int32.ofInt 0).toNatClampNeg = 0 := by decide
  have hnn : (Int32.ofInt (n : Int)).toNatClampNeg = n := by
    rw [← Int32.toNat_toInt, i32_to ⟨by omega, by omega⟩]
    exact Int.toNat_natCast n
  have hneg : ¬ Int32.ofInt (n : Int) < 0 := by
    have h0 : (0 : Int32) = Int32.ofInt 0 := by decide
    rw [h0, i32_lt ⟨by omega, by omega⟩ rg_0]
    omega
  subst hst
  refine va_copyi (D := D) hx hb hl'.1.symm hown (hts _ hl0) (hts (.native arraycopyName) tb_nat) (hts (.static arraycopyName) tb_stat) (hts (.initialized "java/lang/System") tb_sys) hK hP hD hS q1 q0 0 0 he1 he rfl rfl rfl (by decide) (by decide) hneg (by rw [hz, hnn]; omega) (by rw [hz, hnn]; omega) (fun _ _ => rfl) (by omega) (Nat.le_trans (Nat.le_of_ble_eq_true rfl) (Nat.le_trans (Nat.mul_le_mul_left 36 hd1) hlo)) hd (fun H1 locs1 hP1 hD1 hS1 => ?_)
  rw [hz, hnn] at hP1 hD1
  have e1 : va_cpy (fun j : Nat => Int32.ofInt (g b.1 b.2.1 b.2.2 (j : Int))) (fun j : Nat => Int32.ofInt (g a.1 a.2.1 a.2.2 (j : Int))) 0 0 n = fun j : Nat => Int32.ofInt (g' a.1 a.2.1 a.2.2 (j : Int)) := by
    funext j
    rw [← hg]
    unfold va_cpy hcp
    by_cases hj : j < n
    · rw [if_pos ⟨Nat.zero_le _, by omega⟩, if_pos ⟨rfl, rfl, rfl, by omega, by omega⟩, Nat.zero_add, Nat.sub_zero]
    · rw [if_neg (by omega), if_neg (by omega)]
  have e2 : (wsO cI cQ ad WL g).set q0 (ad a, .inl (cI, n0, .inl (va_cpy (fun j : Nat => Int32.ofInt (g b.1 b.2.1 b.2.2 (j : Int))) (fun j : Nat => Int32.ofInt (g a.1 a.2.1 a.2.2 (j : Int))) 0 0 n))) = wsO cI cQ ad WL g' := by
    rw [e1]
    refine wsO_set hW hq0 (fun z hz j => ?_)
    rw [← hg]
    unfold hcp
    rw [if_neg]
    rintro ⟨h1, h2, h3, -⟩
    exact hz (Prod.ext h1 (Prod.ext h2 h3))
  exact K H1 locs1 ls (e2 ▸ hP1) (e2 ▸ hD1) hS1 (by rw [← hg]; exact RgG_hcp hR) hl'
theorem jr_mmin {X : Cx} {cc : ByteArray} {own : String} {nL : Nat} {rt : Option FieldType} {W0 : List (Ad × Sh)} {d : Nat} (F : FX X cc own nL rt W0 d) {pc : Nat} {lv : List (Nat × Value)} {st : List Value} {g : GG} {idx : Nat} {x y : Int} (rx : Rg x) (ry : Rg y) (hl0 : Cond.methodLink own idx Lib.Math.min.name ∈ lw_tb) (hd1 : 1 ≤ d) (hst : (st.map fun v => v.category).sum ≤ 8) (hd : decode cc pc = .ok (.invokestatic idx, 3)) (K : J X (pc + 3) lv (iv (imin x y) :: st) g) : J X pc lv (iv y :: iv x :: st) g := by
  obtain ⟨p, l, e, R, s, m, args, below, meth, c, ⟨ce, sl⟩, D, ⟨cI, cQ⟩, ad, WL, A, Q⟩ := X
  obtain ⟨hx, hb, hml, hown, hts, hK, hA, hlk, hrt, hWL, hfr, hlo, hce, hsl⟩ := F
  intro H locs ls hP hD hS hR hl'
  refine va_mmin hx hb hl'.1.symm hown (hts _ hl0) (hts (.static Lib.Math.min.name) tb_smin) (hts (.initialized "java/lang/Math") tb_math) (hts (.code Lib.Math.min.name Lib.Math.min.code 2 (some .int)) tb_cmin) (by omega) (by omega) hce hsl hd ?_
  have e : (if Int32.ofInt y < Int32.ofInt x then Int32.ofInt y else Int32.ofInt x) = Int32.ofInt (imin x y) := by
    unfold imin
    by_cases h : y < x
    · rw [if_pos h, if_pos ((i32_lt ry rx).mpr h)]
    · rw [if_neg h, if_neg (fun z => h ((i32_lt ry rx).mp z))]
  rw [e]
  exact K H locs ls hP hD hS hR hl'
theorem jr_mmax {X : Cx} {cc : ByteArray} {own : String} {nL : Nat} {rt : Option FieldType} {W0 : List (Ad × Sh)} {d : Nat} (F : FX X cc own nL rt W0 d) {pc : Nat} {lv : List (Nat × Value)} {st : List Value} {g : GG} {idx : Nat} {x y : Int} (rx : Rg x) (ry : Rg y) (hl0 : Cond.methodLink own idx Lib.Math.max.name ∈ lw_tb) (hd1 : 1 ≤ d) (hst : (st.map fun v => v.category).sum ≤ 8) (hd : decode cc pc = .ok (.invokestatic idx, 3)) (K : J X (pc + 3) lv (iv (imax x y) :: st) g) : J X pc lv (iv y :: iv x :: st) g := by
  obtain ⟨p, l, e, R, s, m, args, below, meth, c, ⟨ce, sl⟩, D, ⟨cI, cQ⟩, ad, WL, A, Q⟩ := X
  obtain ⟨hx, hb, hml, hown, hts, hK, hA, hlk, hrt, hWL, hfr, hlo, hce, hsl⟩ := F
  intro H locs ls hP hD hS hR hl'
  refine va_mmax hx hb hl'.1.symm hown (hts _ hl0) (hts (.static Lib.Math.max.name) tb_smax) (hts (.initialized "java/lang/Math") tb_math) (hts (.code Lib.Math.max.name Lib.Math.max.code 2 (some .int)) tb_cmax) (by omega) (by omega) hce hsl hd ?_
  have e : (if Int32.ofInt x < Int32.ofInt y then Int32.ofInt y else Int32.ofInt x) = Int32.ofInt (imax x y) := by
    unfold imax
    by_cases h : x < y
    · rw [if_pos h, if_pos ((i32_lt rx ry).mpr h)]
    · rw [if_neg h, if_neg (fun z => h ((i32_lt rx ry).mp z))]
  rw [e]
  exact K H locs ls hP hD hS hR hl'
theorem jr_mabs {X : Cx} {cc : ByteArray} {own : String} {nL : Nat} {rt : Option FieldType} {W0 : List (Ad × Sh)} {d : Nat} (F : FX X cc own nL rt W0 d) {pc : Nat} {lv : List (Nat × Value)} {st : List Value} {g : GG} {idx : Nat} {x : Int} (rx : Rg x) (hl0 : Cond.methodLink own idx Lib.Math.abs.name ∈ lw_tb) (hd1 : 1 ≤ d) (hst : (st.map fun v => v.category).sum ≤ 8) (hd : decode cc pc = .ok (.invokestatic idx, 3)) (K : J X (pc + 3) lv (iv (iabs x) :: st) g) : J X pc lv (iv x :: st) g := by
  obtain ⟨p, l, e, R, s, m, args, below, meth, c, ⟨ce, sl⟩, D, ⟨cI, cQ⟩, ad, WL, A, Q⟩ := X
  obtain ⟨hx, hb, hml, hown, hts, hK, hA, hlk, hrt, hWL, hfr, hlo, hce, hsl⟩ := F
  intro H locs ls hP hD hS hR hl'
  refine va_mabs hx hb hl'.1.symm hown (hts _ hl0) (hts (.static Lib.Math.abs.name) tb_sabs) (hts (.initialized "java/lang/Math") tb_math) (hts (.code Lib.Math.abs.name Lib.Math.abs.code 1 (some .int)) tb_cabs) (by omega) (by omega) hce hsl hd ?_
  have e : (if 0 ≤ Int32.ofInt x then Int32.ofInt x else 0 - Int32.ofInt x) = Int32.ofInt (iabs x) := by
    unfold iabs
    have h0 : (0 : Int32) = Int32.ofInt 0 := by decide
    by_cases h : 0 ≤ x
    · rw [if_pos h, if_pos (by rw [h0]; exact (i32_le rg_0 rx).mpr h)]
    · rw [if_neg h, if_neg (by rw [h0]; exact fun z => h ((i32_le rg_0 rx).mp z)), i32_w, Int32.ofInt_sub]
      rfl
  rw [e]
  exact K H locs ls hP hD hS hR hl'
theorem jr_iret {X : Cx} {cc : ByteArray} {own : String} {nL : Nat} {rt : Option FieldType} {W0 : List (Ad × Sh)} {d : Nat} (F : FX X cc own nL rt W0 d) {pc : Nat} {lv : List (Nat × Value)} {g : GG} {x : Int} {Qp : Option Value → GG → Prop} (hQ : RTX X Qp) (hrt0 : rt = some .int) (hd : decode cc pc = .ok (.ireturn, 1)) (K : Qp (some (iv x)) g) : J X pc lv [iv x] g := by
  obtain ⟨p, l, e, R, s, m, args, below, meth, c, ⟨ce, sl⟩, D, ⟨cI, cQ⟩, ad, WL, A, Q⟩ := X
  obtain ⟨hx, hb, hml, hown, hts, hK, hA, hlk, hrt, hWL, hfr, hlo, hce, hsl⟩ := F
  intro H locs ls hP hD hS hR hl'
  have hQ : Q = MQ below (QG D cI cQ ad WL Qp A) args s ce sl A := hQ
  subst hQ
  exact W.iret hx hb (hrt.trans hrt0) (fun t ht hW => ⟨⟨_, g, rfl, K, by rw [ht]; exact hP, va_K.moved hW.alike hK, hD, hR⟩, hS.F ht⟩) hS.2.2 hd hlk
theorem jr_lret {X : Cx} {cc : ByteArray} {own : String} {nL : Nat} {rt : Option FieldType} {W0 : List (Ad × Sh)} {d : Nat} (F : FX X cc own nL rt W0 d) {pc : Nat} {lv : List (Nat × Value)} {g : GG} {x : Int} {Qp : Option Value → GG → Prop} (hQ : RTX X Qp) (hrt0 : rt = some .long) (hd : decode cc pc = .ok (.lreturn, 1)) (K : Qp (some (lgv x)) g) : J X pc lv [lgv x] g := by
  obtain ⟨p, l, e, R, s, m, args, below, meth, c, ⟨ce, sl⟩, D, ⟨cI, cQ⟩, ad, WL, A, Q⟩ := X
  obtain ⟨hx, hb, hml, hown, hts, hK, hA, hlk, hrt, hWL, hfr, hlo, hce, hsl⟩ := F
  intro H locs ls hP hD hS hR hl'
  have hQ : Q = MQ below (QG D cI cQ ad WL Qp A) args s ce sl A := hQ
  subst hQ
  exact W.lret hx hb (hrt.trans hrt0) (fun t ht hW => ⟨⟨_, g, rfl, K, by rw [ht]; exact hP, va_K.moved hW.alike hK, hD, hR⟩, hS.F ht⟩) hS.2.2 hd hlk
theorem jr_zret {X : Cx} {cc : ByteArray} {own : String} {nL : Nat} {rt : Option FieldType} {W0 : List (Ad × Sh)} {d : Nat} (F : FX X cc own nL rt W0 d) {pc : Nat} {lv : List (Nat × Value)} {g : GG} {x : Int} {Qp : Option Value → GG → Prop} (hQ : RTX X Qp) (hrt0 : rt = some .boolean) (rz : x = 0 ∨ x = 1) (hd : decode cc pc = .ok (.ireturn, 1)) (K : Qp (some (iv x)) g) : J X pc lv [iv x] g := by
  obtain ⟨p, l, e, R, s, m, args, below, meth, c, ⟨ce, sl⟩, D, ⟨cI, cQ⟩, ad, WL, A, Q⟩ := X
  obtain ⟨hx, hb, hml, hown, hts, hK, hA, hlk, hrt, hWL, hfr, hlo, hce, hsl⟩ := F
  intro H locs ls hP hD hS hR hl'
  have hQ : Q = MQ below (QG D cI cQ ad WL Qp A) args s ce sl A := hQ
  subst hQ
  exact W.zret hx hb (hrt.trans hrt0) (by rcases rz with rfl | rfl <;> rfl) (fun t ht hW => ⟨⟨_, g, rfl, K, by rw [ht]; exact hP, va_K.moved hW.alike hK, hD, hR⟩, hS.F ht⟩) hS.2.2 hd hlk
theorem jr_vret {X : Cx} {cc : ByteArray} {own : String} {nL : Nat} {rt : Option FieldType} {W0 : List (Ad × Sh)} {d : Nat} (F : FX X cc own nL rt W0 d) {pc : Nat} {lv : List (Nat × Value)} {g : GG} {Qp : Option Value → GG → Prop} (hQ : RTX X Qp) (hrt0 : rt = none) (hd : decode cc pc = .ok (.return_, 1)) (K : Qp none g) : J X pc lv [] g := by
  obtain ⟨p, l, e, R, s, m, args, below, meth, c, ⟨ce, sl⟩, D, ⟨cI, cQ⟩, ad, WL, A, Q⟩ := X
  obtain ⟨hx, hb, hml, hown, hts, hK, hA, hlk, hrt, hWL, hfr, hlo, hce, hsl⟩ := F
  intro H locs ls hP hD hS hR hl'
  have hQ : Q = MQ below (QG D cI cQ ad WL Qp A) args s ce sl A := hQ
  subst hQ
  exact W.vret hx hb (hrt.trans hrt0) (fun t ht hW => ⟨⟨_, g, rfl, K, by rw [ht]; exact hP, va_K.moved hW.alike hK, hD, hR⟩, hS.F ht⟩) hS.2.2 hd hlk
/-- a callee's words in the tables -/
def CalV (own : String) (idx : Nat) (y : MethodName) (cc' : ByteArray) (maxL : Nat) (ret : Option FieldType) (n : Nat) : Prop :=
  (Cond.methodLink own idx y ∈ lw_tb ∧ Cond.instanceMethod y ∈ lw_tb ∧ Cond.selects y.cls y y ∈ lw_tb ∧ Cond.initialized y.cls ∈ lw_tb ∧ Cond.code y cc' maxL ret ∈ lw_tb) ∧ (y.cls ≠ "java/lang/invoke/MethodHandle" ∧ y.cls ≠ "java/lang/invoke/VarHandle") ∧ ((parseMethodDescriptor y.desc).map (fun d => d.parameters.length) = some n) ∧ maxL ≤ 17
def CalS (own : String) (idx : Nat) (y : MethodName) (cc' : ByteArray) (maxL : Nat) (ret : Option FieldType) (n : Nat) : Prop :=
  (Cond.methodLink own idx y ∈ lw_tb ∧ Cond.static y ∈ lw_tb ∧ Cond.initialized y.cls ∈ lw_tb ∧ Cond.code y cc' maxL ret ∈ lw_tb) ∧ (y.cls ≠ "java/lang/invoke/MethodHandle" ∧ y.cls ≠ "java/lang/invoke/VarHandle") ∧ ((parseMethodDescriptor y.desc).map (fun d => d.parameters.length) = some n) ∧ maxL ≤ 17
theorem tbl_good : ∀ w ∈ lw_tb, goodWord w = true := fun w h => (List.mem_filter.mp h).2
theorem tbl_pay {args : Array Value} {s : State} (hts : ∀ w ∈ lw_tb, w.before args s = true) {y : MethodName} {cc' : ByteArray} {maxL : Nat} {ret : Option FieldType} (hc : Cond.code y cc' maxL ret ∈ lw_tb) : ∀ w ∈ Cond.code y cc' maxL ret :: lw_tb, ∀ (a' : Array Value) (U : State), s.WarmedH U.vm → w.before a' U = true := by
  intro w hw a' U hW
  have hm : w ∈ lw_tb := by
    rcases List.mem_cons.mp hw with h | h
    · rw [h]; exact hc
    · exact h
  exact word_at hW (good_of_word (tbl_good w hm)) (hts w hm)
set_option maxHeartbeats 1000000 in
/-- behind a call's run -/
theorem after_run {p : Program} {l : Launch} {e : Env} {R : Room} {s : State} {m : MethodId} {args : Array Value} {below : List Frame} {meth : Method} {c : Code} {H : Heap} {locs : List Loc} {ce sl : Nat} {Q : State → Prop} {D : va_G} {cI cQ : ClassId} {ad : Ad → Nat} {W0 : List (Ad × Sh)} {A : Nat → Prop} {g : GG} {Qp : Option Value → GG → Prop} {pc : Nat} {ls : Array Slot} {st0 rest : List Value} {a' : Array Value}
    (hr : va_Run p l e R s m args below meth c H locs ce sl 0 0 (F0 m pc ls st0) rest (QG D cI cQ ad W0 Qp (va_A (wsO cI cQ ad W0 g) H.size) a') (va_A (wsO cI cQ ad W0 g) H.size)) (hS : va_S A s.heap H locs) (hF : ∀ q, va_A (wsO cI cQ ad W0 g) H.size q → A q)
    (kk : ∀ (v : Option Value) (g' : GG) (H1 : Heap) (locs1 : List Loc), Qp v g' → va_P D vwCl (wsO cI cQ ad W0 g') H1 → va_D A (wsO cI cQ ad W0 g') → va_S A s.heap H1 locs1 → RgG g' → W p l e R s m args below meth c H1 locs1 ce sl Q (F0 m (pc + 3) ls (v.toList ++ rest))) : W p l e R s m args below meth c H locs ce sl Q (F0 m pc ls st0) := by
  intro T hT X
  obtain ⟨v, st₀, t, T', L, h0, X', hL, e1, e2, ⟨⟨r, g', hv, hq, hP, hK, hD, hR⟩, hz, hk⟩, st⟩ := hr T hT X
  cases hv
  rw [h0] at hz hk
  obtain ⟨t2, a1, b1⟩ := kk v g' T'.heap (locs ++ L) hq (by rw [e1]; exact hP) (hD.weaken (fun _ _ _ h => hF _ h))
    ⟨Nat.le_trans hS.1 (by rw [e1]; exact hz), fun q h1 h2 => by rw [e1, hk q (Nat.lt_of_lt_of_le h1 hS.1) (fun z => h2 (hF q z))]; exact hS.2.1 q h1 h2, fun q hq => by
      rcases List.mem_append.mp hq with h | h
      · exact hS.2.2 q h
      · exact hF _ (hL q h)⟩ hR T' rfl X'
  exact ⟨t2, st t2 a1, b1⟩
theorem qg_blind {av : List Value} {D : va_G} {cI cQ : ClassId} {ws : va_W} {sz : Nat} {g : GG} : FrameBlind (va_Pc av (fun U => U.heap.size = sz ∧ va_P D vwCl ws U.heap ∧ va_K D vwCl (tyS cI cQ) U ∧ va_D (fun _ => True) ws ∧ RgG g)) := by
  intro a U g0 mk q
  obtain ⟨q0, q1, qP, qK, qD⟩ := q
  exact ⟨q0, q1, qP, va_K.moved (u := U) (U := U.calling g0 mk a) (Vm.Alike.refl U.vm) qK, qD⟩
theorem wsO_free {cI cQ : ClassId} {ad : Ad → Nat} {W0 : List (Ad × Sh)} {g : GG} {A : Nat → Prop} {H0 H : Heap} {locs : List Loc} (hD : va_D A (wsO cI cQ ad W0 g)) (hS : va_S A H0 H locs) (hA : ∀ q : Nat, H0.size ≤ q → A q) : ∀ q, va_A (wsO cI cQ ad W0 g) H.size q → A q := by
  intro q h
  rcases h with ⟨k, e, h⟩ | h
  · exact hD.2 k (q, e) h
  · exact hA q (Nat.le_trans hS.1 h)
set_option maxHeartbeats 1000000 in
theorem jr_callV {X : Cx} {cc : ByteArray} {own : String} {nL : Nat} {rt : Option FieldType} {W0 : List (Ad × Sh)} {d : Nat} (F : FX X cc own nL rt W0 d) {pc : Nat} {lv : List (Nat × Value)} {st : List Value} {g : GG} {st0 : List Value} {idx d' maxL n : Nat} {gM : GG} {y : MethodName} {cc' : ByteArray} {ret : Option FieldType} {av : (Ad → Nat) → List Value} {Qp : Option Value → GG → Prop} (As : List Value) (M : MetG W0 y cc' maxL ret d' av gM Qp) (hg0 : g = gM) {a : Ad} {ci : Nat} {q : vw_C} {ks : List Fk} (hC : CalV own idx y cc' maxL ret n) (hav : av (xad X) = .ref (xad X a) :: As) (hm : (a, (.inl (ci, ks) : Sh)) ∈ W0) (hq : vwCl[ci]? = some q) (hy : q.1 = y.cls) (hn : As.length = n) (hd' : d' + 1 ≤ d) (hst : (st.map fun v => v.category).sum ≤ 8) (hd : decode cc pc = .ok (.invokevirtual idx, 3)) (hs0 : st0 = As.reverse ++ .ref (xad X a) :: st) (K : ∀ (v : Option Value) (g' : GG), Qp v g' → J X (pc + 3) lv (v.toList ++ st) g') : J X pc lv st0 g := by
  obtain ⟨p, l, e, R, s, m, args, below, meth, c, ⟨ce, sl⟩, D, ⟨cI, cQ⟩, ad, WL, A, Q⟩ := X
  obtain ⟨hx, hb, hml, hown, hts, hK, hA, hlk, hrt, hWL, hfr, hlo, hce, hsl⟩ := F
  intro H locs ls hP hD hS hR hl'
  subst hg0
  obtain ⟨⟨c1, c2, c3, c4, c5⟩, c6, c7, c8⟩ := hC
  obtain ⟨q0, hq0⟩ := List.getElem?_of_mem hm
  obtain ⟨rfl, hW⟩ := hWL
  have he := wsO_at (cI := cI) (cQ := cQ) (ad := ad) (g := g) hq0
  have hrv := va_recv hK hP (ci := ci) (q0 := q0) hq he
  rw [hy] at hrv
  subst hs0
  have hF := wsO_free hD hS hA
  refine after_run (va_runV (As := As) (rest := st) (b := ad a) ⟨hx, hb, hml, hown, hts⟩ (M l D cI cQ ad H.size) (C := y.cls) (n := n) ⟨⟨rfl, rfl, ?_, ?_, tbl_pay hts c5, List.mem_cons_self, hts _ c5, hts _ c4, c6, ?_, hts _ c1⟩, hts _ c2, hts _ c3⟩ ⟨qg_blind, hrv, fun U hU hW => ⟨?_, by rw [hU], by rw [hU]; exact hP, va_K.moved hW.alike hK, hD.weaken (fun _ _ _ _ => trivial), hR⟩⟩ rfl hn (hl'.1.trans hml) rfl (lv_room hst) hd ⟨hce, hsl⟩) hS hF (fun v g' H1 locs1 h1 h2 h3 h4 h5 => K v g' h1 H1 locs1 ls h2 h3 h4 h5 hl')
  · show d' + 1 ≤ _
    omega
  · show 8 + (maxL + 11) + 36 * d' ≤ _
    omega
  · intro sig hs
    rw [hs] at c7
    exact (Option.some.inj c7).symm
  · show (Value.ref (ad a) :: As).toArray = (av ad).toArray
    rw [show av ad = _ from hav]
    rfl
set_option maxHeartbeats 1000000 in
theorem jr_callS {X : Cx} {cc : ByteArray} {own : String} {nL : Nat} {rt : Option FieldType} {W0 : List (Ad × Sh)} {d : Nat} (F : FX X cc own nL rt W0 d) {pc : Nat} {lv : List (Nat × Value)} {st : List Value} {g : GG} {st0 : List Value} {idx d' maxL n : Nat} {gM : GG} {y : MethodName} {cc' : ByteArray} {ret : Option FieldType} {av : (Ad → Nat) → List Value} {Qp : Option Value → GG → Prop} (As : List Value) (M : MetG W0 y cc' maxL ret d' av gM Qp) (hg0 : g = gM) (hC : CalS own idx y cc' maxL ret n) (hav : av (xad X) = As) (hn : As.length = n) (hd' : d' + 1 ≤ d) (hst : (st.map fun v => v.category).sum ≤ 8) (hd : decode cc pc = .ok (.invokestatic idx, 3)) (hs0 : st0 = As.reverse ++ st) (K : ∀ (v : Option Value) (g' : GG), Qp v g' → J X (pc + 3) lv (v.toList ++ st) g') : J X pc lv st0 g := by
  obtain ⟨p, l, e, R, s, m, args, below, meth, c, ⟨ce, sl⟩, D, ⟨cI, cQ⟩, ad, WL, A, Q⟩ := X
  obtain ⟨hx, hb, hml, hown, hts, hK, hA, hlk, hrt, hWL, hfr, hlo, hce, hsl⟩ := F
  intro H locs ls hP hD hS hR hl'
  subst hg0
  obtain ⟨⟨c1, c2, c4, c5⟩, c6, c7, c8⟩ := hC
  obtain ⟨rfl, hW⟩ := hWL
  subst hs0
  have hF := wsO_free hD hS hA
  refine after_run (va_runS (As := As) (rest := st) ⟨hx, hb, hml, hown, hts⟩ (M l D cI cQ ad H.size) (n := n) ⟨⟨rfl, rfl, ?_, ?_, tbl_pay hts c5, List.mem_cons_self, hts _ c5, hts _ c4, c6, ?_, hts _ c1⟩, hts _ c2⟩ ⟨qg_blind, fun U hU hW => ⟨?_, by rw [hU], by rw [hU]; exact hP, va_K.moved hW.alike hK, hD.weaken (fun _ _ _ _ => trivial), hR⟩⟩ rfl hn (hl'.1.trans hml) rfl (lv_room hst) hd ⟨hce, hsl⟩) hS hF (fun v g' H1 locs1 h1 h2 h3 h4 h5 => K v g' h1 H1 locs1 ls h2 h3 h4 h5 hl')
  · show d' + 1 ≤ _
    omega
  · show 8 + (maxL + 11) + 36 * d' ≤ _
    omega
  · intro sig hs
    rw [hs] at c7
    exact (Option.some.inj c7).symm
  · show As.toArray = (av ad).toArray
    rw [show av ad = _ from hav]
theorem jr_tsin {X : Cx} {cc : ByteArray} {own : String} {nL : Nat} {rt : Option FieldType} {W0 : List (Ad × Sh)} {d : Nat} (F : FX X cc own nL rt W0 d) {pc : Nat} {lv : List (Nat × Value)} {st : List Value} {g : GG} {dflt lo hi : Int} {offs : Array Int} {len : Nat} {x v off : Int} {tgt : Nat} (hv : x = v) (rv : Rg v) (h1 : lo ≤ v ∧ v ≤ hi) (ho : offs[(v - lo).toNat]? = some off) (ht : (pc : Int) + off = (tgt : Int)) (hd : decode cc pc = .ok (.tableswitch dflt lo hi offs, len)) (K : J X tgt lv st g) : J X pc lv (iv x :: st) g := by
  obtain ⟨p, l, e, R, s, m, args, below, meth, c, ⟨ce, sl⟩, D, ⟨cI, cQ⟩, ad, WL, A, Q⟩ := X
  obtain ⟨hx, hb, hml, hown, hts, hK, hA, hlk, hrt, hWL, hfr, hlo, hce, hsl⟩ := F
  intro H locs ls hP hD hS hR hl'
  subst hv
  exact lv_tableIn hx hb hd (by rw [i32_to rv]; omega) (by rw [i32_to rv]; omega) (by rw [i32_to rv]; exact ho) ht (K H locs ls hP hD hS hR hl')
theorem jr_tsout {X : Cx} {cc : ByteArray} {own : String} {nL : Nat} {rt : Option FieldType} {W0 : List (Ad × Sh)} {d : Nat} (F : FX X cc own nL rt W0 d) {pc : Nat} {lv : List (Nat × Value)} {st : List Value} {g : GG} {dflt lo hi : Int} {offs : Array Int} {len : Nat} {x : Int} {tgt : Nat} (rx : Rg x) (h : x < lo ∨ hi < x) (ht : (pc : Int) + dflt = (tgt : Int)) (hd : decode cc pc = .ok (.tableswitch dflt lo hi offs, len)) (K : J X tgt lv st g) : J X pc lv (iv x :: st) g := by
  obtain ⟨p, l, e, R, s, m, args, below, meth, c, ⟨ce, sl⟩, D, ⟨cI, cQ⟩, ad, WL, A, Q⟩ := X
  obtain ⟨hx, hb, hml, hown, hts, hK, hA, hlk, hrt, hWL, hfr, hlo, hce, hsl⟩ := F
  intro H locs ls hP hD hS hR hl'
  exact lv_tableOut hx hb hd (by rw [i32_to rx]; exact h) ht (K H locs ls hP hD hS hR hl')
theorem jr_tsd {X : Cx} {cc : ByteArray} {own : String} {nL : Nat} {rt : Option FieldType} {W0 : List (Ad × Sh)} {d : Nat} (F : FX X cc own nL rt W0 d) {pc : Nat} {lv : List (Nat × Value)} {st : List Value} {g : GG} {dflt lo hi : Int} {offs : Array Int} {len : Nat} {x : Int} {tgt : Nat} (rx : Rg x) (h : x < lo ∨ hi < x ∨ (lo ≤ x ∧ x ≤ hi ∧ offs[(x - lo).toNat]? = some dflt)) (ht : (pc : Int) + dflt = (tgt : Int)) (hd : decode cc pc = .ok (.tableswitch dflt lo hi offs, len)) (K : J X tgt lv st g) : J X pc lv (iv x :: st) g := by
  obtain ⟨p, l, e, R, s, m, args, below, meth, c, ⟨ce, sl⟩, D, ⟨cI, cQ⟩, ad, WL, A, Q⟩ := X
  obtain ⟨hx, hb, hml, hown, hts, hK, hA, hlk, hrt, hWL, hfr, hlo, hce, hsl⟩ := F
  intro H locs ls hP hD hS hR hl'
  rcases h with h | h | ⟨h1, h2, h3⟩
  · exact lv_tableOut hx hb hd (by rw [i32_to rx]; exact Or.inl h) ht (K H locs ls hP hD hS hR hl')
  · exact lv_tableOut hx hb hd (by rw [i32_to rx]; exact Or.inr h) ht (K H locs ls hP hD hS hR hl')
  · exact lv_tableIn hx hb hd (by rw [i32_to rx]; omega) (by rw [i32_to rx]; omega) (by rw [i32_to rx]; exact h3) ht (K H locs ls hP hD hS hR hl')
theorem jr_lsw {X : Cx} {cc : ByteArray} {own : String} {nL : Nat} {rt : Option FieldType} {W0 : List (Ad × Sh)} {d : Nat} (F : FX X cc own nL rt W0 d) {pc : Nat} {lv : List (Nat × Value)} {st : List Value} {g : GG} {dflt : Int} {ps : Array (Int × Int)} {len : Nat} {x off : Int} {tgt : Nat} (rx : Rg x) (hp : (ps.toList.zip (ps.toList.drop 1)).all (fun (a, next) => a.1 < next.1) = true) (ho : Op.lookupswitch.offset ps.toList dflt x = off) (ht : (pc : Int) + off = (tgt : Int)) (hd : decode cc pc = .ok (.lookupswitch dflt ps, len)) (K : J X tgt lv st g) : J X pc lv (iv x :: st) g := by
  obtain ⟨p, l, e, R, s, m, args, below, meth, c, ⟨ce, sl⟩, D, ⟨cI, cQ⟩, ad, WL, A, Q⟩ := X
  obtain ⟨hx, hb, hml, hown, hts, hK, hA, hlk, hrt, hWL, hfr, hlo, hce, hsl⟩ := F
  intro H locs ls hP hD hS hR hl'
  exact lv_lookup hx hb hd hp (by rw [i32_to rx]; exact ho) ht (K H locs ls hP hD hS hR hl')
theorem J_eq {X : Cx} {pc : Nat} {lv : List (Nat × Value)} {st : List Value} {g g' : GG} (h : g' = g) (K : J X pc lv st g) : J X pc lv st g' := by rw [h]; exact K
theorem jr_top {X : Cx} {pc : Nat} {lv : List (Nat × Value)} {st : List Value} {g : GG} {x e : Int} (h : x = e) (K : J X pc lv (iv x :: st) g) : J X pc lv (iv e :: st) g := by rw [← h]; exact K
theorem jr_topl {X : Cx} {pc : Nat} {lv : List (Nat × Value)} {st : List Value} {g : GG} {x e : Int} (h : x = e) (K : J X pc lv (lgv x :: st) g) : J X pc lv (lgv e :: st) g := by rw [← h]; exact K
theorem lsw_n2 {x a : Int} (h : ¬ x = a) : ¬ a = x := fun q => h q.symm
