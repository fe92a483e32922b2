/-! The start: the two objects' cells are the world SL at gI -/
abbrev T4 : Type := (Nat → Nat) × (Nat → Nat → Nat) × ((Nat → Nat) × (Nat → Nat → Nat)) × (Nat → Nat)
def adLn (h : Nat) (q : Nat → Nat) (i : Nat) : Nat := match i with
  | 0 => h
  | 6 => q 0
  | 7 => q 1
  | 8 => q 2
  | 9 => q 3
  | 10 => q 4
  | 11 => q 5
  | 12 => q 6
  | 13 => q 7
  | 14 => q 8
  | 16 => q 9
  | 17 => q 10
  | 18 => q 11
  | _ => 0
def adLl (u : T4) (l : Nat) (i : Nat) : Nat := match l with
  | 0 => adLn (u.1 4) (u.2.1 0) i
  | 1 => adLn (u.1 5) (u.2.1 1) i
  | 2 => adLn (u.1 6) (u.2.1 2) i
  | 3 => adLn (u.2.2.1.1 1) (u.2.2.1.2 0) i
  | 4 => adLn (u.2.2.1.1 2) (u.2.2.1.2 1) i
  | 5 => adLn (u.2.2.1.1 3) (u.2.2.1.2 2) i
  | 6 => adLn (u.2.2.1.1 4) (u.2.2.1.2 3) i
  | 7 => adLn (u.2.2.1.1 5) (u.2.2.1.2 4) i
  | 8 => adLn (u.2.2.1.1 6) (u.2.2.1.2 5) i
  | 9 => adLn (u.2.2.1.1 7) (u.2.2.1.2 6) i
  | 10 => adLn (u.2.2.1.1 8) (u.2.2.1.2 7) i
  | _ => 0
def ad0 (q0 : Nat) (u : T4) (i : Nat) : Nat := match i with
  | 0 => q0
  | 7 => u.1 0
  | 9 => u.1 1
  | 10 => u.1 2
  | 11 => u.1 3
  | _ => 0
def ad5 (q1 : Nat) (v : Nat → Nat) (i : Nat) : Nat := match i with
  | 0 => q1
  | 2 => v 0
  | 3 => v 1
  | 4 => v 2
  | 9 => v 3
  | 10 => v 4
  | 11 => v 5
  | 12 => v 6
  | 13 => v 7
  | 14 => v 8
  | 16 => v 9
  | 17 => v 10
  | 18 => v 11
  | 19 => v 12
  | 24 => v 13
  | 25 => v 14
  | 26 => v 15
  | 27 => v 16
  | 28 => v 17
  | 33 => v 18
  | 34 => v 19
  | 36 => v 20
  | 37 => v 21
  | 38 => v 22
  | 39 => v 23
  | _ => 0
def ad2 (u : T4) (i : Nat) : Nat := match i with
  | 0 => u.1 8
  | _ => u.2.2.2 0
def ad3 (u : T4) (i : Nat) : Nat := match i with
  | 0 => u.1 7
  | _ => u.2.2.1.1 0
def adF (q0 q1 : Nat) (u : T4) (v : Nat → Nat) : Ad → Nat := fun a => match a.1 with
  | 0 => ad0 q0 u a.2.2
  | 1 => adLl u a.2.1 a.2.2
  | 2 => ad2 u a.2.2
  | 3 => ad3 u a.2.2
  | _ => ad5 q1 v a.2.2
theorem fr_start : fr16 = fun j : Nat => Int32.ofInt (gI40 (j : Int)) := by
  funext j
  by_cases h : j < 16
  · have : j = 0 ∨ j = 1 ∨ j = 2 ∨ j = 3 ∨ j = 4 ∨ j = 5 ∨ j = 6 ∨ j = 7 ∨ j = 8 ∨ j = 9 ∨ j = 10 ∨ j = 11 ∨ j = 12 ∨ j = 13 ∨ j = 14 ∨ j = 15 := by omega
    rcases this with rfl | rfl | rfl | rfl | rfl | rfl | rfl | rfl | rfl | rfl | rfl | rfl | rfl | rfl | rfl | rfl <;> rfl
  · unfold gI40
    rw [if_neg (by omega)]
    unfold fr16
    rw [pk_un (show j ≠ (15 : Int32).toNatClampNeg by rw [show (15 : Int32).toNatClampNeg = 15 by decide]; omega)]
    rw [pk_un (show j ≠ (14 : Int32).toNatClampNeg by rw [show (14 : Int32).toNatClampNeg = 14 by decide]; omega)]
    rw [pk_un (show j ≠ (13 : Int32).toNatClampNeg by rw [show (13 : Int32).toNatClampNeg = 13 by decide]; omega)]
    rw [pk_un (show j ≠ (12 : Int32).toNatClampNeg by rw [show (12 : Int32).toNatClampNeg = 12 by decide]; omega)]
    rw [pk_un (show j ≠ (11 : Int32).toNatClampNeg by rw [show (11 : Int32).toNatClampNeg = 11 by decide]; omega)]
    rw [pk_un (show j ≠ (10 : Int32).toNatClampNeg by rw [show (10 : Int32).toNatClampNeg = 10 by decide]; omega)]
    rw [pk_un (show j ≠ (9 : Int32).toNatClampNeg by rw [show (9 : Int32).toNatClampNeg = 9 by decide]; omega)]
    rw [pk_un (show j ≠ (8 : Int32).toNatClampNeg by rw [show (8 : Int32).toNatClampNeg = 8 by decide]; omega)]
    rw [pk_un (show j ≠ (7 : Int32).toNatClampNeg by rw [show (7 : Int32).toNatClampNeg = 7 by decide]; omega)]
    rw [pk_un (show j ≠ (6 : Int32).toNatClampNeg by rw [show (6 : Int32).toNatClampNeg = 6 by decide]; omega)]
    rw [pk_un (show j ≠ (5 : Int32).toNatClampNeg by rw [show (5 : Int32).toNatClampNeg = 5 by decide]; omega)]
    rw [pk_un (show j ≠ (4 : Int32).toNatClampNeg by rw [show (4 : Int32).toNatClampNeg = 4 by decide]; omega)]
    rw [pk_un (show j ≠ (3 : Int32).toNatClampNeg by rw [show (3 : Int32).toNatClampNeg = 3 by decide]; omega)]
    rw [pk_un (show j ≠ (2 : Int32).toNatClampNeg by rw [show (2 : Int32).toNatClampNeg = 2 by decide]; omega)]
    rw [pk_un (show j ≠ (1 : Int32).toNatClampNeg by rw [show (1 : Int32).toNatClampNeg = 1 by decide]; omega)]
    rw [pk_un (show j ≠ (0 : Int32).toNatClampNeg by rw [show (0 : Int32).toNatClampNeg = 0 by decide]; omega)]
    rfl
theorem ln_start (q0 q1 : Nat) (u : T4) (v : Nat → Nat) : ln8 u.2.2.1.1 = fun j : Nat => (drf 0 (gI 3 0 1 (j : Int))).map (adF q0 q1 u v) := by
  funext j
  show _ = (drf 0 (gIln (j : Int))).map (adF q0 q1 u v)
  by_cases h : j < 8
  · have : j = 0 ∨ j = 1 ∨ j = 2 ∨ j = 3 ∨ j = 4 ∨ j = 5 ∨ j = 6 ∨ j = 7 := by omega
    rcases this with rfl | rfl | rfl | rfl | rfl | rfl | rfl | rfl <;> rfl
  · unfold gIln
    rw [if_neg (by omega)]
    unfold ln8
    simp only [va_up]
    rw [if_neg (show ¬ j = (7 : Int32).toNatClampNeg by rw [show (7 : Int32).toNatClampNeg = 7 by decide]; omega), if_neg (show ¬ j = (6 : Int32).toNatClampNeg by rw [show (6 : Int32).toNatClampNeg = 6 by decide]; omega), if_neg (show ¬ j = (5 : Int32).toNatClampNeg by rw [show (5 : Int32).toNatClampNeg = 5 by decide]; omega), if_neg (show ¬ j = (4 : Int32).toNatClampNeg by rw [show (4 : Int32).toNatClampNeg = 4 by decide]; omega), if_neg (show ¬ j = (3 : Int32).toNatClampNeg by rw [show (3 : Int32).toNatClampNeg = 3 by decide]; omega), if_neg (show ¬ j = (2 : Int32).toNatClampNeg by rw [show (2 : Int32).toNatClampNeg = 2 by decide]; omega), if_neg (show ¬ j = (1 : Int32).toNatClampNeg by rw [show (1 : Int32).toNatClampNeg = 1 by decide]; omega), if_neg (show ¬ j = (0 : Int32).toNatClampNeg by rw [show (0 : Int32).toNatClampNeg = 0 by decide]; omega)]
    rfl
theorem blk_0 (cI cQ : ClassId) (q0 q1 : Nat) (u : T4) (v : Nat → Nat) : wsO cI cQ (adF q0 q1 u v) (cL 0) gI = B2 cI cQ (u.1 4) (u.2.1 0) := by
  unfold B2
  rw [fr_start]
  rfl
theorem blk_1 (cI cQ : ClassId) (q0 q1 : Nat) (u : T4) (v : Nat → Nat) : wsO cI cQ (adF q0 q1 u v) (cL 1) gI = B2 cI cQ (u.1 5) (u.2.1 1) := by
  unfold B2
  rw [fr_start]
  rfl
theorem blk_2 (cI cQ : ClassId) (q0 q1 : Nat) (u : T4) (v : Nat → Nat) : wsO cI cQ (adF q0 q1 u v) (cL 2) gI = B2 cI cQ (u.1 6) (u.2.1 2) := by
  unfold B2
  rw [fr_start]
  rfl
theorem blk_3 (cI cQ : ClassId) (q0 q1 : Nat) (u : T4) (v : Nat → Nat) : wsO cI cQ (adF q0 q1 u v) (cL 3) gI = B2 cI cQ (u.2.2.1.1 1) (u.2.2.1.2 0) := by
  unfold B2
  rw [fr_start]
  rfl
theorem blk_4 (cI cQ : ClassId) (q0 q1 : Nat) (u : T4) (v : Nat → Nat) : wsO cI cQ (adF q0 q1 u v) (cL 4) gI = B2 cI cQ (u.2.2.1.1 2) (u.2.2.1.2 1) := by
  unfold B2
  rw [fr_start]
  rfl
theorem blk_5 (cI cQ : ClassId) (q0 q1 : Nat) (u : T4) (v : Nat → Nat) : wsO cI cQ (adF q0 q1 u v) (cL 5) gI = B2 cI cQ (u.2.2.1.1 3) (u.2.2.1.2 2) := by
  unfold B2
  rw [fr_start]
  rfl
theorem blk_6 (cI cQ : ClassId) (q0 q1 : Nat) (u : T4) (v : Nat → Nat) : wsO cI cQ (adF q0 q1 u v) (cL 6) gI = B2 cI cQ (u.2.2.1.1 4) (u.2.2.1.2 3) := by
  unfold B2
  rw [fr_start]
  rfl
theorem blk_7 (cI cQ : ClassId) (q0 q1 : Nat) (u : T4) (v : Nat → Nat) : wsO cI cQ (adF q0 q1 u v) (cL 7) gI = B2 cI cQ (u.2.2.1.1 5) (u.2.2.1.2 4) := by
  unfold B2
  rw [fr_start]
  rfl
theorem blk_8 (cI cQ : ClassId) (q0 q1 : Nat) (u : T4) (v : Nat → Nat) : wsO cI cQ (adF q0 q1 u v) (cL 8) gI = B2 cI cQ (u.2.2.1.1 6) (u.2.2.1.2 5) := by
  unfold B2
  rw [fr_start]
  rfl
theorem blk_9 (cI cQ : ClassId) (q0 q1 : Nat) (u : T4) (v : Nat → Nat) : wsO cI cQ (adF q0 q1 u v) (cL 9) gI = B2 cI cQ (u.2.2.1.1 7) (u.2.2.1.2 6) := by
  unfold B2
  rw [fr_start]
  rfl
theorem blk_10 (cI cQ : ClassId) (q0 q1 : Nat) (u : T4) (v : Nat → Nat) : wsO cI cQ (adF q0 q1 u v) (cL 10) gI = B2 cI cQ (u.2.2.1.1 8) (u.2.2.1.2 7) := by
  unfold B2
  rw [fr_start]
  rfl
def bR0 (q0 : Nat) (u : T4) : va_W := [(q0, .inr (3, [.ref (u.1 4), .ref (u.1 5), .ref (u.1 6), .int 0, .ref (u.1 7), .ref (u.1 8), .ref (u.1 0), .int 0, .ref (u.1 1), .ref (u.1 2), .ref (u.1 3)]))]
def bR1 (cI : ClassId) (u : T4) : va_W := [((u.1 0), .inl (cI, 16, .inl (fun _ => 0))), ((u.1 1), .inl (cI, 7, .inl (fun _ => 0))), ((u.1 2), .inl (cI, 5, .inl (fun _ => 0))), ((u.1 3), .inl (cI, 5, .inl (fun _ => 0)))]
def bPA (cQ : ClassId) (u : T4) : va_W := [(u.1 7, .inr (2, [.ref (u.2.2.1.1 0), .int 0])), ((u.2.2.1.1 0), .inl (cQ, 8, .inr (.inr (.inr (.inr (ln8 u.2.2.1.1))))))]
theorem blk_0s (cI cQ : ClassId) (q0 q1 : Nat) (u : T4) (v : Nat → Nat) : wsO cI cQ (adF q0 q1 u v) SL0 gI = bR0 q0 u ++ bR1 cI u ++ B1 cI cQ (u.1 8) u.2.2.2 ++ bPA cQ u ++ B5 cI cQ q1 v := by
  unfold B5 B1 bR0 bR1 bPA
  rw [fr_start, ln_start q0 q1 u v]
  rfl
theorem wsO_app (cI cQ : ClassId) (ad : Ad → Nat) (g : GG) (a b : List (Ad × Sh)) : wsO cI cQ ad (a ++ b) g = wsO cI cQ ad a g ++ wsO cI cQ ad b g := by
  unfold wsO
  exact List.map_append
theorem wsO_nil (cI cQ : ClassId) (ad : Ad → Nat) (g : GG) : wsO cI cQ ad [] g = [] := rfl
theorem SL_eq : SL = SL0 ++ (cL 0 ++ (cL 1 ++ (cL 2 ++ (cL 3 ++ (cL 4 ++ (cL 5 ++ (cL 6 ++ (cL 7 ++ (cL 8 ++ (cL 9 ++ (cL 10 ++ []))))))))))) := rfl
theorem va_P_mem {D : va_G} {cl : List vw_C} {ws ws' : va_W} {H : Heap} (h : ∀ q, q ∈ ws' → q ∈ ws) (hP : va_P D cl ws H) : va_P D cl ws' H := by
  intro k q hk
  obtain ⟨i, hi⟩ := List.getElem?_of_mem (h q (List.mem_of_getElem? hk))
  exact hP i q hi
theorem va_D_perm {A : Nat → Prop} {ws ws' : va_W} (h : (ws'.map Prod.fst).Perm (ws.map Prod.fst)) (hD : va_D A ws) : va_D A ws' := by
  have nd : (ws.map Prod.fst).Nodup := by
    rw [List.nodup_iff_pairwise_ne, List.pairwise_iff_getElem]
    intro i j hi hj hij e
    rw [List.length_map] at hi hj
    rw [List.getElem_map, List.getElem_map] at e
    have := hD.1 i j _ _ (List.getElem?_eq_getElem hi) (List.getElem?_eq_getElem hj) e
    omega
  have nd' := h.symm.nodup nd
  refine ⟨fun i j p q hi hj hpq => ?_, fun k q hk => ?_⟩
  · have h1 : (ws'.map Prod.fst)[i]? = some p.1 := by rw [List.getElem?_map, hi]; rfl
    have h2 : (ws'.map Prod.fst)[j]? = some p.1 := by rw [List.getElem?_map, hj, hpq]; rfl
    obtain ⟨l1, e1⟩ := List.getElem?_eq_some_iff.mp h1
    obtain ⟨l2, e2⟩ := List.getElem?_eq_some_iff.mp h2
    exact (List.getElem_inj nd').mp (e1.trans e2.symm)
  · have hm : q.1 ∈ ws.map Prod.fst := h.mem_iff.mp (List.mem_map.mpr ⟨q, List.mem_of_getElem? hk, rfl⟩)
    obtain ⟨z, hz, e⟩ := List.mem_map.mp hm
    obtain ⟨i, hi⟩ := List.getElem?_of_mem hz
    rw [← e]
    exact hD.2 i z hi
set_option maxHeartbeats 4000000 in
theorem start_world {D : va_G} {cI cQ : ClassId} {A : Nat → Prop} {q0 q1 : Nat} {u : T4} {v : Nat → Nat} {H : Heap} (hP : va_P D vwCl (B4 cI cQ q0 u ++ B5 cI cQ q1 v) H) (hD : va_D A (B4 cI cQ q0 u ++ B5 cI cQ q1 v)) : va_P D vwCl (wsO cI cQ (adF q0 q1 u v) SL gI) H ∧ va_D A (wsO cI cQ (adF q0 q1 u v) SL gI) := by
  have e4 : B4 cI cQ q0 u = bR0 q0 u ++ B2 cI cQ (u.1 4) (u.2.1 0) ++ B2 cI cQ (u.1 5) (u.2.1 1) ++ B2 cI cQ (u.1 6) (u.2.1 2) ++ (bPA cQ u ++ B2 cI cQ (u.2.2.1.1 1) (u.2.2.1.2 0) ++ B2 cI cQ (u.2.2.1.1 2) (u.2.2.1.2 1) ++ B2 cI cQ (u.2.2.1.1 3) (u.2.2.1.2 2) ++ B2 cI cQ (u.2.2.1.1 4) (u.2.2.1.2 3) ++ B2 cI cQ (u.2.2.1.1 5) (u.2.2.1.2 4) ++ B2 cI cQ (u.2.2.1.1 6) (u.2.2.1.2 5) ++ B2 cI cQ (u.2.2.1.1 7) (u.2.2.1.2 6) ++ B2 cI cQ (u.2.2.1.1 8) (u.2.2.1.2 7)) ++ B1 cI cQ (u.1 8) u.2.2.2 ++ bR1 cI u := rfl
  have es : wsO cI cQ (adF q0 q1 u v) SL gI = bR0 q0 u ++ bR1 cI u ++ B1 cI cQ (u.1 8) u.2.2.2 ++ bPA cQ u ++ B5 cI cQ q1 v ++ (B2 cI cQ (u.1 4) (u.2.1 0) ++ (B2 cI cQ (u.1 5) (u.2.1 1) ++ (B2 cI cQ (u.1 6) (u.2.1 2) ++ (B2 cI cQ (u.2.2.1.1 1) (u.2.2.1.2 0) ++ (B2 cI cQ (u.2.2.1.1 2) (u.2.2.1.2 1) ++ (B2 cI cQ (u.2.2.1.1 3) (u.2.2.1.2 2) ++ (B2 cI cQ (u.2.2.1.1 4) (u.2.2.1.2 3) ++ (B2 cI cQ (u.2.2.1.1 5) (u.2.2.1.2 4) ++ (B2 cI cQ (u.2.2.1.1 6) (u.2.2.1.2 5) ++ (B2 cI cQ (u.2.2.1.1 7) (u.2.2.1.2 6) ++ (B2 cI cQ (u.2.2.1.1 8) (u.2.2.1.2 7)))))))))))) := by
    rw [SL_eq, wsO_app, blk_0s]
    simp only [wsO_app, wsO_nil, List.append_nil, blk_0, blk_1, blk_2, blk_3, blk_4, blk_5, blk_6, blk_7, blk_8, blk_9, blk_10]
  rw [e4] at hP hD
  rw [es]
  refine ⟨va_P_mem (fun q h => ?_) hP, va_D_perm ?_ hD⟩
  · simp only [List.mem_append] at h ⊢
    simp only [or_assoc, or_comm, or_left_comm] at h ⊢
    exact h
  · rw [List.perm_iff_count]
    intro a
    simp only [List.map_append, List.count_append]
    omega
theorem gI_rg : RgG gI := by
  intro t l i j
  have h40 : ∀ j, Rg (gI40 j) := fun j => by unfold gI40; split <;> exact ⟨by decide, by decide⟩
  have hln : ∀ j, Rg (gIln j) := fun j => by unfold gIln; split <;> (constructor <;> omega)
  have z : Rg 0 := ⟨by decide, by decide⟩
  unfold gI
  split
  · unfold gI1
    split
    · repeat' split
      all_goals exact ⟨by decide, by decide⟩
    · exact h40 j
    · exact z
  · split
    · exact hln j
    · exact z
  · unfold gI4
    split
    · repeat' split
      all_goals exact ⟨by decide, by decide⟩
    · exact h40 j
    · exact z
  · exact z
theorem cl_L_7 : Cond.classLink RL 7 RX4 ∈ lw_tb := List.mem_filter.mpr ⟨List.mem_append_right _ (List.mem_of_getElem? (i := 10) (by decide +kernel)), by decide +kernel⟩
theorem cl_L_10 : Cond.classLink RL 10 RX5 ∈ lw_tb := List.mem_filter.mpr ⟨List.mem_append_right _ (List.mem_of_getElem? (i := 680) (by decide +kernel)), by decide +kernel⟩
theorem ci_L_9 : CalI RL 9 yX4_init cX4_init 1 := ⟨⟨List.mem_filter.mpr ⟨List.mem_append_right _ (List.mem_of_getElem? (i := 12) (by decide +kernel)), by decide +kernel⟩, List.mem_filter.mpr ⟨List.mem_append_right _ (List.mem_of_getElem? (i := 13) (by decide +kernel)), by decide +kernel⟩, List.mem_filter.mpr ⟨List.mem_append_right _ (List.mem_of_getElem? (i := 1) (by decide +kernel)), by decide +kernel⟩, List.mem_filter.mpr ⟨List.mem_append_right _ (List.mem_of_getElem? (i := 14) (by decide +kernel)), by decide +kernel⟩⟩, ⟨by decide +kernel, by decide +kernel⟩, by decide +kernel, by decide, by decide +kernel⟩
theorem ci_L_12 : CalI RL 12 yX5_init cX5_init 2 := ⟨⟨List.mem_filter.mpr ⟨List.mem_append_right _ (List.mem_of_getElem? (i := 682) (by decide +kernel)), by decide +kernel⟩, List.mem_filter.mpr ⟨List.mem_append_right _ (List.mem_of_getElem? (i := 683) (by decide +kernel)), by decide +kernel⟩, List.mem_filter.mpr ⟨List.mem_append_right _ (List.mem_of_getElem? (i := 5) (by decide +kernel)), by decide +kernel⟩, List.mem_filter.mpr ⟨List.mem_append_right _ (List.mem_of_getElem? (i := 684) (by decide +kernel)), by decide +kernel⟩⟩, ⟨by decide +kernel, by decide +kernel⟩, by decide +kernel, by decide, by decide +kernel⟩
theorem tf_nest : Cond.methodLinkNest RX4 35 yX1_init RX4 ∈ lw_tbl := List.mem_append_right _ (List.mem_of_getElem? (i := 115) (by decide +kernel))
theorem tf_ao : Cond.arrayOver (.object RX2) ∈ lw_tbl := List.mem_append_right _ (List.mem_of_getElem? (i := 103) (by decide +kernel))
theorem st_cI {args : Array Value} {s : State} (h : (Cond.arrayClass .int).before args s = true) : ∃ cI : ClassId, ArrOfT s cI .int ∧ va_RA s cI .int := by
  obtain ⟨c, k, comp, h1, h2, h3⟩ := Cond.arrayClass_spec h
  exact ⟨c, fun n z => ⟨fun k h => (by cases h), k, h2, comp, h3⟩, h1⟩
theorem st_cQ {args : Array Value} {s : State} (h : (Cond.arrayOver (.object RX2)).before args s = true) : ∃ cQ : ClassId, ArrOfT s cQ (.object RX2) ∧ va_RA s cQ (.object RX2) := by
  obtain ⟨comp, c, k, h1, h2, h3, h4, h5⟩ := Cond.arrayOver_spec h
  exact ⟨c, fun n z => ⟨fun k h => (by cases h), k, h3, comp, h4⟩, k, comp, h3, h4, h1, h5⟩
set_option maxHeartbeats 4000000 in
set_option maxRecDepth 100000 in
/-- THE LAW, from its entry -/
theorem whole_start {p : Program} {e : Env} {s : State} {m : MethodId} {below : List Frame} {meth : Method} {c : Code} (l : Launch) (_hflags : l.flags = flags0) {b L : Nat} {xs : Nat → Int32} (hL : L ≤ 2048) (C0 : lw_At p s m meth c b L xs) : W p l e room_1 s m #[Value.ref b] below meth c s.heap [] 0 0 (lw_Z below #[Value.ref b] s) (entryFrame m ([Value.ref b] : List Value).toArray 4) := by
  obtain ⟨hx, hb, hr, hml, hown0, hts0, hX, hbl, hlocks, hgv⟩ := C0
  have hown : s.vm.findClass RL = some m.cls := hown0
  have hts : ∀ w ∈ lw_tb, w.before #[Value.ref b] s = true := fun w h => hts0 w (List.mem_filter.mp h).1
  have hA : ∀ q : Nat, s.heap.size ≤ q → (fun q : Nat => s.heap.size ≤ q) q := fun _ h => h
  have hbA : ¬ (fun q : Nat => s.heap.size ≤ q) b := Nat.not_le.mpr hbl
  obtain ⟨cI, hI1, hI2⟩ := st_cI (hts _ tb_ai)
  obtain ⟨cQ, hQ1, hQ2⟩ := st_cQ (hts0 _ tf_ao)
  obtain ⟨c0, i0, k0⟩ := u_known (C := RX1) (T := TX1) (N := 2) (n := 2) hts inX1 (hts _ tb_in1)
  obtain ⟨c1, i1, k1⟩ := u_known (C := RX2) (T := TX2) (N := 18) (n := 18) hts inX2 (hts _ tb_in2)
  obtain ⟨c2, i2, k2⟩ := u_known (C := RX3) (T := TX3) (N := 2) (n := 2) hts inX3 (hts _ tb_in3)
  obtain ⟨c3, i3, k3⟩ := u_known (C := RX4) (T := TX4) (N := 11) (n := 11) hts inX4 (hts _ tb_in4)
  obtain ⟨c4, i4, k4⟩ := u_known (C := RX5) (T := TX5) (N := 41) (n := 41) hts inX5 (hts _ tb_in5)
  obtain ⟨D, hKc⟩ : ∃ D : va_G, ∀ (k : Nat) (q : vw_C), vwCl[k]? = some q → u_Kn s q.1 q.2.1 q.2.2 (D.1 k) (D.2 k) := by
    refine ⟨(fun k => [c0, c1, c2, c3, c4].getD k c0, fun k => [i0, i1, i2, i3, i4].getD k i0), ?_⟩
    intro k q hq
    match k, hq with
    | 0, hq => cases hq; exact k0
    | 1, hq => cases hq; exact k1
    | 2, hq => cases hq; exact k2
    | 3, hq => cases hq; exact k3
    | 4, hq => cases hq; exact k4
    | k + 5, hq => simp [vwCl] at hq
  have hK : va_K D vwCl (tyS cI cQ) s := by
    refine ⟨hKc, fun k q h => ?_⟩
    match k, h with
    | 0, h => cases h; exact ⟨hI1, hI2⟩
    | 1, h => cases h; exact ⟨hQ1, hQ2⟩
    | k + 2, h => simp [tyS] at h
  have hS : va_S (fun q : Nat => s.heap.size ≤ q) s.heap s.heap [] := va_S.rf
  have hP : va_P D vwCl [] s.heap := fun k q h => by simp at h
  have hD : va_D (fun q : Nat => s.heap.size ≤ q) [] := ⟨fun i j p q h => by simp at h, fun k q h => by simp at h⟩
  have hl := lv_entry ([.ref b]) (n := 4) (Nat.le_of_ble_eq_true rfl)
  rw [lg_entry_eq]
  generalize (lg_sl ([.ref b]) ++ List.replicate (4 - (lg_sl ([.ref b])).length) Slot.unset).toArray = ls at hl ⊢
  replace hl : lv_has ls 4 [(0, .ref b)] := hl
  refine va_new (ci := 3) (fs := fsI4) (C := RX4) (T := TX4) (N := 11) hx hb hts inX4 tyX4 tyX4_ok hown (hts _ cl_L_7) (hts _ tb_in4) (hts _ tb_ini4) hK hP hD hS hA rfl dfX4 (Nat.le_of_ble_eq_true rfl) (Nat.le_of_ble_eq_true rfl) dL_law_0 (fun q0 H hP hD hS => ?_)
  refine lv_dup hx hb dL_law_3 rfl ?_
  replace hP : va_P D vwCl (([] : va_W) ++ [(q0, .inr (3, fsI4))]) H := hP
  replace hD : va_D (fun q : Nat => s.heap.size ≤ q) (([] : va_W) ++ [(q0, .inr (3, fsI4))]) := hD
  refine ctor_call (a := q0) (rest := [.ref q0]) hx hb hml hown hts (fun U g mk a h => ⟨va_Nw.same (u := U) (U := U.calling g mk a) rfl rfl h.1, va_AO.moved (u := U) (U := U.calling g mk a) (Vm.Alike.refl U.vm) h.2⟩) (fun U hW => ⟨va_Nw.warmM hW (va_Nw.of rfl (hts0 _ tf_nest)), va_AO.moved hW.alike (va_AO.of (hts0 _ tf_ao))⟩) (c_X4_init l D cI cQ q0) ci_L_9 hK hP hD hS hA hl.1 (Nat.le_of_ble_eq_true rfl) dL_law_4 ⟨Nat.le_of_ble_eq_true rfl, Nat.le_of_ble_eq_true rfl⟩ ⟨Nat.le_of_ble_eq_true rfl, Nat.le_of_ble_eq_true rfl⟩ (fun u H locs hP hD hS => ?_)
  refine lv_astore_n (lv' := [(1, .ref q0), (0, .ref b)]) hx hb dL_law_7 rfl hl (by decide) rfl (fun ls hl => ?_)
  refine va_new (ci := 4) (fs := fsI5) (C := RX5) (T := TX5) (N := 41) hx hb hts inX5 tyX5 tyX5_ok hown (hts _ cl_L_10) (hts _ tb_in5) (hts _ tb_ini5) hK hP hD hS hA rfl dfX5 (Nat.le_of_ble_eq_true rfl) (Nat.le_of_ble_eq_true rfl) dL_law_8 (fun q1 H hP hD hS => ?_)
  refine lv_dup hx hb dL_law_11 rfl ?_
  refine ctor_call (a := q1) (rest := [.ref q1]) hx hb hml hown hts (fun _ _ _ _ _ => trivial) (fun _ _ => trivial) (c_X5_init l D cI cQ q1) ci_L_12 hK hP hD hS hA hl.1 (Nat.le_of_ble_eq_true rfl) dL_law_12 ⟨Nat.le_of_ble_eq_true rfl, Nat.le_of_ble_eq_true rfl⟩ ⟨Nat.le_of_ble_eq_true rfl, Nat.le_of_ble_eq_true rfl⟩ (fun v H locs hP hD hS => ?_)
  replace hP : va_P D vwCl (B4 cI cQ q0 u ++ B5 cI cQ q1 v) H := hP
  replace hD : va_D (fun q : Nat => s.heap.size ≤ q) (B4 cI cQ q0 u ++ B5 cI cQ q1 v) := hD
  refine lv_astore_n (lv' := [(2, .ref q1), (1, .ref q0), (0, .ref b)]) hx hb dL_law_15 rfl hl (by decide) rfl (fun ls hl => ?_)
  refine lv_iconst (v := 0) hx hb dL_law_16 (by decide) ?_
  refine lv_istore_n (lv' := [(3, .int 0), (2, .ref q1), (1, .ref q0), (0, .ref b)]) hx hb dL_law_17 rfl hl (by decide) rfl (fun ls hl => ?_)
  have hl2 := lv_sub hl (l' := [(0, .ref b), (1, .ref q0), (2, .ref q1), (3, .int 0)]) [3, 2, 1, 0] rfl
  obtain ⟨hP2, hD2⟩ := start_world hP hD
  have hg : gI = gs gI 4 0 (gI 4 0) := (gs_self gI 4 0).symm
  rw [hg] at hP2 hD2
  have hRg : RgG (gs gI 4 0 (gI 4 0)) := by rw [← hg]; exact gI_rg
  have hF : FX (p, l, e, room_1, s, m, #[Value.ref b], below, meth, c, (0 + 1 + 151 + 1 + 24, 0 + 11 + 1604 + 41 + 1444), D, (cI, cQ), adF q0 q1 u v, SL, (fun q : Nat => s.heap.size ≤ q), lw_Z below #[Value.ref b] s) code RL 4 ret SL 9 := ⟨hx, hb, hml, hown, hts, hK, hA, hlocks, hr, ⟨rfl, SL_ok⟩, Nat.le_of_ble_eq_true rfl, Nat.le_of_ble_eq_true rfl, Nat.le_of_ble_eq_true rfl, Nat.le_of_ble_eq_true rfl⟩
  exact law_loop hF hL ⟨hX, hbl, hbA⟩ ⟨rfl, rfl, rfl, rfl, Nat.le_of_ble_eq_true rfl, Nat.le_of_ble_eq_true rfl⟩ 600 0 (by decide) (by decide) (by omega) gI (gI 4 0) rel_start H locs ls hP2 hD2 hS hRg (by rw [hml]; exact hl2)
