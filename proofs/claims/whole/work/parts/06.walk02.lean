set_option maxHeartbeats 4000000 in
set_option maxRecDepth 100000 in
theorem snd_X4_sureOfMarch {C0 : GG} {M : LT}  {Q : (Int) → Prop} (k : Ok (X4_sureOfMarch C0) Q) : MetG SL yX4_sureOfMarch cX4_sureOfMarch 5 (some .int) 3 (fun ad => [.ref (ad (0, 0, 0))]) (gs C0 4 0 M) (fun v g' => ∃ x : Int, v = some (iv x) ∧ Rg x ∧ g' = gs C0 4 0 M ∧ Q x) := by
  refine met_intro SL_ok (by decide +kernel) (fun ad => Nat.le_of_ble_eq_true rfl) (fun X F hQ hR => ?_)
  replace F : FX X cX4_sureOfMarch RX4 5 (some .int) SL 3 := F
  show J X 0 [(0, .ref (xad X (0, 0, 0)))] [] (gs C0 4 0 M)
  refine jr_bipush (pc := 0) F dX4_sureOfMarch_0 (by decide) ?_
  refine jr_istore_n (pc := 2) F [(1, iv 99), (0, .ref (xad X (0, 0, 0)))] dX4_sureOfMarch_2 rfl (by decide) rfl ?_
  refine jr_iconst (pc := 3) F dX4_sureOfMarch_3 ?_
  refine jr_istore_n (pc := 4) F [(2, iv 0), (1, iv 99), (0, .ref (xad X (0, 0, 0)))] dX4_sureOfMarch_4 rfl (by decide) rfl ?_
  refine jr_sub F [2, 1, 0] [(0, .ref (xad X (0, 0, 0))), (1, iv 99), (2, iv 0)] rfl ?_
  refine lpj (P := fun s : Int × Int => Rg (s.1) → Rg (s.2) → J X 5 [(0, .ref (xad X (0, 0, 0))), (1, iv s.1), (2, iv s.2)] [] (gs C0 4 0 M)) (PE := fun r : Int × Int => Rg (r.1) → Rg (r.2) → J X 57 [(0, .ref (xad X (0, 0, 0))), (1, iv r.1), (2, iv r.2)] [] (gs C0 4 0 M)) k (fun s1 Q2 k hC3 hE4 r6 r7 => ?_) (fun z5 k => ?_) (fun h => h (show Rg 99 from ⟨by decide, by decide⟩) (show Rg 0 from ⟨by decide, by decide⟩))
  · refine jr_iload_n (pc := 5) F 2 dX4_sureOfMarch_5 rfl rfl ?_
    refine jr_aload_n (pc := 6) F 0 dX4_sureOfMarch_6 rfl rfl ?_
    refine jr_callV (pc := 7) (st := [iv s1.2]) F [] (snd_X4_marchYards (M := M)  (X4_marchYards_ok _ )) rfl ck_4_296 rfl m0_0 rfl rfl rfl (by decide) (Nat.le_of_ble_eq_true rfl) dX4_sureOfMarch_7 rfl (fun v g' hq => ?_)
    obtain ⟨x, rfl, r8, eg, hx⟩ := hq
    subst hx
    refine J_eq eg ?_
    show J X 10 [(0, .ref (xad X (0, 0, 0))), (1, iv s1.1), (2, iv s1.2)] [iv (X4_marchYards_v C0), iv s1.2] (gs C0 4 0 M)
    refine jr_icmp_ge (pc := 10) (tgt := 57) F r7 r8 dX4_sureOfMarch_10 (by decide) (fun h9 => ?_) (fun h9 => ?_)
    · have k := Ok_f (ng_lt h9) k
      exact hE4 (s1.1, s1.2) (Ok_some k) r6 r7
    have k := Ok_t h9 k
    refine jr_iconst (pc := 13) F dX4_sureOfMarch_13 ?_
    refine jr_istore_n (pc := 14) F [(3, iv 0), (0, .ref (xad X (0, 0, 0))), (1, iv s1.1), (2, iv s1.2)] dX4_sureOfMarch_14 rfl (by decide) rfl ?_
    refine jr_iconst (pc := 15) F dX4_sureOfMarch_15 ?_
    refine jr_istore (pc := 16) F [(4, iv 0), (3, iv 0), (0, .ref (xad X (0, 0, 0))), (1, iv s1.1), (2, iv s1.2)] dX4_sureOfMarch_16 (by decide) rfl ?_
    refine jr_sub F [2, 3, 4, 1, 0] [(0, .ref (xad X (0, 0, 0))), (1, iv s1.1), (2, iv s1.2), (3, iv 0), (4, iv 0)] rfl ?_
    refine lpj (P := fun s : Int × Int => Rg (s.1) → Rg (s.2) → J X 18 [(0, .ref (xad X (0, 0, 0))), (1, iv s1.1), (2, iv s1.2), (3, iv s.1), (4, iv s.2)] [] (gs C0 4 0 M)) (PE := fun r : Int × Int => Rg (r.1) → Rg (r.2) → J X 45 [(0, .ref (xad X (0, 0, 0))), (1, iv s1.1), (2, iv s1.2), (3, iv r.1), (4, iv r.2)] [] (gs C0 4 0 M)) k (fun s10 Q11 k hC12 hE13 r15 r16 => ?_) (fun z14 k => ?_) (fun h => h (show Rg 0 from ⟨by decide, by decide⟩) (show Rg 0 from ⟨by decide, by decide⟩))
    · refine jr_iload (pc := 18) F 4 dX4_sureOfMarch_18 rfl ?_
      refine jr_aload_n (pc := 20) F 0 dX4_sureOfMarch_20 rfl rfl ?_
      refine jr_callV (pc := 21) (st := [iv s10.2]) F [] (snd_X4_marchYards (M := M)  (X4_marchYards_ok _ )) rfl ck_4_296 rfl m0_0 rfl rfl rfl (by decide) (Nat.le_of_ble_eq_true rfl) dX4_sureOfMarch_21 rfl (fun v g' hq => ?_)
      obtain ⟨x, rfl, r17, eg, hx⟩ := hq
      subst hx
      refine J_eq eg ?_
      show J X 24 [(0, .ref (xad X (0, 0, 0))), (1, iv s1.1), (2, iv s1.2), (3, iv s10.1), (4, iv s10.2)] [iv (X4_marchYards_v C0), iv s10.2] (gs C0 4 0 M)
      refine jr_icmp_ge (pc := 24) (tgt := 45) F r16 r17 dX4_sureOfMarch_24 (by decide) (fun h18 => ?_) (fun h18 => ?_)
      · have k := Ok_f (ng_lt h18) k
        exact hE13 (s10.1, s10.2) (Ok_some k) r15 r16
      have k := Ok_t h18 k
      refine jr_iload_n (pc := 27) F 3 dX4_sureOfMarch_27 rfl rfl ?_
      refine jr_aload_n (pc := 28) F 0 dX4_sureOfMarch_28 rfl rfl ?_
      refine jr_iload (pc := 29) F 4 dX4_sureOfMarch_29 rfl ?_
      refine jr_iload_n (pc := 31) F 2 dX4_sureOfMarch_31 rfl rfl ?_
      have k := Ok_bind k
      refine jr_callV (pc := 32) (st := [iv s10.1]) F [iv s10.2, iv s1.2] (snd_X4_leastAfter (M := M) r16 r7 k) rfl ck_4_302 rfl m0_0 rfl rfl rfl (by decide) (Nat.le_of_ble_eq_true rfl) dX4_sureOfMarch_32 rfl (fun v g' hq => ?_)
      obtain ⟨z20, rfl, r19, eg, k⟩ := hq
      refine J_eq eg ?_
      show J X 35 [(0, .ref (xad X (0, 0, 0))), (1, iv s1.1), (2, iv s1.2), (3, iv s10.1), (4, iv s10.2)] [iv z20, iv s10.1] (gs C0 4 0 M)
      refine jr_mmax (pc := 35) F r15 r19 lb_4_273 (by decide) (Nat.le_of_ble_eq_true rfl) dX4_sureOfMarch_35 ?_
      obtain ⟨x21, e22, k⟩ := Ok_let k
      have r23 : Rg x21 := rg_of e22 (rg_imax r15 r19)
      refine jr_top e22 ?_
      refine jr_istore_n (pc := 38) F [(3, iv x21), (0, .ref (xad X (0, 0, 0))), (1, iv s1.1), (2, iv s1.2), (4, iv s10.2)] dX4_sureOfMarch_38 rfl (by decide) rfl ?_
      refine jr_iinc (pc := 39) F [(4, iv (w32 (s10.2 + 1))), (3, iv x21), (0, .ref (xad X (0, 0, 0))), (1, iv s1.1), (2, iv s1.2)] 4 dX4_sureOfMarch_39 rfl (by decide) rfl ?_
      refine jr_goto (pc := 42) (tgt := 18) F dX4_sureOfMarch_42 (by decide) ?_
      refine jr_sub F [2, 3, 4, 1, 0] [(0, .ref (xad X (0, 0, 0))), (1, iv s1.1), (2, iv s1.2), (3, iv x21), (4, iv (w32 (s10.2 + 1)))] rfl ?_
      exact hC12 (x21, w32 (s10.2 + 1)) (Ok_some k) r23 (rg_w _)
    intro r24 r25
    refine jr_iload_n (pc := 45) F 1 dX4_sureOfMarch_45 rfl rfl ?_
    refine jr_iload_n (pc := 46) F 3 dX4_sureOfMarch_46 rfl rfl ?_
    refine jr_mmin (pc := 47) F r6 r24 lb_4_299 (by decide) (Nat.le_of_ble_eq_true rfl) dX4_sureOfMarch_47 ?_
    obtain ⟨x26, e27, k⟩ := Ok_let k
    have r28 : Rg x26 := rg_of e27 (rg_imin r6 r24)
    refine jr_top e27 ?_
    refine jr_istore_n (pc := 50) F [(1, iv x26), (0, .ref (xad X (0, 0, 0))), (2, iv s1.2), (3, iv z14.1), (4, iv z14.2)] dX4_sureOfMarch_50 rfl (by decide) rfl ?_
    refine jr_iinc (pc := 51) F [(2, iv (w32 (s1.2 + 1))), (1, iv x26), (0, .ref (xad X (0, 0, 0))), (3, iv z14.1), (4, iv z14.2)] 2 dX4_sureOfMarch_51 rfl (by decide) rfl ?_
    refine jr_goto (pc := 54) (tgt := 5) F dX4_sureOfMarch_54 (by decide) ?_
    refine jr_sub F [2, 1, 0] [(0, .ref (xad X (0, 0, 0))), (1, iv x26), (2, iv (w32 (s1.2 + 1)))] rfl ?_
    exact hC3 (x26, w32 (s1.2 + 1)) (Ok_some k) r28 (rg_w _)
  intro r29 r30
  refine jr_iload_n (pc := 57) F 1 dX4_sureOfMarch_57 rfl rfl ?_
  exact jr_iret (pc := 58) F hQ rfl dX4_sureOfMarch_58 ⟨_, rfl, r29, rfl, (Ok_some k)⟩
set_option maxHeartbeats 4000000 in
set_option maxRecDepth 100000 in
theorem snd_X4_surePouring {C0 : GG} {v_poured : Int} {M : LT} (rgp_poured : Rg v_poured) {Q : (Int) → Prop} (k : Ok (X4_surePouring C0 v_poured) Q) : MetG SL yX4_surePouring cX4_surePouring 4 (some .int) 3 (fun ad => [.ref (ad (0, 0, 0)), iv v_poured]) (gs C0 4 0 M) (fun v g' => ∃ x : Int, v = some (iv x) ∧ Rg x ∧ g' = gs C0 4 0 M ∧ Q x) := by
  refine met_intro SL_ok (by decide +kernel) (fun ad => Nat.le_of_ble_eq_true rfl) (fun X F hQ hR => ?_)
  replace F : FX X cX4_surePouring RX4 4 (some .int) SL 3 := F
  show J X 0 [(0, .ref (xad X (0, 0, 0))), (1, iv v_poured)] [] (gs C0 4 0 M)
  refine jr_bipush (pc := 0) F dX4_surePouring_0 (by decide) ?_
  refine jr_istore_n (pc := 2) F [(2, iv 99), (0, .ref (xad X (0, 0, 0))), (1, iv v_poured)] dX4_surePouring_2 rfl (by decide) rfl ?_
  refine jr_iconst (pc := 3) F dX4_surePouring_3 ?_
  refine jr_istore_n (pc := 4) F [(3, iv 0), (2, iv 99), (0, .ref (xad X (0, 0, 0))), (1, iv v_poured)] dX4_surePouring_4 rfl (by decide) rfl ?_
  refine jr_sub F [2, 3, 1, 0] [(0, .ref (xad X (0, 0, 0))), (1, iv v_poured), (2, iv 99), (3, iv 0)] rfl ?_
  refine lpj (P := fun s : Int × Int => Rg (s.1) → Rg (s.2) → J X 5 [(0, .ref (xad X (0, 0, 0))), (1, iv v_poured), (2, iv s.1), (3, iv s.2)] [] (gs C0 4 0 M)) (PE := fun r : Int × Int => Rg (r.1) → Rg (r.2) → J X 30 [(0, .ref (xad X (0, 0, 0))), (1, iv v_poured), (2, iv r.1), (3, iv r.2)] [] (gs C0 4 0 M)) k (fun s1 Q2 k hC3 hE4 r6 r7 => ?_) (fun z5 k => ?_) (fun h => h (show Rg 99 from ⟨by decide, by decide⟩) (show Rg 0 from ⟨by decide, by decide⟩))
  · refine jr_iload_n (pc := 5) F 3 dX4_surePouring_5 rfl rfl ?_
    refine jr_aload_n (pc := 6) F 0 dX4_surePouring_6 rfl rfl ?_
    refine jr_callV (pc := 7) (st := [iv s1.2]) F [] (snd_X4_marchYards (M := M)  (X4_marchYards_ok _ )) rfl ck_4_296 rfl m0_0 rfl rfl rfl (by decide) (Nat.le_of_ble_eq_true rfl) dX4_surePouring_7 rfl (fun v g' hq => ?_)
    obtain ⟨x, rfl, r8, eg, hx⟩ := hq
    subst hx
    refine J_eq eg ?_
    show J X 10 [(0, .ref (xad X (0, 0, 0))), (1, iv v_poured), (2, iv s1.1), (3, iv s1.2)] [iv (X4_marchYards_v C0), iv s1.2] (gs C0 4 0 M)
    refine jr_icmp_ge (pc := 10) (tgt := 30) F r7 r8 dX4_surePouring_10 (by decide) (fun h9 => ?_) (fun h9 => ?_)
    · have k := Ok_f (ng_lt h9) k
      exact hE4 (s1.1, s1.2) (Ok_some k) r6 r7
    have k := Ok_t h9 k
    refine jr_iload_n (pc := 13) F 2 dX4_surePouring_13 rfl rfl ?_
    refine jr_aload_n (pc := 14) F 0 dX4_surePouring_14 rfl rfl ?_
    refine jr_iload_n (pc := 15) F 1 dX4_surePouring_15 rfl rfl ?_
    refine jr_iload_n (pc := 16) F 3 dX4_surePouring_16 rfl rfl ?_
    have k := Ok_bind k
    refine jr_callV (pc := 17) (st := [iv s1.1]) F [iv v_poured, iv s1.2] (snd_X4_leastAfter (M := M) rgp_poured r7 k) rfl ck_4_302 rfl m0_0 rfl rfl rfl (by decide) (Nat.le_of_ble_eq_true rfl) dX4_surePouring_17 rfl (fun v g' hq => ?_)
    obtain ⟨z11, rfl, r10, eg, k⟩ := hq
    refine J_eq eg ?_
    show J X 20 [(0, .ref (xad X (0, 0, 0))), (1, iv v_poured), (2, iv s1.1), (3, iv s1.2)] [iv z11, iv s1.1] (gs C0 4 0 M)
    refine jr_mmin (pc := 20) F r6 r10 lb_4_299 (by decide) (Nat.le_of_ble_eq_true rfl) dX4_surePouring_20 ?_
    obtain ⟨x12, e13, k⟩ := Ok_let k
    have r14 : Rg x12 := rg_of e13 (rg_imin r6 r10)
    refine jr_top e13 ?_
    refine jr_istore_n (pc := 23) F [(2, iv x12), (0, .ref (xad X (0, 0, 0))), (1, iv v_poured), (3, iv s1.2)] dX4_surePouring_23 rfl (by decide) rfl ?_
    refine jr_iinc (pc := 24) F [(3, iv (w32 (s1.2 + 1))), (2, iv x12), (0, .ref (xad X (0, 0, 0))), (1, iv v_poured)] 3 dX4_surePouring_24 rfl (by decide) rfl ?_
    refine jr_goto (pc := 27) (tgt := 5) F dX4_surePouring_27 (by decide) ?_
    refine jr_sub F [2, 3, 1, 0] [(0, .ref (xad X (0, 0, 0))), (1, iv v_poured), (2, iv x12), (3, iv (w32 (s1.2 + 1)))] rfl ?_
    exact hC3 (x12, w32 (s1.2 + 1)) (Ok_some k) r14 (rg_w _)
  intro r15 r16
  refine jr_iload_n (pc := 30) F 2 dX4_surePouring_30 rfl rfl ?_
  exact jr_iret (pc := 31) F hQ rfl dX4_surePouring_31 ⟨_, rfl, r15, rfl, (Ok_some k)⟩
set_option maxHeartbeats 4000000 in
set_option maxRecDepth 100000 in
theorem snd_X4_march {C0 : GG} {v_what : Int} {M : LT} (rgp_what : Rg v_what) {Q : (Int × GG) → Prop} (k : Ok (X4_march C0 v_what) Q) : MetG SL yX4_march cX4_march 6 (some .int) 4 (fun ad => [.ref (ad (0, 0, 0)), iv v_what]) (gs C0 4 0 M) (fun v g' => ∃ (x : Int) (L' : GG), v = some (iv x) ∧ Rg x ∧ g' = gs L' 4 0 M ∧ Q (x, L')) := by
  refine met_intro SL_ok (by decide +kernel) (fun ad => Nat.le_of_ble_eq_true rfl) (fun X F hQ hR => ?_)
  replace F : FX X cX4_march RX4 6 (some .int) SL 4 := F
  show J X 0 [(0, .ref (xad X (0, 0, 0))), (1, iv v_what)] [] (gs C0 4 0 M)
  refine cnd (c := (v_what < 0) ∨ (2 < v_what)) (GT := J X 9 [(0, .ref (xad X (0, 0, 0))), (1, iv v_what)] [] (gs C0 4 0 M)) (GF := J X 16 [(0, .ref (xad X (0, 0, 0))), (1, iv v_what)] [] (gs C0 4 0 M)) k (fun HT HF => ?_) (fun h3 k => ?_) (fun h3 k => ?_)
  · refine jr_iload_n (pc := 0) F 1 dX4_march_0 rfl rfl ?_
    refine jr_if_lt (pc := 1) (tgt := 9) F rgp_what dX4_march_1 (by decide) (fun h1 => ?_) (fun h1 => ?_)
    · exact HT (Or.inl h1)
    refine jr_iload_n (pc := 4) F 1 dX4_march_4 rfl rfl ?_
    refine jr_iconst (pc := 5) F dX4_march_5 ?_
    refine jr_icmp_le (pc := 6) (tgt := 16) F rgp_what (show Rg 2 from ⟨by decide, by decide⟩) dX4_march_6 (by decide) (fun h2 => ?_) (fun h2 => ?_)
    · exact HF (fun q => q.elim (ng_lt h1) (ng_lt h2))
    exact HT (Or.inr h2)
  · refine jr_aload_n (pc := 9) F 0 dX4_march_9 rfl rfl ?_
    refine jr_bipush (pc := 10) F dX4_march_10 (by decide) ?_
    have k := Ok_bind k
    refine jr_callV (pc := 12) (st := []) F [iv (-2)] (snd_X4_refuse (M := M) (show Rg (-2) from ⟨by decide, by decide⟩) k) rfl ck_4_61 rfl m0_0 rfl rfl rfl (by decide) (Nat.le_of_ble_eq_true rfl) dX4_march_12 rfl (fun v g' hq => ?_)
    obtain ⟨x, L', rfl, r4, eg, k⟩ := hq
    obtain ⟨z5, ez⟩ : ∃ z : Int × GG, z = (x, L') := ⟨_, rfl⟩
    obtain ⟨rfl, rfl⟩ : x = z5.1 ∧ L' = z5.2 := ⟨by rw [ez], by rw [ez]⟩
    clear ez
    refine J_eq eg ?_
    show J X 15 [(0, .ref (xad X (0, 0, 0))), (1, iv v_what)] [iv z5.1] (gs z5.2 4 0 M)
    exact jr_iret (pc := 15) F hQ rfl dX4_march_15 ⟨_, _, rfl, r4, rfl, (Ok_some k)⟩
  refine jr_iload_n (pc := 16) F 1 dX4_march_16 rfl rfl ?_
  refine jr_iconst (pc := 17) F dX4_march_17 ?_
  refine jr_icmp_ne (pc := 18) (tgt := 26) F rgp_what (show Rg 2 from ⟨by decide, by decide⟩) dX4_march_18 (by decide) (fun h6 => ?_) (fun h6 => ?_)
  · have k := Ok_f h6 k
    refine jr_iconst (pc := 26) F dX4_march_26 ?_
    refine jr_istore_n (pc := 27) F [(2, iv 0), (0, .ref (xad X (0, 0, 0))), (1, iv v_what)] dX4_march_27 rfl (by decide) rfl ?_
    refine jr_aload_n (pc := 28) F 1 dX4_march_28 rfl rfl ?_
    refine jr_iconst (pc := 29) F dX4_march_29 ?_
    have k := Ok_bind k
    refine jr_callV (pc := 30) (st := []) F [iv 0] (snd_X4_surePouring (M := M) (show Rg 0 from ⟨by decide, by decide⟩) k) rfl ck_4_293 rfl m0_0 rfl rfl rfl (by decide) (Nat.le_of_ble_eq_true rfl) dX4_march_30 rfl (fun v g' hq => ?_)
    obtain ⟨z8, rfl, r7, eg, k⟩ := hq
    refine J_eq eg ?_
    show J X 33 [(2, iv 0), (0, .ref (xad X (0, 0, 0))), (1, iv v_what)] [iv z8] (gs C0 4 0 M)
    refine jr_istore_n (pc := 33) F [(3, iv z8), (2, iv 0), (0, .ref (xad X (0, 0, 0))), (1, iv v_what)] dX4_march_33 rfl (by decide) rfl ?_
    refine jr_iconst (pc := 34) F dX4_march_34 ?_
    refine jr_istore (pc := 35) F [(4, iv 1), (3, iv z8), (2, iv 0), (0, .ref (xad X (0, 0, 0))), (1, iv v_what)] dX4_march_35 (by decide) rfl ?_
    refine jr_sub F [3, 4, 2, 1, 0] [(0, .ref (xad X (0, 0, 0))), (1, iv v_what), (2, iv 0), (3, iv z8), (4, iv 1)] rfl ?_
    refine lpj (P := fun s : Int × Int × Int => Rg (s.1) → Rg (s.2.1) → Rg (s.2.2) → J X 37 [(0, .ref (xad X (0, 0, 0))), (1, iv v_what), (2, iv s.1), (3, iv s.2.1), (4, iv s.2.2)] [] (gs C0 4 0 M)) (PE := fun r : Int × Int × Int => Rg (r.1) → Rg (r.2.1) → Rg (r.2.2) → J X 72 [(0, .ref (xad X (0, 0, 0))), (1, iv v_what), (2, iv r.1), (3, iv r.2.1), (4, iv r.2.2)] [] (gs C0 4 0 M)) k (fun s9 Q10 k hC11 hE12 r14 r15 r16 => ?_) (fun z13 k => ?_) (fun h => h (show Rg 0 from ⟨by decide, by decide⟩) r7 (show Rg 1 from ⟨by decide, by decide⟩))
    · refine jr_iload (pc := 37) F 4 dX4_march_37 rfl ?_
      refine jr_aload_n (pc := 39) F 0 dX4_march_39 rfl rfl ?_
      refine jr_callV (pc := 40) (st := [iv s9.2.2]) F [] (snd_X4_marchYards (M := M)  (X4_marchYards_ok _ )) rfl ck_4_296 rfl m0_0 rfl rfl rfl (by decide) (Nat.le_of_ble_eq_true rfl) dX4_march_40 rfl (fun v g' hq => ?_)
      obtain ⟨x, rfl, r17, eg, hx⟩ := hq
      subst hx
      refine J_eq eg ?_
      show J X 43 [(0, .ref (xad X (0, 0, 0))), (1, iv v_what), (2, iv s9.1), (3, iv s9.2.1), (4, iv s9.2.2)] [iv (X4_marchYards_v C0), iv s9.2.2] (gs C0 4 0 M)
      refine jr_icmp_ge (pc := 43) (tgt := 72) F r16 r17 dX4_march_43 (by decide) (fun h18 => ?_) (fun h18 => ?_)
      · have k := Ok_f (ng_lt h18) k
        exact hE12 (s9.1, s9.2.1, s9.2.2) (Ok_some k) r14 r15 r16
      have k := Ok_t h18 k
      refine jr_aload_n (pc := 46) F 0 dX4_march_46 rfl rfl ?_
      refine jr_iload (pc := 47) F 4 dX4_march_47 rfl ?_
      have k := Ok_bind k
      refine jr_callV (pc := 49) (st := []) F [iv s9.2.2] (snd_X4_surePouring (M := M) r16 k) rfl ck_4_293 rfl m0_0 rfl rfl rfl (by decide) (Nat.le_of_ble_eq_true rfl) dX4_march_49 rfl (fun v g' hq => ?_)
      obtain ⟨z20, rfl, r19, eg, k⟩ := hq
      refine J_eq eg ?_
      show J X 52 [(0, .ref (xad X (0, 0, 0))), (1, iv v_what), (2, iv s9.1), (3, iv s9.2.1), (4, iv s9.2.2)] [iv z20] (gs C0 4 0 M)
      refine jr_istore (pc := 52) F [(5, iv z20), (0, .ref (xad X (0, 0, 0))), (1, iv v_what), (2, iv s9.1), (3, iv s9.2.1), (4, iv s9.2.2)] dX4_march_52 (by decide) rfl ?_
      refine jr_iload (pc := 54) F 0 dX4_march_54 rfl ?_
      refine jr_iload_n (pc := 56) F 4 dX4_march_56 rfl rfl ?_
      refine jr_icmp_le (pc := 57) (tgt := 66) F r19 r15 dX4_march_57 (by decide) (fun h21 => ?_) (fun h21 => ?_)
      · have k := Ok_f (ng_lt h21) k
        refine jr_iinc (pc := 66) F [(4, iv (w32 (s9.2.2 + 1))), (5, iv z20), (0, .ref (xad X (0, 0, 0))), (1, iv v_what), (2, iv s9.1), (3, iv s9.2.1)] 5 dX4_march_66 rfl (by decide) rfl ?_
        refine jr_goto (pc := 69) (tgt := 37) F dX4_march_69 (by decide) ?_
        refine jr_sub F [2, 3, 4, 5, 0] [(0, .ref (xad X (0, 0, 0))), (1, iv v_what), (2, iv s9.1), (3, iv s9.2.1), (4, iv (w32 (s9.2.2 + 1)))] rfl ?_
        exact hC11 (s9.1, s9.2.1, w32 (s9.2.2 + 1)) (Ok_some k) r14 r15 (rg_w _)
      have k := Ok_t h21 k
      refine jr_iload (pc := 60) F 0 dX4_march_60 rfl ?_
      refine jr_istore_n (pc := 62) F [(3, iv z20), (5, iv z20), (0, .ref (xad X (0, 0, 0))), (1, iv v_what), (2, iv s9.1), (4, iv s9.2.2)] dX4_march_62 rfl (by decide) rfl ?_
      refine jr_iload (pc := 63) F 5 dX4_march_63 rfl ?_
      refine jr_istore_n (pc := 65) F [(2, iv s9.2.2), (3, iv z20), (5, iv z20), (0, .ref (xad X (0, 0, 0))), (1, iv v_what), (4, iv s9.2.2)] dX4_march_65 rfl (by decide) rfl ?_
      refine jr_iinc (pc := 66) F [(4, iv (w32 (s9.2.2 + 1))), (2, iv s9.2.2), (3, iv z20), (5, iv z20), (0, .ref (xad X (0, 0, 0))), (1, iv v_what)] 5 dX4_march_66 rfl (by decide) rfl ?_
      refine jr_goto (pc := 69) (tgt := 37) F dX4_march_69 (by decide) ?_
      refine jr_sub F [4, 5, 1, 2, 0] [(0, .ref (xad X (0, 0, 0))), (1, iv v_what), (2, iv s9.2.2), (3, iv z20), (4, iv (w32 (s9.2.2 + 1)))] rfl ?_
      exact hC11 (s9.2.2, z20, w32 (s9.2.2 + 1)) (Ok_some k) r16 r19 (rg_w _)
    intro r22 r23 r24
    refine jifP (P := fun v => Rg v → J X 81 [(0, .ref (xad X (0, 0, 0))), (1, iv v_what), (2, iv z13.1), (3, iv z13.2.1), (4, iv z13.2.2)] (iv v :: []) (gs C0 4 0 M)) (c := v_what = 0) (z13.2.1) (z13.1) (fun Ht Hf => ?_) (fun r26 => ?_)
    · refine jr_iload_n (pc := 72) F 1 dX4_march_72 rfl rfl ?_
      refine jr_if_ne (pc := 73) (tgt := 80) F rgp_what dX4_march_73 (by decide) (fun h25 => ?_) (fun h25 => ?_)
      · refine jr_iload_n (pc := 80) F 2 dX4_march_80 rfl rfl ?_
        exact Hf h25 r22
      refine jr_iload_n (pc := 76) F 3 dX4_march_76 rfl rfl ?_
      refine jr_goto (pc := 77) (tgt := 81) F dX4_march_77 (by decide) ?_
      exact Ht h25 r23
    exact jr_iret (pc := 81) F hQ rfl dX4_march_81 ⟨_, _, rfl, r26, rfl, (Ok_some k)⟩
  have k := Ok_t h6 k
  refine jr_aload_n (pc := 21) F 0 dX4_march_21 rfl rfl ?_
  have k := Ok_bind k
  refine jr_callV (pc := 22) (st := []) F [] (snd_X4_sureOfMarch (M := M)  k) rfl ck_4_290 rfl m0_0 rfl rfl rfl (by decide) (Nat.le_of_ble_eq_true rfl) dX4_march_22 rfl (fun v g' hq => ?_)
  obtain ⟨z28, rfl, r27, eg, k⟩ := hq
  refine J_eq eg ?_
  show J X 25 [(0, .ref (xad X (0, 0, 0))), (1, iv v_what)] [iv z28] (gs C0 4 0 M)
  exact jr_iret (pc := 25) F hQ rfl dX4_march_25 ⟨_, _, rfl, r27, rfl, (Ok_some k)⟩
set_option maxHeartbeats 4000000 in
set_option maxRecDepth 100000 in
theorem snd_X4_mean {C0 : GG} {v_n : Int} {v_what : Int} {M : LT} (rgp_n : Rg v_n) (rgp_what : Rg v_what) {Q : (Int × GG) → Prop} (k : Ok (X4_mean C0 v_n v_what) Q) : MetG SL yX4_mean cX4_mean 4 (some .int) 5 (fun ad => [.ref (ad (0, 0, 0)), iv v_n, iv v_what]) (gs C0 4 0 M) (fun v g' => ∃ (x : Int) (L' : GG), v = some (iv x) ∧ Rg x ∧ g' = gs L' 4 0 M ∧ Q (x, L')) := by
  refine met_intro SL_ok (by decide +kernel) (fun ad => Nat.le_of_ble_eq_true rfl) (fun X F hQ hR => ?_)
  replace F : FX X cX4_mean RX4 4 (some .int) SL 5 := F
  show J X 0 [(0, .ref (xad X (0, 0, 0))), (1, iv v_n), (2, iv v_what)] [] (gs C0 4 0 M)
  refine jr_iload_n (pc := 0) F 1 dX4_mean_0 rfl rfl ?_
  refine jr_iconst (pc := 1) F dX4_mean_1 ?_
  refine jr_bipush (pc := 2) F dX4_mean_2 (by decide) ?_
  refine jr_callS (pc := 4) (st := []) F [iv v_n, iv 0, iv 72] (snd_X4_outside (g0 := gs C0 4 0 M) rgp_n (show Rg 0 from ⟨by decide, by decide⟩) (show Rg 72 from ⟨by decide, by decide⟩) (X4_outside_ok _ _ _ )) rfl ck_4_57 rfl rfl (by decide) (Nat.le_of_ble_eq_true rfl) dX4_mean_4 rfl (fun v g' hq => ?_)
  obtain ⟨x, rfl, r1, eg, hx⟩ := hq
  subst hx
  refine J_eq eg ?_
  show J X 7 [(0, .ref (xad X (0, 0, 0))), (1, iv v_n), (2, iv v_what)] [iv (X4_outside_v v_n 0 72)] (gs C0 4 0 M)
  obtain ⟨x2, e3, k⟩ := Ok_let k
  have r4 : Rg x2 := rg_of e3 r1
  refine jr_top e3 ?_
  refine jr_istore_n (pc := 7) F [(3, iv x2), (0, .ref (xad X (0, 0, 0))), (1, iv v_n), (2, iv v_what)] dX4_mean_7 rfl (by decide) rfl ?_
  refine jr_iload_n (pc := 8) F 0 dX4_mean_8 rfl rfl ?_
  refine jr_if_eq (pc := 9) (tgt := 18) F r4 dX4_mean_9 (by decide) (fun h5 => ?_) (fun h5 => ?_)
  · have k := Ok_f (fun q => q h5) k
    refine jr_iload_n (pc := 18) F 3 dX4_mean_18 rfl rfl ?_
    refine jr_callS (pc := 19) (st := []) F [iv v_what] (snd_X4_neither (g0 := gs C0 4 0 M) rgp_what (X4_neither_ok _ )) rfl ck_4_153 rfl rfl (by decide) (Nat.le_of_ble_eq_true rfl) dX4_mean_19 rfl (fun v g' hq => ?_)
    obtain ⟨x, rfl, r6, eg, hx⟩ := hq
    subst hx
    refine J_eq eg ?_
    show J X 22 [(3, iv x2), (0, .ref (xad X (0, 0, 0))), (1, iv v_n), (2, iv v_what)] [iv (X4_neither_v v_what)] (gs C0 4 0 M)
    refine jr_if_eq (pc := 22) (tgt := 32) F (rg_z r6) dX4_mean_22 (by decide) (fun h7 => ?_) (fun h7 => ?_)
    · have k := Ok_f (fun q => q h7) k
      refine jr_aload_n (pc := 32) F 1 dX4_mean_32 rfl rfl ?_
      refine jr_iload_n (pc := 33) F 2 dX4_mean_33 rfl rfl ?_
      have k := Ok_bind k
      refine jr_callV (pc := 34) (st := []) F [iv v_n] (snd_X4_goInMind (M := M) rgp_n k) rfl ck_4_190 rfl m0_0 rfl rfl rfl (by decide) (Nat.le_of_ble_eq_true rfl) dX4_mean_34 rfl (fun v g' hq => ?_)
      obtain ⟨z9, rfl, eg, k⟩ := hq
      refine J_eq eg ?_
      show J X 37 [(3, iv x2), (0, .ref (xad X (0, 0, 0))), (1, iv v_n), (2, iv v_what)] [] (gs z9 4 0 M)
      refine jr_iload_n (pc := 37) F 3 dX4_mean_37 rfl rfl ?_
      refine jr_iconst (pc := 38) F dX4_mean_38 ?_
      refine jr_icmp_ne (pc := 39) (tgt := 66) F rgp_what (show Rg 1 from ⟨by decide, by decide⟩) dX4_mean_39 (by decide) (fun h10 => ?_) (fun h10 => ?_)
      · have k := Ok_f h10 k
        refine jr_aload_n (pc := 66) F 1 dX4_mean_66 rfl rfl ?_
        refine jr_getR (pc := 67) (b := (1, 1, 0)) F f_4_16 m0_0 rfl dX4_mean_67 ?_
        have k := Ok_bind k
        refine jr_callV (pc := 70) (st := []) F [] (snd_X2_allFrost h11_1 (g0 := gs z9 4 0 M)  k) (gs_in z9 M 1 1 (by decide)) ck_4_325 rfl (mL_0 h11_1) rfl rfl rfl (by decide) (Nat.le_of_ble_eq_true rfl) dX4_mean_70 rfl (fun v g' hq => ?_)
        obtain ⟨z12, rfl, r11, eg, k⟩ := hq
        rw [← (gs_in z9 M 1 1 (by decide))] at eg
        refine J_eq eg ?_
        show J X 73 [(3, iv x2), (0, .ref (xad X (0, 0, 0))), (1, iv v_n), (2, iv v_what)] [iv z12] (gs z9 4 0 M)
        refine jr_iconst (pc := 73) F dX4_mean_73 ?_
        refine jr_aload_n (pc := 74) F 1 dX4_mean_74 rfl rfl ?_
        refine jr_getR (pc := 75) (b := (1, 1, 0)) F f_4_16 m0_0 rfl dX4_mean_75 ?_
        refine jr_getI (pc := 78) F (z9 1 1 0 0) f_4_156 (mL_0 h11_1) rfl rfl dX4_mean_78 (fun r13 => ?_)
        refine jr_mmax (pc := 81) F (show Rg 1 from ⟨by decide, by decide⟩) r13 lb_4_273 (by decide) (Nat.le_of_ble_eq_true rfl) dX4_mean_81 ?_
        obtain ⟨c14, k⟩ := Ok_grd k
        refine jr_idiv (pc := 84) F r11 (rg_imax (show Rg 1 from ⟨by decide, by decide⟩) r13) c14 dX4_mean_84 ?_
        exact jr_iret (pc := 85) F hQ rfl dX4_mean_85 ⟨_, _, rfl, (rg_div _ _), rfl, (Ok_some k)⟩
      have k := Ok_t h10 k
      refine jr_aload_n (pc := 42) F 1 dX4_mean_42 rfl rfl ?_
      refine jr_getR (pc := 43) (b := (1, 1, 0)) F f_4_16 m0_0 rfl dX4_mean_43 ?_
      have k := Ok_bind k
      refine jr_callV (pc := 46) (st := []) F [] (snd_X2_greatestFrost h11_1 (g0 := gs z9 4 0 M)  k) (gs_in z9 M 1 1 (by decide)) ck_4_322 rfl (mL_0 h11_1) rfl rfl rfl (by decide) (Nat.le_of_ble_eq_true rfl) dX4_mean_46 rfl (fun v g' hq => ?_)
      obtain ⟨z16, rfl, r15, eg, k⟩ := hq
      rw [← (gs_in z9 M 1 1 (by decide))] at eg
      refine J_eq eg ?_
      show J X 49 [(3, iv x2), (0, .ref (xad X (0, 0, 0))), (1, iv v_n), (2, iv v_what)] [iv z16] (gs z9 4 0 M)
      refine jr_aload_n (pc := 49) F 1 dX4_mean_49 rfl rfl ?_
      refine jr_getR (pc := 50) (b := (1, 1, 0)) F f_4_16 m0_0 rfl dX4_mean_50 ?_
      refine jr_getR (pc := 53) (b := (1, 1, 8)) F f_4_136 (mL_0 h11_1) rfl dX4_mean_53 ?_
      refine jr_aload_n (pc := 56) F 1 dX4_mean_56 rfl rfl ?_
      refine jr_getR (pc := 57) (b := (1, 1, 0)) F f_4_16 m0_0 rfl dX4_mean_57 ?_
      have k := Ok_bind k
      refine jr_callV (pc := 60) (st := [.ref (xad X (1, 1, 8)), iv z16]) F [] (snd_X2_weakest h11_1 (g0 := gs z9 4 0 M)  k) (gs_in z9 M 1 1 (by decide)) ck_4_205 rfl (mL_0 h11_1) rfl rfl rfl (by decide) (Nat.le_of_ble_eq_true rfl) dX4_mean_60 rfl (fun v g' hq => ?_)
      obtain ⟨z18, rfl, r17, eg, k⟩ := hq
      rw [← (gs_in z9 M 1 1 (by decide))] at eg
      refine J_eq eg ?_
      show J X 63 [(3, iv x2), (0, .ref (xad X (0, 0, 0))), (1, iv v_n), (2, iv v_what)] [iv z18, .ref (xad X (1, 1, 8)), iv z16] (gs z9 4 0 M)
      obtain ⟨c19, k⟩ := Ok_grd k
      refine jr_iald (pc := 63) F (z9 1 1 8 z18) (mL_8 h11_1) (by decide) c19 rfl dX4_mean_63 (fun r20 => ?_)
      refine jr_isub (pc := 64) F dX4_mean_64 ?_
      exact jr_iret (pc := 65) F hQ rfl dX4_mean_65 ⟨_, _, rfl, (rg_w _), rfl, (Ok_some k)⟩
    have k := Ok_t h7 k
    refine jr_aload_n (pc := 25) F 1 dX4_mean_25 rfl rfl ?_
    refine jr_bipush (pc := 26) F dX4_mean_26 (by decide) ?_
    have k := Ok_bind k
    refine jr_callV (pc := 28) (st := []) F [iv (-2)] (snd_X4_refuse (M := M) (show Rg (-2) from ⟨by decide, by decide⟩) k) rfl ck_4_61 rfl m0_0 rfl rfl rfl (by decide) (Nat.le_of_ble_eq_true rfl) dX4_mean_28 rfl (fun v g' hq => ?_)
    obtain ⟨x, L', rfl, r21, eg, k⟩ := hq
    obtain ⟨z22, ez⟩ : ∃ z : Int × GG, z = (x, L') := ⟨_, rfl⟩
    obtain ⟨rfl, rfl⟩ : x = z22.1 ∧ L' = z22.2 := ⟨by rw [ez], by rw [ez]⟩
    clear ez
    refine J_eq eg ?_
    show J X 31 [(3, iv x2), (0, .ref (xad X (0, 0, 0))), (1, iv v_n), (2, iv v_what)] [iv z22.1] (gs z22.2 4 0 M)
    exact jr_iret (pc := 31) F hQ rfl dX4_mean_31 ⟨_, _, rfl, r21, rfl, (Ok_some k)⟩
  have k := Ok_t h5 k
  refine jr_aload_n (pc := 12) F 1 dX4_mean_12 rfl rfl ?_
  refine jr_iload_n (pc := 13) F 0 dX4_mean_13 rfl rfl ?_
  have k := Ok_bind k
  refine jr_callV (pc := 14) (st := []) F [iv x2] (snd_X4_refuse (M := M) r4 k) rfl ck_4_61 rfl m0_0 rfl rfl rfl (by decide) (Nat.le_of_ble_eq_true rfl) dX4_mean_14 rfl (fun v g' hq => ?_)
  obtain ⟨x, L', rfl, r23, eg, k⟩ := hq
  obtain ⟨z24, ez⟩ : ∃ z : Int × GG, z = (x, L') := ⟨_, rfl⟩
  obtain ⟨rfl, rfl⟩ : x = z24.1 ∧ L' = z24.2 := ⟨by rw [ez], by rw [ez]⟩
  clear ez
  refine J_eq eg ?_
  show J X 17 [(3, iv x2), (0, .ref (xad X (0, 0, 0))), (1, iv v_n), (2, iv v_what)] [iv z24.1] (gs z24.2 4 0 M)
  exact jr_iret (pc := 17) F hQ rfl dX4_mean_17 ⟨_, _, rfl, r23, rfl, (Ok_some k)⟩
set_option maxHeartbeats 4000000 in
set_option maxRecDepth 100000 in
theorem snd_X4_near {C0 : GG} {v_yard : Int} {M : LT} (rgp_yard : Rg v_yard) {Q : (Int × GG) → Prop} (k : Ok (X4_near C0 v_yard) Q) : MetG SL yX4_near cX4_near 3 (some .int) 2 (fun ad => [.ref (ad (0, 0, 0)), iv v_yard]) (gs C0 4 0 M) (fun v g' => ∃ (x : Int) (L' : GG), v = some (iv x) ∧ Rg x ∧ g' = gs L' 4 0 M ∧ Q (x, L')) := by
  refine met_intro SL_ok (by decide +kernel) (fun ad => Nat.le_of_ble_eq_true rfl) (fun X F hQ hR => ?_)
  replace F : FX X cX4_near RX4 3 (some .int) SL 2 := F
  show J X 0 [(0, .ref (xad X (0, 0, 0))), (1, iv v_yard)] [] (gs C0 4 0 M)
  refine jr_aload_n (pc := 0) F 0 dX4_near_0 rfl rfl ?_
  refine jr_iload_n (pc := 1) F 1 dX4_near_1 rfl rfl ?_
  refine jr_callV (pc := 2) (st := []) F [iv v_yard] (snd_X4_noYard (M := M) rgp_yard (X4_noYard_ok _ _ )) rfl ck_4_127 rfl m0_0 rfl rfl rfl (by decide) (Nat.le_of_ble_eq_true rfl) dX4_near_2 rfl (fun v g' hq => ?_)
  obtain ⟨x, rfl, r1, eg, hx⟩ := hq
  subst hx
  refine J_eq eg ?_
  show J X 5 [(0, .ref (xad X (0, 0, 0))), (1, iv v_yard)] [iv (X4_noYard_v C0 v_yard)] (gs C0 4 0 M)
  refine jr_if_eq (pc := 5) (tgt := 14) F (rg_z r1) dX4_near_5 (by decide) (fun h2 => ?_) (fun h2 => ?_)
  · have k := Ok_f (fun q => q h2) k
    refine jr_aload_n (pc := 14) F 0 dX4_near_14 rfl rfl ?_
    refine jr_getR (pc := 15) (b := (1, 0, 0)) F f_4_12 m0_0 rfl dX4_near_15 ?_
    refine jr_iload_n (pc := 18) F 1 dX4_near_18 rfl rfl ?_
    have k := Ok_bind k
    refine jr_callV (pc := 19) (st := []) F [iv v_yard] (snd_X2_nearestHalt h11_0 (g0 := gs C0 4 0 M) rgp_yard k) (gs_in C0 M 1 0 (by decide)) ck_4_284 rfl (mL_0 h11_0) rfl rfl rfl (by decide) (Nat.le_of_ble_eq_true rfl) dX4_near_19 rfl (fun v g' hq => ?_)
    obtain ⟨z4, rfl, r3, eg, k⟩ := hq
    rw [← (gs_in C0 M 1 0 (by decide))] at eg
    refine J_eq eg ?_
    show J X 22 [(0, .ref (xad X (0, 0, 0))), (1, iv v_yard)] [iv z4] (gs C0 4 0 M)
    refine jr_istore_n (pc := 22) F [(2, iv z4), (0, .ref (xad X (0, 0, 0))), (1, iv v_yard)] dX4_near_22 rfl (by decide) rfl ?_
    refine jifP (P := fun v => Rg v → J X 40 [(2, iv z4), (0, .ref (xad X (0, 0, 0))), (1, iv v_yard)] (iv v :: []) (gs C0 4 0 M)) (c := z4 = (-9)) ((-9)) (iabs (w32 (z4 - v_yard))) (fun Ht Hf => ?_) (fun r6 => ?_)
    · refine jr_iload_n (pc := 23) F 0 dX4_near_23 rfl rfl ?_
      refine jr_bipush (pc := 24) F dX4_near_24 (by decide) ?_
      refine jr_icmp_ne (pc := 26) (tgt := 34) F r3 (show Rg (-9) from ⟨by decide, by decide⟩) dX4_near_26 (by decide) (fun h5 => ?_) (fun h5 => ?_)
      · refine jr_iload_n (pc := 34) F 0 dX4_near_34 rfl rfl ?_
        refine jr_iload_n (pc := 35) F 2 dX4_near_35 rfl rfl ?_
        refine jr_isub (pc := 36) F dX4_near_36 ?_
        refine jr_mabs (pc := 37) F (rg_w _) lb_4_287 (by decide) (Nat.le_of_ble_eq_true rfl) dX4_near_37 ?_
        exact Hf h5 (rg_iabs (rg_w _))
      refine jr_bipush (pc := 29) F dX4_near_29 (by decide) ?_
      refine jr_goto (pc := 31) (tgt := 40) F dX4_near_31 (by decide) ?_
      exact Ht h5 (show Rg (-9) from ⟨by decide, by decide⟩)
    exact jr_iret (pc := 40) F hQ rfl dX4_near_40 ⟨_, _, rfl, r6, rfl, (Ok_some k)⟩
  have k := Ok_t h2 k
  refine jr_aload_n (pc := 8) F 0 dX4_near_8 rfl rfl ?_
  refine jr_iconst (pc := 9) F dX4_near_9 ?_
  have k := Ok_bind k
  refine jr_callV (pc := 10) (st := []) F [iv (-1)] (snd_X4_refuse (M := M) (show Rg (-1) from ⟨by decide, by decide⟩) k) rfl ck_4_61 rfl m0_0 rfl rfl rfl (by decide) (Nat.le_of_ble_eq_true rfl) dX4_near_10 rfl (fun v g' hq => ?_)
  obtain ⟨x, L', rfl, r7, eg, k⟩ := hq
  obtain ⟨z8, ez⟩ : ∃ z : Int × GG, z = (x, L') := ⟨_, rfl⟩
  obtain ⟨rfl, rfl⟩ : x = z8.1 ∧ L' = z8.2 := ⟨by rw [ez], by rw [ez]⟩
  clear ez
  refine J_eq eg ?_
  show J X 13 [(0, .ref (xad X (0, 0, 0))), (1, iv v_yard)] [iv z8.1] (gs z8.2 4 0 M)
  exact jr_iret (pc := 13) F hQ rfl dX4_near_13 ⟨_, _, rfl, r7, rfl, (Ok_some k)⟩
set_option maxHeartbeats 4000000 in
set_option maxRecDepth 100000 in
theorem snd_X4_needed {C0 : GG} {v_yard : Int} {v_train : Int} {M : LT} (rgp_yard : Rg v_yard) (rgp_train : Rg v_train) {Q : (Int × GG) → Prop} (k : Ok (X4_needed C0 v_yard v_train) Q) : MetG SL yX4_needed cX4_needed 4 (some .int) 5 (fun ad => [.ref (ad (0, 0, 0)), iv v_yard, iv v_train]) (gs C0 4 0 M) (fun v g' => ∃ (x : Int) (L' : GG), v = some (iv x) ∧ Rg x ∧ g' = gs L' 4 0 M ∧ Q (x, L')) := by
  refine met_intro SL_ok (by decide +kernel) (fun ad => Nat.le_of_ble_eq_true rfl) (fun X F hQ hR => ?_)
  replace F : FX X cX4_needed RX4 4 (some .int) SL 5 := F
  show J X 0 [(0, .ref (xad X (0, 0, 0))), (1, iv v_yard), (2, iv v_train)] [] (gs C0 4 0 M)
  refine cnd (c := (¬ (X4_noYard_v C0 v_yard) = 0) ∨ (¬ (X4_noTrain_v C0 v_train) = 0)) (GT := J X 16 [(0, .ref (xad X (0, 0, 0))), (1, iv v_yard), (2, iv v_train)] [] (gs C0 4 0 M)) (GF := J X 22 [(0, .ref (xad X (0, 0, 0))), (1, iv v_yard), (2, iv v_train)] [] (gs C0 4 0 M)) k (fun HT HF => ?_) (fun h5 k => ?_) (fun h5 k => ?_)
  · refine jr_aload_n (pc := 0) F 0 dX4_needed_0 rfl rfl ?_
    refine jr_iload_n (pc := 1) F 1 dX4_needed_1 rfl rfl ?_
    refine jr_callV (pc := 2) (st := []) F [iv v_yard] (snd_X4_noYard (M := M) rgp_yard (X4_noYard_ok _ _ )) rfl ck_4_127 rfl m0_0 rfl rfl rfl (by decide) (Nat.le_of_ble_eq_true rfl) dX4_needed_2 rfl (fun v g' hq => ?_)
    obtain ⟨x, rfl, r1, eg, hx⟩ := hq
    subst hx
    refine J_eq eg ?_
    show J X 5 [(0, .ref (xad X (0, 0, 0))), (1, iv v_yard), (2, iv v_train)] [iv (X4_noYard_v C0 v_yard)] (gs C0 4 0 M)
    refine jr_if_ne (pc := 5) (tgt := 16) F (rg_z r1) dX4_needed_5 (by decide) (fun h2 => ?_) (fun h2 => ?_)
    · exact HT (Or.inl h2)
    refine jr_aload_n (pc := 8) F 0 dX4_needed_8 rfl rfl ?_
    refine jr_iload_n (pc := 9) F 2 dX4_needed_9 rfl rfl ?_
    refine jr_callV (pc := 10) (st := []) F [iv v_train] (snd_X4_noTrain (M := M) rgp_train (X4_noTrain_ok _ _ )) rfl ck_4_162 rfl m0_0 rfl rfl rfl (by decide) (Nat.le_of_ble_eq_true rfl) dX4_needed_10 rfl (fun v g' hq => ?_)
    obtain ⟨x, rfl, r3, eg, hx⟩ := hq
    subst hx
    refine J_eq eg ?_
    show J X 13 [(0, .ref (xad X (0, 0, 0))), (1, iv v_yard), (2, iv v_train)] [iv (X4_noTrain_v C0 v_train)] (gs C0 4 0 M)
    refine jr_if_eq (pc := 13) (tgt := 22) F (rg_z r3) dX4_needed_13 (by decide) (fun h4 => ?_) (fun h4 => ?_)
    · exact HF (fun q => q.elim (fun q => q h2) (fun q => q h4))
    exact HT (Or.inr h4)
  · refine jr_aload_n (pc := 16) F 0 dX4_needed_16 rfl rfl ?_
    refine jr_iconst (pc := 17) F dX4_needed_17 ?_
    have k := Ok_bind k
    refine jr_callV (pc := 18) (st := []) F [iv (-1)] (snd_X4_refuse (M := M) (show Rg (-1) from ⟨by decide, by decide⟩) k) rfl ck_4_61 rfl m0_0 rfl rfl rfl (by decide) (Nat.le_of_ble_eq_true rfl) dX4_needed_18 rfl (fun v g' hq => ?_)
    obtain ⟨x, L', rfl, r6, eg, k⟩ := hq
    obtain ⟨z7, ez⟩ : ∃ z : Int × GG, z = (x, L') := ⟨_, rfl⟩
    obtain ⟨rfl, rfl⟩ : x = z7.1 ∧ L' = z7.2 := ⟨by rw [ez], by rw [ez]⟩
    clear ez
    refine J_eq eg ?_
    show J X 21 [(0, .ref (xad X (0, 0, 0))), (1, iv v_yard), (2, iv v_train)] [iv z7.1] (gs z7.2 4 0 M)
    exact jr_iret (pc := 21) F hQ rfl dX4_needed_21 ⟨_, _, rfl, r6, rfl, (Ok_some k)⟩
  refine jr_iconst (pc := 22) F dX4_needed_22 ?_
  refine jr_istore_n (pc := 23) F [(3, iv 0), (0, .ref (xad X (0, 0, 0))), (1, iv v_yard), (2, iv v_train)] dX4_needed_23 rfl (by decide) rfl ?_
  refine jr_sub F [1, 2, 3, 0] [(0, .ref (xad X (0, 0, 0))), (1, iv v_yard), (2, iv v_train), (3, iv 0)] rfl ?_
  refine lpj (P := fun s : Int × GG => Rg (s.1) → J X 24 [(0, .ref (xad X (0, 0, 0))), (1, iv v_yard), (2, iv v_train), (3, iv s.1)] [] (gs s.2 4 0 M)) (PE := fun o : ((Int × GG) ⊕ (Int × GG)) => match o with | .inl r => Rg (r.1) → J X 67 [(0, .ref (xad X (0, 0, 0))), (1, iv v_yard), (2, iv v_train), (3, iv r.1)] [] (gs r.2 4 0 M) | .inr y => Q (y)) k (fun s8 Q9 k hC10 hE11 r13 => ?_) (fun o k => ?_) (fun h => h (show Rg 0 from ⟨by decide, by decide⟩))
  · refine jr_iload_n (pc := 24) F 3 dX4_needed_24 rfl rfl ?_
    refine jr_bipush (pc := 25) F dX4_needed_25 (by decide) ?_
    refine jr_icmp_gt (pc := 27) (tgt := 67) F r13 (show Rg 99 from ⟨by decide, by decide⟩) dX4_needed_27 (by decide) (fun h14 => ?_) (fun h14 => ?_)
    · have k := Ok_f (ng_le h14) k
      exact hE11 (Sum.inl (s8.1, s8.2)) (Ok_some k) r13
    have k := Ok_t h14 k
    refine jr_aload_n (pc := 30) F 0 dX4_needed_30 rfl rfl ?_
    refine jr_getR (pc := 31) (b := (1, 1, 0)) F f_4_16 m0_0 rfl dX4_needed_31 ?_
    refine jr_aload_n (pc := 34) F 0 dX4_needed_34 rfl rfl ?_
    refine jr_getR (pc := 35) (b := (1, 0, 0)) F f_4_12 m0_0 rfl dX4_needed_35 ?_
    have k := Ok_bind k
    refine jr_callV (pc := 38) (st := []) F [.ref (xad X (1, 0, 0))] (snd_X2_become h11_1 (g0 := gs s8.2 4 0 M) h11_0 (by decide) rfl  k) (gs_in s8.2 M 1 1 (by decide)) ck_4_79 rfl (mL_0 h11_1) rfl rfl rfl (by decide) (Nat.le_of_ble_eq_true rfl) dX4_needed_38 rfl (fun v g' hq => ?_)
    obtain ⟨z16, rfl, eg, k⟩ := hq
    rw [gs_comm (by decide)] at eg
    obtain ⟨C17, e18, k⟩ := Ok_let k
    rw [← e18] at eg
    refine J_eq eg ?_
    show J X 41 [(0, .ref (xad X (0, 0, 0))), (1, iv v_yard), (2, iv v_train), (3, iv s8.1)] [] (gs C17 4 0 M)
    refine jr_aload_n (pc := 41) F 0 dX4_needed_41 rfl rfl ?_
    refine jr_getR (pc := 42) (b := (1, 1, 0)) F f_4_16 m0_0 rfl dX4_needed_42 ?_
    refine jr_getR (pc := 45) (b := (1, 1, 8)) F f_4_136 (mL_0 h11_1) rfl dX4_needed_45 ?_
    refine jr_iload_n (pc := 48) F 1 dX4_needed_48 rfl rfl ?_
    refine jr_iload_n (pc := 49) F 3 dX4_needed_49 rfl rfl ?_
    obtain ⟨c19, k⟩ := Ok_grd k
    obtain ⟨C20, e21, k⟩ := Ok_let k
    refine jr_iast (pc := 50) F (gs C20 4 0 M) (mL_8 h11_1) (by decide) c19 r13 (put2 e21 (by decide)) dX4_needed_50 ?_
    refine jr_aload_n (pc := 51) F 0 dX4_needed_51 rfl rfl ?_
    refine jr_iload_n (pc := 52) F 2 dX4_needed_52 rfl rfl ?_
    have k := Ok_bind k
    refine jr_callV (pc := 53) (st := []) F [iv v_train] (snd_X4_getsThrough (M := M) rgp_train k) rfl ck_4_211 rfl m0_0 rfl rfl rfl (by decide) (Nat.le_of_ble_eq_true rfl) dX4_needed_53 rfl (fun v g' hq => ?_)
    obtain ⟨x, L', rfl, r22, eg, k⟩ := hq
    obtain ⟨z23, ez⟩ : ∃ z : Int × GG, z = (x, L') := ⟨_, rfl⟩
    obtain ⟨rfl, rfl⟩ : x = z23.1 ∧ L' = z23.2 := ⟨by rw [ez], by rw [ez]⟩
    clear ez
    refine J_eq eg ?_
    show J X 56 [(0, .ref (xad X (0, 0, 0))), (1, iv v_yard), (2, iv v_train), (3, iv s8.1)] [iv z23.1] (gs z23.2 4 0 M)
    refine jr_if_eq (pc := 56) (tgt := 61) F (rg_z r22) dX4_needed_56 (by decide) (fun h24 => ?_) (fun h24 => ?_)
    · have k := Ok_f (fun q => q h24) k
      refine jr_iinc (pc := 61) F [(3, iv (w32 (s8.1 + 1))), (0, .ref (xad X (0, 0, 0))), (1, iv v_yard), (2, iv v_train)] 3 dX4_needed_61 rfl (by decide) rfl ?_
      refine jr_goto (pc := 64) (tgt := 24) F dX4_needed_64 (by decide) ?_
      refine jr_sub F [1, 2, 3, 0] [(0, .ref (xad X (0, 0, 0))), (1, iv v_yard), (2, iv v_train), (3, iv (w32 (s8.1 + 1)))] rfl ?_
      exact hC10 (w32 (s8.1 + 1), z23.2) (Ok_some k) (rg_w _)
    have k := Ok_t h24 k
    refine jr_iload_n (pc := 59) F 3 dX4_needed_59 rfl rfl ?_
    exact jr_iret (pc := 60) F hQ rfl dX4_needed_60 ⟨_, _, rfl, r13, rfl, (hE11 (Sum.inr _) (Ok_some k))⟩
  rcases o with z12 | y
  rotate_left
  · show Q (y)
    exact Ok_some k
  intro r25
  refine jr_bipush (pc := 67) F dX4_needed_67 (by decide) ?_
  exact jr_iret (pc := 69) F hQ rfl dX4_needed_69 ⟨_, _, rfl, (show Rg (-9) from ⟨by decide, by decide⟩), rfl, (Ok_some k)⟩
set_option maxHeartbeats 4000000 in
set_option maxRecDepth 100000 in
theorem snd_X4_swapQueue {C0 : GG} {v_one : Int} {v_other : Int} {M : LT} (rgp_one : Rg v_one) (rgp_other : Rg v_other) {Q : (GG) → Prop} (k : Ok (X4_swapQueue C0 v_one v_other) Q) : MetG SL yX4_swapQueue cX4_swapQueue 4 none 0 (fun ad => [.ref (ad (0, 0, 0)), iv v_one, iv v_other]) (gs C0 4 0 M) (fun v g' => ∃ L' : GG, v = none ∧ g' = gs L' 4 0 M ∧ Q L') := by
  refine met_intro SL_ok (by decide +kernel) (fun ad => Nat.le_of_ble_eq_true rfl) (fun X F hQ hR => ?_)
  replace F : FX X cX4_swapQueue RX4 4 none SL 0 := F
  show J X 0 [(0, .ref (xad X (0, 0, 0))), (1, iv v_one), (2, iv v_other)] [] (gs C0 4 0 M)
  refine jr_aload_n (pc := 0) F 0 dX4_swapQueue_0 rfl rfl ?_
  refine jr_getR (pc := 1) (b := (0, 0, 10)) F f_4_51 m0_0 rfl dX4_swapQueue_1 ?_
  refine jr_iload_n (pc := 4) F 1 dX4_swapQueue_4 rfl rfl ?_
  obtain ⟨c1, k⟩ := Ok_grd k
  refine jr_iald (pc := 5) F (C0 0 0 10 v_one) m0_10 (by decide) c1 rfl dX4_swapQueue_5 (fun r2 => ?_)
  obtain ⟨x3, e4, k⟩ := Ok_let k
  have r5 : Rg x3 := rg_of e4 r2
  refine jr_top e4 ?_
  refine jr_istore_n (pc := 6) F [(3, iv x3), (0, .ref (xad X (0, 0, 0))), (1, iv v_one), (2, iv v_other)] dX4_swapQueue_6 rfl (by decide) rfl ?_
  refine jr_aload_n (pc := 7) F 1 dX4_swapQueue_7 rfl rfl ?_
  refine jr_getR (pc := 8) (b := (0, 0, 10)) F f_4_51 m0_0 rfl dX4_swapQueue_8 ?_
  refine jr_iload_n (pc := 11) F 2 dX4_swapQueue_11 rfl rfl ?_
  refine jr_aload_n (pc := 12) F 1 dX4_swapQueue_12 rfl rfl ?_
  refine jr_getR (pc := 13) (b := (0, 0, 10)) F f_4_51 m0_0 rfl dX4_swapQueue_13 ?_
  refine jr_iload_n (pc := 16) F 3 dX4_swapQueue_16 rfl rfl ?_
  obtain ⟨c6, k⟩ := Ok_grd k
  refine jr_iald (pc := 17) F (C0 0 0 10 v_other) m0_10 (by decide) c6 rfl dX4_swapQueue_17 (fun r7 => ?_)
  obtain ⟨C8, e9, k⟩ := Ok_let k
  refine jr_iast (pc := 18) F (gs C8 4 0 M) m0_10 (by decide) c1 r7 (put2 e9 (by decide)) dX4_swapQueue_18 ?_
  refine jr_aload_n (pc := 19) F 1 dX4_swapQueue_19 rfl rfl ?_
  refine jr_getR (pc := 20) (b := (0, 0, 10)) F f_4_51 m0_0 rfl dX4_swapQueue_20 ?_
  refine jr_iload_n (pc := 23) F 3 dX4_swapQueue_23 rfl rfl ?_
  refine jr_iload_n (pc := 24) F 0 dX4_swapQueue_24 rfl rfl ?_
  obtain ⟨C10, e11, k⟩ := Ok_let k
  refine jr_iast (pc := 25) F (gs C10 4 0 M) m0_10 (by decide) c6 r5 (put2 e11 (by decide)) dX4_swapQueue_25 ?_
  exact jr_vret (pc := 26) F hQ rfl dX4_swapQueue_26 ⟨_, rfl, rfl, (Ok_some k)⟩
set_option maxHeartbeats 4000000 in
set_option maxRecDepth 100000 in
theorem snd_X4_nextQueue {C0 : GG} {v_ahead : Int} {M : LT} (rgp_ahead : Rg v_ahead) {Q : (Int × GG) → Prop} (k : Ok (X4_nextQueue C0 v_ahead) Q) : MetG SL yX4_nextQueue cX4_nextQueue 6 (some .boolean) 1 (fun ad => [.ref (ad (0, 0, 0)), iv v_ahead]) (gs C0 4 0 M) (fun v g' => ∃ (x : Int) (L' : GG), v = some (iv x) ∧ Bz x ∧ g' = gs L' 4 0 M ∧ Q (x, L')) := by
  refine met_intro SL_ok (by decide +kernel) (fun ad => Nat.le_of_ble_eq_true rfl) (fun X F hQ hR => ?_)
  replace F : FX X cX4_nextQueue RX4 6 (some .boolean) SL 1 := F
  show J X 0 [(0, .ref (xad X (0, 0, 0))), (1, iv v_ahead)] [] (gs C0 4 0 M)
  refine jr_iload_n (pc := 0) F 1 dX4_nextQueue_0 rfl rfl ?_
  refine jr_iconst (pc := 1) F dX4_nextQueue_1 ?_
  refine jr_isub (pc := 2) F dX4_nextQueue_2 ?_
  obtain ⟨x1, e2, k⟩ := Ok_let k
  have r3 : Rg x1 := rg_of e2 (rg_w _)
  refine jr_top e2 ?_
  refine jr_istore_n (pc := 3) F [(2, iv x1), (0, .ref (xad X (0, 0, 0))), (1, iv v_ahead)] dX4_nextQueue_3 rfl (by decide) rfl ?_
  refine jr_sub F [1, 2, 0] [(0, .ref (xad X (0, 0, 0))), (1, iv v_ahead), (2, iv x1)] rfl ?_
  refine lpj (P := fun s : Int => Rg (s) → J X 4 [(0, .ref (xad X (0, 0, 0))), (1, iv v_ahead), (2, iv s)] [] (gs C0 4 0 M)) (PE := fun r : Int => Rg (r) → J X 31 [(0, .ref (xad X (0, 0, 0))), (1, iv v_ahead), (2, iv r)] [] (gs C0 4 0 M)) k (fun s4 Q5 k hC6 hE7 r9 => ?_) (fun z8 k => ?_) (fun h => h r3)
  · obtain ⟨c10, k⟩ := Ok_grd k
    obtain ⟨c11, k⟩ := Ok_grd k
    refine cnd (c := (0 ≤ s4) ∧ ((C0 0 0 10 (w32 (s4 + 1))) < (C0 0 0 10 s4))) (GT := J X 25 [(0, .ref (xad X (0, 0, 0))), (1, iv v_ahead), (2, iv s4)] [] (gs C0 4 0 M)) (GF := J X 31 [(0, .ref (xad X (0, 0, 0))), (1, iv v_ahead), (2, iv s4)] [] (gs C0 4 0 M)) k (fun HT HF => ?_) (fun h16 k => ?_) (fun h16 k => ?_)
    · refine jr_iload_n (pc := 4) F 2 dX4_nextQueue_4 rfl rfl ?_
      refine jr_if_lt (pc := 5) (tgt := 31) F r9 dX4_nextQueue_5 (by decide) (fun h12 => ?_) (fun h12 => ?_)
      · exact HF (fun q => (ng_le h12) q.1)
      refine jr_aload_n (pc := 8) F 0 dX4_nextQueue_8 rfl rfl ?_
      refine jr_getR (pc := 9) (b := (0, 0, 10)) F f_4_51 m0_0 rfl dX4_nextQueue_9 ?_
      refine jr_iload_n (pc := 12) F 2 dX4_nextQueue_12 rfl rfl ?_
      refine jr_iald (pc := 13) F (C0 0 0 10 s4) m0_10 (by decide) (c10 h12) rfl dX4_nextQueue_13 (fun r13 => ?_)
      refine jr_aload_n (pc := 14) F 0 dX4_nextQueue_14 rfl rfl ?_
      refine jr_getR (pc := 15) (b := (0, 0, 10)) F f_4_51 m0_0 rfl dX4_nextQueue_15 ?_
      refine jr_iload_n (pc := 18) F 2 dX4_nextQueue_18 rfl rfl ?_
      refine jr_iconst (pc := 19) F dX4_nextQueue_19 ?_
      refine jr_iadd (pc := 20) F dX4_nextQueue_20 ?_
      refine jr_iald (pc := 21) F (C0 0 0 10 (w32 (s4 + 1))) m0_10 (by decide) (c11 h12) rfl dX4_nextQueue_21 (fun r14 => ?_)
      refine jr_icmp_le (pc := 22) (tgt := 31) F r13 r14 dX4_nextQueue_22 (by decide) (fun h15 => ?_) (fun h15 => ?_)
      · exact HF (fun q => (ng_lt h15) q.2)
      exact HT ⟨h12, h15⟩
    · refine jr_iinc (pc := 25) F [(2, iv (w32 (s4 + (-1)))), (0, .ref (xad X (0, 0, 0))), (1, iv v_ahead)] 2 dX4_nextQueue_25 rfl (by decide) rfl ?_
      refine jr_goto (pc := 28) (tgt := 4) F dX4_nextQueue_28 (by decide) ?_
      refine jr_sub F [1, 2, 0] [(0, .ref (xad X (0, 0, 0))), (1, iv v_ahead), (2, iv (w32 (s4 + (-1))))] rfl ?_
      exact hC6 (w32 (s4 + (-1))) (Ok_some k) (rg_w _)
    exact hE7 s4 (Ok_some k) r9
  intro r17
  refine jr_iload_n (pc := 31) F 2 dX4_nextQueue_31 rfl rfl ?_
  refine jr_if_ge (pc := 32) (tgt := 37) F r17 dX4_nextQueue_32 (by decide) (fun h18 => ?_) (fun h18 => ?_)
  · have k := Ok_f (ng_lt h18) k
    refine jr_iload_n (pc := 37) F 1 dX4_nextQueue_37 rfl rfl ?_
    refine jr_iconst (pc := 38) F dX4_nextQueue_38 ?_
    refine jr_isub (pc := 39) F dX4_nextQueue_39 ?_
    obtain ⟨x19, e20, k⟩ := Ok_let k
    have r21 : Rg x19 := rg_of e20 (rg_w _)
    refine jr_top e20 ?_
    refine jr_istore_n (pc := 40) F [(3, iv x19), (0, .ref (xad X (0, 0, 0))), (1, iv v_ahead), (2, iv z8)] dX4_nextQueue_40 rfl (by decide) rfl ?_
    refine jr_sub F [1, 2, 3, 0] [(0, .ref (xad X (0, 0, 0))), (1, iv v_ahead), (2, iv z8), (3, iv x19)] rfl ?_
    refine lpj (P := fun s : Int => Rg (s) → J X 41 [(0, .ref (xad X (0, 0, 0))), (1, iv v_ahead), (2, iv z8), (3, iv s)] [] (gs C0 4 0 M)) (PE := fun r : Int => Rg (r) → J X 67 [(0, .ref (xad X (0, 0, 0))), (1, iv v_ahead), (2, iv z8), (3, iv r)] [] (gs C0 4 0 M)) k (fun s22 Q23 k hC24 hE25 r27 => ?_) (fun z26 k => ?_) (fun h => h r21)
    · obtain ⟨c28, k⟩ := Ok_grd k
      obtain ⟨c29, k⟩ := Ok_grd k
      refine cnd (c := (z8 < s22) ∧ ((C0 0 0 10 s22) < (C0 0 0 10 z8))) (GT := J X 61 [(0, .ref (xad X (0, 0, 0))), (1, iv v_ahead), (2, iv z8), (3, iv s22)] [] (gs C0 4 0 M)) (GF := J X 67 [(0, .ref (xad X (0, 0, 0))), (1, iv v_ahead), (2, iv z8), (3, iv s22)] [] (gs C0 4 0 M)) k (fun HT HF => ?_) (fun h34 k => ?_) (fun h34 k => ?_)
      · refine jr_iload_n (pc := 41) F 3 dX4_nextQueue_41 rfl rfl ?_
        refine jr_iload_n (pc := 42) F 2 dX4_nextQueue_42 rfl rfl ?_
        refine jr_icmp_le (pc := 43) (tgt := 67) F r27 r17 dX4_nextQueue_43 (by decide) (fun h30 => ?_) (fun h30 => ?_)
        · exact HF (fun q => (ng_lt h30) q.1)
        refine jr_aload_n (pc := 46) F 0 dX4_nextQueue_46 rfl rfl ?_
        refine jr_getR (pc := 47) (b := (0, 0, 10)) F f_4_51 m0_0 rfl dX4_nextQueue_47 ?_
        refine jr_iload_n (pc := 50) F 3 dX4_nextQueue_50 rfl rfl ?_
        refine jr_iald (pc := 51) F (C0 0 0 10 s22) m0_10 (by decide) (c28 h30) rfl dX4_nextQueue_51 (fun r31 => ?_)
        refine jr_aload_n (pc := 52) F 0 dX4_nextQueue_52 rfl rfl ?_
        refine jr_getR (pc := 53) (b := (0, 0, 10)) F f_4_51 m0_0 rfl dX4_nextQueue_53 ?_
        refine jr_iload_n (pc := 56) F 2 dX4_nextQueue_56 rfl rfl ?_
        refine jr_iald (pc := 57) F (C0 0 0 10 z8) m0_10 (by decide) (c29 h30) rfl dX4_nextQueue_57 (fun r32 => ?_)
        refine jr_icmp_ge (pc := 58) (tgt := 67) F r31 r32 dX4_nextQueue_58 (by decide) (fun h33 => ?_) (fun h33 => ?_)
        · exact HF (fun q => (ng_lt h33) q.2)
        exact HT ⟨h30, h33⟩
      · refine jr_iinc (pc := 61) F [(3, iv (w32 (s22 + (-1)))), (0, .ref (xad X (0, 0, 0))), (1, iv v_ahead), (2, iv z8)] 3 dX4_nextQueue_61 rfl (by decide) rfl ?_
        refine jr_goto (pc := 64) (tgt := 41) F dX4_nextQueue_64 (by decide) ?_
        refine jr_sub F [1, 2, 3, 0] [(0, .ref (xad X (0, 0, 0))), (1, iv v_ahead), (2, iv z8), (3, iv (w32 (s22 + (-1))))] rfl ?_
        exact hC24 (w32 (s22 + (-1))) (Ok_some k) (rg_w _)
      exact hE25 s22 (Ok_some k) r27
    intro r35
    refine jr_aload_n (pc := 67) F 0 dX4_nextQueue_67 rfl rfl ?_
    refine jr_iload_n (pc := 68) F 2 dX4_nextQueue_68 rfl rfl ?_
    refine jr_iload_n (pc := 69) F 3 dX4_nextQueue_69 rfl rfl ?_
    have k := Ok_bind k
    refine jr_callV (pc := 70) (st := []) F [iv z8, iv z26] (snd_X4_swapQueue (M := M) r17 r35 k) rfl ck_4_259 rfl m0_0 rfl rfl rfl (by decide) (Nat.le_of_ble_eq_true rfl) dX4_nextQueue_70 rfl (fun v g' hq => ?_)
    obtain ⟨z37, rfl, eg, k⟩ := hq
    refine J_eq eg ?_
    show J X 73 [(0, .ref (xad X (0, 0, 0))), (1, iv v_ahead), (2, iv z8), (3, iv z26)] [] (gs z37 4 0 M)
    refine jr_iload_n (pc := 73) F 2 dX4_nextQueue_73 rfl rfl ?_
    refine jr_iconst (pc := 74) F dX4_nextQueue_74 ?_
    refine jr_iadd (pc := 75) F dX4_nextQueue_75 ?_
    obtain ⟨x38, e39, k⟩ := Ok_let k
    have r40 : Rg x38 := rg_of e39 (rg_w _)
    refine jr_top e39 ?_
    refine jr_istore (pc := 76) F [(4, iv x38), (0, .ref (xad X (0, 0, 0))), (1, iv v_ahead), (2, iv z8), (3, iv z26)] dX4_nextQueue_76 (by decide) rfl ?_
    refine jr_iload_n (pc := 78) F 2 dX4_nextQueue_78 rfl rfl ?_
    refine jr_iconst (pc := 79) F dX4_nextQueue_79 ?_
    refine jr_isub (pc := 80) F dX4_nextQueue_80 ?_
    obtain ⟨x41, e42, k⟩ := Ok_let k
    have r43 : Rg x41 := rg_of e42 (rg_w _)
    refine jr_top e42 ?_
    refine jr_istore (pc := 81) F [(5, iv x41), (4, iv x38), (0, .ref (xad X (0, 0, 0))), (1, iv v_ahead), (2, iv z8), (3, iv z26)] dX4_nextQueue_81 (by decide) rfl ?_
    refine jr_sub F [2, 3, 4, 5, 1, 0] [(0, .ref (xad X (0, 0, 0))), (1, iv v_ahead), (2, iv z8), (3, iv z26), (4, iv x38), (5, iv x41)] rfl ?_
    refine lpj (P := fun s : Int × Int × GG => Rg (s.1) → Rg (s.2.1) → J X 83 [(0, .ref (xad X (0, 0, 0))), (1, iv v_ahead), (2, iv z8), (3, iv z26), (4, iv s.1), (5, iv s.2.1)] [] (gs s.2.2 4 0 M)) (PE := fun r : Int × Int × GG => Rg (r.1) → Rg (r.2.1) → J X 107 [(0, .ref (xad X (0, 0, 0))), (1, iv v_ahead), (2, iv z8), (3, iv z26), (4, iv r.1), (5, iv r.2.1)] [] (gs r.2.2 4 0 M)) k (fun s44 Q45 k hC46 hE47 r49 r50 => ?_) (fun z48 k => ?_) (fun h => h r40 r43)
    · refine jr_iload (pc := 83) F 4 dX4_nextQueue_83 rfl ?_
      refine jr_iload (pc := 85) F 5 dX4_nextQueue_85 rfl ?_
      refine jr_icmp_ge (pc := 87) (tgt := 107) F r49 r50 dX4_nextQueue_87 (by decide) (fun h51 => ?_) (fun h51 => ?_)
      · have k := Ok_f (ng_lt h51) k
        exact hE47 (s44.1, s44.2.1, s44.2.2) (Ok_some k) r49 r50
      have k := Ok_t h51 k
      refine jr_aload_n (pc := 90) F 0 dX4_nextQueue_90 rfl rfl ?_
      refine jr_iload (pc := 91) F 4 dX4_nextQueue_91 rfl ?_
      refine jr_iload (pc := 93) F 5 dX4_nextQueue_93 rfl ?_
      have k := Ok_bind k
      refine jr_callV (pc := 95) (st := []) F [iv s44.1, iv s44.2.1] (snd_X4_swapQueue (M := M) r49 r50 k) rfl ck_4_259 rfl m0_0 rfl rfl rfl (by decide) (Nat.le_of_ble_eq_true rfl) dX4_nextQueue_95 rfl (fun v g' hq => ?_)
      obtain ⟨z53, rfl, eg, k⟩ := hq
      refine J_eq eg ?_
      show J X 98 [(0, .ref (xad X (0, 0, 0))), (1, iv v_ahead), (2, iv z8), (3, iv z26), (4, iv s44.1), (5, iv s44.2.1)] [] (gs z53 4 0 M)
      refine jr_iinc (pc := 98) F [(4, iv (w32 (s44.1 + 1))), (0, .ref (xad X (0, 0, 0))), (1, iv v_ahead), (2, iv z8), (3, iv z26), (5, iv s44.2.1)] 4 dX4_nextQueue_98 rfl (by decide) rfl ?_
      refine jr_iinc (pc := 101) F [(5, iv (w32 (s44.2.1 + (-1)))), (4, iv (w32 (s44.1 + 1))), (0, .ref (xad X (0, 0, 0))), (1, iv v_ahead), (2, iv z8), (3, iv z26)] 5 dX4_nextQueue_101 rfl (by decide) rfl ?_
      refine jr_goto (pc := 104) (tgt := 83) F dX4_nextQueue_104 (by decide) ?_
      refine jr_sub F [2, 3, 4, 5, 1, 0] [(0, .ref (xad X (0, 0, 0))), (1, iv v_ahead), (2, iv z8), (3, iv z26), (4, iv (w32 (s44.1 + 1))), (5, iv (w32 (s44.2.1 + (-1))))] rfl ?_
      exact hC46 (w32 (s44.1 + 1), w32 (s44.2.1 + (-1)), z53) (Ok_some k) (rg_w _) (rg_w _)
    intro r54 r55
    refine jr_iconst (pc := 107) F dX4_nextQueue_107 ?_
    exact jr_zret (pc := 108) F hQ rfl (Or.inr rfl) dX4_nextQueue_108 ⟨_, _, rfl, (Or.inr rfl), rfl, (Ok_some k)⟩
  have k := Ok_t h18 k
  refine jr_iconst (pc := 35) F dX4_nextQueue_35 ?_
  exact jr_zret (pc := 36) F hQ rfl (Or.inl rfl) dX4_nextQueue_36 ⟨_, _, rfl, (Or.inl rfl), rfl, (Ok_some k)⟩
set_option maxHeartbeats 4000000 in
set_option maxRecDepth 100000 in
theorem snd_X4_noon {C0 : GG} {v_train : Int} {M : LT} (rgp_train : Rg v_train) {Q : (Int × GG) → Prop} (k : Ok (X4_noon C0 v_train) Q) : MetG SL yX4_noon cX4_noon 3 (some .int) 6 (fun ad => [.ref (ad (0, 0, 0)), iv v_train]) (gs C0 4 0 M) (fun v g' => ∃ (x : Int) (L' : GG), v = some (iv x) ∧ Rg x ∧ g' = gs L' 4 0 M ∧ Q (x, L')) := by
  refine met_intro SL_ok (by decide +kernel) (fun ad => Nat.le_of_ble_eq_true rfl) (fun X F hQ hR => ?_)
  replace F : FX X cX4_noon RX4 3 (some .int) SL 6 := F
  show J X 0 [(0, .ref (xad X (0, 0, 0))), (1, iv v_train)] [] (gs C0 4 0 M)
  refine jr_aload_n (pc := 0) F 0 dX4_noon_0 rfl rfl ?_
  refine jr_iload_n (pc := 1) F 1 dX4_noon_1 rfl rfl ?_
  refine jr_callV (pc := 2) (st := []) F [iv v_train] (snd_X4_noTrain (M := M) rgp_train (X4_noTrain_ok _ _ )) rfl ck_4_162 rfl m0_0 rfl rfl rfl (by decide) (Nat.le_of_ble_eq_true rfl) dX4_noon_2 rfl (fun v g' hq => ?_)
  obtain ⟨x, rfl, r1, eg, hx⟩ := hq
  subst hx
  refine J_eq eg ?_
  show J X 5 [(0, .ref (xad X (0, 0, 0))), (1, iv v_train)] [iv (X4_noTrain_v C0 v_train)] (gs C0 4 0 M)
  refine jr_if_eq (pc := 5) (tgt := 14) F (rg_z r1) dX4_noon_5 (by decide) (fun h2 => ?_) (fun h2 => ?_)
  · have k := Ok_f (fun q => q h2) k
    refine jr_bipush (pc := 14) F dX4_noon_14 (by decide) ?_
    refine jr_istore_n (pc := 16) F [(2, iv 9), (0, .ref (xad X (0, 0, 0))), (1, iv v_train)] dX4_noon_16 rfl (by decide) rfl ?_
    refine jr_sub F [1, 2, 0] [(0, .ref (xad X (0, 0, 0))), (1, iv v_train), (2, iv 9)] rfl ?_
    refine lpj (P := fun s : Int × GG => Rg (s.1) → J X 17 [(0, .ref (xad X (0, 0, 0))), (1, iv v_train), (2, iv s.1)] [] (gs s.2 4 0 M)) (PE := fun o : ((Int × GG) ⊕ (Int × GG)) => match o with | .inl r => Rg (r.1) → J X 38 [(0, .ref (xad X (0, 0, 0))), (1, iv v_train), (2, iv r.1)] [] (gs r.2 4 0 M) | .inr y => Q (y)) k (fun s3 Q4 k hC5 hE6 r8 => ?_) (fun o k => ?_) (fun h => h (show Rg 9 from ⟨by decide, by decide⟩))
    · refine jr_iload_n (pc := 17) F 2 dX4_noon_17 rfl rfl ?_
      refine jr_if_lt (pc := 18) (tgt := 38) F r8 dX4_noon_18 (by decide) (fun h9 => ?_) (fun h9 => ?_)
      · have k := Ok_f (ng_le h9) k
        exact hE6 (Sum.inl (s3.1, s3.2)) (Ok_some k) r8
      have k := Ok_t h9 k
      refine jr_aload_n (pc := 21) F 0 dX4_noon_21 rfl rfl ?_
      refine jr_iload_n (pc := 22) F 1 dX4_noon_22 rfl rfl ?_
      refine jr_iload_n (pc := 23) F 2 dX4_noon_23 rfl rfl ?_
      have k := Ok_bind k
      refine jr_callV (pc := 24) (st := []) F [iv v_train, iv s3.1] (snd_X4_getsThroughAtNoon (M := M) rgp_train r8 k) rfl ck_4_307 rfl m0_0 rfl rfl rfl (by decide) (Nat.le_of_ble_eq_true rfl) dX4_noon_24 rfl (fun v g' hq => ?_)
      obtain ⟨x, L', rfl, r10, eg, k⟩ := hq
      obtain ⟨z11, ez⟩ : ∃ z : Int × GG, z = (x, L') := ⟨_, rfl⟩
      obtain ⟨rfl, rfl⟩ : x = z11.1 ∧ L' = z11.2 := ⟨by rw [ez], by rw [ez]⟩
      clear ez
      refine J_eq eg ?_
      show J X 27 [(0, .ref (xad X (0, 0, 0))), (1, iv v_train), (2, iv s3.1)] [iv z11.1] (gs z11.2 4 0 M)
      refine jr_if_eq (pc := 27) (tgt := 32) F (rg_z r10) dX4_noon_27 (by decide) (fun h12 => ?_) (fun h12 => ?_)
      · have k := Ok_f (fun q => q h12) k
        refine jr_iinc (pc := 32) F [(2, iv (w32 (s3.1 + (-1)))), (0, .ref (xad X (0, 0, 0))), (1, iv v_train)] 2 dX4_noon_32 rfl (by decide) rfl ?_
        refine jr_goto (pc := 35) (tgt := 17) F dX4_noon_35 (by decide) ?_
        refine jr_sub F [1, 2, 0] [(0, .ref (xad X (0, 0, 0))), (1, iv v_train), (2, iv (w32 (s3.1 + (-1))))] rfl ?_
        exact hC5 (w32 (s3.1 + (-1)), z11.2) (Ok_some k) (rg_w _)
      have k := Ok_t h12 k
      refine jr_iload_n (pc := 30) F 2 dX4_noon_30 rfl rfl ?_
      exact jr_iret (pc := 31) F hQ rfl dX4_noon_31 ⟨_, _, rfl, r8, rfl, (hE6 (Sum.inr _) (Ok_some k))⟩
    rcases o with z7 | y
    rotate_left
    · show Q (y)
      exact Ok_some k
    intro r13
    refine jr_bipush (pc := 38) F dX4_noon_38 (by decide) ?_
    exact jr_iret (pc := 40) F hQ rfl dX4_noon_40 ⟨_, _, rfl, (show Rg (-9) from ⟨by decide, by decide⟩), rfl, (Ok_some k)⟩
  have k := Ok_t h2 k
  refine jr_aload_n (pc := 8) F 0 dX4_noon_8 rfl rfl ?_
  refine jr_iconst (pc := 9) F dX4_noon_9 ?_
  have k := Ok_bind k
  refine jr_callV (pc := 10) (st := []) F [iv (-1)] (snd_X4_refuse (M := M) (show Rg (-1) from ⟨by decide, by decide⟩) k) rfl ck_4_61 rfl m0_0 rfl rfl rfl (by decide) (Nat.le_of_ble_eq_true rfl) dX4_noon_10 rfl (fun v g' hq => ?_)
  obtain ⟨x, L', rfl, r14, eg, k⟩ := hq
  obtain ⟨z15, ez⟩ : ∃ z : Int × GG, z = (x, L') := ⟨_, rfl⟩
  obtain ⟨rfl, rfl⟩ : x = z15.1 ∧ L' = z15.2 := ⟨by rw [ez], by rw [ez]⟩
  clear ez
  refine J_eq eg ?_
  show J X 13 [(0, .ref (xad X (0, 0, 0))), (1, iv v_train)] [iv z15.1] (gs z15.2 4 0 M)
  exact jr_iret (pc := 13) F hQ rfl dX4_noon_13 ⟨_, _, rfl, r14, rfl, (Ok_some k)⟩
set_option maxHeartbeats 4000000 in
set_option maxRecDepth 100000 in
theorem snd_X4_noons {C0 : GG} {v_train : Int} {v_part : Int} {M : LT} (rgp_train : Rg v_train) (rgp_part : Rg v_part) {Q : (Int × GG) → Prop} (k : Ok (X4_noons C0 v_train v_part) Q) : MetG SL yX4_noons cX4_noons 6 (some .long) 6 (fun ad => [.ref (ad (0, 0, 0)), iv v_train, iv v_part]) (gs C0 4 0 M) (fun v g' => ∃ (x : Int) (L' : GG), v = some (lgv x) ∧ Rl x ∧ g' = gs L' 4 0 M ∧ Q (x, L')) := by
  refine met_intro SL_ok (by decide +kernel) (fun ad => Nat.le_of_ble_eq_true rfl) (fun X F hQ hR => ?_)
  replace F : FX X cX4_noons RX4 6 (some .long) SL 6 := F
  show J X 0 [(0, .ref (xad X (0, 0, 0))), (1, iv v_train), (2, iv v_part)] [] (gs C0 4 0 M)
  refine jr_aload_n (pc := 0) F 0 dX4_noons_0 rfl rfl ?_
  refine jr_iload_n (pc := 1) F 1 dX4_noons_1 rfl rfl ?_
  refine jr_callV (pc := 2) (st := []) F [iv v_train] (snd_X4_noTrain (M := M) rgp_train (X4_noTrain_ok _ _ )) rfl ck_4_162 rfl m0_0 rfl rfl rfl (by decide) (Nat.le_of_ble_eq_true rfl) dX4_noons_2 rfl (fun v g' hq => ?_)
  obtain ⟨x, rfl, r1, eg, hx⟩ := hq
  subst hx
  refine J_eq eg ?_
  show J X 5 [(0, .ref (xad X (0, 0, 0))), (1, iv v_train), (2, iv v_part)] [iv (X4_noTrain_v C0 v_train)] (gs C0 4 0 M)
  refine jr_if_eq (pc := 5) (tgt := 19) F (rg_z r1) dX4_noons_5 (by decide) (fun h2 => ?_) (fun h2 => ?_)
  · have k := Ok_f (fun q => q h2) k
    refine jr_iload_n (pc := 19) F 2 dX4_noons_19 rfl rfl ?_
    refine jr_callS (pc := 20) (st := []) F [iv v_part] (snd_X4_neither (g0 := gs C0 4 0 M) rgp_part (X4_neither_ok _ )) rfl ck_4_153 rfl rfl (by decide) (Nat.le_of_ble_eq_true rfl) dX4_noons_20 rfl (fun v g' hq => ?_)
    obtain ⟨x, rfl, r3, eg, hx⟩ := hq
    subst hx
    refine J_eq eg ?_
    show J X 23 [(0, .ref (xad X (0, 0, 0))), (1, iv v_train), (2, iv v_part)] [iv (X4_neither_v v_part)] (gs C0 4 0 M)
    refine jr_if_eq (pc := 23) (tgt := 38) F (rg_z r3) dX4_noons_23 (by decide) (fun h4 => ?_) (fun h4 => ?_)
    · have k := Ok_f (fun q => q h4) k
      refine jr_iconst (pc := 38) F dX4_noons_38 ?_
      refine jr_istore_n (pc := 39) F [(3, iv 0), (0, .ref (xad X (0, 0, 0))), (1, iv v_train), (2, iv v_part)] dX4_noons_39 rfl (by decide) rfl ?_
      refine jr_iconst (pc := 40) F dX4_noons_40 ?_
      refine jr_istore (pc := 41) F [(4, iv 0), (3, iv 0), (0, .ref (xad X (0, 0, 0))), (1, iv v_train), (2, iv v_part)] dX4_noons_41 (by decide) rfl ?_
      refine jr_iconst (pc := 43) F dX4_noons_43 ?_
      refine jr_istore (pc := 44) F [(5, iv 0), (4, iv 0), (3, iv 0), (0, .ref (xad X (0, 0, 0))), (1, iv v_train), (2, iv v_part)] dX4_noons_44 (by decide) rfl ?_
      refine jr_sub F [3, 4, 5, 2, 1, 0] [(0, .ref (xad X (0, 0, 0))), (1, iv v_train), (2, iv v_part), (3, iv 0), (4, iv 0), (5, iv 0)] rfl ?_
      refine lpj (P := fun s : Int × Int × Int × GG => Rg (s.1) → Rg (s.2.1) → Rg (s.2.2.1) → J X 46 [(0, .ref (xad X (0, 0, 0))), (1, iv v_train), (2, iv v_part), (3, iv s.1), (4, iv s.2.1), (5, iv s.2.2.1)] [] (gs s.2.2.2 4 0 M)) (PE := fun r : Int × Int × Int × GG => Rg (r.1) → Rg (r.2.1) → Rg (r.2.2.1) → J X 75 [(0, .ref (xad X (0, 0, 0))), (1, iv v_train), (2, iv v_part), (3, iv r.1), (4, iv r.2.1), (5, iv r.2.2.1)] [] (gs r.2.2.2 4 0 M)) k (fun s5 Q6 k hC7 hE8 r10 r11 r12 => ?_) (fun z9 k => ?_) (fun h => h (show Rg 0 from ⟨by decide, by decide⟩) (show Rg 0 from ⟨by decide, by decide⟩) (show Rg 0 from ⟨by decide, by decide⟩))
      · refine jr_iload (pc := 46) F 5 dX4_noons_46 rfl ?_
        refine jr_bipush (pc := 48) F dX4_noons_48 (by decide) ?_
        refine jr_icmp_gt (pc := 50) (tgt := 75) F r12 (show Rg 9 from ⟨by decide, by decide⟩) dX4_noons_50 (by decide) (fun h13 => ?_) (fun h13 => ?_)
        · have k := Ok_f (ng_le h13) k
          exact hE8 (s5.1, s5.2.1, s5.2.2.1, s5.2.2.2) (Ok_some k) r10 r11 r12
        have k := Ok_t h13 k
        refine jr_iinc (pc := 53) F [(4, iv (w32 (s5.2.1 + 1))), (0, .ref (xad X (0, 0, 0))), (1, iv v_train), (2, iv v_part), (3, iv s5.1), (5, iv s5.2.2.1)] 4 dX4_noons_53 rfl (by decide) rfl ?_
        refine jr_aload_n (pc := 56) F 1 dX4_noons_56 rfl rfl ?_
        refine jr_iload_n (pc := 57) F 2 dX4_noons_57 rfl rfl ?_
        refine jr_iload (pc := 58) F 5 dX4_noons_58 rfl ?_
        have k := Ok_bind k
        refine jr_callV (pc := 60) (st := []) F [iv v_train, iv s5.2.2.1] (snd_X4_getsThroughAtNoon (M := M) rgp_train r12 k) rfl ck_4_307 rfl m0_0 rfl rfl rfl (by decide) (Nat.le_of_ble_eq_true rfl) dX4_noons_60 rfl (fun v g' hq => ?_)
        obtain ⟨x, L', rfl, r14, eg, k⟩ := hq
        obtain ⟨z15, ez⟩ : ∃ z : Int × GG, z = (x, L') := ⟨_, rfl⟩
        obtain ⟨rfl, rfl⟩ : x = z15.1 ∧ L' = z15.2 := ⟨by rw [ez], by rw [ez]⟩
        clear ez
        refine J_eq eg ?_
        show J X 63 [(4, iv (w32 (s5.2.1 + 1))), (0, .ref (xad X (0, 0, 0))), (1, iv v_train), (2, iv v_part), (3, iv s5.1), (5, iv s5.2.2.1)] [iv z15.1] (gs z15.2 4 0 M)
        refine jr_if_eq (pc := 63) (tgt := 69) F (rg_z r14) dX4_noons_63 (by decide) (fun h16 => ?_) (fun h16 => ?_)
        · have k := Ok_f (fun q => q h16) k
          refine jr_iinc (pc := 69) F [(5, iv (w32 (s5.2.2.1 + 1))), (4, iv (w32 (s5.2.1 + 1))), (0, .ref (xad X (0, 0, 0))), (1, iv v_train), (2, iv v_part), (3, iv s5.1)] 5 dX4_noons_69 rfl (by decide) rfl ?_
          refine jr_goto (pc := 72) (tgt := 46) F dX4_noons_72 (by decide) ?_
          refine jr_sub F [2, 3, 4, 5, 1, 0] [(0, .ref (xad X (0, 0, 0))), (1, iv v_train), (2, iv v_part), (3, iv s5.1), (4, iv (w32 (s5.2.1 + 1))), (5, iv (w32 (s5.2.2.1 + 1)))] rfl ?_
          exact hC7 (s5.1, w32 (s5.2.1 + 1), w32 (s5.2.2.1 + 1), z15.2) (Ok_some k) r10 (rg_w _) (rg_w _)
        have k := Ok_t h16 k
        refine jr_iinc (pc := 66) F [(3, iv (w32 (s5.1 + 1))), (4, iv (w32 (s5.2.1 + 1))), (0, .ref (xad X (0, 0, 0))), (1, iv v_train), (2, iv v_part), (5, iv s5.2.2.1)] 4 dX4_noons_66 rfl (by decide) rfl ?_
        refine jr_iinc (pc := 69) F [(5, iv (w32 (s5.2.2.1 + 1))), (3, iv (w32 (s5.1 + 1))), (4, iv (w32 (s5.2.1 + 1))), (0, .ref (xad X (0, 0, 0))), (1, iv v_train), (2, iv v_part)] 5 dX4_noons_69 rfl (by decide) rfl ?_
        refine jr_goto (pc := 72) (tgt := 46) F dX4_noons_72 (by decide) ?_
        refine jr_sub F [3, 4, 5, 1, 2, 0] [(0, .ref (xad X (0, 0, 0))), (1, iv v_train), (2, iv v_part), (3, iv (w32 (s5.1 + 1))), (4, iv (w32 (s5.2.1 + 1))), (5, iv (w32 (s5.2.2.1 + 1)))] rfl ?_
        exact hC7 (w32 (s5.1 + 1), w32 (s5.2.1 + 1), w32 (s5.2.2.1 + 1), z15.2) (Ok_some k) (rg_w _) (rg_w _) (rg_w _)
      intro r17 r18 r19
      refine jr_iload_n (pc := 75) F 3 dX4_noons_75 rfl rfl ?_
      refine jr_iload (pc := 76) F 4 dX4_noons_76 rfl ?_
      have k := Ok_bind k
      refine jr_callS (pc := 78) (st := []) F [iv z9.1, iv z9.2.1] (snd_X4_commonDivisor (g0 := gs z9.2.2.2 4 0 M) r17 r18 k) rfl ck_4_310 rfl rfl (by decide) (Nat.le_of_ble_eq_true rfl) dX4_noons_78 rfl (fun v g' hq => ?_)
      obtain ⟨z21, rfl, r20, eg, k⟩ := hq
      refine J_eq eg ?_
      show J X 81 [(0, .ref (xad X (0, 0, 0))), (1, iv v_train), (2, iv v_part), (3, iv z9.1), (4, iv z9.2.1), (5, iv z9.2.2.1)] [iv z21] (gs z9.2.2.2 4 0 M)
      refine jr_istore (pc := 81) F [(5, iv z21), (0, .ref (xad X (0, 0, 0))), (1, iv v_train), (2, iv v_part), (3, iv z9.1), (4, iv z9.2.1)] dX4_noons_81 (by decide) rfl ?_
      obtain ⟨c22, k⟩ := Ok_grd k
      obtain ⟨c23, k⟩ := Ok_grd k
      refine jifP (P := fun v => Rl v → J X 101 [(5, iv z21), (0, .ref (xad X (0, 0, 0))), (1, iv v_train), (2, iv v_part), (3, iv z9.1), (4, iv z9.2.1)] (lgv v :: []) (gs z9.2.2.2 4 0 M)) (c := v_part = 0) (jdiv z9.1 z21) (jdiv z9.2.1 z21) (fun Ht Hf => ?_) (fun r25 => ?_)
      · refine jr_iload_n (pc := 83) F 3 dX4_noons_83 rfl rfl ?_
        refine jr_if_ne (pc := 84) (tgt := 95) F rgp_part dX4_noons_84 (by decide) (fun h24 => ?_) (fun h24 => ?_)
        · refine jr_iload (pc := 95) F 5 dX4_noons_95 rfl ?_
          refine jr_iload (pc := 97) F 0 dX4_noons_97 rfl ?_
          refine jr_idiv (pc := 99) F r18 r20 (c23 h24) dX4_noons_99 ?_
          refine jr_i2l (pc := 100) F (rg_div _ _) dX4_noons_100 ?_
          exact Hf h24 (rl_rg (rg_div _ _))
        refine jr_iload_n (pc := 87) F 4 dX4_noons_87 rfl rfl ?_
        refine jr_iload (pc := 88) F 0 dX4_noons_88 rfl ?_
        refine jr_idiv (pc := 90) F r17 r20 (c22 h24) dX4_noons_90 ?_
        refine jr_i2l (pc := 91) F (rg_div _ _) dX4_noons_91 ?_
        refine jr_goto (pc := 92) (tgt := 101) F dX4_noons_92 (by decide) ?_
        exact Ht h24 (rl_rg (rg_div _ _))
      exact jr_lret (pc := 101) F hQ rfl dX4_noons_101 ⟨_, _, rfl, r25, rfl, (Ok_some k)⟩
    have k := Ok_t h4 k
    refine jr_ldc2 (pc := 26) F kc_4_305 dX4_noons_26 ?_
    refine jr_aload_n (pc := 29) F 0 dX4_noons_29 rfl rfl ?_
    refine jr_bipush (pc := 30) F dX4_noons_30 (by decide) ?_
    have k := Ok_bind k
    refine jr_callV (pc := 32) (st := [lgv 4000000000000000000]) F [iv (-2)] (snd_X4_refuse (M := M) (show Rg (-2) from ⟨by decide, by decide⟩) k) rfl ck_4_61 rfl m0_0 rfl rfl rfl (by decide) (Nat.le_of_ble_eq_true rfl) dX4_noons_32 rfl (fun v g' hq => ?_)
    obtain ⟨x, L', rfl, r26, eg, k⟩ := hq
    obtain ⟨z27, ez⟩ : ∃ z : Int × GG, z = (x, L') := ⟨_, rfl⟩
    obtain ⟨rfl, rfl⟩ : x = z27.1 ∧ L' = z27.2 := ⟨by rw [ez], by rw [ez]⟩
    clear ez
    refine J_eq eg ?_
    show J X 35 [(0, .ref (xad X (0, 0, 0))), (1, iv v_train), (2, iv v_part)] [iv z27.1, lgv 4000000000000000000] (gs z27.2 4 0 M)
    refine jr_i2l (pc := 35) F r26 dX4_noons_35 ?_
    refine jr_lsub (pc := 36) F dX4_noons_36 ?_
    exact jr_lret (pc := 37) F hQ rfl dX4_noons_37 ⟨_, _, rfl, (rl_w _), rfl, (Ok_some k)⟩
  have k := Ok_t h2 k
  refine jr_ldc2 (pc := 8) F kc_4_305 dX4_noons_8 ?_
  refine jr_aload_n (pc := 11) F 0 dX4_noons_11 rfl rfl ?_
  refine jr_iconst (pc := 12) F dX4_noons_12 ?_
  have k := Ok_bind k
  refine jr_callV (pc := 13) (st := [lgv 4000000000000000000]) F [iv (-1)] (snd_X4_refuse (M := M) (show Rg (-1) from ⟨by decide, by decide⟩) k) rfl ck_4_61 rfl m0_0 rfl rfl rfl (by decide) (Nat.le_of_ble_eq_true rfl) dX4_noons_13 rfl (fun v g' hq => ?_)
  obtain ⟨x, L', rfl, r28, eg, k⟩ := hq
  obtain ⟨z29, ez⟩ : ∃ z : Int × GG, z = (x, L') := ⟨_, rfl⟩
  obtain ⟨rfl, rfl⟩ : x = z29.1 ∧ L' = z29.2 := ⟨by rw [ez], by rw [ez]⟩
  clear ez
  refine J_eq eg ?_
  show J X 16 [(0, .ref (xad X (0, 0, 0))), (1, iv v_train), (2, iv v_part)] [iv z29.1, lgv 4000000000000000000] (gs z29.2 4 0 M)
  refine jr_i2l (pc := 16) F r28 dX4_noons_16 ?_
  refine jr_lsub (pc := 17) F dX4_noons_17 ?_
  exact jr_lret (pc := 18) F hQ rfl dX4_noons_18 ⟨_, _, rfl, (rl_w _), rfl, (Ok_some k)⟩
set_option maxHeartbeats 4000000 in
set_option maxRecDepth 100000 in
theorem snd_X4_queueDigits {C0 : GG} {v_ahead : Int} {M : LT} (rgp_ahead : Rg v_ahead) {Q : (Int) → Prop} (k : Ok (X4_queueDigits C0 v_ahead) Q) : MetG SL yX4_queueDigits cX4_queueDigits 4 (some .int) 0 (fun ad => [.ref (ad (0, 0, 0)), iv v_ahead]) (gs C0 4 0 M) (fun v g' => ∃ x : Int, v = some (iv x) ∧ Rg x ∧ g' = gs C0 4 0 M ∧ Q x) := by
  refine met_intro SL_ok (by decide +kernel) (fun ad => Nat.le_of_ble_eq_true rfl) (fun X F hQ hR => ?_)
  replace F : FX X cX4_queueDigits RX4 4 (some .int) SL 0 := F
  show J X 0 [(0, .ref (xad X (0, 0, 0))), (1, iv v_ahead)] [] (gs C0 4 0 M)
  refine jr_iload_n (pc := 0) F 1 dX4_queueDigits_0 rfl rfl ?_
  refine jr_if_ne (pc := 1) (tgt := 7) F rgp_ahead dX4_queueDigits_1 (by decide) (fun h1 => ?_) (fun h1 => ?_)
  · have k := Ok_f h1 k
    refine jr_iconst (pc := 7) F dX4_queueDigits_7 ?_
    refine jr_istore_n (pc := 8) F [(2, iv 0), (0, .ref (xad X (0, 0, 0))), (1, iv v_ahead)] dX4_queueDigits_8 rfl (by decide) rfl ?_
    refine jr_iconst (pc := 9) F dX4_queueDigits_9 ?_
    refine jr_istore_n (pc := 10) F [(3, iv 0), (2, iv 0), (0, .ref (xad X (0, 0, 0))), (1, iv v_ahead)] dX4_queueDigits_10 rfl (by decide) rfl ?_
    refine jr_sub F [2, 3, 1, 0] [(0, .ref (xad X (0, 0, 0))), (1, iv v_ahead), (2, iv 0), (3, iv 0)] rfl ?_
    refine lpj (P := fun s : Int × Int => Rg (s.1) → Rg (s.2) → J X 11 [(0, .ref (xad X (0, 0, 0))), (1, iv v_ahead), (2, iv s.1), (3, iv s.2)] [] (gs C0 4 0 M)) (PE := fun r : Int × Int => Rg (r.1) → Rg (r.2) → J X 34 [(0, .ref (xad X (0, 0, 0))), (1, iv v_ahead), (2, iv r.1), (3, iv r.2)] [] (gs C0 4 0 M)) k (fun s2 Q3 k hC4 hE5 r7 r8 => ?_) (fun z6 k => ?_) (fun h => h (show Rg 0 from ⟨by decide, by decide⟩) (show Rg 0 from ⟨by decide, by decide⟩))
    · refine jr_iload_n (pc := 11) F 3 dX4_queueDigits_11 rfl rfl ?_
      refine jr_iload_n (pc := 12) F 1 dX4_queueDigits_12 rfl rfl ?_
      refine jr_icmp_ge (pc := 13) (tgt := 34) F r8 rgp_ahead dX4_queueDigits_13 (by decide) (fun h9 => ?_) (fun h9 => ?_)
      · have k := Ok_f (ng_lt h9) k
        exact hE5 (s2.1, s2.2) (Ok_some k) r7 r8
      have k := Ok_t h9 k
      refine jr_bipush (pc := 16) F dX4_queueDigits_16 (by decide) ?_
      refine jr_iload_n (pc := 18) F 2 dX4_queueDigits_18 rfl rfl ?_
      refine jr_imul (pc := 19) F dX4_queueDigits_19 ?_
      refine jr_aload_n (pc := 20) F 0 dX4_queueDigits_20 rfl rfl ?_
      refine jr_getR (pc := 21) (b := (0, 0, 10)) F f_4_51 m0_0 rfl dX4_queueDigits_21 ?_
      refine jr_iload_n (pc := 24) F 3 dX4_queueDigits_24 rfl rfl ?_
      obtain ⟨c10, k⟩ := Ok_grd k
      refine jr_iald (pc := 25) F (C0 0 0 10 s2.2) m0_10 (by decide) c10 rfl dX4_queueDigits_25 (fun r11 => ?_)
      refine jr_iadd (pc := 26) F dX4_queueDigits_26 ?_
      obtain ⟨x12, e13, k⟩ := Ok_let k
      have r14 : Rg x12 := rg_of e13 (rg_w _)
      refine jr_top e13 ?_
      refine jr_istore_n (pc := 27) F [(2, iv x12), (0, .ref (xad X (0, 0, 0))), (1, iv v_ahead), (3, iv s2.2)] dX4_queueDigits_27 rfl (by decide) rfl ?_
      refine jr_iinc (pc := 28) F [(3, iv (w32 (s2.2 + 1))), (2, iv x12), (0, .ref (xad X (0, 0, 0))), (1, iv v_ahead)] 3 dX4_queueDigits_28 rfl (by decide) rfl ?_
      refine jr_goto (pc := 31) (tgt := 11) F dX4_queueDigits_31 (by decide) ?_
      refine jr_sub F [2, 3, 1, 0] [(0, .ref (xad X (0, 0, 0))), (1, iv v_ahead), (2, iv x12), (3, iv (w32 (s2.2 + 1)))] rfl ?_
      exact hC4 (x12, w32 (s2.2 + 1)) (Ok_some k) r14 (rg_w _)
    intro r15 r16
    refine jr_iload_n (pc := 34) F 2 dX4_queueDigits_34 rfl rfl ?_
    exact jr_iret (pc := 35) F hQ rfl dX4_queueDigits_35 ⟨_, rfl, r15, rfl, (Ok_some k)⟩
  have k := Ok_t h1 k
  refine jr_bipush (pc := 4) F dX4_queueDigits_4 (by decide) ?_
  exact jr_iret (pc := 6) F hQ rfl dX4_queueDigits_6 ⟨_, rfl, (show Rg (-9) from ⟨by decide, by decide⟩), rfl, (Ok_some k)⟩
set_option maxHeartbeats 4000000 in
set_option maxRecDepth 100000 in
theorem snd_X4_takeQueue {C0 : GG} {v_ahead : Int} {M : LT} (rgp_ahead : Rg v_ahead) {Q : (GG) → Prop} (k : Ok (X4_takeQueue C0 v_ahead) Q) : MetG SL yX4_takeQueue cX4_takeQueue 3 none 2 (fun ad => [.ref (ad (0, 0, 0)), iv v_ahead]) (gs C0 4 0 M) (fun v g' => ∃ L' : GG, v = none ∧ g' = gs L' 4 0 M ∧ Q L') := by
  refine met_intro SL_ok (by decide +kernel) (fun ad => Nat.le_of_ble_eq_true rfl) (fun X F hQ hR => ?_)
  replace F : FX X cX4_takeQueue RX4 3 none SL 2 := F
  show J X 0 [(0, .ref (xad X (0, 0, 0))), (1, iv v_ahead)] [] (gs C0 4 0 M)
  refine jr_aload_n (pc := 0) F 0 dX4_takeQueue_0 rfl rfl ?_
  refine jr_getR (pc := 1) (b := (1, 1, 0)) F f_4_16 m0_0 rfl dX4_takeQueue_1 ?_
  refine jr_aload_n (pc := 4) F 0 dX4_takeQueue_4 rfl rfl ?_
  refine jr_getR (pc := 5) (b := (1, 0, 0)) F f_4_12 m0_0 rfl dX4_takeQueue_5 ?_
  have k := Ok_bind k
  refine jr_callV (pc := 8) (st := []) F [.ref (xad X (1, 0, 0))] (snd_X2_become h11_1 (g0 := gs C0 4 0 M) h11_0 (by decide) rfl  k) (gs_in C0 M 1 1 (by decide)) ck_4_79 rfl (mL_0 h11_1) rfl rfl rfl (by decide) (Nat.le_of_ble_eq_true rfl) dX4_takeQueue_8 rfl (fun v g' hq => ?_)
  obtain ⟨z2, rfl, eg, k⟩ := hq
  rw [gs_comm (by decide)] at eg
  obtain ⟨C3, e4, k⟩ := Ok_let k
  rw [← e4] at eg
  refine J_eq eg ?_
  show J X 11 [(0, .ref (xad X (0, 0, 0))), (1, iv v_ahead)] [] (gs C3 4 0 M)
  refine jr_iconst (pc := 11) F dX4_takeQueue_11 ?_
  refine jr_istore_n (pc := 12) F [(2, iv 0), (0, .ref (xad X (0, 0, 0))), (1, iv v_ahead)] dX4_takeQueue_12 rfl (by decide) rfl ?_
  refine jr_sub F [1, 2, 0] [(0, .ref (xad X (0, 0, 0))), (1, iv v_ahead), (2, iv 0)] rfl ?_
  refine lpj (P := fun s : Int × GG => Rg (s.1) → J X 13 [(0, .ref (xad X (0, 0, 0))), (1, iv v_ahead), (2, iv s.1)] [] (gs s.2 4 0 M)) (PE := fun r : Int × GG => Rg (r.1) → J X 47 [(0, .ref (xad X (0, 0, 0))), (1, iv v_ahead), (2, iv r.1)] [] (gs r.2 4 0 M)) k (fun s5 Q6 k hC7 hE8 r10 => ?_) (fun z9 k => ?_) (fun h => h (show Rg 0 from ⟨by decide, by decide⟩))
  · refine jr_iload_n (pc := 13) F 2 dX4_takeQueue_13 rfl rfl ?_
    refine jr_iload_n (pc := 14) F 1 dX4_takeQueue_14 rfl rfl ?_
    refine jr_icmp_ge (pc := 15) (tgt := 47) F r10 rgp_ahead dX4_takeQueue_15 (by decide) (fun h11 => ?_) (fun h11 => ?_)
    · have k := Ok_f (ng_lt h11) k
      exact hE8 (s5.1, s5.2) (Ok_some k) r10
    have k := Ok_t h11 k
    refine jr_aload_n (pc := 18) F 0 dX4_takeQueue_18 rfl rfl ?_
    refine jr_getR (pc := 19) (b := (1, 1, 0)) F f_4_16 m0_0 rfl dX4_takeQueue_19 ?_
    refine jr_aload_n (pc := 22) F 0 dX4_takeQueue_22 rfl rfl ?_
    refine jr_getR (pc := 23) (b := (0, 0, 11)) F f_4_54 m0_0 rfl dX4_takeQueue_23 ?_
    refine jr_iload_n (pc := 26) F 2 dX4_takeQueue_26 rfl rfl ?_
    obtain ⟨c12, k⟩ := Ok_grd k
    refine jr_iald (pc := 27) F (s5.2 0 0 11 s5.1) m0_11 (by decide) c12 rfl dX4_takeQueue_27 (fun r13 => ?_)
    refine jr_aload_n (pc := 28) F 0 dX4_takeQueue_28 rfl rfl ?_
    refine jr_getR (pc := 29) (b := (1, 0, 0)) F f_4_12 m0_0 rfl dX4_takeQueue_29 ?_
    refine jr_aload_n (pc := 32) F 0 dX4_takeQueue_32 rfl rfl ?_
    refine jr_getR (pc := 33) (b := (0, 0, 10)) F f_4_51 m0_0 rfl dX4_takeQueue_33 ?_
    refine jr_iload_n (pc := 36) F 2 dX4_takeQueue_36 rfl rfl ?_
    refine jr_iald (pc := 37) F (s5.2 0 0 10 s5.1) m0_10 (by decide) c12 rfl dX4_takeQueue_37 (fun r14 => ?_)
    have k := Ok_bind k
    refine jr_callV (pc := 38) (st := []) F [iv (s5.2 0 0 11 s5.1), .ref (xad X (1, 0, 0)), iv (s5.2 0 0 10 s5.1)] (snd_X2_takeTrain h11_1 (g0 := gs s5.2 4 0 M) h11_0 (by decide) rfl r13 r14 k) (gs_in s5.2 M 1 1 (by decide)) ck_4_255 rfl (mL_0 h11_1) rfl rfl rfl (by decide) (Nat.le_of_ble_eq_true rfl) dX4_takeQueue_38 rfl (fun v g' hq => ?_)
    obtain ⟨z16, rfl, eg, k⟩ := hq
    rw [gs_comm (by decide)] at eg
    obtain ⟨C17, e18, k⟩ := Ok_let k
    rw [← e18] at eg
    refine J_eq eg ?_
    show J X 41 [(0, .ref (xad X (0, 0, 0))), (1, iv v_ahead), (2, iv s5.1)] [] (gs C17 4 0 M)
    refine jr_iinc (pc := 41) F [(2, iv (w32 (s5.1 + 1))), (0, .ref (xad X (0, 0, 0))), (1, iv v_ahead)] 2 dX4_takeQueue_41 rfl (by decide) rfl ?_
    refine jr_goto (pc := 44) (tgt := 13) F dX4_takeQueue_44 (by decide) ?_
    refine jr_sub F [1, 2, 0] [(0, .ref (xad X (0, 0, 0))), (1, iv v_ahead), (2, iv (w32 (s5.1 + 1)))] rfl ?_
    exact hC7 (w32 (s5.1 + 1), C17) (Ok_some k) (rg_w _)
  intro r19
  exact jr_vret (pc := 47) F hQ rfl dX4_takeQueue_47 ⟨_, rfl, rfl, (Ok_some k)⟩
set_option maxHeartbeats 4000000 in
set_option maxRecDepth 100000 in
theorem snd_X4_order {C0 : GG} {v_what : Int} {M : LT} (rgp_what : Rg v_what) {Q : (Int × GG) → Prop} (k : Ok (X4_order C0 v_what) Q) : MetG SL yX4_order cX4_order 7 (some .int) 5 (fun ad => [.ref (ad (0, 0, 0)), iv v_what]) (gs C0 4 0 M) (fun v g' => ∃ (x : Int) (L' : GG), v = some (iv x) ∧ Rg x ∧ g' = gs L' 4 0 M ∧ Q (x, L')) := by
  refine met_intro SL_ok (by decide +kernel) (fun ad => Nat.le_of_ble_eq_true rfl) (fun X F hQ hR => ?_)
  replace F : FX X cX4_order RX4 7 (some .int) SL 5 := F
  show J X 0 [(0, .ref (xad X (0, 0, 0))), (1, iv v_what)] [] (gs C0 4 0 M)
  refine jr_iload_n (pc := 0) F 1 dX4_order_0 rfl rfl ?_
  refine jr_callS (pc := 1) (st := []) F [iv v_what] (snd_X4_neither (g0 := gs C0 4 0 M) rgp_what (X4_neither_ok _ )) rfl ck_4_153 rfl rfl (by decide) (Nat.le_of_ble_eq_true rfl) dX4_order_1 rfl (fun v g' hq => ?_)
  obtain ⟨x, rfl, r1, eg, hx⟩ := hq
  subst hx
  refine J_eq eg ?_
  show J X 4 [(0, .ref (xad X (0, 0, 0))), (1, iv v_what)] [iv (X4_neither_v v_what)] (gs C0 4 0 M)
  refine jr_if_eq (pc := 4) (tgt := 14) F (rg_z r1) dX4_order_4 (by decide) (fun h2 => ?_) (fun h2 => ?_)
  · have k := Ok_f (fun q => q h2) k
    refine jr_aload_n (pc := 14) F 0 dX4_order_14 rfl rfl ?_
    have k := Ok_bind k
    refine jr_callV (pc := 15) (st := []) F [] (snd_X4_lineUp (M := M)  k) rfl ck_4_240 rfl m0_0 rfl rfl rfl (by decide) (Nat.le_of_ble_eq_true rfl) dX4_order_15 rfl (fun v g' hq => ?_)
    obtain ⟨x, L', rfl, r3, eg, k⟩ := hq
    obtain ⟨z4, ez⟩ : ∃ z : Int × GG, z = (x, L') := ⟨_, rfl⟩
    obtain ⟨rfl, rfl⟩ : x = z4.1 ∧ L' = z4.2 := ⟨by rw [ez], by rw [ez]⟩
    clear ez
    refine J_eq eg ?_
    show J X 18 [(0, .ref (xad X (0, 0, 0))), (1, iv v_what)] [iv z4.1] (gs z4.2 4 0 M)
    refine jr_istore_n (pc := 18) F [(2, iv z4.1), (0, .ref (xad X (0, 0, 0))), (1, iv v_what)] dX4_order_18 rfl (by decide) rfl ?_
    refine jr_iload_n (pc := 19) F 0 dX4_order_19 rfl rfl ?_
    refine jr_iconst (pc := 20) F dX4_order_20 ?_
    refine jr_icmp_le (pc := 21) (tgt := 31) F r3 (show Rg 4 from ⟨by decide, by decide⟩) dX4_order_21 (by decide) (fun h5 => ?_) (fun h5 => ?_)
    · have k := Ok_f (ng_lt h5) k
      refine jr_bipush (pc := 31) F dX4_order_31 (by decide) ?_
      refine jr_istore_n (pc := 33) F [(3, iv (-9)), (2, iv z4.1), (0, .ref (xad X (0, 0, 0))), (1, iv v_what)] dX4_order_33 rfl (by decide) rfl ?_
      refine jr_bipush (pc := 34) F dX4_order_34 (by decide) ?_
      refine jr_istore (pc := 36) F [(4, iv (-9)), (3, iv (-9)), (2, iv z4.1), (0, .ref (xad X (0, 0, 0))), (1, iv v_what)] dX4_order_36 (by decide) rfl ?_
      refine jr_iconst (pc := 38) F dX4_order_38 ?_
      refine jr_istore (pc := 39) F [(5, iv 0), (4, iv (-9)), (3, iv (-9)), (2, iv z4.1), (0, .ref (xad X (0, 0, 0))), (1, iv v_what)] dX4_order_39 (by decide) rfl ?_
      refine jr_sub F [4, 5, 3, 2, 1, 0] [(0, .ref (xad X (0, 0, 0))), (1, iv v_what), (2, iv z4.1), (3, iv (-9)), (4, iv (-9)), (5, iv 0)] rfl ?_
      refine lpj (P := fun s : Int × Int × Int × GG => Rg (s.1) → Rg (s.2.1) → Rg (s.2.2.1) → J X 41 [(0, .ref (xad X (0, 0, 0))), (1, iv v_what), (2, iv z4.1), (3, iv s.1), (4, iv s.2.1), (5, iv s.2.2.1)] [] (gs s.2.2.2 4 0 M)) (PE := fun r : Int × Int × Int × GG => Rg (r.1) → Rg (r.2.1) → Rg (r.2.2.1) → J X 92 [(0, .ref (xad X (0, 0, 0))), (1, iv v_what), (2, iv z4.1), (3, iv r.1), (4, iv r.2.1), (5, iv r.2.2.1)] [] (gs r.2.2.2 4 0 M)) k (fun s6 Q7 k hC8 hE9 r11 r12 r13 => ?_) (fun z10 k => ?_) (fun h => h (show Rg (-9) from ⟨by decide, by decide⟩) (show Rg (-9) from ⟨by decide, by decide⟩) (show Rg 0 from ⟨by decide, by decide⟩))
      · refine jr_iload (pc := 41) F 5 dX4_order_41 rfl ?_
        refine jr_bipush (pc := 43) F dX4_order_43 (by decide) ?_
        refine jr_icmp_ge (pc := 45) (tgt := 92) F r13 (show Rg 24 from ⟨by decide, by decide⟩) dX4_order_45 (by decide) (fun h14 => ?_) (fun h14 => ?_)
        · have k := Ok_f (ng_lt h14) k
          exact hE9 (s6.1, s6.2.1, s6.2.2.1, s6.2.2.2) (Ok_some k) r11 r12 r13
        have k := Ok_t h14 k
        refine jr_aload_n (pc := 48) F 0 dX4_order_48 rfl rfl ?_
        refine jr_iload_n (pc := 49) F 2 dX4_order_49 rfl rfl ?_
        have k := Ok_bind k
        refine jr_callV (pc := 50) (st := []) F [iv z4.1] (snd_X4_takeQueue (M := M) r3 k) rfl ck_4_243 rfl m0_0 rfl rfl rfl (by decide) (Nat.le_of_ble_eq_true rfl) dX4_order_50 rfl (fun v g' hq => ?_)
        obtain ⟨z16, rfl, eg, k⟩ := hq
        refine J_eq eg ?_
        show J X 53 [(0, .ref (xad X (0, 0, 0))), (1, iv v_what), (2, iv z4.1), (3, iv s6.1), (4, iv s6.2.1), (5, iv s6.2.2.1)] [] (gs z16 4 0 M)
        refine jr_aload_n (pc := 53) F 0 dX4_order_53 rfl rfl ?_
        have k := Ok_bind k
        refine jr_callV (pc := 54) (st := []) F [] (snd_X4_throughInMind (M := M)  k) rfl ck_4_223 rfl m0_0 rfl rfl rfl (by decide) (Nat.le_of_ble_eq_true rfl) dX4_order_54 rfl (fun v g' hq => ?_)
        obtain ⟨x, L', rfl, r17, eg, k⟩ := hq
        obtain ⟨z18, ez⟩ : ∃ z : Int × GG, z = (x, L') := ⟨_, rfl⟩
        obtain ⟨rfl, rfl⟩ : x = z18.1 ∧ L' = z18.2 := ⟨by rw [ez], by rw [ez]⟩
        clear ez
        refine J_eq eg ?_
        show J X 57 [(0, .ref (xad X (0, 0, 0))), (1, iv v_what), (2, iv z4.1), (3, iv s6.1), (4, iv s6.2.1), (5, iv s6.2.2.1)] [iv z18.1] (gs z18.2 4 0 M)
        refine jr_istore (pc := 57) F [(6, iv z18.1), (0, .ref (xad X (0, 0, 0))), (1, iv v_what), (2, iv z4.1), (3, iv s6.1), (4, iv s6.2.1), (5, iv s6.2.2.1)] dX4_order_57 (by decide) rfl ?_
        refine jn (P := fun v : Int × Int => Rg (v.1) → Rg (v.2) → J X 75 [(0, .ref (xad X (0, 0, 0))), (1, iv v_what), (2, iv z4.1), (3, iv v.1), (4, iv v.2), (5, iv s6.2.2.1), (6, iv z18.1)] [] (gs z18.2 4 0 M)) k (fun Q20 k hJ21 => ?_) (fun z19 k r26 r27 => ?_)
        · refine jr_iload (pc := 59) F 0 dX4_order_59 rfl ?_
          refine jr_iload_n (pc := 61) F 4 dX4_order_61 rfl rfl ?_
          refine jr_icmp_le (pc := 62) (tgt := 75) F r17 r11 dX4_order_62 (by decide) (fun h23 => ?_) (fun h23 => ?_)
          · have k := Ok_f (ng_lt h23) k
            refine jr_sub F [1, 2, 3, 4, 5, 6, 0] [(0, .ref (xad X (0, 0, 0))), (1, iv v_what), (2, iv z4.1), (3, iv s6.1), (4, iv s6.2.1), (5, iv s6.2.2.1), (6, iv z18.1)] rfl ?_
            exact hJ21 (s6.1, s6.2.1) (Ok_some k) r11 r12
          have k := Ok_t h23 k
          refine jr_iload (pc := 65) F 0 dX4_order_65 rfl ?_
          refine jr_istore_n (pc := 67) F [(3, iv z18.1), (6, iv z18.1), (0, .ref (xad X (0, 0, 0))), (1, iv v_what), (2, iv z4.1), (4, iv s6.2.1), (5, iv s6.2.2.1)] dX4_order_67 rfl (by decide) rfl ?_
          refine jr_aload_n (pc := 68) F 2 dX4_order_68 rfl rfl ?_
          refine jr_iload_n (pc := 69) F 4 dX4_order_69 rfl rfl ?_
          have k := Ok_bind k
          refine jr_callV (pc := 70) (st := []) F [iv z4.1] (snd_X4_queueDigits (M := M) r3 k) rfl ck_4_246 rfl m0_0 rfl rfl rfl (by decide) (Nat.le_of_ble_eq_true rfl) dX4_order_70 rfl (fun v g' hq => ?_)
          obtain ⟨z25, rfl, r24, eg, k⟩ := hq
          refine J_eq eg ?_
          show J X 73 [(3, iv z18.1), (6, iv z18.1), (0, .ref (xad X (0, 0, 0))), (1, iv v_what), (2, iv z4.1), (4, iv s6.2.1), (5, iv s6.2.2.1)] [iv z25] (gs z18.2 4 0 M)
          refine jr_istore (pc := 73) F [(4, iv z25), (3, iv z18.1), (6, iv z18.1), (0, .ref (xad X (0, 0, 0))), (1, iv v_what), (2, iv z4.1), (5, iv s6.2.2.1)] dX4_order_73 (by decide) rfl ?_
          refine jr_sub F [3, 4, 5, 1, 0, 6, 2] [(0, .ref (xad X (0, 0, 0))), (1, iv v_what), (2, iv z4.1), (3, iv z18.1), (4, iv z25), (5, iv s6.2.2.1), (6, iv z18.1)] rfl ?_
          exact hJ21 (z18.1, z25) (Ok_some k) r17 r24
        refine jr_aload_n (pc := 75) F 0 dX4_order_75 rfl rfl ?_
        refine jr_iload_n (pc := 76) F 2 dX4_order_76 rfl rfl ?_
        have k := Ok_bind k
        refine jr_callV (pc := 77) (st := []) F [iv z4.1] (snd_X4_nextQueue (M := M) r3 k) rfl ck_4_249 rfl m0_0 rfl rfl rfl (by decide) (Nat.le_of_ble_eq_true rfl) dX4_order_77 rfl (fun v g' hq => ?_)
        obtain ⟨x, L', rfl, r28, eg, k⟩ := hq
        obtain ⟨z29, ez⟩ : ∃ z : Int × GG, z = (x, L') := ⟨_, rfl⟩
        obtain ⟨rfl, rfl⟩ : x = z29.1 ∧ L' = z29.2 := ⟨by rw [ez], by rw [ez]⟩
        clear ez
        refine J_eq eg ?_
        show J X 80 [(0, .ref (xad X (0, 0, 0))), (1, iv v_what), (2, iv z4.1), (3, iv z19.1), (4, iv z19.2), (5, iv s6.2.2.1), (6, iv z18.1)] [iv z29.1] (gs z29.2 4 0 M)
        refine jr_if_ne (pc := 80) (tgt := 86) F (rg_z r28) dX4_order_80 (by decide) (fun h30 => ?_) (fun h30 => ?_)
        · have k := Ok_t h30 k
          refine jr_iinc (pc := 86) F [(5, iv (w32 (s6.2.2.1 + 1))), (0, .ref (xad X (0, 0, 0))), (1, iv v_what), (2, iv z4.1), (3, iv z19.1), (4, iv z19.2), (6, iv z18.1)] 5 dX4_order_86 rfl (by decide) rfl ?_
          refine jr_goto (pc := 89) (tgt := 41) F dX4_order_89 (by decide) ?_
          refine jr_sub F [1, 2, 3, 4, 5, 0] [(0, .ref (xad X (0, 0, 0))), (1, iv v_what), (2, iv z4.1), (3, iv z19.1), (4, iv z19.2), (5, iv (w32 (s6.2.2.1 + 1)))] rfl ?_
          exact hC8 (z19.1, z19.2, w32 (s6.2.2.1 + 1), z29.2) (Ok_some k) r26 r27 (rg_w _)
        have k := Ok_f (fun q => q h30) k
        refine jr_goto (pc := 83) (tgt := 92) F dX4_order_83 (by decide) ?_
        refine jr_sub F [0, 1, 2, 3, 4, 5] [(0, .ref (xad X (0, 0, 0))), (1, iv v_what), (2, iv z4.1), (3, iv z19.1), (4, iv z19.2), (5, iv s6.2.2.1)] rfl ?_
        exact hE9 (z19.1, z19.2, s6.2.2.1, z29.2) (Ok_some k) r26 r27 r13
      intro r31 r32 r33
      refine jifP (P := fun v => Rg v → J X 102 [(0, .ref (xad X (0, 0, 0))), (1, iv v_what), (2, iv z4.1), (3, iv z10.1), (4, iv z10.2.1), (5, iv z10.2.2.1)] (iv v :: []) (gs z10.2.2.2 4 0 M)) (c := v_what = 0) (z10.2.1) (z10.1) (fun Ht Hf => ?_) (fun r35 => ?_)
      · refine jr_iload_n (pc := 92) F 1 dX4_order_92 rfl rfl ?_
        refine jr_if_ne (pc := 93) (tgt := 101) F rgp_what dX4_order_93 (by decide) (fun h34 => ?_) (fun h34 => ?_)
        · refine jr_iload_n (pc := 101) F 3 dX4_order_101 rfl rfl ?_
          exact Hf h34 r31
        refine jr_iload (pc := 96) F 4 dX4_order_96 rfl ?_
        refine jr_goto (pc := 98) (tgt := 102) F dX4_order_98 (by decide) ?_
        exact Ht h34 r32
      exact jr_iret (pc := 102) F hQ rfl dX4_order_102 ⟨_, _, rfl, r35, rfl, (Ok_some k)⟩
    have k := Ok_t h5 k
    refine jr_aload_n (pc := 24) F 1 dX4_order_24 rfl rfl ?_
    refine jr_bipush (pc := 25) F dX4_order_25 (by decide) ?_
    have k := Ok_bind k
    refine jr_callV (pc := 27) (st := []) F [iv (-3)] (snd_X4_refuse (M := M) (show Rg (-3) from ⟨by decide, by decide⟩) k) rfl ck_4_61 rfl m0_0 rfl rfl rfl (by decide) (Nat.le_of_ble_eq_true rfl) dX4_order_27 rfl (fun v g' hq => ?_)
    obtain ⟨x, L', rfl, r36, eg, k⟩ := hq
    obtain ⟨z37, ez⟩ : ∃ z : Int × GG, z = (x, L') := ⟨_, rfl⟩
    obtain ⟨rfl, rfl⟩ : x = z37.1 ∧ L' = z37.2 := ⟨by rw [ez], by rw [ez]⟩
    clear ez
    refine J_eq eg ?_
    show J X 30 [(2, iv z4.1), (0, .ref (xad X (0, 0, 0))), (1, iv v_what)] [iv z37.1] (gs z37.2 4 0 M)
    exact jr_iret (pc := 30) F hQ rfl dX4_order_30 ⟨_, _, rfl, r36, rfl, (Ok_some k)⟩
  have k := Ok_t h2 k
  refine jr_aload_n (pc := 7) F 0 dX4_order_7 rfl rfl ?_
  refine jr_bipush (pc := 8) F dX4_order_8 (by decide) ?_
  have k := Ok_bind k
  refine jr_callV (pc := 10) (st := []) F [iv (-2)] (snd_X4_refuse (M := M) (show Rg (-2) from ⟨by decide, by decide⟩) k) rfl ck_4_61 rfl m0_0 rfl rfl rfl (by decide) (Nat.le_of_ble_eq_true rfl) dX4_order_10 rfl (fun v g' hq => ?_)
  obtain ⟨x, L', rfl, r38, eg, k⟩ := hq
  obtain ⟨z39, ez⟩ : ∃ z : Int × GG, z = (x, L') := ⟨_, rfl⟩
  obtain ⟨rfl, rfl⟩ : x = z39.1 ∧ L' = z39.2 := ⟨by rw [ez], by rw [ez]⟩
  clear ez
  refine J_eq eg ?_
  show J X 13 [(0, .ref (xad X (0, 0, 0))), (1, iv v_what)] [iv z39.1] (gs z39.2 4 0 M)
  exact jr_iret (pc := 13) F hQ rfl dX4_order_13 ⟨_, _, rfl, r38, rfl, (Ok_some k)⟩
set_option maxHeartbeats 4000000 in
set_option maxRecDepth 100000 in
theorem snd_X4_pouredGetsThrough {C0 : GG} {v_bits : Int} {v_train : Int} {M : LT} (rgp_bits : Rg v_bits) (rgp_train : Rg v_train) {Q : (Int × GG) → Prop} (k : Ok (X4_pouredGetsThrough C0 v_bits v_train) Q) : MetG SL yX4_pouredGetsThrough cX4_pouredGetsThrough 4 (some .boolean) 5 (fun ad => [.ref (ad (0, 0, 0)), iv v_bits, iv v_train]) (gs C0 4 0 M) (fun v g' => ∃ (x : Int) (L' : GG), v = some (iv x) ∧ Bz x ∧ g' = gs L' 4 0 M ∧ Q (x, L')) := by
  refine met_intro SL_ok (by decide +kernel) (fun ad => Nat.le_of_ble_eq_true rfl) (fun X F hQ hR => ?_)
  replace F : FX X cX4_pouredGetsThrough RX4 4 (some .boolean) SL 5 := F
  show J X 0 [(0, .ref (xad X (0, 0, 0))), (1, iv v_bits), (2, iv v_train)] [] (gs C0 4 0 M)
  refine jr_aload_n (pc := 0) F 0 dX4_pouredGetsThrough_0 rfl rfl ?_
  refine jr_getR (pc := 1) (b := (1, 1, 0)) F f_4_16 m0_0 rfl dX4_pouredGetsThrough_1 ?_
  refine jr_aload_n (pc := 4) F 0 dX4_pouredGetsThrough_4 rfl rfl ?_
  refine jr_getR (pc := 5) (b := (1, 0, 0)) F f_4_12 m0_0 rfl dX4_pouredGetsThrough_5 ?_
  have k := Ok_bind k
  refine jr_callV (pc := 8) (st := []) F [.ref (xad X (1, 0, 0))] (snd_X2_become h11_1 (g0 := gs C0 4 0 M) h11_0 (by decide) rfl  k) (gs_in C0 M 1 1 (by decide)) ck_4_79 rfl (mL_0 h11_1) rfl rfl rfl (by decide) (Nat.le_of_ble_eq_true rfl) dX4_pouredGetsThrough_8 rfl (fun v g' hq => ?_)
  obtain ⟨z2, rfl, eg, k⟩ := hq
  rw [gs_comm (by decide)] at eg
  obtain ⟨C3, e4, k⟩ := Ok_let k
  rw [← e4] at eg
  refine J_eq eg ?_
  show J X 11 [(0, .ref (xad X (0, 0, 0))), (1, iv v_bits), (2, iv v_train)] [] (gs C3 4 0 M)
  refine jr_iconst (pc := 11) F dX4_pouredGetsThrough_11 ?_
  refine jr_istore_n (pc := 12) F [(3, iv 0), (0, .ref (xad X (0, 0, 0))), (1, iv v_bits), (2, iv v_train)] dX4_pouredGetsThrough_12 rfl (by decide) rfl ?_
  refine jr_sub F [1, 2, 3, 0] [(0, .ref (xad X (0, 0, 0))), (1, iv v_bits), (2, iv v_train), (3, iv 0)] rfl ?_
  refine lpj (P := fun s : Int × GG => Rg (s.1) → J X 13 [(0, .ref (xad X (0, 0, 0))), (1, iv v_bits), (2, iv v_train), (3, iv s.1)] [] (gs s.2 4 0 M)) (PE := fun o : ((Int × GG) ⊕ (Int × GG)) => match o with | .inl r => Rg (r.1) → J X 63 [(0, .ref (xad X (0, 0, 0))), (1, iv v_bits), (2, iv v_train), (3, iv r.1)] [] (gs r.2 4 0 M) | .inr y => Q (y)) k (fun s5 Q6 k hC7 hE8 r10 => ?_) (fun o k => ?_) (fun h => h (show Rg 0 from ⟨by decide, by decide⟩))
  · refine jr_iload_n (pc := 13) F 3 dX4_pouredGetsThrough_13 rfl rfl ?_
    refine jr_aload_n (pc := 14) F 0 dX4_pouredGetsThrough_14 rfl rfl ?_
    refine jr_getR (pc := 15) (b := (1, 0, 0)) F f_4_12 m0_0 rfl dX4_pouredGetsThrough_15 ?_
    refine jr_getI (pc := 18) F (s5.2 1 0 0 0) f_4_156 (mL_0 h11_0) rfl rfl dX4_pouredGetsThrough_18 (fun r11 => ?_)
    refine jr_icmp_ge (pc := 21) (tgt := 63) F r10 r11 dX4_pouredGetsThrough_21 (by decide) (fun h12 => ?_) (fun h12 => ?_)
    · have k := Ok_f (ng_lt h12) k
      exact hE8 (Sum.inl (s5.1, s5.2)) (Ok_some k) r10
    have k := Ok_t h12 k
    refine jr_iload_n (pc := 24) F 1 dX4_pouredGetsThrough_24 rfl rfl ?_
    refine jr_iload_n (pc := 25) F 3 dX4_pouredGetsThrough_25 rfl rfl ?_
    refine jr_ishr (pc := 26) F dX4_pouredGetsThrough_26 ?_
    refine jr_iconst (pc := 27) F dX4_pouredGetsThrough_27 ?_
    refine jr_iand (pc := 28) F dX4_pouredGetsThrough_28 ?_
    refine jr_iconst (pc := 29) F dX4_pouredGetsThrough_29 ?_
    refine jr_icmp_ne (pc := 30) (tgt := 57) F (rg_and _ _) (show Rg 1 from ⟨by decide, by decide⟩) dX4_pouredGetsThrough_30 (by decide) (fun h13 => ?_) (fun h13 => ?_)
    · have k := Ok_f h13 k
      refine jr_iinc (pc := 57) F [(3, iv (w32 (s5.1 + 1))), (0, .ref (xad X (0, 0, 0))), (1, iv v_bits), (2, iv v_train)] 3 dX4_pouredGetsThrough_57 rfl (by decide) rfl ?_
      refine jr_goto (pc := 60) (tgt := 13) F dX4_pouredGetsThrough_60 (by decide) ?_
      refine jr_sub F [1, 2, 3, 0] [(0, .ref (xad X (0, 0, 0))), (1, iv v_bits), (2, iv v_train), (3, iv (w32 (s5.1 + 1)))] rfl ?_
      exact hC7 (w32 (s5.1 + 1), s5.2) (Ok_some k) (rg_w _)
    have k := Ok_t h13 k
    refine jr_aload_n (pc := 33) F 0 dX4_pouredGetsThrough_33 rfl rfl ?_
    refine jr_getR (pc := 34) (b := (1, 0, 0)) F f_4_12 m0_0 rfl dX4_pouredGetsThrough_34 ?_
    refine jr_getR (pc := 37) (b := (1, 0, 8)) F f_4_136 (mL_0 h11_0) rfl dX4_pouredGetsThrough_37 ?_
    refine jr_iload_n (pc := 40) F 3 dX4_pouredGetsThrough_40 rfl rfl ?_
    obtain ⟨c14, k⟩ := Ok_grd k
    refine jr_iald (pc := 41) F (s5.2 1 0 8 s5.1) (mL_8 h11_0) (by decide) c14 rfl dX4_pouredGetsThrough_41 (fun r15 => ?_)
    refine jr_bipush (pc := 42) F dX4_pouredGetsThrough_42 (by decide) ?_
    refine jr_icmp_lt (pc := 44) (tgt := 49) F r15 (show Rg 99 from ⟨by decide, by decide⟩) dX4_pouredGetsThrough_44 (by decide) (fun h16 => ?_) (fun h16 => ?_)
    · have k := Ok_f (ng_le h16) k
      refine jr_aload_n (pc := 49) F 0 dX4_pouredGetsThrough_49 rfl rfl ?_
      refine jr_getR (pc := 50) (b := (1, 1, 0)) F f_4_16 m0_0 rfl dX4_pouredGetsThrough_50 ?_
      refine jr_iload_n (pc := 53) F 3 dX4_pouredGetsThrough_53 rfl rfl ?_
      have k := Ok_bind k
      refine jr_callV (pc := 54) (st := []) F [iv s5.1] (snd_X2_pour h11_1 (g0 := gs s5.2 4 0 M) r10 k) (gs_in s5.2 M 1 1 (by decide)) ck_4_226 rfl (mL_0 h11_1) rfl rfl rfl (by decide) (Nat.le_of_ble_eq_true rfl) dX4_pouredGetsThrough_54 rfl (fun v g' hq => ?_)
      obtain ⟨z18, rfl, eg, k⟩ := hq
      rw [gs_comm (by decide)] at eg
      obtain ⟨C19, e20, k⟩ := Ok_let k
      rw [← e20] at eg
      refine J_eq eg ?_
      show J X 57 [(0, .ref (xad X (0, 0, 0))), (1, iv v_bits), (2, iv v_train), (3, iv s5.1)] [] (gs C19 4 0 M)
      refine jr_iinc (pc := 57) F [(3, iv (w32 (s5.1 + 1))), (0, .ref (xad X (0, 0, 0))), (1, iv v_bits), (2, iv v_train)] 3 dX4_pouredGetsThrough_57 rfl (by decide) rfl ?_
      refine jr_goto (pc := 60) (tgt := 13) F dX4_pouredGetsThrough_60 (by decide) ?_
      refine jr_sub F [1, 2, 3, 0] [(0, .ref (xad X (0, 0, 0))), (1, iv v_bits), (2, iv v_train), (3, iv (w32 (s5.1 + 1)))] rfl ?_
      exact hC7 (w32 (s5.1 + 1), C19) (Ok_some k) (rg_w _)
    have k := Ok_t h16 k
    refine jr_iconst (pc := 47) F dX4_pouredGetsThrough_47 ?_
    exact jr_zret (pc := 48) F hQ rfl (Or.inl rfl) dX4_pouredGetsThrough_48 ⟨_, _, rfl, (Or.inl rfl), rfl, (hE8 (Sum.inr _) (Ok_some k))⟩
  rcases o with z9 | y
  rotate_left
  · show Q (y)
    exact Ok_some k
  intro r21
  refine jr_aload_n (pc := 63) F 0 dX4_pouredGetsThrough_63 rfl rfl ?_
  refine jr_iload_n (pc := 64) F 2 dX4_pouredGetsThrough_64 rfl rfl ?_
  have k := Ok_bind k
  refine jr_callV (pc := 65) (st := []) F [iv v_train] (snd_X4_getsThrough (M := M) rgp_train k) rfl ck_4_211 rfl m0_0 rfl rfl rfl (by decide) (Nat.le_of_ble_eq_true rfl) dX4_pouredGetsThrough_65 rfl (fun v g' hq => ?_)
  obtain ⟨x, L', rfl, r22, eg, k⟩ := hq
  obtain ⟨z23, ez⟩ : ∃ z : Int × GG, z = (x, L') := ⟨_, rfl⟩
  obtain ⟨rfl, rfl⟩ : x = z23.1 ∧ L' = z23.2 := ⟨by rw [ez], by rw [ez]⟩
  clear ez
  refine J_eq eg ?_
  show J X 68 [(0, .ref (xad X (0, 0, 0))), (1, iv v_bits), (2, iv v_train), (3, iv z9.1)] [iv z23.1] (gs z23.2 4 0 M)
  exact jr_zret (pc := 68) F hQ rfl r22 dX4_pouredGetsThrough_68 ⟨_, _, rfl, r22, rfl, (Ok_some k)⟩
set_option maxHeartbeats 4000000 in
set_option maxRecDepth 100000 in
theorem snd_X6_bitCount {v_i : Int} {g0 : GG} (rgp_i : Rg v_i) {Q : (Int) → Prop} (k : Ok (X6_bitCount_f v_i) Q) : MetG SL yX6_bitCount cX6_bitCount 1 (some .int) 0 (fun ad => [iv v_i]) (g0) (fun v g' => ∃ x : Int, v = some (iv x) ∧ Rg x ∧ g' = g0 ∧ Q x) := by
  refine met_intro SL_ok (by decide +kernel) (fun ad => Nat.le_of_ble_eq_true rfl) (fun X F hQ hR => ?_)
  replace F : FX X cX6_bitCount RX6 1 (some .int) SL 0 := F
  show J X 0 [(0, iv v_i)] [] (g0)
  refine jr_iload_n (pc := 0) F 0 dX6_bitCount_0 rfl rfl ?_
  refine jr_iload_n (pc := 1) F 0 dX6_bitCount_1 rfl rfl ?_
  refine jr_iconst (pc := 2) F dX6_bitCount_2 ?_
  refine jr_iushr (pc := 3) F dX6_bitCount_3 ?_
  refine jr_ldcw (pc := 4) F kc_6_265 dX6_bitCount_4 ?_
  refine jr_iand (pc := 7) F dX6_bitCount_7 ?_
  refine jr_isub (pc := 8) F dX6_bitCount_8 ?_
  obtain ⟨x1, e2, k⟩ := Ok_let k
  have r3 : Rg x1 := rg_of e2 (rg_w _)
  refine jr_top e2 ?_
  refine jr_istore_n (pc := 9) F [(0, iv x1)] dX6_bitCount_9 rfl (by decide) rfl ?_
  refine jr_iload_n (pc := 10) F 0 dX6_bitCount_10 rfl rfl ?_
  refine jr_ldcw (pc := 11) F kc_6_266 dX6_bitCount_11 ?_
  refine jr_iand (pc := 14) F dX6_bitCount_14 ?_
  refine jr_iload_n (pc := 15) F 0 dX6_bitCount_15 rfl rfl ?_
  refine jr_iconst (pc := 16) F dX6_bitCount_16 ?_
  refine jr_iushr (pc := 17) F dX6_bitCount_17 ?_
  refine jr_ldcw (pc := 18) F kc_6_266 dX6_bitCount_18 ?_
  refine jr_iand (pc := 21) F dX6_bitCount_21 ?_
  refine jr_iadd (pc := 22) F dX6_bitCount_22 ?_
  obtain ⟨x4, e5, k⟩ := Ok_let k
  have r6 : Rg x4 := rg_of e5 (rg_w _)
  refine jr_top e5 ?_
  refine jr_istore_n (pc := 23) F [(0, iv x4)] dX6_bitCount_23 rfl (by decide) rfl ?_
  refine jr_iload_n (pc := 24) F 0 dX6_bitCount_24 rfl rfl ?_
  refine jr_iload_n (pc := 25) F 0 dX6_bitCount_25 rfl rfl ?_
  refine jr_iconst (pc := 26) F dX6_bitCount_26 ?_
  refine jr_iushr (pc := 27) F dX6_bitCount_27 ?_
  refine jr_iadd (pc := 28) F dX6_bitCount_28 ?_
  refine jr_ldcw (pc := 29) F kc_6_267 dX6_bitCount_29 ?_
  refine jr_iand (pc := 32) F dX6_bitCount_32 ?_
  obtain ⟨x7, e8, k⟩ := Ok_let k
  have r9 : Rg x7 := rg_of e8 (rg_and _ _)
  refine jr_top e8 ?_
  refine jr_istore_n (pc := 33) F [(0, iv x7)] dX6_bitCount_33 rfl (by decide) rfl ?_
  refine jr_iload_n (pc := 34) F 0 dX6_bitCount_34 rfl rfl ?_
  refine jr_iload_n (pc := 35) F 0 dX6_bitCount_35 rfl rfl ?_
  refine jr_bipush (pc := 36) F dX6_bitCount_36 (by decide) ?_
  refine jr_iushr (pc := 38) F dX6_bitCount_38 ?_
  refine jr_iadd (pc := 39) F dX6_bitCount_39 ?_
  obtain ⟨x10, e11, k⟩ := Ok_let k
  have r12 : Rg x10 := rg_of e11 (rg_w _)
  refine jr_top e11 ?_
  refine jr_istore_n (pc := 40) F [(0, iv x10)] dX6_bitCount_40 rfl (by decide) rfl ?_
  refine jr_iload_n (pc := 41) F 0 dX6_bitCount_41 rfl rfl ?_
  refine jr_iload_n (pc := 42) F 0 dX6_bitCount_42 rfl rfl ?_
  refine jr_bipush (pc := 43) F dX6_bitCount_43 (by decide) ?_
  refine jr_iushr (pc := 45) F dX6_bitCount_45 ?_
  refine jr_iadd (pc := 46) F dX6_bitCount_46 ?_
  obtain ⟨x13, e14, k⟩ := Ok_let k
  have r15 : Rg x13 := rg_of e14 (rg_w _)
  refine jr_top e14 ?_
  refine jr_istore_n (pc := 47) F [(0, iv x13)] dX6_bitCount_47 rfl (by decide) rfl ?_
  refine jr_iload_n (pc := 48) F 0 dX6_bitCount_48 rfl rfl ?_
  refine jr_bipush (pc := 49) F dX6_bitCount_49 (by decide) ?_
  refine jr_iand (pc := 51) F dX6_bitCount_51 ?_
  exact jr_iret (pc := 52) F hQ rfl dX6_bitCount_52 ⟨_, rfl, (rg_and _ _), rfl, (Ok_some k)⟩
set_option maxHeartbeats 4000000 in
set_option maxRecDepth 100000 in
theorem snd_X4_pourFewest {C0 : GG} {v_train : Int} {M : LT} (rgp_train : Rg v_train) {Q : (Int × GG) → Prop} (k : Ok (X4_pourFewest C0 v_train) Q) : MetG SL yX4_pourFewest cX4_pourFewest 4 (some .int) 6 (fun ad => [.ref (ad (0, 0, 0)), iv v_train]) (gs C0 4 0 M) (fun v g' => ∃ (x : Int) (L' : GG), v = some (iv x) ∧ Rg x ∧ g' = gs L' 4 0 M ∧ Q (x, L')) := by
  refine met_intro SL_ok (by decide +kernel) (fun ad => Nat.le_of_ble_eq_true rfl) (fun X F hQ hR => ?_)
  replace F : FX X cX4_pourFewest RX4 4 (some .int) SL 6 := F
  show J X 0 [(0, .ref (xad X (0, 0, 0))), (1, iv v_train)] [] (gs C0 4 0 M)
  refine jr_aload_n (pc := 0) F 0 dX4_pourFewest_0 rfl rfl ?_
  refine jr_iload_n (pc := 1) F 1 dX4_pourFewest_1 rfl rfl ?_
  refine jr_callV (pc := 2) (st := []) F [iv v_train] (snd_X4_noTrain (M := M) rgp_train (X4_noTrain_ok _ _ )) rfl ck_4_162 rfl m0_0 rfl rfl rfl (by decide) (Nat.le_of_ble_eq_true rfl) dX4_pourFewest_2 rfl (fun v g' hq => ?_)
  obtain ⟨x, rfl, r1, eg, hx⟩ := hq
  subst hx
  refine J_eq eg ?_
  show J X 5 [(0, .ref (xad X (0, 0, 0))), (1, iv v_train)] [iv (X4_noTrain_v C0 v_train)] (gs C0 4 0 M)
  refine jr_if_eq (pc := 5) (tgt := 14) F (rg_z r1) dX4_pourFewest_5 (by decide) (fun h2 => ?_) (fun h2 => ?_)
  · have k := Ok_f (fun q => q h2) k
    refine jr_aload_n (pc := 14) F 0 dX4_pourFewest_14 rfl rfl ?_
    refine jr_getR (pc := 15) (b := (1, 0, 0)) F f_4_12 m0_0 rfl dX4_pourFewest_15 ?_
    refine jr_getR (pc := 18) (b := (1, 0, 14)) F f_4_180 (mL_0 h11_0) rfl dX4_pourFewest_18 ?_
    refine jr_iload_n (pc := 21) F 1 dX4_pourFewest_21 rfl rfl ?_
    obtain ⟨c3, k⟩ := Ok_grd k
    refine jr_iald (pc := 22) F (C0 1 0 14 v_train) (mL_14 h11_0) (by decide) c3 rfl dX4_pourFewest_22 (fun r4 => ?_)
    refine jr_if_eq (pc := 23) (tgt := 33) F r4 dX4_pourFewest_23 (by decide) (fun h5 => ?_) (fun h5 => ?_)
    · have k := Ok_f (fun q => q h5) k
      refine jr_iconst (pc := 33) F dX4_pourFewest_33 ?_
      refine jr_istore_n (pc := 34) F [(2, iv 0), (0, .ref (xad X (0, 0, 0))), (1, iv v_train)] dX4_pourFewest_34 rfl (by decide) rfl ?_
      refine jr_sub F [1, 2, 0] [(0, .ref (xad X (0, 0, 0))), (1, iv v_train), (2, iv 0)] rfl ?_
      refine lpj (P := fun s : Int × GG => Rg (s.1) → J X 35 [(0, .ref (xad X (0, 0, 0))), (1, iv v_train), (2, iv s.1)] [] (gs s.2 4 0 M)) (PE := fun o : ((Int × GG) ⊕ (Int × GG)) => match o with | .inl r => Rg (r.1) → J X 86 [(0, .ref (xad X (0, 0, 0))), (1, iv v_train), (2, iv r.1)] [] (gs r.2 4 0 M) | .inr y => Q (y)) k (fun s6 Q7 k hC8 hE9 r11 => ?_) (fun o k => ?_) (fun h => h (show Rg 0 from ⟨by decide, by decide⟩))
      · refine jr_iload_n (pc := 35) F 2 dX4_pourFewest_35 rfl rfl ?_
        refine jr_iconst (pc := 36) F dX4_pourFewest_36 ?_
        refine jr_icmp_gt (pc := 37) (tgt := 86) F r11 (show Rg 3 from ⟨by decide, by decide⟩) dX4_pourFewest_37 (by decide) (fun h12 => ?_) (fun h12 => ?_)
        · have k := Ok_f (ng_le h12) k
          exact hE9 (Sum.inl (s6.1, s6.2)) (Ok_some k) r11
        have k := Ok_t h12 k
        refine jr_iconst (pc := 40) F dX4_pourFewest_40 ?_
        refine jr_istore_n (pc := 41) F [(3, iv 0), (0, .ref (xad X (0, 0, 0))), (1, iv v_train), (2, iv s6.1)] dX4_pourFewest_41 rfl (by decide) rfl ?_
        refine jr_sub F [1, 2, 3, 0] [(0, .ref (xad X (0, 0, 0))), (1, iv v_train), (2, iv s6.1), (3, iv 0)] rfl ?_
        refine lpj (P := fun s : Int × GG => Rg (s.1) → J X 42 [(0, .ref (xad X (0, 0, 0))), (1, iv v_train), (2, iv s6.1), (3, iv s.1)] [] (gs s.2 4 0 M)) (PE := fun o : ((Int × GG) ⊕ (Int × GG)) => match o with | .inl r => Rg (r.1) → J X 80 [(0, .ref (xad X (0, 0, 0))), (1, iv v_train), (2, iv s6.1), (3, iv r.1)] [] (gs r.2 4 0 M) | .inr y => Q7 (.inr (.inr (y)))) k (fun s13 Q14 k hC15 hE16 r18 => ?_) (fun o k => ?_) (fun h => h (show Rg 0 from ⟨by decide, by decide⟩))
        · refine jr_iload_n (pc := 42) F 3 dX4_pourFewest_42 rfl rfl ?_
          refine jr_iconst (pc := 43) F dX4_pourFewest_43 ?_
          refine jr_aload_n (pc := 44) F 0 dX4_pourFewest_44 rfl rfl ?_
          refine jr_getR (pc := 45) (b := (1, 0, 0)) F f_4_12 m0_0 rfl dX4_pourFewest_45 ?_
          refine jr_getI (pc := 48) F (s13.2 1 0 0 0) f_4_156 (mL_0 h11_0) rfl rfl dX4_pourFewest_48 (fun r19 => ?_)
          refine jr_ishl (pc := 51) F dX4_pourFewest_51 ?_
          refine jr_icmp_ge (pc := 52) (tgt := 80) F r18 (rg_shl _ _) dX4_pourFewest_52 (by decide) (fun h20 => ?_) (fun h20 => ?_)
          · have k := Ok_f (ng_lt h20) k
            exact hE16 (Sum.inl (s13.1, s13.2)) (Ok_some k) r18
          have k := Ok_t h20 k
          refine jr_iload_n (pc := 55) F 3 dX4_pourFewest_55 rfl rfl ?_
          refine jr_callS (pc := 56) (st := []) F [iv s13.1] (snd_X6_bitCount (g0 := gs s13.2 4 0 M) r18 (X6_bitCount_ok _ )) rfl ck_4_229 rfl rfl (by decide) (Nat.le_of_ble_eq_true rfl) dX4_pourFewest_56 rfl (fun v g' hq => ?_)
          obtain ⟨x, rfl, r21, eg, hx⟩ := hq
          subst hx
          refine J_eq eg ?_
          show J X 59 [(0, .ref (xad X (0, 0, 0))), (1, iv v_train), (2, iv s6.1), (3, iv s13.1)] [iv (X6_bitCount_v s13.1)] (gs s13.2 4 0 M)
          refine jr_iload_n (pc := 59) F 2 dX4_pourFewest_59 rfl rfl ?_
          refine jr_icmp_ne (pc := 60) (tgt := 74) F r21 r11 dX4_pourFewest_60 (by decide) (fun h22 => ?_) (fun h22 => ?_)
          · have k := Ok_f h22 k
            refine jr_iinc (pc := 74) F [(3, iv (w32 (s13.1 + 1))), (0, .ref (xad X (0, 0, 0))), (1, iv v_train), (2, iv s6.1)] 3 dX4_pourFewest_74 rfl (by decide) rfl ?_
            refine jr_goto (pc := 77) (tgt := 42) F dX4_pourFewest_77 (by decide) ?_
            refine jr_sub F [1, 2, 3, 0] [(0, .ref (xad X (0, 0, 0))), (1, iv v_train), (2, iv s6.1), (3, iv (w32 (s13.1 + 1)))] rfl ?_
            exact hC15 (w32 (s13.1 + 1), s13.2) (Ok_some k) (rg_w _)
          have k := Ok_t h22 k
          refine jr_aload_n (pc := 63) F 0 dX4_pourFewest_63 rfl rfl ?_
          refine jr_iload_n (pc := 64) F 3 dX4_pourFewest_64 rfl rfl ?_
          refine jr_iload_n (pc := 65) F 1 dX4_pourFewest_65 rfl rfl ?_
          have k := Ok_bind k
          refine jr_callV (pc := 66) (st := []) F [iv s13.1, iv v_train] (snd_X4_pouredGetsThrough (M := M) r18 rgp_train k) rfl ck_4_234 rfl m0_0 rfl rfl rfl (by decide) (Nat.le_of_ble_eq_true rfl) dX4_pourFewest_66 rfl (fun v g' hq => ?_)
          obtain ⟨x, L', rfl, r23, eg, k⟩ := hq
          obtain ⟨z24, ez⟩ : ∃ z : Int × GG, z = (x, L') := ⟨_, rfl⟩
          obtain ⟨rfl, rfl⟩ : x = z24.1 ∧ L' = z24.2 := ⟨by rw [ez], by rw [ez]⟩
          clear ez
          refine J_eq eg ?_
          show J X 69 [(0, .ref (xad X (0, 0, 0))), (1, iv v_train), (2, iv s6.1), (3, iv s13.1)] [iv z24.1] (gs z24.2 4 0 M)
          refine jr_if_eq (pc := 69) (tgt := 74) F (rg_z r23) dX4_pourFewest_69 (by decide) (fun h25 => ?_) (fun h25 => ?_)
          · have k := Ok_f (fun q => q h25) k
            refine jr_iinc (pc := 74) F [(3, iv (w32 (s13.1 + 1))), (0, .ref (xad X (0, 0, 0))), (1, iv v_train), (2, iv s6.1)] 3 dX4_pourFewest_74 rfl (by decide) rfl ?_
            refine jr_goto (pc := 77) (tgt := 42) F dX4_pourFewest_77 (by decide) ?_
            refine jr_sub F [1, 2, 3, 0] [(0, .ref (xad X (0, 0, 0))), (1, iv v_train), (2, iv s6.1), (3, iv (w32 (s13.1 + 1)))] rfl ?_
            exact hC15 (w32 (s13.1 + 1), z24.2) (Ok_some k) (rg_w _)
          have k := Ok_t h25 k
          refine jr_iload_n (pc := 72) F 3 dX4_pourFewest_72 rfl rfl ?_
          exact jr_iret (pc := 73) F hQ rfl dX4_pourFewest_73 ⟨_, _, rfl, r18, rfl, (hE9 (Sum.inr _) (hE16 (Sum.inr _) (Ok_some k)))⟩
        rcases o with z17 | y
        rotate_left
        · show Q7 (.inr (.inr (y)))
          exact Ok_some k
        intro r26
        refine jr_iinc (pc := 80) F [(2, iv (w32 (s6.1 + 1))), (0, .ref (xad X (0, 0, 0))), (1, iv v_train), (3, iv z17.1)] 2 dX4_pourFewest_80 rfl (by decide) rfl ?_
        refine jr_goto (pc := 83) (tgt := 35) F dX4_pourFewest_83 (by decide) ?_
        refine jr_sub F [1, 2, 0] [(0, .ref (xad X (0, 0, 0))), (1, iv v_train), (2, iv (w32 (s6.1 + 1)))] rfl ?_
        exact hC8 (w32 (s6.1 + 1), z17.2) (Ok_some k) (rg_w _)
      rcases o with z10 | y
      rotate_left
      · show Q (y)
        exact Ok_some k
      intro r27
      refine jr_bipush (pc := 86) F dX4_pourFewest_86 (by decide) ?_
      exact jr_iret (pc := 88) F hQ rfl dX4_pourFewest_88 ⟨_, _, rfl, (show Rg (-9) from ⟨by decide, by decide⟩), rfl, (Ok_some k)⟩
    have k := Ok_t h5 k
    refine jr_aload_n (pc := 26) F 0 dX4_pourFewest_26 rfl rfl ?_
    refine jr_bipush (pc := 27) F dX4_pourFewest_27 (by decide) ?_
    have k := Ok_bind k
    refine jr_callV (pc := 29) (st := []) F [iv (-3)] (snd_X4_refuse (M := M) (show Rg (-3) from ⟨by decide, by decide⟩) k) rfl ck_4_61 rfl m0_0 rfl rfl rfl (by decide) (Nat.le_of_ble_eq_true rfl) dX4_pourFewest_29 rfl (fun v g' hq => ?_)
    obtain ⟨x, L', rfl, r28, eg, k⟩ := hq
    obtain ⟨z29, ez⟩ : ∃ z : Int × GG, z = (x, L') := ⟨_, rfl⟩
    obtain ⟨rfl, rfl⟩ : x = z29.1 ∧ L' = z29.2 := ⟨by rw [ez], by rw [ez]⟩
    clear ez
    refine J_eq eg ?_
    show J X 32 [(0, .ref (xad X (0, 0, 0))), (1, iv v_train)] [iv z29.1] (gs z29.2 4 0 M)
    exact jr_iret (pc := 32) F hQ rfl dX4_pourFewest_32 ⟨_, _, rfl, r28, rfl, (Ok_some k)⟩
  have k := Ok_t h2 k
  refine jr_aload_n (pc := 8) F 0 dX4_pourFewest_8 rfl rfl ?_
  refine jr_iconst (pc := 9) F dX4_pourFewest_9 ?_
  have k := Ok_bind k
  refine jr_callV (pc := 10) (st := []) F [iv (-1)] (snd_X4_refuse (M := M) (show Rg (-1) from ⟨by decide, by decide⟩) k) rfl ck_4_61 rfl m0_0 rfl rfl rfl (by decide) (Nat.le_of_ble_eq_true rfl) dX4_pourFewest_10 rfl (fun v g' hq => ?_)
  obtain ⟨x, L', rfl, r30, eg, k⟩ := hq
  obtain ⟨z31, ez⟩ : ∃ z : Int × GG, z = (x, L') := ⟨_, rfl⟩
  obtain ⟨rfl, rfl⟩ : x = z31.1 ∧ L' = z31.2 := ⟨by rw [ez], by rw [ez]⟩
  clear ez
  refine J_eq eg ?_
  show J X 13 [(0, .ref (xad X (0, 0, 0))), (1, iv v_train)] [iv z31.1] (gs z31.2 4 0 M)
  exact jr_iret (pc := 13) F hQ rfl dX4_pourFewest_13 ⟨_, _, rfl, r30, rfl, (Ok_some k)⟩
set_option maxHeartbeats 4000000 in
set_option maxRecDepth 100000 in
theorem snd_X4_pourFirst {C0 : GG} {M : LT}  {Q : (Int × GG) → Prop} (k : Ok (X4_pourFirst C0) Q) : MetG SL yX4_pourFirst cX4_pourFirst 5 (some .int) 5 (fun ad => [.ref (ad (0, 0, 0))]) (gs C0 4 0 M) (fun v g' => ∃ (x : Int) (L' : GG), v = some (iv x) ∧ Rg x ∧ g' = gs L' 4 0 M ∧ Q (x, L')) := by
  refine met_intro SL_ok (by decide +kernel) (fun ad => Nat.le_of_ble_eq_true rfl) (fun X F hQ hR => ?_)
  replace F : FX X cX4_pourFirst RX4 5 (some .int) SL 5 := F
  show J X 0 [(0, .ref (xad X (0, 0, 0)))] [] (gs C0 4 0 M)
  refine jr_aload_n (pc := 0) F 0 dX4_pourFirst_0 rfl rfl ?_
  refine jr_getR (pc := 1) (b := (1, 1, 0)) F f_4_16 m0_0 rfl dX4_pourFirst_1 ?_
  refine jr_aload_n (pc := 4) F 0 dX4_pourFirst_4 rfl rfl ?_
  refine jr_getR (pc := 5) (b := (1, 0, 0)) F f_4_12 m0_0 rfl dX4_pourFirst_5 ?_
  have k := Ok_bind k
  refine jr_callV (pc := 8) (st := []) F [.ref (xad X (1, 0, 0))] (snd_X2_become h11_1 (g0 := gs C0 4 0 M) h11_0 (by decide) rfl  k) (gs_in C0 M 1 1 (by decide)) ck_4_79 rfl (mL_0 h11_1) rfl rfl rfl (by decide) (Nat.le_of_ble_eq_true rfl) dX4_pourFirst_8 rfl (fun v g' hq => ?_)
  obtain ⟨z2, rfl, eg, k⟩ := hq
  rw [gs_comm (by decide)] at eg
  obtain ⟨C3, e4, k⟩ := Ok_let k
  rw [← e4] at eg
  refine J_eq eg ?_
  show J X 11 [(0, .ref (xad X (0, 0, 0)))] [] (gs C3 4 0 M)
  refine jr_aload_n (pc := 11) F 0 dX4_pourFirst_11 rfl rfl ?_
  have k := Ok_bind k
  refine jr_callV (pc := 12) (st := []) F [] (snd_X4_throughInMind (M := M)  k) rfl ck_4_223 rfl m0_0 rfl rfl rfl (by decide) (Nat.le_of_ble_eq_true rfl) dX4_pourFirst_12 rfl (fun v g' hq => ?_)
  obtain ⟨x, L', rfl, r5, eg, k⟩ := hq
  obtain ⟨z6, ez⟩ : ∃ z : Int × GG, z = (x, L') := ⟨_, rfl⟩
  obtain ⟨rfl, rfl⟩ : x = z6.1 ∧ L' = z6.2 := ⟨by rw [ez], by rw [ez]⟩
  clear ez
  refine J_eq eg ?_
  show J X 15 [(0, .ref (xad X (0, 0, 0)))] [iv z6.1] (gs z6.2 4 0 M)
  refine jr_istore_n (pc := 15) F [(1, iv z6.1), (0, .ref (xad X (0, 0, 0)))] dX4_pourFirst_15 rfl (by decide) rfl ?_
  refine jr_bipush (pc := 16) F dX4_pourFirst_16 (by decide) ?_
  refine jr_istore_n (pc := 18) F [(2, iv (-9)), (1, iv z6.1), (0, .ref (xad X (0, 0, 0)))] dX4_pourFirst_18 rfl (by decide) rfl ?_
  refine jr_iconst (pc := 19) F dX4_pourFirst_19 ?_
  refine jr_istore_n (pc := 20) F [(3, iv 0), (2, iv (-9)), (1, iv z6.1), (0, .ref (xad X (0, 0, 0)))] dX4_pourFirst_20 rfl (by decide) rfl ?_
  refine jr_sub F [3, 2, 1, 0] [(0, .ref (xad X (0, 0, 0))), (1, iv z6.1), (2, iv (-9)), (3, iv 0)] rfl ?_
  refine lpj (P := fun s : Int × Int × Int × GG => Rg (s.1) → Rg (s.2.1) → Rg (s.2.2.1) → J X 21 [(0, .ref (xad X (0, 0, 0))), (1, iv s.1), (2, iv s.2.1), (3, iv s.2.2.1)] [] (gs s.2.2.2 4 0 M)) (PE := fun r : Int × Int × Int × GG => Rg (r.1) → Rg (r.2.1) → Rg (r.2.2.1) → J X 74 [(0, .ref (xad X (0, 0, 0))), (1, iv r.1), (2, iv r.2.1), (3, iv r.2.2.1)] [] (gs r.2.2.2 4 0 M)) k (fun s7 Q8 k hC9 hE10 r12 r13 r14 => ?_) (fun z11 k => ?_) (fun h => h r5 (show Rg (-9) from ⟨by decide, by decide⟩) (show Rg 0 from ⟨by decide, by decide⟩))
  · refine jr_iload_n (pc := 21) F 3 dX4_pourFirst_21 rfl rfl ?_
    refine jr_aload_n (pc := 22) F 0 dX4_pourFirst_22 rfl rfl ?_
    refine jr_getR (pc := 23) (b := (1, 0, 0)) F f_4_12 m0_0 rfl dX4_pourFirst_23 ?_
    refine jr_getI (pc := 26) F (s7.2.2.2 1 0 0 0) f_4_156 (mL_0 h11_0) rfl rfl dX4_pourFirst_26 (fun r15 => ?_)
    refine jr_icmp_ge (pc := 29) (tgt := 74) F r14 r15 dX4_pourFirst_29 (by decide) (fun h16 => ?_) (fun h16 => ?_)
    · have k := Ok_f (ng_lt h16) k
      exact hE10 (s7.1, s7.2.1, s7.2.2.1, s7.2.2.2) (Ok_some k) r12 r13 r14
    have k := Ok_t h16 k
    refine jr_aload_n (pc := 32) F 0 dX4_pourFirst_32 rfl rfl ?_
    refine jr_getR (pc := 33) (b := (1, 1, 0)) F f_4_16 m0_0 rfl dX4_pourFirst_33 ?_
    refine jr_aload_n (pc := 36) F 0 dX4_pourFirst_36 rfl rfl ?_
    refine jr_getR (pc := 37) (b := (1, 0, 0)) F f_4_12 m0_0 rfl dX4_pourFirst_37 ?_
    have k := Ok_bind k
    refine jr_callV (pc := 40) (st := []) F [.ref (xad X (1, 0, 0))] (snd_X2_become h11_1 (g0 := gs s7.2.2.2 4 0 M) h11_0 (by decide) rfl  k) (gs_in s7.2.2.2 M 1 1 (by decide)) ck_4_79 rfl (mL_0 h11_1) rfl rfl rfl (by decide) (Nat.le_of_ble_eq_true rfl) dX4_pourFirst_40 rfl (fun v g' hq => ?_)
    obtain ⟨z18, rfl, eg, k⟩ := hq
    rw [gs_comm (by decide)] at eg
    obtain ⟨C19, e20, k⟩ := Ok_let k
    rw [← e20] at eg
    refine J_eq eg ?_
    show J X 43 [(0, .ref (xad X (0, 0, 0))), (1, iv s7.1), (2, iv s7.2.1), (3, iv s7.2.2.1)] [] (gs C19 4 0 M)
    refine jr_aload_n (pc := 43) F 0 dX4_pourFirst_43 rfl rfl ?_
    refine jr_getR (pc := 44) (b := (1, 1, 0)) F f_4_16 m0_0 rfl dX4_pourFirst_44 ?_
    refine jr_iload_n (pc := 47) F 3 dX4_pourFirst_47 rfl rfl ?_
    have k := Ok_bind k
    refine jr_callV (pc := 48) (st := []) F [iv s7.2.2.1] (snd_X2_pour h11_1 (g0 := gs C19 4 0 M) r14 k) (gs_in C19 M 1 1 (by decide)) ck_4_226 rfl (mL_0 h11_1) rfl rfl rfl (by decide) (Nat.le_of_ble_eq_true rfl) dX4_pourFirst_48 rfl (fun v g' hq => ?_)
    obtain ⟨z22, rfl, eg, k⟩ := hq
    rw [gs_comm (by decide)] at eg
    obtain ⟨C23, e24, k⟩ := Ok_let k
    rw [← e24] at eg
    refine J_eq eg ?_
    show J X 51 [(0, .ref (xad X (0, 0, 0))), (1, iv s7.1), (2, iv s7.2.1), (3, iv s7.2.2.1)] [] (gs C23 4 0 M)
    refine jr_aload_n (pc := 51) F 0 dX4_pourFirst_51 rfl rfl ?_
    have k := Ok_bind k
    refine jr_callV (pc := 52) (st := []) F [] (snd_X4_throughInMind (M := M)  k) rfl ck_4_223 rfl m0_0 rfl rfl rfl (by decide) (Nat.le_of_ble_eq_true rfl) dX4_pourFirst_52 rfl (fun v g' hq => ?_)
    obtain ⟨x, L', rfl, r25, eg, k⟩ := hq
    obtain ⟨z26, ez⟩ : ∃ z : Int × GG, z = (x, L') := ⟨_, rfl⟩
    obtain ⟨rfl, rfl⟩ : x = z26.1 ∧ L' = z26.2 := ⟨by rw [ez], by rw [ez]⟩
    clear ez
    refine J_eq eg ?_
    show J X 55 [(0, .ref (xad X (0, 0, 0))), (1, iv s7.1), (2, iv s7.2.1), (3, iv s7.2.2.1)] [iv z26.1] (gs z26.2 4 0 M)
    refine jr_istore (pc := 55) F [(4, iv z26.1), (0, .ref (xad X (0, 0, 0))), (1, iv s7.1), (2, iv s7.2.1), (3, iv s7.2.2.1)] dX4_pourFirst_55 (by decide) rfl ?_
    refine jr_iload (pc := 57) F 0 dX4_pourFirst_57 rfl ?_
    refine jr_iload_n (pc := 59) F 2 dX4_pourFirst_59 rfl rfl ?_
    refine jr_icmp_le (pc := 60) (tgt := 68) F r25 r12 dX4_pourFirst_60 (by decide) (fun h27 => ?_) (fun h27 => ?_)
    · have k := Ok_f (ng_lt h27) k
      refine jr_iinc (pc := 68) F [(3, iv (w32 (s7.2.2.1 + 1))), (4, iv z26.1), (0, .ref (xad X (0, 0, 0))), (1, iv s7.1), (2, iv s7.2.1)] 4 dX4_pourFirst_68 rfl (by decide) rfl ?_
      refine jr_goto (pc := 71) (tgt := 21) F dX4_pourFirst_71 (by decide) ?_
      refine jr_sub F [2, 3, 4, 0] [(0, .ref (xad X (0, 0, 0))), (1, iv s7.1), (2, iv s7.2.1), (3, iv (w32 (s7.2.2.1 + 1)))] rfl ?_
      exact hC9 (s7.1, s7.2.1, w32 (s7.2.2.1 + 1), z26.2) (Ok_some k) r12 r13 (rg_w _)
    have k := Ok_t h27 k
    refine jr_iload (pc := 63) F 0 dX4_pourFirst_63 rfl ?_
    refine jr_istore_n (pc := 65) F [(1, iv z26.1), (4, iv z26.1), (0, .ref (xad X (0, 0, 0))), (2, iv s7.2.1), (3, iv s7.2.2.1)] dX4_pourFirst_65 rfl (by decide) rfl ?_
    refine jr_iload_n (pc := 66) F 4 dX4_pourFirst_66 rfl rfl ?_
    refine jr_istore_n (pc := 67) F [(2, iv s7.2.2.1), (1, iv z26.1), (4, iv z26.1), (0, .ref (xad X (0, 0, 0))), (3, iv s7.2.2.1)] dX4_pourFirst_67 rfl (by decide) rfl ?_
    refine jr_iinc (pc := 68) F [(3, iv (w32 (s7.2.2.1 + 1))), (2, iv s7.2.2.1), (1, iv z26.1), (4, iv z26.1), (0, .ref (xad X (0, 0, 0)))] 4 dX4_pourFirst_68 rfl (by decide) rfl ?_
    refine jr_goto (pc := 71) (tgt := 21) F dX4_pourFirst_71 (by decide) ?_
    refine jr_sub F [4, 2, 1, 0] [(0, .ref (xad X (0, 0, 0))), (1, iv z26.1), (2, iv s7.2.2.1), (3, iv (w32 (s7.2.2.1 + 1)))] rfl ?_
    exact hC9 (z26.1, s7.2.2.1, w32 (s7.2.2.1 + 1), z26.2) (Ok_some k) r25 r14 (rg_w _)
  intro r28 r29 r30
  refine jr_iload_n (pc := 74) F 2 dX4_pourFirst_74 rfl rfl ?_
  exact jr_iret (pc := 75) F hQ rfl dX4_pourFirst_75 ⟨_, _, rfl, r29, rfl, (Ok_some k)⟩
set_option maxHeartbeats 4000000 in
set_option maxRecDepth 100000 in
theorem snd_X4_rescue {C0 : GG} {v_train : Int} {M : LT} (rgp_train : Rg v_train) {Q : (Int × GG) → Prop} (k : Ok (X4_rescue C0 v_train) Q) : MetG SL yX4_rescue cX4_rescue 2 (some .int) 2 (fun ad => [.ref (ad (0, 0, 0)), iv v_train]) (gs C0 4 0 M) (fun v g' => ∃ (x : Int) (L' : GG), v = some (iv x) ∧ Rg x ∧ g' = gs L' 4 0 M ∧ Q (x, L')) := by
  refine met_intro SL_ok (by decide +kernel) (fun ad => Nat.le_of_ble_eq_true rfl) (fun X F hQ hR => ?_)
  replace F : FX X cX4_rescue RX4 2 (some .int) SL 2 := F
  show J X 0 [(0, .ref (xad X (0, 0, 0))), (1, iv v_train)] [] (gs C0 4 0 M)
  refine jr_aload_n (pc := 0) F 0 dX4_rescue_0 rfl rfl ?_
  refine jr_iload_n (pc := 1) F 1 dX4_rescue_1 rfl rfl ?_
  refine jr_callV (pc := 2) (st := []) F [iv v_train] (snd_X4_noTrain (M := M) rgp_train (X4_noTrain_ok _ _ )) rfl ck_4_162 rfl m0_0 rfl rfl rfl (by decide) (Nat.le_of_ble_eq_true rfl) dX4_rescue_2 rfl (fun v g' hq => ?_)
  obtain ⟨x, rfl, r1, eg, hx⟩ := hq
  subst hx
  refine J_eq eg ?_
  show J X 5 [(0, .ref (xad X (0, 0, 0))), (1, iv v_train)] [iv (X4_noTrain_v C0 v_train)] (gs C0 4 0 M)
  refine jr_if_eq (pc := 5) (tgt := 14) F (rg_z r1) dX4_rescue_5 (by decide) (fun h2 => ?_) (fun h2 => ?_)
  · have k := Ok_f (fun q => q h2) k
    obtain ⟨c3, k⟩ := Ok_grd k
    refine cnd (c := ((C0 1 0 12 v_train) = (-1)) ∨ ((C0 1 0 14 v_train) = 1)) (GT := J X 40 [(0, .ref (xad X (0, 0, 0))), (1, iv v_train)] [] (gs C0 4 0 M)) (GF := J X 47 [(0, .ref (xad X (0, 0, 0))), (1, iv v_train)] [] (gs C0 4 0 M)) k (fun HT HF => ?_) (fun h8 k => ?_) (fun h8 k => ?_)
    · refine jr_aload_n (pc := 14) F 0 dX4_rescue_14 rfl rfl ?_
      refine jr_getR (pc := 15) (b := (1, 0, 0)) F f_4_12 m0_0 rfl dX4_rescue_15 ?_
      refine jr_getR (pc := 18) (b := (1, 0, 12)) F f_4_174 (mL_0 h11_0) rfl dX4_rescue_18 ?_
      refine jr_iload_n (pc := 21) F 1 dX4_rescue_21 rfl rfl ?_
      refine jr_iald (pc := 22) F (C0 1 0 12 v_train) (mL_12 h11_0) (by decide) c3 rfl dX4_rescue_22 (fun r4 => ?_)
      refine jr_iconst (pc := 23) F dX4_rescue_23 ?_
      refine jr_icmp_eq (pc := 24) (tgt := 40) F r4 (show Rg (-1) from ⟨by decide, by decide⟩) dX4_rescue_24 (by decide) (fun h5 => ?_) (fun h5 => ?_)
      · exact HT (Or.inl h5)
      refine jr_aload_n (pc := 27) F 0 dX4_rescue_27 rfl rfl ?_
      refine jr_getR (pc := 28) (b := (1, 0, 0)) F f_4_12 m0_0 rfl dX4_rescue_28 ?_
      refine jr_getR (pc := 31) (b := (1, 0, 14)) F f_4_180 (mL_0 h11_0) rfl dX4_rescue_31 ?_
      refine jr_iload_n (pc := 34) F 1 dX4_rescue_34 rfl rfl ?_
      refine jr_iald (pc := 35) F (C0 1 0 14 v_train) (mL_14 h11_0) (by decide) c3 rfl dX4_rescue_35 (fun r6 => ?_)
      refine jr_iconst (pc := 36) F dX4_rescue_36 ?_
      refine jr_icmp_ne (pc := 37) (tgt := 47) F r6 (show Rg 1 from ⟨by decide, by decide⟩) dX4_rescue_37 (by decide) (fun h7 => ?_) (fun h7 => ?_)
      · exact HF (fun q => q.elim h5 h7)
      exact HT (Or.inr h7)
    · refine jr_aload_n (pc := 40) F 0 dX4_rescue_40 rfl rfl ?_
      refine jr_bipush (pc := 41) F dX4_rescue_41 (by decide) ?_
      have k := Ok_bind k
      refine jr_callV (pc := 43) (st := []) F [iv (-3)] (snd_X4_refuse (M := M) (show Rg (-3) from ⟨by decide, by decide⟩) k) rfl ck_4_61 rfl m0_0 rfl rfl rfl (by decide) (Nat.le_of_ble_eq_true rfl) dX4_rescue_43 rfl (fun v g' hq => ?_)
      obtain ⟨x, L', rfl, r9, eg, k⟩ := hq
      obtain ⟨z10, ez⟩ : ∃ z : Int × GG, z = (x, L') := ⟨_, rfl⟩
      obtain ⟨rfl, rfl⟩ : x = z10.1 ∧ L' = z10.2 := ⟨by rw [ez], by rw [ez]⟩
      clear ez
      refine J_eq eg ?_
      show J X 46 [(0, .ref (xad X (0, 0, 0))), (1, iv v_train)] [iv z10.1] (gs z10.2 4 0 M)
      exact jr_iret (pc := 46) F hQ rfl dX4_rescue_46 ⟨_, _, rfl, r9, rfl, (Ok_some k)⟩
    refine jr_aload_n (pc := 47) F 0 dX4_rescue_47 rfl rfl ?_
    refine jr_getR (pc := 48) (b := (1, 0, 0)) F f_4_12 m0_0 rfl dX4_rescue_48 ?_
    refine jr_aload_n (pc := 51) F 0 dX4_rescue_51 rfl rfl ?_
    refine jr_getR (pc := 52) (b := (1, 0, 0)) F f_4_12 m0_0 rfl dX4_rescue_52 ?_
    refine jr_getR (pc := 55) (b := (1, 0, 12)) F f_4_174 (mL_0 h11_0) rfl dX4_rescue_55 ?_
    refine jr_iload_n (pc := 58) F 1 dX4_rescue_58 rfl rfl ?_
    refine jr_iald (pc := 59) F (C0 1 0 12 v_train) (mL_12 h11_0) (by decide) c3 rfl dX4_rescue_59 (fun r11 => ?_)
    have k := Ok_bind k
    refine jr_callV (pc := 60) (st := []) F [iv (C0 1 0 12 v_train)] (snd_X2_nearestHalt h11_0 (g0 := gs C0 4 0 M) r11 k) (gs_in C0 M 1 0 (by decide)) ck_4_284 rfl (mL_0 h11_0) rfl rfl rfl (by decide) (Nat.le_of_ble_eq_true rfl) dX4_rescue_60 rfl (fun v g' hq => ?_)
    obtain ⟨z13, rfl, r12, eg, k⟩ := hq
    rw [← (gs_in C0 M 1 0 (by decide))] at eg
    refine J_eq eg ?_
    show J X 63 [(0, .ref (xad X (0, 0, 0))), (1, iv v_train)] [iv z13] (gs C0 4 0 M)
    exact jr_iret (pc := 63) F hQ rfl dX4_rescue_63 ⟨_, _, rfl, r12, rfl, (Ok_some k)⟩
  have k := Ok_t h2 k
  refine jr_aload_n (pc := 8) F 0 dX4_rescue_8 rfl rfl ?_
  refine jr_iconst (pc := 9) F dX4_rescue_9 ?_
  have k := Ok_bind k
  refine jr_callV (pc := 10) (st := []) F [iv (-1)] (snd_X4_refuse (M := M) (show Rg (-1) from ⟨by decide, by decide⟩) k) rfl ck_4_61 rfl m0_0 rfl rfl rfl (by decide) (Nat.le_of_ble_eq_true rfl) dX4_rescue_10 rfl (fun v g' hq => ?_)
  obtain ⟨x, L', rfl, r14, eg, k⟩ := hq
  obtain ⟨z15, ez⟩ : ∃ z : Int × GG, z = (x, L') := ⟨_, rfl⟩
  obtain ⟨rfl, rfl⟩ : x = z15.1 ∧ L' = z15.2 := ⟨by rw [ez], by rw [ez]⟩
  clear ez
  refine J_eq eg ?_
  show J X 13 [(0, .ref (xad X (0, 0, 0))), (1, iv v_train)] [iv z15.1] (gs z15.2 4 0 M)
  exact jr_iret (pc := 13) F hQ rfl dX4_rescue_13 ⟨_, _, rfl, r14, rfl, (Ok_some k)⟩
set_option maxHeartbeats 4000000 in
set_option maxRecDepth 100000 in
theorem snd_X4_restore {C0 : GG} {M : LT}  {Q : (Int × GG) → Prop} (k : Ok (X4_restore C0) Q) : MetG SL yX4_restore cX4_restore 1 (some .int) 2 (fun ad => [.ref (ad (0, 0, 0))]) (gs C0 4 0 M) (fun v g' => ∃ (x : Int) (L' : GG), v = some (iv x) ∧ Rg x ∧ g' = gs L' 4 0 M ∧ Q (x, L')) := by
  refine met_intro SL_ok (by decide +kernel) (fun ad => Nat.le_of_ble_eq_true rfl) (fun X F hQ hR => ?_)
  replace F : FX X cX4_restore RX4 1 (some .int) SL 2 := F
  show J X 0 [(0, .ref (xad X (0, 0, 0)))] [] (gs C0 4 0 M)
  refine cnd (c := (C0 0 0 0 3) = 0) (GT := J X 7 [(0, .ref (xad X (0, 0, 0)))] [] (gs C0 4 0 M)) (GF := J X 14 [(0, .ref (xad X (0, 0, 0)))] [] (gs C0 4 0 M)) k (fun HT HF => ?_) (fun h3 k => ?_) (fun h3 k => ?_)
  · refine jr_aload_n (pc := 0) F 0 dX4_restore_0 rfl rfl ?_
    refine jr_getI (pc := 1) F (C0 0 0 0 3) f_4_22 m0_0 rfl rfl dX4_restore_1 (fun r1 => ?_)
    refine jr_if_ne (pc := 4) (tgt := 14) F r1 dX4_restore_4 (by decide) (fun h2 => ?_) (fun h2 => ?_)
    · exact HF h2
    exact HT h2
  · refine jr_aload_n (pc := 7) F 0 dX4_restore_7 rfl rfl ?_
    refine jr_bipush (pc := 8) F dX4_restore_8 (by decide) ?_
    have k := Ok_bind k
    refine jr_callV (pc := 10) (st := []) F [iv (-3)] (snd_X4_refuse (M := M) (show Rg (-3) from ⟨by decide, by decide⟩) k) rfl ck_4_61 rfl m0_0 rfl rfl rfl (by decide) (Nat.le_of_ble_eq_true rfl) dX4_restore_10 rfl (fun v g' hq => ?_)
    obtain ⟨x, L', rfl, r4, eg, k⟩ := hq
    obtain ⟨z5, ez⟩ : ∃ z : Int × GG, z = (x, L') := ⟨_, rfl⟩
    obtain ⟨rfl, rfl⟩ : x = z5.1 ∧ L' = z5.2 := ⟨by rw [ez], by rw [ez]⟩
    clear ez
    refine J_eq eg ?_
    show J X 13 [(0, .ref (xad X (0, 0, 0)))] [iv z5.1] (gs z5.2 4 0 M)
    exact jr_iret (pc := 13) F hQ rfl dX4_restore_13 ⟨_, _, rfl, r4, rfl, (Ok_some k)⟩
  refine jr_aload_n (pc := 14) F 0 dX4_restore_14 rfl rfl ?_
  refine jr_getR (pc := 15) (b := (1, 0, 0)) F f_4_12 m0_0 rfl dX4_restore_15 ?_
  refine jr_aload_n (pc := 18) F 0 dX4_restore_18 rfl rfl ?_
  refine jr_getR (pc := 19) (b := (1, 2, 0)) F f_4_19 m0_0 rfl dX4_restore_19 ?_
  have k := Ok_bind k
  refine jr_callV (pc := 22) (st := []) F [.ref (xad X (1, 2, 0))] (snd_X2_become h11_0 (g0 := gs C0 4 0 M) h11_2 (by decide) rfl  k) (gs_in C0 M 1 0 (by decide)) ck_4_79 rfl (mL_0 h11_0) rfl rfl rfl (by decide) (Nat.le_of_ble_eq_true rfl) dX4_restore_22 rfl (fun v g' hq => ?_)
  obtain ⟨z7, rfl, eg, k⟩ := hq
  rw [gs_comm (by decide)] at eg
  obtain ⟨C8, e9, k⟩ := Ok_let k
  rw [← e9] at eg
  refine J_eq eg ?_
  show J X 25 [(0, .ref (xad X (0, 0, 0)))] [] (gs C8 4 0 M)
  refine jr_aload_n (pc := 25) F 0 dX4_restore_25 rfl rfl ?_
  refine jr_getR (pc := 26) (b := (3, 0, 0)) F f_4_29 m0_0 rfl dX4_restore_26 ?_
  have k := Ok_bind k
  refine jr_callV (pc := 29) (st := []) F [] (snd_X3_forget (M := M)  k) rfl ck_4_90 rfl m3_0 rfl rfl rfl (by decide) (Nat.le_of_ble_eq_true rfl) dX4_restore_29 rfl (fun v g' hq => ?_)
  obtain ⟨z11, rfl, eg, k⟩ := hq
  refine J_eq eg ?_
  show J X 32 [(0, .ref (xad X (0, 0, 0)))] [] (gs z11 4 0 M)
  refine jr_aload_n (pc := 32) F 0 dX4_restore_32 rfl rfl ?_
  refine jr_getR (pc := 33) (b := (1, 0, 0)) F f_4_12 m0_0 rfl dX4_restore_33 ?_
  refine jr_getI (pc := 36) F (z11 1 0 0 1) f_4_121 (mL_0 h11_0) rfl rfl dX4_restore_36 (fun r12 => ?_)
  exact jr_iret (pc := 39) F hQ rfl dX4_restore_39 ⟨_, _, rfl, r12, rfl, (Ok_some k)⟩
set_option maxHeartbeats 4000000 in
set_option maxRecDepth 100000 in
theorem snd_X4_row {C0 : GG} {v_v : Int} {M : LT} (rgp_v : Rg v_v) {Q : (Int × GG) → Prop} (k : Ok (X4_row C0 v_v) Q) : MetG SL yX4_row cX4_row 3 (some .int) 1 (fun ad => [.ref (ad (0, 0, 0)), iv v_v]) (gs C0 4 0 M) (fun v g' => ∃ (x : Int) (L' : GG), v = some (iv x) ∧ Rg x ∧ g' = gs L' 4 0 M ∧ Q (x, L')) := by
  refine met_intro SL_ok (by decide +kernel) (fun ad => Nat.le_of_ble_eq_true rfl) (fun X F hQ hR => ?_)
  replace F : FX X cX4_row RX4 3 (some .int) SL 1 := F
  show J X 0 [(0, .ref (xad X (0, 0, 0))), (1, iv v_v)] [] (gs C0 4 0 M)
  refine jr_iload_n (pc := 0) F 1 dX4_row_0 rfl rfl ?_
  refine jr_iconst (pc := 1) F dX4_row_1 ?_
  refine jr_bipush (pc := 2) F dX4_row_2 (by decide) ?_
  refine jr_callS (pc := 4) (st := []) F [iv v_v, iv 0, iv 99] (snd_X4_outside (g0 := gs C0 4 0 M) rgp_v (show Rg 0 from ⟨by decide, by decide⟩) (show Rg 99 from ⟨by decide, by decide⟩) (X4_outside_ok _ _ _ )) rfl ck_4_57 rfl rfl (by decide) (Nat.le_of_ble_eq_true rfl) dX4_row_4 rfl (fun v g' hq => ?_)
  obtain ⟨x, rfl, r1, eg, hx⟩ := hq
  subst hx
  refine J_eq eg ?_
  show J X 7 [(0, .ref (xad X (0, 0, 0))), (1, iv v_v)] [iv (X4_outside_v v_v 0 99)] (gs C0 4 0 M)
  obtain ⟨x2, e3, k⟩ := Ok_let k
  have r4 : Rg x2 := rg_of e3 r1
  refine jr_top e3 ?_
  refine jr_istore_n (pc := 7) F [(2, iv x2), (0, .ref (xad X (0, 0, 0))), (1, iv v_v)] dX4_row_7 rfl (by decide) rfl ?_
  refine jr_iload_n (pc := 8) F 0 dX4_row_8 rfl rfl ?_
  refine jr_if_eq (pc := 9) (tgt := 18) F r4 dX4_row_9 (by decide) (fun h5 => ?_) (fun h5 => ?_)
  · have k := Ok_f (fun q => q h5) k
    refine jr_aload_n (pc := 18) F 1 dX4_row_18 rfl rfl ?_
    refine jr_getI (pc := 19) F (C0 0 0 0 7) f_4_44 m0_0 rfl rfl dX4_row_19 (fun r6 => ?_)
    refine jr_bipush (pc := 22) F dX4_row_22 (by decide) ?_
    refine jr_icmp_lt (pc := 24) (tgt := 34) F r6 (show Rg 16 from ⟨by decide, by decide⟩) dX4_row_24 (by decide) (fun h7 => ?_) (fun h7 => ?_)
    · have k := Ok_f (ng_le h7) k
      refine jr_aload_n (pc := 34) F 1 dX4_row_34 rfl rfl ?_
      refine jr_getR (pc := 35) (b := (0, 0, 7)) F f_4_40 m0_0 rfl dX4_row_35 ?_
      refine jr_aload_n (pc := 38) F 1 dX4_row_38 rfl rfl ?_
      refine jr_getI (pc := 39) F (C0 0 0 0 7) f_4_44 m0_0 rfl rfl dX4_row_39 (fun r8 => ?_)
      refine jr_iload_n (pc := 42) F 2 dX4_row_42 rfl rfl ?_
      obtain ⟨c9, k⟩ := Ok_grd k
      obtain ⟨C10, e11, k⟩ := Ok_let k
      refine jr_iast (pc := 43) F (gs C10 4 0 M) m0_7 (by decide) c9 rgp_v (put2 e11 (by decide)) dX4_row_43 ?_
      refine jr_aload_n (pc := 44) F 1 dX4_row_44 rfl rfl ?_
      refine jr_dup (pc := 45) F dX4_row_45 rfl ?_
      refine jr_getI (pc := 46) F (C10 0 0 0 7) f_4_44 m0_0 rfl rfl dX4_row_46 (fun r12 => ?_)
      refine jr_iconst (pc := 49) F dX4_row_49 ?_
      refine jr_iadd (pc := 50) F dX4_row_50 ?_
      obtain ⟨C13, e14, k⟩ := Ok_let k
      refine jr_putI (pc := 51) F (gs C13 4 0 M) fw_4_44 m0_0 rfl (rg_w _) (put2 e14 (by decide)) dX4_row_51 ?_
      refine jr_aload_n (pc := 54) F 1 dX4_row_54 rfl rfl ?_
      refine jr_getI (pc := 55) F (C13 0 0 0 7) f_4_44 m0_0 rfl rfl dX4_row_55 (fun r15 => ?_)
      exact jr_iret (pc := 58) F hQ rfl dX4_row_58 ⟨_, _, rfl, r15, rfl, (Ok_some k)⟩
    have k := Ok_t h7 k
    refine jr_aload_n (pc := 27) F 1 dX4_row_27 rfl rfl ?_
    refine jr_bipush (pc := 28) F dX4_row_28 (by decide) ?_
    have k := Ok_bind k
    refine jr_callV (pc := 30) (st := []) F [iv (-6)] (snd_X4_refuse (M := M) (show Rg (-6) from ⟨by decide, by decide⟩) k) rfl ck_4_61 rfl m0_0 rfl rfl rfl (by decide) (Nat.le_of_ble_eq_true rfl) dX4_row_30 rfl (fun v g' hq => ?_)
    obtain ⟨x, L', rfl, r16, eg, k⟩ := hq
    obtain ⟨z17, ez⟩ : ∃ z : Int × GG, z = (x, L') := ⟨_, rfl⟩
    obtain ⟨rfl, rfl⟩ : x = z17.1 ∧ L' = z17.2 := ⟨by rw [ez], by rw [ez]⟩
    clear ez
    refine J_eq eg ?_
    show J X 33 [(2, iv x2), (0, .ref (xad X (0, 0, 0))), (1, iv v_v)] [iv z17.1] (gs z17.2 4 0 M)
    exact jr_iret (pc := 33) F hQ rfl dX4_row_33 ⟨_, _, rfl, r16, rfl, (Ok_some k)⟩
  have k := Ok_t h5 k
  refine jr_aload_n (pc := 12) F 1 dX4_row_12 rfl rfl ?_
  refine jr_iload_n (pc := 13) F 0 dX4_row_13 rfl rfl ?_
  have k := Ok_bind k
  refine jr_callV (pc := 14) (st := []) F [iv x2] (snd_X4_refuse (M := M) r4 k) rfl ck_4_61 rfl m0_0 rfl rfl rfl (by decide) (Nat.le_of_ble_eq_true rfl) dX4_row_14 rfl (fun v g' hq => ?_)
  obtain ⟨x, L', rfl, r18, eg, k⟩ := hq
  obtain ⟨z19, ez⟩ : ∃ z : Int × GG, z = (x, L') := ⟨_, rfl⟩
  obtain ⟨rfl, rfl⟩ : x = z19.1 ∧ L' = z19.2 := ⟨by rw [ez], by rw [ez]⟩
  clear ez
  refine J_eq eg ?_
  show J X 17 [(2, iv x2), (0, .ref (xad X (0, 0, 0))), (1, iv v_v)] [iv z19.1] (gs z19.2 4 0 M)
  exact jr_iret (pc := 17) F hQ rfl dX4_row_17 ⟨_, _, rfl, r18, rfl, (Ok_some k)⟩
set_option maxHeartbeats 4000000 in
set_option maxRecDepth 100000 in
theorem snd_X4_runs {C0 : GG} {v_weight : Int} {v_what : Int} {M : LT} (rgp_weight : Rg v_weight) (rgp_what : Rg v_what) {Q : (Int × GG) → Prop} (k : Ok (X4_runs C0 v_weight v_what) Q) : MetG SL yX4_runs cX4_runs 8 (some .int) 2 (fun ad => [.ref (ad (0, 0, 0)), iv v_weight, iv v_what]) (gs C0 4 0 M) (fun v g' => ∃ (x : Int) (L' : GG), v = some (iv x) ∧ Rg x ∧ g' = gs L' 4 0 M ∧ Q (x, L')) := by
  refine met_intro SL_ok (by decide +kernel) (fun ad => Nat.le_of_ble_eq_true rfl) (fun X F hQ hR => ?_)
  replace F : FX X cX4_runs RX4 8 (some .int) SL 2 := F
  show J X 0 [(0, .ref (xad X (0, 0, 0))), (1, iv v_weight), (2, iv v_what)] [] (gs C0 4 0 M)
  refine jr_iload_n (pc := 0) F 1 dX4_runs_0 rfl rfl ?_
  refine jr_iconst (pc := 1) F dX4_runs_1 ?_
  refine jr_bipush (pc := 2) F dX4_runs_2 (by decide) ?_
  refine jr_callS (pc := 4) (st := []) F [iv v_weight, iv 1, iv 60] (snd_X4_outside (g0 := gs C0 4 0 M) rgp_weight (show Rg 1 from ⟨by decide, by decide⟩) (show Rg 60 from ⟨by decide, by decide⟩) (X4_outside_ok _ _ _ )) rfl ck_4_57 rfl rfl (by decide) (Nat.le_of_ble_eq_true rfl) dX4_runs_4 rfl (fun v g' hq => ?_)
  obtain ⟨x, rfl, r1, eg, hx⟩ := hq
  subst hx
  refine J_eq eg ?_
  show J X 7 [(0, .ref (xad X (0, 0, 0))), (1, iv v_weight), (2, iv v_what)] [iv (X4_outside_v v_weight 1 60)] (gs C0 4 0 M)
  obtain ⟨x2, e3, k⟩ := Ok_let k
  have r4 : Rg x2 := rg_of e3 r1
  refine jr_top e3 ?_
  refine jr_istore_n (pc := 7) F [(3, iv x2), (0, .ref (xad X (0, 0, 0))), (1, iv v_weight), (2, iv v_what)] dX4_runs_7 rfl (by decide) rfl ?_
  refine jr_iload_n (pc := 8) F 0 dX4_runs_8 rfl rfl ?_
  refine jr_if_eq (pc := 9) (tgt := 18) F r4 dX4_runs_9 (by decide) (fun h5 => ?_) (fun h5 => ?_)
  · have k := Ok_f (fun q => q h5) k
    refine jr_iload_n (pc := 18) F 3 dX4_runs_18 rfl rfl ?_
    refine jr_callS (pc := 19) (st := []) F [iv v_what] (snd_X4_neither (g0 := gs C0 4 0 M) rgp_what (X4_neither_ok _ )) rfl ck_4_153 rfl rfl (by decide) (Nat.le_of_ble_eq_true rfl) dX4_runs_19 rfl (fun v g' hq => ?_)
    obtain ⟨x, rfl, r6, eg, hx⟩ := hq
    subst hx
    refine J_eq eg ?_
    show J X 22 [(3, iv x2), (0, .ref (xad X (0, 0, 0))), (1, iv v_weight), (2, iv v_what)] [iv (X4_neither_v v_what)] (gs C0 4 0 M)
    refine jr_if_eq (pc := 22) (tgt := 32) F (rg_z r6) dX4_runs_22 (by decide) (fun h7 => ?_) (fun h7 => ?_)
    · have k := Ok_f (fun q => q h7) k
      refine jr_iconst (pc := 32) F dX4_runs_32 ?_
      refine jr_istore (pc := 33) F [(4, iv 0), (3, iv x2), (0, .ref (xad X (0, 0, 0))), (1, iv v_weight), (2, iv v_what)] dX4_runs_33 (by decide) rfl ?_
      refine jr_bipush (pc := 35) F dX4_runs_35 (by decide) ?_
      refine jr_istore (pc := 37) F [(5, iv (-9)), (4, iv 0), (3, iv x2), (0, .ref (xad X (0, 0, 0))), (1, iv v_weight), (2, iv v_what)] dX4_runs_37 (by decide) rfl ?_
      refine jr_iconst (pc := 39) F dX4_runs_39 ?_
      refine jr_istore (pc := 40) F [(6, iv 0), (5, iv (-9)), (4, iv 0), (3, iv x2), (0, .ref (xad X (0, 0, 0))), (1, iv v_weight), (2, iv v_what)] dX4_runs_40 (by decide) rfl ?_
      refine jr_iconst (pc := 42) F dX4_runs_42 ?_
      refine jr_istore (pc := 43) F [(7, iv 0), (6, iv 0), (5, iv (-9)), (4, iv 0), (3, iv x2), (0, .ref (xad X (0, 0, 0))), (1, iv v_weight), (2, iv v_what)] dX4_runs_43 (by decide) rfl ?_
      refine jr_sub F [5, 6, 7, 4, 3, 2, 1, 0] [(0, .ref (xad X (0, 0, 0))), (1, iv v_weight), (2, iv v_what), (3, iv x2), (4, iv 0), (5, iv (-9)), (6, iv 0), (7, iv 0)] rfl ?_
      refine lpj (P := fun s : Int × Int × Int × Int => Rg (s.1) → Rg (s.2.1) → Rg (s.2.2.1) → Rg (s.2.2.2) → J X 45 [(0, .ref (xad X (0, 0, 0))), (1, iv v_weight), (2, iv v_what), (3, iv x2), (4, iv s.1), (5, iv s.2.1), (6, iv s.2.2.1), (7, iv s.2.2.2)] [] (gs C0 4 0 M)) (PE := fun r : Int × Int × Int × Int => Rg (r.1) → Rg (r.2.1) → Rg (r.2.2.1) → Rg (r.2.2.2) → J X 106 [(0, .ref (xad X (0, 0, 0))), (1, iv v_weight), (2, iv v_what), (3, iv x2), (4, iv r.1), (5, iv r.2.1), (6, iv r.2.2.1), (7, iv r.2.2.2)] [] (gs C0 4 0 M)) k (fun s8 Q9 k hC10 hE11 r13 r14 r15 r16 => ?_) (fun z12 k => ?_) (fun h => h (show Rg 0 from ⟨by decide, by decide⟩) (show Rg (-9) from ⟨by decide, by decide⟩) (show Rg 0 from ⟨by decide, by decide⟩) (show Rg 0 from ⟨by decide, by decide⟩))
      · refine jr_iload (pc := 45) F 7 dX4_runs_45 rfl ?_
        refine jr_aload_n (pc := 47) F 0 dX4_runs_47 rfl rfl ?_
        refine jr_getR (pc := 48) (b := (1, 0, 0)) F f_4_12 m0_0 rfl dX4_runs_48 ?_
        refine jr_getI (pc := 51) F (C0 1 0 0 0) f_4_156 (mL_0 h11_0) rfl rfl dX4_runs_51 (fun r17 => ?_)
        refine jr_icmp_ge (pc := 54) (tgt := 106) F r16 r17 dX4_runs_54 (by decide) (fun h18 => ?_) (fun h18 => ?_)
        · have k := Ok_f (ng_lt h18) k
          exact hE11 (s8.1, s8.2.1, s8.2.2.1, s8.2.2.2) (Ok_some k) r13 r14 r15 r16
        have k := Ok_t h18 k
        obtain ⟨c19, k⟩ := Ok_grd k
        refine jifP (P := fun v => Rg v → J X 78 [(0, .ref (xad X (0, 0, 0))), (1, iv v_weight), (2, iv v_what), (3, iv x2), (4, iv s8.1), (5, iv s8.2.1), (6, iv s8.2.2.1), (7, iv s8.2.2.2)] (iv v :: []) (gs C0 4 0 M)) (c := ¬ (X2_bears_v (C0 1 0) s8.2.2.2 v_weight) = 0) (w32 (s8.2.2.1 + 1)) (0) (fun Ht Hf => ?_) (fun r22 => ?_)
        · refine jr_aload_n (pc := 57) F 0 dX4_runs_57 rfl rfl ?_
          refine jr_getR (pc := 58) (b := (1, 0, 0)) F f_4_12 m0_0 rfl dX4_runs_58 ?_
          refine jr_iload (pc := 61) F 7 dX4_runs_61 rfl ?_
          refine jr_iload_n (pc := 63) F 1 dX4_runs_63 rfl rfl ?_
          refine jr_callV (pc := 64) (st := []) F [iv s8.2.2.2, iv v_weight] (snd_X2_bears h11_0 (g0 := gs C0 4 0 M) r16 rgp_weight (X2_bears_ok _ _ _ c19)) (gs_in C0 M 1 0 (by decide)) ck_4_196 rfl (mL_0 h11_0) rfl rfl rfl (by decide) (Nat.le_of_ble_eq_true rfl) dX4_runs_64 rfl (fun v g' hq => ?_)
          obtain ⟨x, rfl, r20, eg, hx⟩ := hq
          subst hx
          refine J_eq eg ?_
          refine J_eq (gs_in C0 M 1 0 (by decide)).symm ?_
          show J X 67 [(0, .ref (xad X (0, 0, 0))), (1, iv v_weight), (2, iv v_what), (3, iv x2), (4, iv s8.1), (5, iv s8.2.1), (6, iv s8.2.2.1), (7, iv s8.2.2.2)] [iv (X2_bears_v (C0 1 0) s8.2.2.2 v_weight)] (gs C0 4 0 M)
          refine jr_if_eq (pc := 67) (tgt := 77) F (rg_z r20) dX4_runs_67 (by decide) (fun h21 => ?_) (fun h21 => ?_)
          · refine jr_iconst (pc := 77) F dX4_runs_77 ?_
            exact Hf (fun q => q h21) (show Rg 0 from ⟨by decide, by decide⟩)
          refine jr_iload (pc := 70) F 6 dX4_runs_70 rfl ?_
          refine jr_iconst (pc := 72) F dX4_runs_72 ?_
          refine jr_iadd (pc := 73) F dX4_runs_73 ?_
          refine jr_goto (pc := 74) (tgt := 78) F dX4_runs_74 (by decide) ?_
          exact Ht h21 (rg_w _)
        obtain ⟨x23, e24, k⟩ := Ok_let k
        have r25 : Rg x23 := rg_of e24 r22
        refine jr_top e24 ?_
        refine jr_istore (pc := 78) F [(6, iv x23), (0, .ref (xad X (0, 0, 0))), (1, iv v_weight), (2, iv v_what), (3, iv x2), (4, iv s8.1), (5, iv s8.2.1), (7, iv s8.2.2.2)] dX4_runs_78 (by decide) rfl ?_
        refine jr_iload (pc := 80) F 0 dX4_runs_80 rfl ?_
        refine jr_iload (pc := 82) F 5 dX4_runs_82 rfl ?_
        refine jr_icmp_le (pc := 84) (tgt := 100) F r25 r13 dX4_runs_84 (by decide) (fun h26 => ?_) (fun h26 => ?_)
        · have k := Ok_f (ng_lt h26) k
          refine jr_iinc (pc := 100) F [(7, iv (w32 (s8.2.2.2 + 1))), (6, iv x23), (0, .ref (xad X (0, 0, 0))), (1, iv v_weight), (2, iv v_what), (3, iv x2), (4, iv s8.1), (5, iv s8.2.1)] 7 dX4_runs_100 rfl (by decide) rfl ?_
          refine jr_goto (pc := 103) (tgt := 45) F dX4_runs_103 (by decide) ?_
          refine jr_sub F [2, 3, 4, 5, 6, 7, 1, 0] [(0, .ref (xad X (0, 0, 0))), (1, iv v_weight), (2, iv v_what), (3, iv x2), (4, iv s8.1), (5, iv s8.2.1), (6, iv x23), (7, iv (w32 (s8.2.2.2 + 1)))] rfl ?_
          exact hC10 (s8.1, s8.2.1, x23, w32 (s8.2.2.2 + 1)) (Ok_some k) r13 r14 r25 (rg_w _)
        have k := Ok_t h26 k
        refine jr_iload (pc := 87) F 0 dX4_runs_87 rfl ?_
        refine jr_istore (pc := 89) F [(4, iv x23), (6, iv x23), (0, .ref (xad X (0, 0, 0))), (1, iv v_weight), (2, iv v_what), (3, iv x2), (5, iv s8.2.1), (7, iv s8.2.2.2)] dX4_runs_89 (by decide) rfl ?_
        refine jr_iload (pc := 91) F 7 dX4_runs_91 rfl ?_
        refine jr_iconst (pc := 93) F dX4_runs_93 ?_
        refine jr_iadd (pc := 94) F dX4_runs_94 ?_
        refine jr_iload (pc := 95) F 1 dX4_runs_95 rfl ?_
        refine jr_isub (pc := 97) F dX4_runs_97 ?_
        obtain ⟨x27, e28, k⟩ := Ok_let k
        have r29 : Rg x27 := rg_of e28 (rg_w _)
        refine jr_top e28 ?_
        refine jr_istore (pc := 98) F [(5, iv x27), (4, iv x23), (6, iv x23), (0, .ref (xad X (0, 0, 0))), (1, iv v_weight), (2, iv v_what), (3, iv x2), (7, iv s8.2.2.2)] dX4_runs_98 (by decide) rfl ?_
        refine jr_iinc (pc := 100) F [(7, iv (w32 (s8.2.2.2 + 1))), (5, iv x27), (4, iv x23), (6, iv x23), (0, .ref (xad X (0, 0, 0))), (1, iv v_weight), (2, iv v_what), (3, iv x2)] 7 dX4_runs_100 rfl (by decide) rfl ?_
        refine jr_goto (pc := 103) (tgt := 45) F dX4_runs_103 (by decide) ?_
        refine jr_sub F [4, 5, 6, 7, 2, 1, 3, 0] [(0, .ref (xad X (0, 0, 0))), (1, iv v_weight), (2, iv v_what), (3, iv x2), (4, iv x23), (5, iv x27), (6, iv x23), (7, iv (w32 (s8.2.2.2 + 1)))] rfl ?_
        exact hC10 (x23, x27, x23, w32 (s8.2.2.2 + 1)) (Ok_some k) r25 r29 r25 (rg_w _)
      intro r30 r31 r32 r33
      refine jifP (P := fun v => Rg v → J X 117 [(0, .ref (xad X (0, 0, 0))), (1, iv v_weight), (2, iv v_what), (3, iv x2), (4, iv z12.1), (5, iv z12.2.1), (6, iv z12.2.2.1), (7, iv z12.2.2.2)] (iv v :: []) (gs C0 4 0 M)) (c := v_what = 0) (z12.1) (z12.2.1) (fun Ht Hf => ?_) (fun r35 => ?_)
      · refine jr_iload_n (pc := 106) F 2 dX4_runs_106 rfl rfl ?_
        refine jr_if_ne (pc := 107) (tgt := 115) F rgp_what dX4_runs_107 (by decide) (fun h34 => ?_) (fun h34 => ?_)
        · refine jr_iload (pc := 115) F 5 dX4_runs_115 rfl ?_
          exact Hf h34 r31
        refine jr_iload (pc := 110) F 4 dX4_runs_110 rfl ?_
        refine jr_goto (pc := 112) (tgt := 117) F dX4_runs_112 (by decide) ?_
        exact Ht h34 r30
      exact jr_iret (pc := 117) F hQ rfl dX4_runs_117 ⟨_, _, rfl, r35, rfl, (Ok_some k)⟩
    have k := Ok_t h7 k
    refine jr_aload_n (pc := 25) F 1 dX4_runs_25 rfl rfl ?_
    refine jr_bipush (pc := 26) F dX4_runs_26 (by decide) ?_
    have k := Ok_bind k
    refine jr_callV (pc := 28) (st := []) F [iv (-2)] (snd_X4_refuse (M := M) (show Rg (-2) from ⟨by decide, by decide⟩) k) rfl ck_4_61 rfl m0_0 rfl rfl rfl (by decide) (Nat.le_of_ble_eq_true rfl) dX4_runs_28 rfl (fun v g' hq => ?_)
    obtain ⟨x, L', rfl, r36, eg, k⟩ := hq
    obtain ⟨z37, ez⟩ : ∃ z : Int × GG, z = (x, L') := ⟨_, rfl⟩
    obtain ⟨rfl, rfl⟩ : x = z37.1 ∧ L' = z37.2 := ⟨by rw [ez], by rw [ez]⟩
    clear ez
    refine J_eq eg ?_
    show J X 31 [(3, iv x2), (0, .ref (xad X (0, 0, 0))), (1, iv v_weight), (2, iv v_what)] [iv z37.1] (gs z37.2 4 0 M)
    exact jr_iret (pc := 31) F hQ rfl dX4_runs_31 ⟨_, _, rfl, r36, rfl, (Ok_some k)⟩
  have k := Ok_t h5 k
  refine jr_aload_n (pc := 12) F 1 dX4_runs_12 rfl rfl ?_
  refine jr_iload_n (pc := 13) F 0 dX4_runs_13 rfl rfl ?_
  have k := Ok_bind k
  refine jr_callV (pc := 14) (st := []) F [iv x2] (snd_X4_refuse (M := M) r4 k) rfl ck_4_61 rfl m0_0 rfl rfl rfl (by decide) (Nat.le_of_ble_eq_true rfl) dX4_runs_14 rfl (fun v g' hq => ?_)
  obtain ⟨x, L', rfl, r38, eg, k⟩ := hq
  obtain ⟨z39, ez⟩ : ∃ z : Int × GG, z = (x, L') := ⟨_, rfl⟩
  obtain ⟨rfl, rfl⟩ : x = z39.1 ∧ L' = z39.2 := ⟨by rw [ez], by rw [ez]⟩
  clear ez
  refine J_eq eg ?_
  show J X 17 [(3, iv x2), (0, .ref (xad X (0, 0, 0))), (1, iv v_weight), (2, iv v_what)] [iv z39.1] (gs z39.2 4 0 M)
  exact jr_iret (pc := 17) F hQ rfl dX4_runs_17 ⟨_, _, rfl, r38, rfl, (Ok_some k)⟩
set_option maxHeartbeats 4000000 in
set_option maxRecDepth 100000 in
theorem snd_X4_said {C0 : GG} {M : LT}  {Q : (Int) → Prop} (k : Ok (X4_said C0) Q) : MetG SL yX4_said cX4_said 3 (some .int) 1 (fun ad => [.ref (ad (0, 0, 0))]) (gs C0 4 0 M) (fun v g' => ∃ x : Int, v = some (iv x) ∧ Rg x ∧ g' = gs C0 4 0 M ∧ Q x) := by
  refine met_intro SL_ok (by decide +kernel) (fun ad => Nat.le_of_ble_eq_true rfl) (fun X F hQ hR => ?_)
  replace F : FX X cX4_said RX4 3 (some .int) SL 1 := F
  show J X 0 [(0, .ref (xad X (0, 0, 0)))] [] (gs C0 4 0 M)
  refine jr_iconst (pc := 0) F dX4_said_0 ?_
  refine jr_istore_n (pc := 1) F [(1, iv 0), (0, .ref (xad X (0, 0, 0)))] dX4_said_1 rfl (by decide) rfl ?_
  refine jr_iconst (pc := 2) F dX4_said_2 ?_
  refine jr_istore_n (pc := 3) F [(2, iv 0), (1, iv 0), (0, .ref (xad X (0, 0, 0)))] dX4_said_3 rfl (by decide) rfl ?_
  refine jr_sub F [2, 1, 0] [(0, .ref (xad X (0, 0, 0))), (1, iv 0), (2, iv 0)] rfl ?_
  refine lpj (P := fun s : Int × Int => Rg (s.1) → Rg (s.2) → J X 4 [(0, .ref (xad X (0, 0, 0))), (1, iv s.1), (2, iv s.2)] [] (gs C0 4 0 M)) (PE := fun r : Int × Int => Rg (r.1) → Rg (r.2) → J X 30 [(0, .ref (xad X (0, 0, 0))), (1, iv r.1), (2, iv r.2)] [] (gs C0 4 0 M)) k (fun s1 Q2 k hC3 hE4 r6 r7 => ?_) (fun z5 k => ?_) (fun h => h (show Rg 0 from ⟨by decide, by decide⟩) (show Rg 0 from ⟨by decide, by decide⟩))
  · refine jr_iload_n (pc := 4) F 2 dX4_said_4 rfl rfl ?_
    refine jr_bipush (pc := 5) F dX4_said_5 (by decide) ?_
    refine jr_icmp_gt (pc := 7) (tgt := 30) F r7 (show Rg 9 from ⟨by decide, by decide⟩) dX4_said_7 (by decide) (fun h8 => ?_) (fun h8 => ?_)
    · have k := Ok_f (ng_le h8) k
      exact hE4 (s1.1, s1.2) (Ok_some k) r6 r7
    have k := Ok_t h8 k
    refine jr_aload_n (pc := 10) F 0 dX4_said_10 rfl rfl ?_
    refine jr_iload_n (pc := 11) F 2 dX4_said_11 rfl rfl ?_
    have k := Ok_bind k
    refine jr_callV (pc := 12) (st := []) F [iv s1.2] (snd_X4_canBeSaid (M := M) r7 k) rfl ck_4_278 rfl m0_0 rfl rfl rfl (by decide) (Nat.le_of_ble_eq_true rfl) dX4_said_12 rfl (fun v g' hq => ?_)
    obtain ⟨z10, rfl, r9, eg, k⟩ := hq
    refine J_eq eg ?_
    show J X 15 [(0, .ref (xad X (0, 0, 0))), (1, iv s1.1), (2, iv s1.2)] [iv z10] (gs C0 4 0 M)
    refine jr_if_eq (pc := 15) (tgt := 24) F (rg_z r9) dX4_said_15 (by decide) (fun h11 => ?_) (fun h11 => ?_)
    · have k := Ok_f (fun q => q h11) k
      refine jr_iinc (pc := 24) F [(2, iv (w32 (s1.2 + 1))), (0, .ref (xad X (0, 0, 0))), (1, iv s1.1)] 2 dX4_said_24 rfl (by decide) rfl ?_
      refine jr_goto (pc := 27) (tgt := 4) F dX4_said_27 (by decide) ?_
      refine jr_sub F [1, 2, 0] [(0, .ref (xad X (0, 0, 0))), (1, iv s1.1), (2, iv (w32 (s1.2 + 1)))] rfl ?_
      exact hC3 (s1.1, w32 (s1.2 + 1)) (Ok_some k) r6 (rg_w _)
    have k := Ok_t h11 k
    refine jr_iload_n (pc := 18) F 1 dX4_said_18 rfl rfl ?_
    refine jr_iconst (pc := 19) F dX4_said_19 ?_
    refine jr_iload_n (pc := 20) F 2 dX4_said_20 rfl rfl ?_
    refine jr_ishl (pc := 21) F dX4_said_21 ?_
    refine jr_ior (pc := 22) F dX4_said_22 ?_
    obtain ⟨x12, e13, k⟩ := Ok_let k
    have r14 : Rg x12 := rg_of e13 (rg_or _ _)
    refine jr_top e13 ?_
    refine jr_istore_n (pc := 23) F [(1, iv x12), (0, .ref (xad X (0, 0, 0))), (2, iv s1.2)] dX4_said_23 rfl (by decide) rfl ?_
    refine jr_iinc (pc := 24) F [(2, iv (w32 (s1.2 + 1))), (1, iv x12), (0, .ref (xad X (0, 0, 0)))] 2 dX4_said_24 rfl (by decide) rfl ?_
    refine jr_goto (pc := 27) (tgt := 4) F dX4_said_27 (by decide) ?_
    refine jr_sub F [2, 1, 0] [(0, .ref (xad X (0, 0, 0))), (1, iv x12), (2, iv (w32 (s1.2 + 1)))] rfl ?_
    exact hC3 (x12, w32 (s1.2 + 1)) (Ok_some k) r14 (rg_w _)
  intro r15 r16
  refine jr_iload_n (pc := 30) F 1 dX4_said_30 rfl rfl ?_
  exact jr_iret (pc := 31) F hQ rfl dX4_said_31 ⟨_, rfl, r15, rfl, (Ok_some k)⟩
set_option maxHeartbeats 4000000 in
set_option maxRecDepth 100000 in
theorem snd_X4_stands {C0 : GG} {v_train : Int} {M : LT} (rgp_train : Rg v_train) {Q : (Int × GG) → Prop} (k : Ok (X4_stands C0 v_train) Q) : MetG SL yX4_stands cX4_stands 6 (some .int) 3 (fun ad => [.ref (ad (0, 0, 0)), iv v_train]) (gs C0 4 0 M) (fun v g' => ∃ (x : Int) (L' : GG), v = some (iv x) ∧ Rg x ∧ g' = gs L' 4 0 M ∧ Q (x, L')) := by
  refine met_intro SL_ok (by decide +kernel) (fun ad => Nat.le_of_ble_eq_true rfl) (fun X F hQ hR => ?_)
  replace F : FX X cX4_stands RX4 6 (some .int) SL 3 := F
  show J X 0 [(0, .ref (xad X (0, 0, 0))), (1, iv v_train)] [] (gs C0 4 0 M)
  refine jr_aload_n (pc := 0) F 0 dX4_stands_0 rfl rfl ?_
  refine jr_iload_n (pc := 1) F 1 dX4_stands_1 rfl rfl ?_
  refine jr_callV (pc := 2) (st := []) F [iv v_train] (snd_X4_noTrain (M := M) rgp_train (X4_noTrain_ok _ _ )) rfl ck_4_162 rfl m0_0 rfl rfl rfl (by decide) (Nat.le_of_ble_eq_true rfl) dX4_stands_2 rfl (fun v g' hq => ?_)
  obtain ⟨x, rfl, r1, eg, hx⟩ := hq
  subst hx
  refine J_eq eg ?_
  show J X 5 [(0, .ref (xad X (0, 0, 0))), (1, iv v_train)] [iv (X4_noTrain_v C0 v_train)] (gs C0 4 0 M)
  refine jr_if_eq (pc := 5) (tgt := 14) F (rg_z r1) dX4_stands_5 (by decide) (fun h2 => ?_) (fun h2 => ?_)
  · have k := Ok_f (fun q => q h2) k
    refine jr_aload_n (pc := 14) F 0 dX4_stands_14 rfl rfl ?_
    refine jr_getR (pc := 15) (b := (1, 1, 0)) F f_4_16 m0_0 rfl dX4_stands_15 ?_
    refine jr_aload_n (pc := 18) F 0 dX4_stands_18 rfl rfl ?_
    refine jr_getR (pc := 19) (b := (1, 0, 0)) F f_4_12 m0_0 rfl dX4_stands_19 ?_
    have k := Ok_bind k
    refine jr_callV (pc := 22) (st := []) F [.ref (xad X (1, 0, 0))] (snd_X2_become h11_1 (g0 := gs C0 4 0 M) h11_0 (by decide) rfl  k) (gs_in C0 M 1 1 (by decide)) ck_4_79 rfl (mL_0 h11_1) rfl rfl rfl (by decide) (Nat.le_of_ble_eq_true rfl) dX4_stands_22 rfl (fun v g' hq => ?_)
    obtain ⟨z4, rfl, eg, k⟩ := hq
    rw [gs_comm (by decide)] at eg
    obtain ⟨C5, e6, k⟩ := Ok_let k
    rw [← e6] at eg
    refine J_eq eg ?_
    show J X 25 [(0, .ref (xad X (0, 0, 0))), (1, iv v_train)] [] (gs C5 4 0 M)
    refine jr_aload_n (pc := 25) F 0 dX4_stands_25 rfl rfl ?_
    refine jr_getR (pc := 26) (b := (1, 1, 0)) F f_4_16 m0_0 rfl dX4_stands_26 ?_
    have k := Ok_bind k
    refine jr_callV (pc := 29) (st := []) F [] (snd_X2_feelWeather h11_1 (g0 := gs C5 4 0 M)  k) (gs_in C5 M 1 1 (by decide)) ck_4_199 rfl (mL_0 h11_1) rfl rfl rfl (by decide) (Nat.le_of_ble_eq_true rfl) dX4_stands_29 rfl (fun v g' hq => ?_)
    obtain ⟨z8, rfl, eg, k⟩ := hq
    rw [gs_comm (by decide)] at eg
    obtain ⟨C9, e10, k⟩ := Ok_let k
    rw [← e10] at eg
    refine J_eq eg ?_
    show J X 32 [(0, .ref (xad X (0, 0, 0))), (1, iv v_train)] [] (gs C9 4 0 M)
    refine jr_iconst (pc := 32) F dX4_stands_32 ?_
    refine jr_istore_n (pc := 33) F [(2, iv 0), (0, .ref (xad X (0, 0, 0))), (1, iv v_train)] dX4_stands_33 rfl (by decide) rfl ?_
    refine jr_iconst (pc := 34) F dX4_stands_34 ?_
    refine jr_istore_n (pc := 35) F [(3, iv 0), (2, iv 0), (0, .ref (xad X (0, 0, 0))), (1, iv v_train)] dX4_stands_35 rfl (by decide) rfl ?_
    refine jr_sub F [2, 3, 1, 0] [(0, .ref (xad X (0, 0, 0))), (1, iv v_train), (2, iv 0), (3, iv 0)] rfl ?_
    refine lpj (P := fun s : Int × Int × GG => Rg (s.1) → Rg (s.2.1) → J X 36 [(0, .ref (xad X (0, 0, 0))), (1, iv v_train), (2, iv s.1), (3, iv s.2.1)] [] (gs s.2.2 4 0 M)) (PE := fun r : Int × Int × GG => Rg (r.1) → Rg (r.2.1) → J X 132 [(0, .ref (xad X (0, 0, 0))), (1, iv v_train), (2, iv r.1), (3, iv r.2.1)] [] (gs r.2.2 4 0 M)) k (fun s11 Q12 k hC13 hE14 r16 r17 => ?_) (fun z15 k => ?_) (fun h => h (show Rg 0 from ⟨by decide, by decide⟩) (show Rg 0 from ⟨by decide, by decide⟩))
    · obtain ⟨c18, k⟩ := Ok_grd k
      refine cnd (c := (s11.2.1 < 72) ∧ ((s11.2.2 1 1 14 v_train) = 0)) (GT := J X 54 [(0, .ref (xad X (0, 0, 0))), (1, iv v_train), (2, iv s11.1), (3, iv s11.2.1)] [] (gs s11.2.2 4 0 M)) (GF := J X 132 [(0, .ref (xad X (0, 0, 0))), (1, iv v_train), (2, iv s11.1), (3, iv s11.2.1)] [] (gs s11.2.2 4 0 M)) k (fun HT HF => ?_) (fun h22 k => ?_) (fun h22 k => ?_)
      · refine jr_iload_n (pc := 36) F 3 dX4_stands_36 rfl rfl ?_
        refine jr_bipush (pc := 37) F dX4_stands_37 (by decide) ?_
        refine jr_icmp_ge (pc := 39) (tgt := 132) F r17 (show Rg 72 from ⟨by decide, by decide⟩) dX4_stands_39 (by decide) (fun h19 => ?_) (fun h19 => ?_)
        · exact HF (fun q => (ng_lt h19) q.1)
        refine jr_aload_n (pc := 42) F 0 dX4_stands_42 rfl rfl ?_
        refine jr_getR (pc := 43) (b := (1, 1, 0)) F f_4_16 m0_0 rfl dX4_stands_43 ?_
        refine jr_getR (pc := 46) (b := (1, 1, 14)) F f_4_180 (mL_0 h11_1) rfl dX4_stands_46 ?_
        refine jr_iload_n (pc := 49) F 1 dX4_stands_49 rfl rfl ?_
        refine jr_iald (pc := 50) F (s11.2.2 1 1 14 v_train) (mL_14 h11_1) (by decide) (c18 h19) rfl dX4_stands_50 (fun r20 => ?_)
        refine jr_if_ne (pc := 51) (tgt := 132) F r20 dX4_stands_51 (by decide) (fun h21 => ?_) (fun h21 => ?_)
        · exact HF (fun q => h21 q.2)
        exact HT ⟨h19, h21⟩
      · obtain ⟨c23, k⟩ := Ok_grd k
        refine jifP (P := fun v => Bz v → J X 71 [(0, .ref (xad X (0, 0, 0))), (1, iv v_train), (2, iv s11.1), (3, iv s11.2.1)] (iv v :: []) (gs s11.2.2 4 0 M)) (c := 0 < (s11.2.2 1 1 13 v_train)) (1) (0) (fun Ht Hf => ?_) (fun r26 => ?_)
        · refine jr_aload_n (pc := 54) F 0 dX4_stands_54 rfl rfl ?_
          refine jr_getR (pc := 55) (b := (1, 1, 0)) F f_4_16 m0_0 rfl dX4_stands_55 ?_
          refine jr_getR (pc := 58) (b := (1, 1, 13)) F f_4_177 (mL_0 h11_1) rfl dX4_stands_58 ?_
          refine jr_iload_n (pc := 61) F 1 dX4_stands_61 rfl rfl ?_
          refine jr_iald (pc := 62) F (s11.2.2 1 1 13 v_train) (mL_13 h11_1) (by decide) c23 rfl dX4_stands_62 (fun r24 => ?_)
          refine jr_if_le (pc := 63) (tgt := 70) F r24 dX4_stands_63 (by decide) (fun h25 => ?_) (fun h25 => ?_)
          · refine jr_iconst (pc := 70) F dX4_stands_70 ?_
            exact Hf (ng_lt h25) (Or.inl rfl)
          refine jr_iconst (pc := 66) F dX4_stands_66 ?_
          refine jr_goto (pc := 67) (tgt := 71) F dX4_stands_67 (by decide) ?_
          exact Ht h25 (Or.inr rfl)
        obtain ⟨x27, e28, k⟩ := Ok_let k
        have r29 : Bz x27 := bz_of e28 r26
        refine jr_top e28 ?_
        refine jr_istore (pc := 71) F [(4, iv x27), (0, .ref (xad X (0, 0, 0))), (1, iv v_train), (2, iv s11.1), (3, iv s11.2.1)] dX4_stands_71 (by decide) rfl ?_
        refine jr_aload_n (pc := 73) F 1 dX4_stands_73 rfl rfl ?_
        refine jr_getR (pc := 74) (b := (1, 1, 0)) F f_4_16 m0_0 rfl dX4_stands_74 ?_
        refine jr_getR (pc := 77) (b := (1, 1, 12)) F f_4_174 (mL_0 h11_1) rfl dX4_stands_77 ?_
        refine jr_iload_n (pc := 80) F 2 dX4_stands_80 rfl rfl ?_
        refine jr_iald (pc := 81) F (s11.2.2 1 1 12 v_train) (mL_12 h11_1) (by decide) c23 rfl dX4_stands_81 (fun r30 => ?_)
        obtain ⟨x31, e32, k⟩ := Ok_let k
        have r33 : Rg x31 := rg_of e32 r30
        refine jr_top e32 ?_
        refine jr_istore (pc := 82) F [(5, iv x31), (4, iv x27), (0, .ref (xad X (0, 0, 0))), (1, iv v_train), (2, iv s11.1), (3, iv s11.2.1)] dX4_stands_82 (by decide) rfl ?_
        refine jr_aload_n (pc := 84) F 2 dX4_stands_84 rfl rfl ?_
        refine jr_getR (pc := 85) (b := (1, 1, 0)) F f_4_16 m0_0 rfl dX4_stands_85 ?_
        have k := Ok_bind k
        refine jr_callV (pc := 88) (st := []) F [] (snd_X2_passHour h11_1 (g0 := gs s11.2.2 4 0 M)  k) (gs_in s11.2.2 M 1 1 (by decide)) ck_4_202 rfl (mL_0 h11_1) rfl rfl rfl (by decide) (Nat.le_of_ble_eq_true rfl) dX4_stands_88 rfl (fun v g' hq => ?_)
        obtain ⟨z35, rfl, eg, k⟩ := hq
        rw [gs_comm (by decide)] at eg
        obtain ⟨C36, e37, k⟩ := Ok_let k
        rw [← e37] at eg
        refine J_eq eg ?_
        show J X 91 [(5, iv x31), (4, iv x27), (0, .ref (xad X (0, 0, 0))), (1, iv v_train), (2, iv s11.1), (3, iv s11.2.1)] [] (gs C36 4 0 M)
        refine cnd (c := ((x27 = 0) ∧ (¬ (C36 1 1 14 v_train) = 1)) ∧ ((C36 1 1 12 v_train) = x31)) (GT := J X 123 [(5, iv x31), (4, iv x27), (0, .ref (xad X (0, 0, 0))), (1, iv v_train), (2, iv s11.1), (3, iv s11.2.1)] [] (gs C36 4 0 M)) (GF := J X 126 [(5, iv x31), (4, iv x27), (0, .ref (xad X (0, 0, 0))), (1, iv v_train), (2, iv s11.1), (3, iv s11.2.1)] [] (gs C36 4 0 M)) k (fun HT HF => ?_) (fun h43 k => ?_) (fun h43 k => ?_)
        · refine jr_iload (pc := 91) F 1 dX4_stands_91 rfl ?_
          refine jr_if_ne (pc := 93) (tgt := 126) F (rg_z r29) dX4_stands_93 (by decide) (fun h38 => ?_) (fun h38 => ?_)
          · exact HF (fun q => (fun q => h38 q.1) q.1)
          refine jr_aload_n (pc := 96) F 2 dX4_stands_96 rfl rfl ?_
          refine jr_getR (pc := 97) (b := (1, 1, 0)) F f_4_16 m0_0 rfl dX4_stands_97 ?_
          refine jr_getR (pc := 100) (b := (1, 1, 14)) F f_4_180 (mL_0 h11_1) rfl dX4_stands_100 ?_
          refine jr_iload_n (pc := 103) F 3 dX4_stands_103 rfl rfl ?_
          refine jr_iald (pc := 104) F (C36 1 1 14 v_train) (mL_14 h11_1) (by decide) c23 rfl dX4_stands_104 (fun r39 => ?_)
          refine jr_iconst (pc := 105) F dX4_stands_105 ?_
          refine jr_icmp_eq (pc := 106) (tgt := 126) F r39 (show Rg 1 from ⟨by decide, by decide⟩) dX4_stands_106 (by decide) (fun h40 => ?_) (fun h40 => ?_)
          · exact HF (fun q => (fun q => (fun q => q h40) q.2) q.1)
          refine jr_aload_n (pc := 109) F 2 dX4_stands_109 rfl rfl ?_
          refine jr_getR (pc := 110) (b := (1, 1, 0)) F f_4_16 m0_0 rfl dX4_stands_110 ?_
          refine jr_getR (pc := 113) (b := (1, 1, 12)) F f_4_174 (mL_0 h11_1) rfl dX4_stands_113 ?_
          refine jr_iload_n (pc := 116) F 3 dX4_stands_116 rfl rfl ?_
          refine jr_iald (pc := 117) F (C36 1 1 12 v_train) (mL_12 h11_1) (by decide) c23 rfl dX4_stands_117 (fun r41 => ?_)
          refine jr_iload (pc := 118) F 0 dX4_stands_118 rfl ?_
          refine jr_icmp_ne (pc := 120) (tgt := 126) F r41 r33 dX4_stands_120 (by decide) (fun h42 => ?_) (fun h42 => ?_)
          · exact HF (fun q => h42 q.2)
          exact HT ⟨⟨h38, h40⟩, h42⟩
        · refine jr_iinc (pc := 123) F [(2, iv (w32 (s11.1 + 1))), (5, iv x31), (4, iv x27), (0, .ref (xad X (0, 0, 0))), (1, iv v_train), (3, iv s11.2.1)] 4 dX4_stands_123 rfl (by decide) rfl ?_
          refine jr_iinc (pc := 126) F [(3, iv (w32 (s11.2.1 + 1))), (2, iv (w32 (s11.1 + 1))), (5, iv x31), (4, iv x27), (0, .ref (xad X (0, 0, 0))), (1, iv v_train)] 5 dX4_stands_126 rfl (by decide) rfl ?_
          refine jr_goto (pc := 129) (tgt := 36) F dX4_stands_129 (by decide) ?_
          refine jr_sub F [4, 5, 1, 0] [(0, .ref (xad X (0, 0, 0))), (1, iv v_train), (2, iv (w32 (s11.1 + 1))), (3, iv (w32 (s11.2.1 + 1)))] rfl ?_
          exact hC13 (w32 (s11.1 + 1), w32 (s11.2.1 + 1), C36) (Ok_some k) (rg_w _) (rg_w _)
        refine jr_iinc (pc := 126) F [(3, iv (w32 (s11.2.1 + 1))), (5, iv x31), (4, iv x27), (0, .ref (xad X (0, 0, 0))), (1, iv v_train), (2, iv s11.1)] 5 dX4_stands_126 rfl (by decide) rfl ?_
        refine jr_goto (pc := 129) (tgt := 36) F dX4_stands_129 (by decide) ?_
        refine jr_sub F [3, 4, 5, 0] [(0, .ref (xad X (0, 0, 0))), (1, iv v_train), (2, iv s11.1), (3, iv (w32 (s11.2.1 + 1)))] rfl ?_
        exact hC13 (s11.1, w32 (s11.2.1 + 1), C36) (Ok_some k) r16 (rg_w _)
      exact hE14 (s11.1, s11.2.1, s11.2.2) (Ok_some k) r16 r17
    intro r44 r45
    refine jr_iload_n (pc := 132) F 2 dX4_stands_132 rfl rfl ?_
    exact jr_iret (pc := 133) F hQ rfl dX4_stands_133 ⟨_, _, rfl, r44, rfl, (Ok_some k)⟩
  have k := Ok_t h2 k
  refine jr_aload_n (pc := 8) F 0 dX4_stands_8 rfl rfl ?_
  refine jr_iconst (pc := 9) F dX4_stands_9 ?_
  have k := Ok_bind k
  refine jr_callV (pc := 10) (st := []) F [iv (-1)] (snd_X4_refuse (M := M) (show Rg (-1) from ⟨by decide, by decide⟩) k) rfl ck_4_61 rfl m0_0 rfl rfl rfl (by decide) (Nat.le_of_ble_eq_true rfl) dX4_stands_10 rfl (fun v g' hq => ?_)
  obtain ⟨x, L', rfl, r46, eg, k⟩ := hq
  obtain ⟨z47, ez⟩ : ∃ z : Int × GG, z = (x, L') := ⟨_, rfl⟩
  obtain ⟨rfl, rfl⟩ : x = z47.1 ∧ L' = z47.2 := ⟨by rw [ez], by rw [ez]⟩
  clear ez
  refine J_eq eg ?_
  show J X 13 [(0, .ref (xad X (0, 0, 0))), (1, iv v_train)] [iv z47.1] (gs z47.2 4 0 M)
  exact jr_iret (pc := 13) F hQ rfl dX4_stands_13 ⟨_, _, rfl, r46, rfl, (Ok_some k)⟩
set_option maxHeartbeats 4000000 in
set_option maxRecDepth 100000 in
theorem snd_X4_strongest {C0 : GG} {v_weight : Int} {M : LT} (rgp_weight : Rg v_weight) {Q : (Int × GG) → Prop} (k : Ok (X4_strongest C0 v_weight) Q) : MetG SL yX4_strongest cX4_strongest 4 (some .int) 3 (fun ad => [.ref (ad (0, 0, 0)), iv v_weight]) (gs C0 4 0 M) (fun v g' => ∃ (x : Int) (L' : GG), v = some (iv x) ∧ Rg x ∧ g' = gs L' 4 0 M ∧ Q (x, L')) := by
  refine met_intro SL_ok (by decide +kernel) (fun ad => Nat.le_of_ble_eq_true rfl) (fun X F hQ hR => ?_)
  replace F : FX X cX4_strongest RX4 4 (some .int) SL 3 := F
  show J X 0 [(0, .ref (xad X (0, 0, 0))), (1, iv v_weight)] [] (gs C0 4 0 M)
  refine jr_iload_n (pc := 0) F 1 dX4_strongest_0 rfl rfl ?_
  refine jr_iconst (pc := 1) F dX4_strongest_1 ?_
  refine jr_bipush (pc := 2) F dX4_strongest_2 (by decide) ?_
  refine jr_callS (pc := 4) (st := []) F [iv v_weight, iv 1, iv 60] (snd_X4_outside (g0 := gs C0 4 0 M) rgp_weight (show Rg 1 from ⟨by decide, by decide⟩) (show Rg 60 from ⟨by decide, by decide⟩) (X4_outside_ok _ _ _ )) rfl ck_4_57 rfl rfl (by decide) (Nat.le_of_ble_eq_true rfl) dX4_strongest_4 rfl (fun v g' hq => ?_)
  obtain ⟨x, rfl, r1, eg, hx⟩ := hq
  subst hx
  refine J_eq eg ?_
  show J X 7 [(0, .ref (xad X (0, 0, 0))), (1, iv v_weight)] [iv (X4_outside_v v_weight 1 60)] (gs C0 4 0 M)
  obtain ⟨x2, e3, k⟩ := Ok_let k
  have r4 : Rg x2 := rg_of e3 r1
  refine jr_top e3 ?_
  refine jr_istore_n (pc := 7) F [(2, iv x2), (0, .ref (xad X (0, 0, 0))), (1, iv v_weight)] dX4_strongest_7 rfl (by decide) rfl ?_
  refine jr_iload_n (pc := 8) F 0 dX4_strongest_8 rfl rfl ?_
  refine jr_if_eq (pc := 9) (tgt := 18) F r4 dX4_strongest_9 (by decide) (fun h5 => ?_) (fun h5 => ?_)
  · have k := Ok_f (fun q => q h5) k
    refine jr_aload_n (pc := 18) F 1 dX4_strongest_18 rfl rfl ?_
    refine jr_getR (pc := 19) (b := (1, 1, 0)) F f_4_16 m0_0 rfl dX4_strongest_19 ?_
    refine jr_aload_n (pc := 22) F 1 dX4_strongest_22 rfl rfl ?_
    refine jr_getR (pc := 23) (b := (1, 0, 0)) F f_4_12 m0_0 rfl dX4_strongest_23 ?_
    have k := Ok_bind k
    refine jr_callV (pc := 26) (st := []) F [.ref (xad X (1, 0, 0))] (snd_X2_become h11_1 (g0 := gs C0 4 0 M) h11_0 (by decide) rfl  k) (gs_in C0 M 1 1 (by decide)) ck_4_79 rfl (mL_0 h11_1) rfl rfl rfl (by decide) (Nat.le_of_ble_eq_true rfl) dX4_strongest_26 rfl (fun v g' hq => ?_)
    obtain ⟨z7, rfl, eg, k⟩ := hq
    rw [gs_comm (by decide)] at eg
    obtain ⟨C8, e9, k⟩ := Ok_let k
    rw [← e9] at eg
    refine J_eq eg ?_
    show J X 29 [(2, iv x2), (0, .ref (xad X (0, 0, 0))), (1, iv v_weight)] [] (gs C8 4 0 M)
    refine jr_iconst (pc := 29) F dX4_strongest_29 ?_
    refine jr_istore_n (pc := 30) F [(3, iv 0), (2, iv x2), (0, .ref (xad X (0, 0, 0))), (1, iv v_weight)] dX4_strongest_30 rfl (by decide) rfl ?_
    refine jr_sub F [2, 3, 1, 0] [(0, .ref (xad X (0, 0, 0))), (1, iv v_weight), (2, iv x2), (3, iv 0)] rfl ?_
    refine lpj (P := fun s : Int × GG => Rg (s.1) → J X 31 [(0, .ref (xad X (0, 0, 0))), (1, iv v_weight), (2, iv x2), (3, iv s.1)] [] (gs s.2 4 0 M)) (PE := fun o : ((Int × GG) ⊕ (Int × GG)) => match o with | .inl r => Rg (r.1) → J X 70 [(0, .ref (xad X (0, 0, 0))), (1, iv v_weight), (2, iv x2), (3, iv r.1)] [] (gs r.2 4 0 M) | .inr y => Q (y)) k (fun s10 Q11 k hC12 hE13 r15 => ?_) (fun o k => ?_) (fun h => h (show Rg 0 from ⟨by decide, by decide⟩))
    · refine jr_iload_n (pc := 31) F 3 dX4_strongest_31 rfl rfl ?_
      refine jr_bipush (pc := 32) F dX4_strongest_32 (by decide) ?_
      refine jr_icmp_gt (pc := 34) (tgt := 70) F r15 (show Rg 20 from ⟨by decide, by decide⟩) dX4_strongest_34 (by decide) (fun h16 => ?_) (fun h16 => ?_)
      · have k := Ok_f (ng_le h16) k
        exact hE13 (Sum.inl (s10.1, s10.2)) (Ok_some k) r15
      have k := Ok_t h16 k
      refine jr_aload_n (pc := 37) F 0 dX4_strongest_37 rfl rfl ?_
      refine jr_getR (pc := 38) (b := (1, 1, 0)) F f_4_16 m0_0 rfl dX4_strongest_38 ?_
      refine jr_iload_n (pc := 41) F 1 dX4_strongest_41 rfl rfl ?_
      have k := Ok_bind k
      refine jr_callV (pc := 42) (st := []) F [iv v_weight] (snd_X2_allBear h11_1 (g0 := gs s10.2 4 0 M) rgp_weight k) (gs_in s10.2 M 1 1 (by decide)) ck_4_237 rfl (mL_0 h11_1) rfl rfl rfl (by decide) (Nat.le_of_ble_eq_true rfl) dX4_strongest_42 rfl (fun v g' hq => ?_)
      obtain ⟨z18, rfl, r17, eg, k⟩ := hq
      rw [← (gs_in s10.2 M 1 1 (by decide))] at eg
      refine J_eq eg ?_
      show J X 45 [(0, .ref (xad X (0, 0, 0))), (1, iv v_weight), (2, iv x2), (3, iv s10.1)] [iv z18] (gs s10.2 4 0 M)
      refine jr_if_eq (pc := 45) (tgt := 50) F (rg_z r17) dX4_strongest_45 (by decide) (fun h19 => ?_) (fun h19 => ?_)
      · have k := Ok_f (fun q => q h19) k
        refine jr_aload_n (pc := 50) F 0 dX4_strongest_50 rfl rfl ?_
        refine jr_getR (pc := 51) (b := (1, 1, 0)) F f_4_16 m0_0 rfl dX4_strongest_51 ?_
        refine jr_aload_n (pc := 54) F 0 dX4_strongest_54 rfl rfl ?_
        refine jr_getR (pc := 55) (b := (1, 1, 0)) F f_4_16 m0_0 rfl dX4_strongest_55 ?_
        have k := Ok_bind k
        refine jr_callV (pc := 58) (st := [.ref (xad X (1, 1, 0))]) F [] (snd_X2_weakest h11_1 (g0 := gs s10.2 4 0 M)  k) (gs_in s10.2 M 1 1 (by decide)) ck_4_205 rfl (mL_0 h11_1) rfl rfl rfl (by decide) (Nat.le_of_ble_eq_true rfl) dX4_strongest_58 rfl (fun v g' hq => ?_)
        obtain ⟨z21, rfl, r20, eg, k⟩ := hq
        rw [← (gs_in s10.2 M 1 1 (by decide))] at eg
        refine J_eq eg ?_
        show J X 61 [(0, .ref (xad X (0, 0, 0))), (1, iv v_weight), (2, iv x2), (3, iv s10.1)] [iv z21, .ref (xad X (1, 1, 0))] (gs s10.2 4 0 M)
        have k := Ok_bind k
        refine jr_callV (pc := 61) (st := []) F [iv z21] (snd_X2_pour h11_1 (g0 := gs s10.2 4 0 M) r20 k) (gs_in s10.2 M 1 1 (by decide)) ck_4_226 rfl (mL_0 h11_1) rfl rfl rfl (by decide) (Nat.le_of_ble_eq_true rfl) dX4_strongest_61 rfl (fun v g' hq => ?_)
        obtain ⟨z23, rfl, eg, k⟩ := hq
        rw [gs_comm (by decide)] at eg
        obtain ⟨C24, e25, k⟩ := Ok_let k
        rw [← e25] at eg
        refine J_eq eg ?_
        show J X 64 [(0, .ref (xad X (0, 0, 0))), (1, iv v_weight), (2, iv x2), (3, iv s10.1)] [] (gs C24 4 0 M)
        refine jr_iinc (pc := 64) F [(3, iv (w32 (s10.1 + 1))), (0, .ref (xad X (0, 0, 0))), (1, iv v_weight), (2, iv x2)] 3 dX4_strongest_64 rfl (by decide) rfl ?_
        refine jr_goto (pc := 67) (tgt := 31) F dX4_strongest_67 (by decide) ?_
        refine jr_sub F [1, 2, 3, 0] [(0, .ref (xad X (0, 0, 0))), (1, iv v_weight), (2, iv x2), (3, iv (w32 (s10.1 + 1)))] rfl ?_
        exact hC12 (w32 (s10.1 + 1), C24) (Ok_some k) (rg_w _)
      have k := Ok_t h19 k
      refine jr_iload_n (pc := 48) F 3 dX4_strongest_48 rfl rfl ?_
      exact jr_iret (pc := 49) F hQ rfl dX4_strongest_49 ⟨_, _, rfl, r15, rfl, (hE13 (Sum.inr _) (Ok_some k))⟩
    rcases o with z14 | y
    rotate_left
    · show Q (y)
      exact Ok_some k
    intro r26
    refine jr_bipush (pc := 70) F dX4_strongest_70 (by decide) ?_
    exact jr_iret (pc := 72) F hQ rfl dX4_strongest_72 ⟨_, _, rfl, (show Rg (-9) from ⟨by decide, by decide⟩), rfl, (Ok_some k)⟩
  have k := Ok_t h5 k
  refine jr_aload_n (pc := 12) F 1 dX4_strongest_12 rfl rfl ?_
  refine jr_iload_n (pc := 13) F 0 dX4_strongest_13 rfl rfl ?_
  have k := Ok_bind k
  refine jr_callV (pc := 14) (st := []) F [iv x2] (snd_X4_refuse (M := M) r4 k) rfl ck_4_61 rfl m0_0 rfl rfl rfl (by decide) (Nat.le_of_ble_eq_true rfl) dX4_strongest_14 rfl (fun v g' hq => ?_)
  obtain ⟨x, L', rfl, r27, eg, k⟩ := hq
  obtain ⟨z28, ez⟩ : ∃ z : Int × GG, z = (x, L') := ⟨_, rfl⟩
  obtain ⟨rfl, rfl⟩ : x = z28.1 ∧ L' = z28.2 := ⟨by rw [ez], by rw [ez]⟩
  clear ez
  refine J_eq eg ?_
  show J X 17 [(2, iv x2), (0, .ref (xad X (0, 0, 0))), (1, iv v_weight)] [iv z28.1] (gs z28.2 4 0 M)
  exact jr_iret (pc := 17) F hQ rfl dX4_strongest_17 ⟨_, _, rfl, r27, rfl, (Ok_some k)⟩
set_option maxHeartbeats 4000000 in
set_option maxRecDepth 100000 in
theorem snd_X4_tells {C0 : GG} {M : LT}  {Q : (Int) → Prop} (k : Ok (X4_tells C0) Q) : MetG SL yX4_tells cX4_tells 5 (some .int) 1 (fun ad => [.ref (ad (0, 0, 0))]) (gs C0 4 0 M) (fun v g' => ∃ x : Int, v = some (iv x) ∧ Rg x ∧ g' = gs C0 4 0 M ∧ Q x) := by
  refine met_intro SL_ok (by decide +kernel) (fun ad => Nat.le_of_ble_eq_true rfl) (fun X F hQ hR => ?_)
  replace F : FX X cX4_tells RX4 5 (some .int) SL 1 := F
  show J X 0 [(0, .ref (xad X (0, 0, 0)))] [] (gs C0 4 0 M)
  refine jr_iconst (pc := 0) F dX4_tells_0 ?_
  refine jr_istore_n (pc := 1) F [(1, iv 0), (0, .ref (xad X (0, 0, 0)))] dX4_tells_1 rfl (by decide) rfl ?_
  refine jr_aload_n (pc := 2) F 1 dX4_tells_2 rfl rfl ?_
  refine jr_getR (pc := 3) (b := (1, 0, 0)) F f_4_12 m0_0 rfl dX4_tells_3 ?_
  refine jr_iconst (pc := 6) F dX4_tells_6 ?_
  obtain ⟨c2, k⟩ := Ok_grd k
  refine jr_callV (pc := 7) (st := []) F [iv 0] (snd_X2_besideNeighbours h11_0 (g0 := gs C0 4 0 M) (show Rg 0 from ⟨by decide, by decide⟩) (X2_besideNeighbours_ok _ _ c2)) (gs_in C0 M 1 0 (by decide)) ck_4_281 rfl (mL_0 h11_0) rfl rfl rfl (by decide) (Nat.le_of_ble_eq_true rfl) dX4_tells_7 rfl (fun v g' hq => ?_)
  obtain ⟨x, rfl, r1, eg, hx⟩ := hq
  subst hx
  refine J_eq eg ?_
  refine J_eq (gs_in C0 M 1 0 (by decide)).symm ?_
  show J X 10 [(1, iv 0), (0, .ref (xad X (0, 0, 0)))] [iv (X2_besideNeighbours_v (C0 1 0) 0)] (gs C0 4 0 M)
  obtain ⟨x3, e4, k⟩ := Ok_let k
  have r5 : Rg x3 := rg_of e4 r1
  refine jr_top e4 ?_
  refine jr_istore_n (pc := 10) F [(2, iv x3), (1, iv 0), (0, .ref (xad X (0, 0, 0)))] dX4_tells_10 rfl (by decide) rfl ?_
  refine jr_iconst (pc := 11) F dX4_tells_11 ?_
  refine jr_istore_n (pc := 12) F [(3, iv 1), (2, iv x3), (1, iv 0), (0, .ref (xad X (0, 0, 0)))] dX4_tells_12 rfl (by decide) rfl ?_
  refine jr_sub F [3, 2, 1, 0] [(0, .ref (xad X (0, 0, 0))), (1, iv 0), (2, iv x3), (3, iv 1)] rfl ?_
  refine lpj (P := fun s : Int × Int × Int => Rg (s.1) → Rg (s.2.1) → Rg (s.2.2) → J X 13 [(0, .ref (xad X (0, 0, 0))), (1, iv s.1), (2, iv s.2.1), (3, iv s.2.2)] [] (gs C0 4 0 M)) (PE := fun r : Int × Int × Int => Rg (r.1) → Rg (r.2.1) → Rg (r.2.2) → J X 51 [(0, .ref (xad X (0, 0, 0))), (1, iv r.1), (2, iv r.2.1), (3, iv r.2.2)] [] (gs C0 4 0 M)) k (fun s6 Q7 k hC8 hE9 r11 r12 r13 => ?_) (fun z10 k => ?_) (fun h => h (show Rg 0 from ⟨by decide, by decide⟩) r5 (show Rg 1 from ⟨by decide, by decide⟩))
  · refine jr_iload_n (pc := 13) F 3 dX4_tells_13 rfl rfl ?_
    refine jr_aload_n (pc := 14) F 0 dX4_tells_14 rfl rfl ?_
    refine jr_getR (pc := 15) (b := (1, 0, 0)) F f_4_12 m0_0 rfl dX4_tells_15 ?_
    refine jr_getI (pc := 18) F (C0 1 0 0 0) f_4_156 (mL_0 h11_0) rfl rfl dX4_tells_18 (fun r14 => ?_)
    refine jr_icmp_ge (pc := 21) (tgt := 51) F r13 r14 dX4_tells_21 (by decide) (fun h15 => ?_) (fun h15 => ?_)
    · have k := Ok_f (ng_lt h15) k
      exact hE9 (s6.1, s6.2.1, s6.2.2) (Ok_some k) r11 r12 r13
    have k := Ok_t h15 k
    refine jr_aload_n (pc := 24) F 0 dX4_tells_24 rfl rfl ?_
    refine jr_getR (pc := 25) (b := (1, 0, 0)) F f_4_12 m0_0 rfl dX4_tells_25 ?_
    refine jr_iload_n (pc := 28) F 3 dX4_tells_28 rfl rfl ?_
    obtain ⟨c17, k⟩ := Ok_grd k
    refine jr_callV (pc := 29) (st := []) F [iv s6.2.2] (snd_X2_besideNeighbours h11_0 (g0 := gs C0 4 0 M) r13 (X2_besideNeighbours_ok _ _ c17)) (gs_in C0 M 1 0 (by decide)) ck_4_281 rfl (mL_0 h11_0) rfl rfl rfl (by decide) (Nat.le_of_ble_eq_true rfl) dX4_tells_29 rfl (fun v g' hq => ?_)
    obtain ⟨x, rfl, r16, eg, hx⟩ := hq
    subst hx
    refine J_eq eg ?_
    refine J_eq (gs_in C0 M 1 0 (by decide)).symm ?_
    show J X 32 [(0, .ref (xad X (0, 0, 0))), (1, iv s6.1), (2, iv s6.2.1), (3, iv s6.2.2)] [iv (X2_besideNeighbours_v (C0 1 0) s6.2.2)] (gs C0 4 0 M)
    obtain ⟨x18, e19, k⟩ := Ok_let k
    have r20 : Rg x18 := rg_of e19 r16
    refine jr_top e19 ?_
    refine jr_istore (pc := 32) F [(4, iv x18), (0, .ref (xad X (0, 0, 0))), (1, iv s6.1), (2, iv s6.2.1), (3, iv s6.2.2)] dX4_tells_32 (by decide) rfl ?_
    refine jr_iload (pc := 34) F 0 dX4_tells_34 rfl ?_
    refine jr_iload_n (pc := 36) F 3 dX4_tells_36 rfl rfl ?_
    refine jr_icmp_ge (pc := 37) (tgt := 45) F r20 r12 dX4_tells_37 (by decide) (fun h21 => ?_) (fun h21 => ?_)
    · have k := Ok_f (ng_lt h21) k
      refine jr_iinc (pc := 45) F [(3, iv (w32 (s6.2.2 + 1))), (4, iv x18), (0, .ref (xad X (0, 0, 0))), (1, iv s6.1), (2, iv s6.2.1)] 4 dX4_tells_45 rfl (by decide) rfl ?_
      refine jr_goto (pc := 48) (tgt := 13) F dX4_tells_48 (by decide) ?_
      refine jr_sub F [2, 3, 4, 0] [(0, .ref (xad X (0, 0, 0))), (1, iv s6.1), (2, iv s6.2.1), (3, iv (w32 (s6.2.2 + 1)))] rfl ?_
      exact hC8 (s6.1, s6.2.1, w32 (s6.2.2 + 1)) (Ok_some k) r11 r12 (rg_w _)
    have k := Ok_t h21 k
    refine jr_iload (pc := 40) F 0 dX4_tells_40 rfl ?_
    refine jr_istore_n (pc := 42) F [(2, iv x18), (4, iv x18), (0, .ref (xad X (0, 0, 0))), (1, iv s6.1), (3, iv s6.2.2)] dX4_tells_42 rfl (by decide) rfl ?_
    refine jr_iload_n (pc := 43) F 4 dX4_tells_43 rfl rfl ?_
    refine jr_istore_n (pc := 44) F [(1, iv s6.2.2), (2, iv x18), (4, iv x18), (0, .ref (xad X (0, 0, 0))), (3, iv s6.2.2)] dX4_tells_44 rfl (by decide) rfl ?_
    refine jr_iinc (pc := 45) F [(3, iv (w32 (s6.2.2 + 1))), (1, iv s6.2.2), (2, iv x18), (4, iv x18), (0, .ref (xad X (0, 0, 0)))] 4 dX4_tells_45 rfl (by decide) rfl ?_
    refine jr_goto (pc := 48) (tgt := 13) F dX4_tells_48 (by decide) ?_
    refine jr_sub F [4, 1, 2, 0] [(0, .ref (xad X (0, 0, 0))), (1, iv s6.2.2), (2, iv x18), (3, iv (w32 (s6.2.2 + 1)))] rfl ?_
    exact hC8 (s6.2.2, x18, w32 (s6.2.2 + 1)) (Ok_some k) r13 r20 (rg_w _)
  intro r22 r23 r24
  refine jr_iload_n (pc := 51) F 1 dX4_tells_51 rfl rfl ?_
  exact jr_iret (pc := 52) F hQ rfl dX4_tells_52 ⟨_, rfl, r22, rfl, (Ok_some k)⟩
set_option maxHeartbeats 4000000 in
set_option maxRecDepth 100000 in
theorem snd_X4_thaw {C0 : GG} {M : LT}  {Q : (Int × GG) → Prop} (k : Ok (X4_thaw C0) Q) : MetG SL yX4_thaw cX4_thaw 2 (some .int) 3 (fun ad => [.ref (ad (0, 0, 0))]) (gs C0 4 0 M) (fun v g' => ∃ (x : Int) (L' : GG), v = some (iv x) ∧ Rg x ∧ g' = gs L' 4 0 M ∧ Q (x, L')) := by
  refine met_intro SL_ok (by decide +kernel) (fun ad => Nat.le_of_ble_eq_true rfl) (fun X F hQ hR => ?_)
  replace F : FX X cX4_thaw RX4 2 (some .int) SL 3 := F
  show J X 0 [(0, .ref (xad X (0, 0, 0)))] [] (gs C0 4 0 M)
  refine jr_aload_n (pc := 0) F 0 dX4_thaw_0 rfl rfl ?_
  refine jr_getR (pc := 1) (b := (1, 1, 0)) F f_4_16 m0_0 rfl dX4_thaw_1 ?_
  refine jr_aload_n (pc := 4) F 0 dX4_thaw_4 rfl rfl ?_
  refine jr_getR (pc := 5) (b := (1, 0, 0)) F f_4_12 m0_0 rfl dX4_thaw_5 ?_
  have k := Ok_bind k
  refine jr_callV (pc := 8) (st := []) F [.ref (xad X (1, 0, 0))] (snd_X2_become h11_1 (g0 := gs C0 4 0 M) h11_0 (by decide) rfl  k) (gs_in C0 M 1 1 (by decide)) ck_4_79 rfl (mL_0 h11_1) rfl rfl rfl (by decide) (Nat.le_of_ble_eq_true rfl) dX4_thaw_8 rfl (fun v g' hq => ?_)
  obtain ⟨z2, rfl, eg, k⟩ := hq
  rw [gs_comm (by decide)] at eg
  obtain ⟨C3, e4, k⟩ := Ok_let k
  rw [← e4] at eg
  refine J_eq eg ?_
  show J X 11 [(0, .ref (xad X (0, 0, 0)))] [] (gs C3 4 0 M)
  refine jr_aload_n (pc := 11) F 0 dX4_thaw_11 rfl rfl ?_
  refine jr_getR (pc := 12) (b := (1, 1, 0)) F f_4_16 m0_0 rfl dX4_thaw_12 ?_
  have k := Ok_bind k
  refine jr_callV (pc := 15) (st := []) F [] (snd_X2_feelWeather h11_1 (g0 := gs C3 4 0 M)  k) (gs_in C3 M 1 1 (by decide)) ck_4_199 rfl (mL_0 h11_1) rfl rfl rfl (by decide) (Nat.le_of_ble_eq_true rfl) dX4_thaw_15 rfl (fun v g' hq => ?_)
  obtain ⟨z6, rfl, eg, k⟩ := hq
  rw [gs_comm (by decide)] at eg
  obtain ⟨C7, e8, k⟩ := Ok_let k
  rw [← e8] at eg
  refine J_eq eg ?_
  show J X 18 [(0, .ref (xad X (0, 0, 0)))] [] (gs C7 4 0 M)
  refine jr_iconst (pc := 18) F dX4_thaw_18 ?_
  refine jr_istore_n (pc := 19) F [(1, iv 0), (0, .ref (xad X (0, 0, 0)))] dX4_thaw_19 rfl (by decide) rfl ?_
  refine jr_sub F [1, 0] [(0, .ref (xad X (0, 0, 0))), (1, iv 0)] rfl ?_
  refine lpj (P := fun s : Int × GG => Rg (s.1) → J X 20 [(0, .ref (xad X (0, 0, 0))), (1, iv s.1)] [] (gs s.2 4 0 M)) (PE := fun o : ((Int × GG) ⊕ (Int × GG)) => match o with | .inl r => Rg (r.1) → J X 52 [(0, .ref (xad X (0, 0, 0))), (1, iv r.1)] [] (gs r.2 4 0 M) | .inr y => Q (y)) k (fun s9 Q10 k hC11 hE12 r14 => ?_) (fun o k => ?_) (fun h => h (show Rg 0 from ⟨by decide, by decide⟩))
  · refine jr_iload_n (pc := 20) F 1 dX4_thaw_20 rfl rfl ?_
    refine jr_bipush (pc := 21) F dX4_thaw_21 (by decide) ?_
    refine jr_icmp_gt (pc := 23) (tgt := 52) F r14 (show Rg 72 from ⟨by decide, by decide⟩) dX4_thaw_23 (by decide) (fun h15 => ?_) (fun h15 => ?_)
    · have k := Ok_f (ng_le h15) k
      exact hE12 (Sum.inl (s9.1, s9.2)) (Ok_some k) r14
    have k := Ok_t h15 k
    refine jr_aload_n (pc := 26) F 0 dX4_thaw_26 rfl rfl ?_
    refine jr_getR (pc := 27) (b := (1, 1, 0)) F f_4_16 m0_0 rfl dX4_thaw_27 ?_
    refine jr_iconst (pc := 30) F dX4_thaw_30 ?_
    have k := Ok_bind k
    refine jr_callV (pc := 31) (st := []) F [iv 1] (snd_X2_noneBears h11_1 (g0 := gs s9.2 4 0 M) (show Rg 1 from ⟨by decide, by decide⟩) k) (gs_in s9.2 M 1 1 (by decide)) ck_4_313 rfl (mL_0 h11_1) rfl rfl rfl (by decide) (Nat.le_of_ble_eq_true rfl) dX4_thaw_31 rfl (fun v g' hq => ?_)
    obtain ⟨z17, rfl, r16, eg, k⟩ := hq
    rw [← (gs_in s9.2 M 1 1 (by decide))] at eg
    refine J_eq eg ?_
    show J X 34 [(0, .ref (xad X (0, 0, 0))), (1, iv s9.1)] [iv z17] (gs s9.2 4 0 M)
    refine jr_if_eq (pc := 34) (tgt := 39) F (rg_z r16) dX4_thaw_34 (by decide) (fun h18 => ?_) (fun h18 => ?_)
    · have k := Ok_f (fun q => q h18) k
      refine jr_aload_n (pc := 39) F 0 dX4_thaw_39 rfl rfl ?_
      refine jr_getR (pc := 40) (b := (1, 1, 0)) F f_4_16 m0_0 rfl dX4_thaw_40 ?_
      have k := Ok_bind k
      refine jr_callV (pc := 43) (st := []) F [] (snd_X2_passHour h11_1 (g0 := gs s9.2 4 0 M)  k) (gs_in s9.2 M 1 1 (by decide)) ck_4_202 rfl (mL_0 h11_1) rfl rfl rfl (by decide) (Nat.le_of_ble_eq_true rfl) dX4_thaw_43 rfl (fun v g' hq => ?_)
      obtain ⟨z20, rfl, eg, k⟩ := hq
      rw [gs_comm (by decide)] at eg
      obtain ⟨C21, e22, k⟩ := Ok_let k
      rw [← e22] at eg
      refine J_eq eg ?_
      show J X 46 [(0, .ref (xad X (0, 0, 0))), (1, iv s9.1)] [] (gs C21 4 0 M)
      refine jr_iinc (pc := 46) F [(1, iv (w32 (s9.1 + 1))), (0, .ref (xad X (0, 0, 0)))] 1 dX4_thaw_46 rfl (by decide) rfl ?_
      refine jr_goto (pc := 49) (tgt := 20) F dX4_thaw_49 (by decide) ?_
      refine jr_sub F [1, 0] [(0, .ref (xad X (0, 0, 0))), (1, iv (w32 (s9.1 + 1)))] rfl ?_
      exact hC11 (w32 (s9.1 + 1), C21) (Ok_some k) (rg_w _)
    have k := Ok_t h18 k
    refine jr_iload_n (pc := 37) F 1 dX4_thaw_37 rfl rfl ?_
    exact jr_iret (pc := 38) F hQ rfl dX4_thaw_38 ⟨_, _, rfl, r14, rfl, (hE12 (Sum.inr _) (Ok_some k))⟩
  rcases o with z13 | y
  rotate_left
  · show Q (y)
    exact Ok_some k
  intro r23
  refine jr_bipush (pc := 52) F dX4_thaw_52 (by decide) ?_
  exact jr_iret (pc := 54) F hQ rfl dX4_thaw_54 ⟨_, _, rfl, (show Rg (-9) from ⟨by decide, by decide⟩), rfl, (Ok_some k)⟩
set_option maxHeartbeats 4000000 in
set_option maxRecDepth 100000 in
theorem snd_X4_thin {C0 : GG} {v_n : Int} {v_weight : Int} {M : LT} (rgp_n : Rg v_n) (rgp_weight : Rg v_weight) {Q : (Int × GG) → Prop} (k : Ok (X4_thin C0 v_n v_weight) Q) : MetG SL yX4_thin cX4_thin 4 (some .int) 5 (fun ad => [.ref (ad (0, 0, 0)), iv v_n, iv v_weight]) (gs C0 4 0 M) (fun v g' => ∃ (x : Int) (L' : GG), v = some (iv x) ∧ Rg x ∧ g' = gs L' 4 0 M ∧ Q (x, L')) := by
  refine met_intro SL_ok (by decide +kernel) (fun ad => Nat.le_of_ble_eq_true rfl) (fun X F hQ hR => ?_)
  replace F : FX X cX4_thin RX4 4 (some .int) SL 5 := F
  show J X 0 [(0, .ref (xad X (0, 0, 0))), (1, iv v_n), (2, iv v_weight)] [] (gs C0 4 0 M)
  refine cnd (c := (v_n < 0) ∨ (v_weight < 1)) (GT := J X 9 [(0, .ref (xad X (0, 0, 0))), (1, iv v_n), (2, iv v_weight)] [] (gs C0 4 0 M)) (GF := J X 16 [(0, .ref (xad X (0, 0, 0))), (1, iv v_n), (2, iv v_weight)] [] (gs C0 4 0 M)) k (fun HT HF => ?_) (fun h3 k => ?_) (fun h3 k => ?_)
  · refine jr_iload_n (pc := 0) F 1 dX4_thin_0 rfl rfl ?_
    refine jr_if_lt (pc := 1) (tgt := 9) F rgp_n dX4_thin_1 (by decide) (fun h1 => ?_) (fun h1 => ?_)
    · exact HT (Or.inl h1)
    refine jr_iload_n (pc := 4) F 2 dX4_thin_4 rfl rfl ?_
    refine jr_iconst (pc := 5) F dX4_thin_5 ?_
    refine jr_icmp_ge (pc := 6) (tgt := 16) F rgp_weight (show Rg 1 from ⟨by decide, by decide⟩) dX4_thin_6 (by decide) (fun h2 => ?_) (fun h2 => ?_)
    · exact HF (fun q => q.elim (ng_lt h1) (ng_lt h2))
    exact HT (Or.inr h2)
  · refine jr_aload_n (pc := 9) F 0 dX4_thin_9 rfl rfl ?_
    refine jr_bipush (pc := 10) F dX4_thin_10 (by decide) ?_
    have k := Ok_bind k
    refine jr_callV (pc := 12) (st := []) F [iv (-4)] (snd_X4_refuse (M := M) (show Rg (-4) from ⟨by decide, by decide⟩) k) rfl ck_4_61 rfl m0_0 rfl rfl rfl (by decide) (Nat.le_of_ble_eq_true rfl) dX4_thin_12 rfl (fun v g' hq => ?_)
    obtain ⟨x, L', rfl, r4, eg, k⟩ := hq
    obtain ⟨z5, ez⟩ : ∃ z : Int × GG, z = (x, L') := ⟨_, rfl⟩
    obtain ⟨rfl, rfl⟩ : x = z5.1 ∧ L' = z5.2 := ⟨by rw [ez], by rw [ez]⟩
    clear ez
    refine J_eq eg ?_
    show J X 15 [(0, .ref (xad X (0, 0, 0))), (1, iv v_n), (2, iv v_weight)] [iv z5.1] (gs z5.2 4 0 M)
    exact jr_iret (pc := 15) F hQ rfl dX4_thin_15 ⟨_, _, rfl, r4, rfl, (Ok_some k)⟩
  refine cnd (c := (72 < v_n) ∨ (60 < v_weight)) (GT := J X 28 [(0, .ref (xad X (0, 0, 0))), (1, iv v_n), (2, iv v_weight)] [] (gs C0 4 0 M)) (GF := J X 35 [(0, .ref (xad X (0, 0, 0))), (1, iv v_n), (2, iv v_weight)] [] (gs C0 4 0 M)) k (fun HT HF => ?_) (fun h8 k => ?_) (fun h8 k => ?_)
  · refine jr_iload_n (pc := 16) F 1 dX4_thin_16 rfl rfl ?_
    refine jr_bipush (pc := 17) F dX4_thin_17 (by decide) ?_
    refine jr_icmp_gt (pc := 19) (tgt := 28) F rgp_n (show Rg 72 from ⟨by decide, by decide⟩) dX4_thin_19 (by decide) (fun h6 => ?_) (fun h6 => ?_)
    · exact HT (Or.inl h6)
    refine jr_iload_n (pc := 22) F 2 dX4_thin_22 rfl rfl ?_
    refine jr_bipush (pc := 23) F dX4_thin_23 (by decide) ?_
    refine jr_icmp_le (pc := 25) (tgt := 35) F rgp_weight (show Rg 60 from ⟨by decide, by decide⟩) dX4_thin_25 (by decide) (fun h7 => ?_) (fun h7 => ?_)
    · exact HF (fun q => q.elim (ng_lt h6) (ng_lt h7))
    exact HT (Or.inr h7)
  · refine jr_aload_n (pc := 28) F 0 dX4_thin_28 rfl rfl ?_
    refine jr_bipush (pc := 29) F dX4_thin_29 (by decide) ?_
    have k := Ok_bind k
    refine jr_callV (pc := 31) (st := []) F [iv (-6)] (snd_X4_refuse (M := M) (show Rg (-6) from ⟨by decide, by decide⟩) k) rfl ck_4_61 rfl m0_0 rfl rfl rfl (by decide) (Nat.le_of_ble_eq_true rfl) dX4_thin_31 rfl (fun v g' hq => ?_)
    obtain ⟨x, L', rfl, r9, eg, k⟩ := hq
    obtain ⟨z10, ez⟩ : ∃ z : Int × GG, z = (x, L') := ⟨_, rfl⟩
    obtain ⟨rfl, rfl⟩ : x = z10.1 ∧ L' = z10.2 := ⟨by rw [ez], by rw [ez]⟩
    clear ez
    refine J_eq eg ?_
    show J X 34 [(0, .ref (xad X (0, 0, 0))), (1, iv v_n), (2, iv v_weight)] [iv z10.1] (gs z10.2 4 0 M)
    exact jr_iret (pc := 34) F hQ rfl dX4_thin_34 ⟨_, _, rfl, r9, rfl, (Ok_some k)⟩
  refine jr_aload_n (pc := 35) F 0 dX4_thin_35 rfl rfl ?_
  refine jr_iload_n (pc := 36) F 1 dX4_thin_36 rfl rfl ?_
  have k := Ok_bind k
  refine jr_callV (pc := 37) (st := []) F [iv v_n] (snd_X4_goInMind (M := M) rgp_n k) rfl ck_4_190 rfl m0_0 rfl rfl rfl (by decide) (Nat.le_of_ble_eq_true rfl) dX4_thin_37 rfl (fun v g' hq => ?_)
  obtain ⟨z12, rfl, eg, k⟩ := hq
  refine J_eq eg ?_
  show J X 40 [(0, .ref (xad X (0, 0, 0))), (1, iv v_n), (2, iv v_weight)] [] (gs z12 4 0 M)
  refine jr_iconst (pc := 40) F dX4_thin_40 ?_
  refine jr_istore_n (pc := 41) F [(3, iv 0), (0, .ref (xad X (0, 0, 0))), (1, iv v_n), (2, iv v_weight)] dX4_thin_41 rfl (by decide) rfl ?_
  refine jr_sub F [1, 2, 3, 0] [(0, .ref (xad X (0, 0, 0))), (1, iv v_n), (2, iv v_weight), (3, iv 0)] rfl ?_
  refine lpj (P := fun s : Int => Rg (s) → J X 42 [(0, .ref (xad X (0, 0, 0))), (1, iv v_n), (2, iv v_weight), (3, iv s)] [] (gs z12 4 0 M)) (PE := fun o : ((Int) ⊕ (Int × GG)) => match o with | .inl r => Rg (r) → J X 73 [(0, .ref (xad X (0, 0, 0))), (1, iv v_n), (2, iv v_weight), (3, iv r)] [] (gs z12 4 0 M) | .inr y => Q (y)) k (fun s13 Q14 k hC15 hE16 r18 => ?_) (fun o k => ?_) (fun h => h (show Rg 0 from ⟨by decide, by decide⟩))
  · refine jr_iload_n (pc := 42) F 3 dX4_thin_42 rfl rfl ?_
    refine jr_aload_n (pc := 43) F 0 dX4_thin_43 rfl rfl ?_
    refine jr_getR (pc := 44) (b := (1, 1, 0)) F f_4_16 m0_0 rfl dX4_thin_44 ?_
    refine jr_getI (pc := 47) F (z12 1 1 0 0) f_4_156 (mL_0 h11_1) rfl rfl dX4_thin_47 (fun r19 => ?_)
    refine jr_icmp_ge (pc := 50) (tgt := 73) F r18 r19 dX4_thin_50 (by decide) (fun h20 => ?_) (fun h20 => ?_)
    · have k := Ok_f (ng_lt h20) k
      exact hE16 (Sum.inl s13) (Ok_some k) r18
    have k := Ok_t h20 k
    obtain ⟨c21, k⟩ := Ok_grd k
    refine cnd (c := (X2_bears_v (z12 1 1) s13 v_weight) = 0) (GT := J X 65 [(0, .ref (xad X (0, 0, 0))), (1, iv v_n), (2, iv v_weight), (3, iv s13)] [] (gs z12 4 0 M)) (GF := J X 67 [(0, .ref (xad X (0, 0, 0))), (1, iv v_n), (2, iv v_weight), (3, iv s13)] [] (gs z12 4 0 M)) k (fun HT HF => ?_) (fun h24 k => ?_) (fun h24 k => ?_)
    · refine jr_aload_n (pc := 53) F 0 dX4_thin_53 rfl rfl ?_
      refine jr_getR (pc := 54) (b := (1, 1, 0)) F f_4_16 m0_0 rfl dX4_thin_54 ?_
      refine jr_iload_n (pc := 57) F 3 dX4_thin_57 rfl rfl ?_
      refine jr_iload_n (pc := 58) F 2 dX4_thin_58 rfl rfl ?_
      refine jr_callV (pc := 59) (st := []) F [iv s13, iv v_weight] (snd_X2_bears h11_1 (g0 := gs z12 4 0 M) r18 rgp_weight (X2_bears_ok _ _ _ c21)) (gs_in z12 M 1 1 (by decide)) ck_4_196 rfl (mL_0 h11_1) rfl rfl rfl (by decide) (Nat.le_of_ble_eq_true rfl) dX4_thin_59 rfl (fun v g' hq => ?_)
      obtain ⟨x, rfl, r22, eg, hx⟩ := hq
      subst hx
      refine J_eq eg ?_
      refine J_eq (gs_in z12 M 1 1 (by decide)).symm ?_
      show J X 62 [(0, .ref (xad X (0, 0, 0))), (1, iv v_n), (2, iv v_weight), (3, iv s13)] [iv (X2_bears_v (z12 1 1) s13 v_weight)] (gs z12 4 0 M)
      refine jr_if_ne (pc := 62) (tgt := 67) F (rg_z r22) dX4_thin_62 (by decide) (fun h23 => ?_) (fun h23 => ?_)
      · exact HF h23
      exact HT h23
    · refine jr_iload_n (pc := 65) F 3 dX4_thin_65 rfl rfl ?_
      exact jr_iret (pc := 66) F hQ rfl dX4_thin_66 ⟨_, _, rfl, r18, rfl, (hE16 (Sum.inr _) (Ok_some k))⟩
    refine jr_iinc (pc := 67) F [(3, iv (w32 (s13 + 1))), (0, .ref (xad X (0, 0, 0))), (1, iv v_n), (2, iv v_weight)] 3 dX4_thin_67 rfl (by decide) rfl ?_
    refine jr_goto (pc := 70) (tgt := 42) F dX4_thin_70 (by decide) ?_
    refine jr_sub F [1, 2, 3, 0] [(0, .ref (xad X (0, 0, 0))), (1, iv v_n), (2, iv v_weight), (3, iv (w32 (s13 + 1)))] rfl ?_
    exact hC15 (w32 (s13 + 1)) (Ok_some k) (rg_w _)
  rcases o with z17 | y
  rotate_left
  · show Q (y)
    exact Ok_some k
  intro r25
  refine jr_bipush (pc := 73) F dX4_thin_73 (by decide) ?_
  exact jr_iret (pc := 75) F hQ rfl dX4_thin_75 ⟨_, _, rfl, (show Rg (-9) from ⟨by decide, by decide⟩), rfl, (Ok_some k)⟩
set_option maxHeartbeats 4000000 in
set_option maxRecDepth 100000 in
theorem snd_X4_through {C0 : GG} {v_n : Int} {v_what : Int} {M : LT} (rgp_n : Rg v_n) (rgp_what : Rg v_what) {Q : (Int × GG) → Prop} (k : Ok (X4_through C0 v_n v_what) Q) : MetG SL yX4_through cX4_through 4 (some .int) 5 (fun ad => [.ref (ad (0, 0, 0)), iv v_n, iv v_what]) (gs C0 4 0 M) (fun v g' => ∃ (x : Int) (L' : GG), v = some (iv x) ∧ Rg x ∧ g' = gs L' 4 0 M ∧ Q (x, L')) := by
  refine met_intro SL_ok (by decide +kernel) (fun ad => Nat.le_of_ble_eq_true rfl) (fun X F hQ hR => ?_)
  replace F : FX X cX4_through RX4 4 (some .int) SL 5 := F
  show J X 0 [(0, .ref (xad X (0, 0, 0))), (1, iv v_n), (2, iv v_what)] [] (gs C0 4 0 M)
  refine jr_iload_n (pc := 0) F 1 dX4_through_0 rfl rfl ?_
  refine jr_iconst (pc := 1) F dX4_through_1 ?_
  refine jr_bipush (pc := 2) F dX4_through_2 (by decide) ?_
  refine jr_callS (pc := 4) (st := []) F [iv v_n, iv 0, iv 72] (snd_X4_outside (g0 := gs C0 4 0 M) rgp_n (show Rg 0 from ⟨by decide, by decide⟩) (show Rg 72 from ⟨by decide, by decide⟩) (X4_outside_ok _ _ _ )) rfl ck_4_57 rfl rfl (by decide) (Nat.le_of_ble_eq_true rfl) dX4_through_4 rfl (fun v g' hq => ?_)
  obtain ⟨x, rfl, r1, eg, hx⟩ := hq
  subst hx
  refine J_eq eg ?_
  show J X 7 [(0, .ref (xad X (0, 0, 0))), (1, iv v_n), (2, iv v_what)] [iv (X4_outside_v v_n 0 72)] (gs C0 4 0 M)
  obtain ⟨x2, e3, k⟩ := Ok_let k
  have r4 : Rg x2 := rg_of e3 r1
  refine jr_top e3 ?_
  refine jr_istore_n (pc := 7) F [(3, iv x2), (0, .ref (xad X (0, 0, 0))), (1, iv v_n), (2, iv v_what)] dX4_through_7 rfl (by decide) rfl ?_
  refine jr_iload_n (pc := 8) F 0 dX4_through_8 rfl rfl ?_
  refine jr_if_eq (pc := 9) (tgt := 18) F r4 dX4_through_9 (by decide) (fun h5 => ?_) (fun h5 => ?_)
  · have k := Ok_f (fun q => q h5) k
    refine jr_iload_n (pc := 18) F 3 dX4_through_18 rfl rfl ?_
    refine jr_callS (pc := 19) (st := []) F [iv v_what] (snd_X4_neither (g0 := gs C0 4 0 M) rgp_what (X4_neither_ok _ )) rfl ck_4_153 rfl rfl (by decide) (Nat.le_of_ble_eq_true rfl) dX4_through_19 rfl (fun v g' hq => ?_)
    obtain ⟨x, rfl, r6, eg, hx⟩ := hq
    subst hx
    refine J_eq eg ?_
    show J X 22 [(3, iv x2), (0, .ref (xad X (0, 0, 0))), (1, iv v_n), (2, iv v_what)] [iv (X4_neither_v v_what)] (gs C0 4 0 M)
    refine jr_if_eq (pc := 22) (tgt := 32) F (rg_z r6) dX4_through_22 (by decide) (fun h7 => ?_) (fun h7 => ?_)
    · have k := Ok_f (fun q => q h7) k
      refine jr_aload_n (pc := 32) F 1 dX4_through_32 rfl rfl ?_
      refine jr_iload_n (pc := 33) F 2 dX4_through_33 rfl rfl ?_
      have k := Ok_bind k
      refine jr_callV (pc := 34) (st := []) F [iv v_n] (snd_X4_goInMind (M := M) rgp_n k) rfl ck_4_190 rfl m0_0 rfl rfl rfl (by decide) (Nat.le_of_ble_eq_true rfl) dX4_through_34 rfl (fun v g' hq => ?_)
      obtain ⟨z9, rfl, eg, k⟩ := hq
      refine J_eq eg ?_
      show J X 37 [(3, iv x2), (0, .ref (xad X (0, 0, 0))), (1, iv v_n), (2, iv v_what)] [] (gs z9 4 0 M)
      refine jr_aload_n (pc := 37) F 1 dX4_through_37 rfl rfl ?_
      refine jr_getR (pc := 38) (b := (1, 1, 0)) F f_4_16 m0_0 rfl dX4_through_38 ?_
      refine jifP (P := fun v => Rg v → J X 50 [(3, iv x2), (0, .ref (xad X (0, 0, 0))), (1, iv v_n), (2, iv v_what)] (iv v :: [.ref (xad X (1, 1, 0))]) (gs z9 4 0 M)) (c := v_what = 0) (1) (2) (fun Ht Hf => ?_) (fun r11 => ?_)
      · refine jr_iload_n (pc := 41) F 3 dX4_through_41 rfl rfl ?_
        refine jr_if_ne (pc := 42) (tgt := 49) F rgp_what dX4_through_42 (by decide) (fun h10 => ?_) (fun h10 => ?_)
        · refine jr_iconst (pc := 49) F dX4_through_49 ?_
          exact Hf h10 (show Rg 2 from ⟨by decide, by decide⟩)
        refine jr_iconst (pc := 45) F dX4_through_45 ?_
        refine jr_goto (pc := 46) (tgt := 50) F dX4_through_46 (by decide) ?_
        exact Ht h10 (show Rg 1 from ⟨by decide, by decide⟩)
      have k := Ok_bind k
      refine jr_callV (pc := 50) (st := []) F [iv (if v_what = 0 then 1 else 2)] (snd_X2_howMany h11_1 (g0 := gs z9 4 0 M) r11 k) (gs_in z9 M 1 1 (by decide)) ck_4_183 rfl (mL_0 h11_1) rfl rfl rfl (by decide) (Nat.le_of_ble_eq_true rfl) dX4_through_50 rfl (fun v g' hq => ?_)
      obtain ⟨z13, rfl, r12, eg, k⟩ := hq
      rw [← (gs_in z9 M 1 1 (by decide))] at eg
      refine J_eq eg ?_
      show J X 53 [(3, iv x2), (0, .ref (xad X (0, 0, 0))), (1, iv v_n), (2, iv v_what)] [iv z13] (gs z9 4 0 M)
      exact jr_iret (pc := 53) F hQ rfl dX4_through_53 ⟨_, _, rfl, r12, rfl, (Ok_some k)⟩
    have k := Ok_t h7 k
    refine jr_aload_n (pc := 25) F 1 dX4_through_25 rfl rfl ?_
    refine jr_bipush (pc := 26) F dX4_through_26 (by decide) ?_
    have k := Ok_bind k
    refine jr_callV (pc := 28) (st := []) F [iv (-2)] (snd_X4_refuse (M := M) (show Rg (-2) from ⟨by decide, by decide⟩) k) rfl ck_4_61 rfl m0_0 rfl rfl rfl (by decide) (Nat.le_of_ble_eq_true rfl) dX4_through_28 rfl (fun v g' hq => ?_)
    obtain ⟨x, L', rfl, r14, eg, k⟩ := hq
    obtain ⟨z15, ez⟩ : ∃ z : Int × GG, z = (x, L') := ⟨_, rfl⟩
    obtain ⟨rfl, rfl⟩ : x = z15.1 ∧ L' = z15.2 := ⟨by rw [ez], by rw [ez]⟩
    clear ez
    refine J_eq eg ?_
    show J X 31 [(3, iv x2), (0, .ref (xad X (0, 0, 0))), (1, iv v_n), (2, iv v_what)] [iv z15.1] (gs z15.2 4 0 M)
    exact jr_iret (pc := 31) F hQ rfl dX4_through_31 ⟨_, _, rfl, r14, rfl, (Ok_some k)⟩
  have k := Ok_t h5 k
  refine jr_aload_n (pc := 12) F 1 dX4_through_12 rfl rfl ?_
  refine jr_iload_n (pc := 13) F 0 dX4_through_13 rfl rfl ?_
  have k := Ok_bind k
  refine jr_callV (pc := 14) (st := []) F [iv x2] (snd_X4_refuse (M := M) r4 k) rfl ck_4_61 rfl m0_0 rfl rfl rfl (by decide) (Nat.le_of_ble_eq_true rfl) dX4_through_14 rfl (fun v g' hq => ?_)
  obtain ⟨x, L', rfl, r16, eg, k⟩ := hq
  obtain ⟨z17, ez⟩ : ∃ z : Int × GG, z = (x, L') := ⟨_, rfl⟩
  obtain ⟨rfl, rfl⟩ : x = z17.1 ∧ L' = z17.2 := ⟨by rw [ez], by rw [ez]⟩
  clear ez
  refine J_eq eg ?_
  show J X 17 [(3, iv x2), (0, .ref (xad X (0, 0, 0))), (1, iv v_n), (2, iv v_what)] [iv z17.1] (gs z17.2 4 0 M)
  exact jr_iret (pc := 17) F hQ rfl dX4_through_17 ⟨_, _, rfl, r16, rfl, (Ok_some k)⟩
set_option maxHeartbeats 4000000 in
set_option maxRecDepth 100000 in
theorem snd_X4_timetable {C0 : GG} {v_one : Int} {v_other : Int} {M : LT} (rgp_one : Rg v_one) (rgp_other : Rg v_other) {Q : (Int × GG) → Prop} (k : Ok (X4_timetable C0 v_one v_other) Q) : MetG SL yX4_timetable cX4_timetable 8 (some .int) 6 (fun ad => [.ref (ad (0, 0, 0)), iv v_one, iv v_other]) (gs C0 4 0 M) (fun v g' => ∃ (x : Int) (L' : GG), v = some (iv x) ∧ Rg x ∧ g' = gs L' 4 0 M ∧ Q (x, L')) := by
  refine met_intro SL_ok (by decide +kernel) (fun ad => Nat.le_of_ble_eq_true rfl) (fun X F hQ hR => ?_)
  replace F : FX X cX4_timetable RX4 8 (some .int) SL 6 := F
  show J X 0 [(0, .ref (xad X (0, 0, 0))), (1, iv v_one), (2, iv v_other)] [] (gs C0 4 0 M)
  refine cnd (c := ((¬ (X4_noTrain_v C0 v_one) = 0) ∨ (¬ (X4_noTrain_v C0 v_other) = 0)) ∨ (v_one = v_other)) (GT := J X 21 [(0, .ref (xad X (0, 0, 0))), (1, iv v_one), (2, iv v_other)] [] (gs C0 4 0 M)) (GF := J X 27 [(0, .ref (xad X (0, 0, 0))), (1, iv v_one), (2, iv v_other)] [] (gs C0 4 0 M)) k (fun HT HF => ?_) (fun h6 k => ?_) (fun h6 k => ?_)
  · refine jr_aload_n (pc := 0) F 0 dX4_timetable_0 rfl rfl ?_
    refine jr_iload_n (pc := 1) F 1 dX4_timetable_1 rfl rfl ?_
    refine jr_callV (pc := 2) (st := []) F [iv v_one] (snd_X4_noTrain (M := M) rgp_one (X4_noTrain_ok _ _ )) rfl ck_4_162 rfl m0_0 rfl rfl rfl (by decide) (Nat.le_of_ble_eq_true rfl) dX4_timetable_2 rfl (fun v g' hq => ?_)
    obtain ⟨x, rfl, r1, eg, hx⟩ := hq
    subst hx
    refine J_eq eg ?_
    show J X 5 [(0, .ref (xad X (0, 0, 0))), (1, iv v_one), (2, iv v_other)] [iv (X4_noTrain_v C0 v_one)] (gs C0 4 0 M)
    refine jr_if_ne (pc := 5) (tgt := 21) F (rg_z r1) dX4_timetable_5 (by decide) (fun h2 => ?_) (fun h2 => ?_)
    · exact HT (Or.inl (Or.inl h2))
    refine jr_aload_n (pc := 8) F 0 dX4_timetable_8 rfl rfl ?_
    refine jr_iload_n (pc := 9) F 2 dX4_timetable_9 rfl rfl ?_
    refine jr_callV (pc := 10) (st := []) F [iv v_other] (snd_X4_noTrain (M := M) rgp_other (X4_noTrain_ok _ _ )) rfl ck_4_162 rfl m0_0 rfl rfl rfl (by decide) (Nat.le_of_ble_eq_true rfl) dX4_timetable_10 rfl (fun v g' hq => ?_)
    obtain ⟨x, rfl, r3, eg, hx⟩ := hq
    subst hx
    refine J_eq eg ?_
    show J X 13 [(0, .ref (xad X (0, 0, 0))), (1, iv v_one), (2, iv v_other)] [iv (X4_noTrain_v C0 v_other)] (gs C0 4 0 M)
    refine jr_if_ne (pc := 13) (tgt := 21) F (rg_z r3) dX4_timetable_13 (by decide) (fun h4 => ?_) (fun h4 => ?_)
    · exact HT (Or.inl (Or.inr h4))
    refine jr_iload_n (pc := 16) F 1 dX4_timetable_16 rfl rfl ?_
    refine jr_iload_n (pc := 17) F 2 dX4_timetable_17 rfl rfl ?_
    refine jr_icmp_ne (pc := 18) (tgt := 27) F rgp_one rgp_other dX4_timetable_18 (by decide) (fun h5 => ?_) (fun h5 => ?_)
    · exact HF (fun q => q.elim (fun q => q.elim (fun q => q h2) (fun q => q h4)) h5)
    exact HT (Or.inr h5)
  · refine jr_aload_n (pc := 21) F 0 dX4_timetable_21 rfl rfl ?_
    refine jr_iconst (pc := 22) F dX4_timetable_22 ?_
    have k := Ok_bind k
    refine jr_callV (pc := 23) (st := []) F [iv (-1)] (snd_X4_refuse (M := M) (show Rg (-1) from ⟨by decide, by decide⟩) k) rfl ck_4_61 rfl m0_0 rfl rfl rfl (by decide) (Nat.le_of_ble_eq_true rfl) dX4_timetable_23 rfl (fun v g' hq => ?_)
    obtain ⟨x, L', rfl, r7, eg, k⟩ := hq
    obtain ⟨z8, ez⟩ : ∃ z : Int × GG, z = (x, L') := ⟨_, rfl⟩
    obtain ⟨rfl, rfl⟩ : x = z8.1 ∧ L' = z8.2 := ⟨by rw [ez], by rw [ez]⟩
    clear ez
    refine J_eq eg ?_
    show J X 26 [(0, .ref (xad X (0, 0, 0))), (1, iv v_one), (2, iv v_other)] [iv z8.1] (gs z8.2 4 0 M)
    exact jr_iret (pc := 26) F hQ rfl dX4_timetable_26 ⟨_, _, rfl, r7, rfl, (Ok_some k)⟩
  obtain ⟨c9, k⟩ := Ok_grd k
  obtain ⟨c10, k⟩ := Ok_grd k
  refine cnd (c := ((X2_isAhead_v (C0 1 0) v_one) = 0) ∨ ((X2_isAhead_v (C0 1 0) v_other) = 0)) (GT := J X 49 [(0, .ref (xad X (0, 0, 0))), (1, iv v_one), (2, iv v_other)] [] (gs C0 4 0 M)) (GF := J X 56 [(0, .ref (xad X (0, 0, 0))), (1, iv v_one), (2, iv v_other)] [] (gs C0 4 0 M)) k (fun HT HF => ?_) (fun h15 k => ?_) (fun h15 k => ?_)
  · refine jr_aload_n (pc := 27) F 0 dX4_timetable_27 rfl rfl ?_
    refine jr_getR (pc := 28) (b := (1, 0, 0)) F f_4_12 m0_0 rfl dX4_timetable_28 ?_
    refine jr_iload_n (pc := 31) F 1 dX4_timetable_31 rfl rfl ?_
    refine jr_callV (pc := 32) (st := []) F [iv v_one] (snd_X2_isAhead h11_0 (g0 := gs C0 4 0 M) rgp_one (X2_isAhead_ok _ _ c9)) (gs_in C0 M 1 0 (by decide)) ck_4_252 rfl (mL_0 h11_0) rfl rfl rfl (by decide) (Nat.le_of_ble_eq_true rfl) dX4_timetable_32 rfl (fun v g' hq => ?_)
    obtain ⟨x, rfl, r11, eg, hx⟩ := hq
    subst hx
    refine J_eq eg ?_
    refine J_eq (gs_in C0 M 1 0 (by decide)).symm ?_
    show J X 35 [(0, .ref (xad X (0, 0, 0))), (1, iv v_one), (2, iv v_other)] [iv (X2_isAhead_v (C0 1 0) v_one)] (gs C0 4 0 M)
    refine jr_if_eq (pc := 35) (tgt := 49) F (rg_z r11) dX4_timetable_35 (by decide) (fun h12 => ?_) (fun h12 => ?_)
    · exact HT (Or.inl h12)
    refine jr_aload_n (pc := 38) F 0 dX4_timetable_38 rfl rfl ?_
    refine jr_getR (pc := 39) (b := (1, 0, 0)) F f_4_12 m0_0 rfl dX4_timetable_39 ?_
    refine jr_iload_n (pc := 42) F 2 dX4_timetable_42 rfl rfl ?_
    refine jr_callV (pc := 43) (st := []) F [iv v_other] (snd_X2_isAhead h11_0 (g0 := gs C0 4 0 M) rgp_other (X2_isAhead_ok _ _ (c10 h12))) (gs_in C0 M 1 0 (by decide)) ck_4_252 rfl (mL_0 h11_0) rfl rfl rfl (by decide) (Nat.le_of_ble_eq_true rfl) dX4_timetable_43 rfl (fun v g' hq => ?_)
    obtain ⟨x, rfl, r13, eg, hx⟩ := hq
    subst hx
    refine J_eq eg ?_
    refine J_eq (gs_in C0 M 1 0 (by decide)).symm ?_
    show J X 46 [(0, .ref (xad X (0, 0, 0))), (1, iv v_one), (2, iv v_other)] [iv (X2_isAhead_v (C0 1 0) v_other)] (gs C0 4 0 M)
    refine jr_if_ne (pc := 46) (tgt := 56) F (rg_z r13) dX4_timetable_46 (by decide) (fun h14 => ?_) (fun h14 => ?_)
    · exact HF (fun q => q.elim h12 h14)
    exact HT (Or.inr h14)
  · refine jr_aload_n (pc := 49) F 0 dX4_timetable_49 rfl rfl ?_
    refine jr_bipush (pc := 50) F dX4_timetable_50 (by decide) ?_
    have k := Ok_bind k
    refine jr_callV (pc := 52) (st := []) F [iv (-3)] (snd_X4_refuse (M := M) (show Rg (-3) from ⟨by decide, by decide⟩) k) rfl ck_4_61 rfl m0_0 rfl rfl rfl (by decide) (Nat.le_of_ble_eq_true rfl) dX4_timetable_52 rfl (fun v g' hq => ?_)
    obtain ⟨x, L', rfl, r16, eg, k⟩ := hq
    obtain ⟨z17, ez⟩ : ∃ z : Int × GG, z = (x, L') := ⟨_, rfl⟩
    obtain ⟨rfl, rfl⟩ : x = z17.1 ∧ L' = z17.2 := ⟨by rw [ez], by rw [ez]⟩
    clear ez
    refine J_eq eg ?_
    show J X 55 [(0, .ref (xad X (0, 0, 0))), (1, iv v_one), (2, iv v_other)] [iv z17.1] (gs z17.2 4 0 M)
    exact jr_iret (pc := 55) F hQ rfl dX4_timetable_55 ⟨_, _, rfl, r16, rfl, (Ok_some k)⟩
  refine jr_bipush (pc := 56) F dX4_timetable_56 (by decide) ?_
  refine jr_istore_n (pc := 58) F [(3, iv (-9)), (0, .ref (xad X (0, 0, 0))), (1, iv v_one), (2, iv v_other)] dX4_timetable_58 rfl (by decide) rfl ?_
  refine jr_bipush (pc := 59) F dX4_timetable_59 (by decide) ?_
  refine jr_istore (pc := 61) F [(4, iv (-9)), (3, iv (-9)), (0, .ref (xad X (0, 0, 0))), (1, iv v_one), (2, iv v_other)] dX4_timetable_61 (by decide) rfl ?_
  refine jr_iconst (pc := 63) F dX4_timetable_63 ?_
  refine jr_istore (pc := 64) F [(5, iv 0), (4, iv (-9)), (3, iv (-9)), (0, .ref (xad X (0, 0, 0))), (1, iv v_one), (2, iv v_other)] dX4_timetable_64 (by decide) rfl ?_
  refine jr_sub F [3, 4, 5, 2, 1, 0] [(0, .ref (xad X (0, 0, 0))), (1, iv v_one), (2, iv v_other), (3, iv (-9)), (4, iv (-9)), (5, iv 0)] rfl ?_
  refine lpj (P := fun s : Int × Int × Int × GG => Rg (s.1) → Rg (s.2.1) → Rg (s.2.2.1) → J X 66 [(0, .ref (xad X (0, 0, 0))), (1, iv v_one), (2, iv v_other), (3, iv s.1), (4, iv s.2.1), (5, iv s.2.2.1)] [] (gs s.2.2.2 4 0 M)) (PE := fun r : Int × Int × Int × GG => Rg (r.1) → Rg (r.2.1) → Rg (r.2.2.1) → J X 152 [(0, .ref (xad X (0, 0, 0))), (1, iv v_one), (2, iv v_other), (3, iv r.1), (4, iv r.2.1), (5, iv r.2.2.1)] [] (gs r.2.2.2 4 0 M)) k (fun s18 Q19 k hC20 hE21 r23 r24 r25 => ?_) (fun z22 k => ?_) (fun h => h (show Rg (-9) from ⟨by decide, by decide⟩) (show Rg (-9) from ⟨by decide, by decide⟩) (show Rg 0 from ⟨by decide, by decide⟩))
  · refine jr_iload (pc := 66) F 5 dX4_timetable_66 rfl ?_
    refine jr_bipush (pc := 68) F dX4_timetable_68 (by decide) ?_
    refine jr_icmp_gt (pc := 70) (tgt := 152) F r25 (show Rg 24 from ⟨by decide, by decide⟩) dX4_timetable_70 (by decide) (fun h26 => ?_) (fun h26 => ?_)
    · have k := Ok_f (ng_le h26) k
      exact hE21 (s18.1, s18.2.1, s18.2.2.1, s18.2.2.2) (Ok_some k) r23 r24 r25
    have k := Ok_t h26 k
    refine jr_iconst (pc := 73) F dX4_timetable_73 ?_
    refine jr_istore (pc := 74) F [(6, iv 0), (0, .ref (xad X (0, 0, 0))), (1, iv v_one), (2, iv v_other), (3, iv s18.1), (4, iv s18.2.1), (5, iv s18.2.2.1)] dX4_timetable_74 (by decide) rfl ?_
    refine jr_sub F [1, 2, 3, 4, 5, 6, 0] [(0, .ref (xad X (0, 0, 0))), (1, iv v_one), (2, iv v_other), (3, iv s18.1), (4, iv s18.2.1), (5, iv s18.2.2.1), (6, iv 0)] rfl ?_
    refine lpj (P := fun s : Int × Int × Int × GG => Rg (s.1) → Rg (s.2.1) → Rg (s.2.2.1) → J X 76 [(0, .ref (xad X (0, 0, 0))), (1, iv v_one), (2, iv v_other), (3, iv s.1), (4, iv s.2.1), (5, iv s18.2.2.1), (6, iv s.2.2.1)] [] (gs s.2.2.2 4 0 M)) (PE := fun r : Int × Int × Int × GG => Rg (r.1) → Rg (r.2.1) → Rg (r.2.2.1) → J X 146 [(0, .ref (xad X (0, 0, 0))), (1, iv v_one), (2, iv v_other), (3, iv r.1), (4, iv r.2.1), (5, iv s18.2.2.1), (6, iv r.2.2.1)] [] (gs r.2.2.2 4 0 M)) k (fun s27 Q28 k hC29 hE30 r32 r33 r34 => ?_) (fun z31 k => ?_) (fun h => h r23 r24 (show Rg 0 from ⟨by decide, by decide⟩))
    · refine jr_iload (pc := 76) F 6 dX4_timetable_76 rfl ?_
      refine jr_bipush (pc := 78) F dX4_timetable_78 (by decide) ?_
      refine jr_icmp_gt (pc := 80) (tgt := 146) F r34 (show Rg 24 from ⟨by decide, by decide⟩) dX4_timetable_80 (by decide) (fun h35 => ?_) (fun h35 => ?_)
      · have k := Ok_f (ng_le h35) k
        exact hE30 (s27.1, s27.2.1, s27.2.2.1, s27.2.2.2) (Ok_some k) r32 r33 r34
      have k := Ok_t h35 k
      refine jn (P := fun v : Int × GG => Rg (v.1) → J X 105 [(0, .ref (xad X (0, 0, 0))), (1, iv v_one), (2, iv v_other), (3, iv s27.1), (4, iv s27.2.1), (5, iv s18.2.2.1), (6, iv s27.2.2.1)] (iv (v.1) :: []) (gs v.2 4 0 M)) k (fun Q37 k hJ38 => ?_) (fun z36 k r42 => ?_)
      · refine jr_iload (pc := 83) F 5 dX4_timetable_83 rfl ?_
        refine jr_iload (pc := 85) F 6 dX4_timetable_85 rfl ?_
        refine jr_icmp_ne (pc := 87) (tgt := 95) F r25 r34 dX4_timetable_87 (by decide) (fun h39 => ?_) (fun h39 => ?_)
        · have k := Ok_f h39 k
          refine jr_aload_n (pc := 95) F 0 dX4_timetable_95 rfl rfl ?_
          refine jr_iload_n (pc := 96) F 1 dX4_timetable_96 rfl rfl ?_
          refine jr_iload (pc := 97) F 5 dX4_timetable_97 rfl ?_
          refine jr_iload_n (pc := 99) F 2 dX4_timetable_99 rfl rfl ?_
          refine jr_iload (pc := 100) F 6 dX4_timetable_100 rfl ?_
          have k := Ok_bind k
          refine jr_callV (pc := 102) (st := []) F [iv v_one, iv s18.2.2.1, iv v_other, iv s27.2.2.1] (snd_X4_laterOf (M := M) rgp_one r25 rgp_other r34 k) rfl ck_4_263 rfl m0_0 rfl rfl rfl (by decide) (Nat.le_of_ble_eq_true rfl) dX4_timetable_102 rfl (fun v g' hq => ?_)
          obtain ⟨x, L', rfl, r40, eg, k⟩ := hq
          obtain ⟨z41, ez⟩ : ∃ z : Int × GG, z = (x, L') := ⟨_, rfl⟩
          obtain ⟨rfl, rfl⟩ : x = z41.1 ∧ L' = z41.2 := ⟨by rw [ez], by rw [ez]⟩
          clear ez
          refine J_eq eg ?_
          show J X 105 [(0, .ref (xad X (0, 0, 0))), (1, iv v_one), (2, iv v_other), (3, iv s27.1), (4, iv s27.2.1), (5, iv s18.2.2.1), (6, iv s27.2.2.1)] [iv z41.1] (gs z41.2 4 0 M)
          exact hJ38 (z41.1, z41.2) (Ok_some k) r40
        have k := Ok_t h39 k
        refine jr_bipush (pc := 90) F dX4_timetable_90 (by decide) ?_
        refine jr_goto (pc := 92) (tgt := 105) F dX4_timetable_92 (by decide) ?_
        exact hJ38 ((-9), s27.2.2.2) (Ok_some k) (show Rg (-9) from ⟨by decide, by decide⟩)
      refine jr_istore (pc := 105) F [(7, iv z36.1), (0, .ref (xad X (0, 0, 0))), (1, iv v_one), (2, iv v_other), (3, iv s27.1), (4, iv s27.2.1), (5, iv s18.2.2.1), (6, iv s27.2.2.1)] dX4_timetable_105 (by decide) rfl ?_
      refine cnd (c := (¬ z36.1 = (-9)) ∧ ((s27.1 = (-9)) ∨ (z36.1 < s27.2.1))) (GT := J X 127 [(7, iv z36.1), (0, .ref (xad X (0, 0, 0))), (1, iv v_one), (2, iv v_other), (3, iv s27.1), (4, iv s27.2.1), (5, iv s18.2.2.1), (6, iv s27.2.2.1)] [] (gs z36.2 4 0 M)) (GF := J X 140 [(7, iv z36.1), (0, .ref (xad X (0, 0, 0))), (1, iv v_one), (2, iv v_other), (3, iv s27.1), (4, iv s27.2.1), (5, iv s18.2.2.1), (6, iv s27.2.2.1)] [] (gs z36.2 4 0 M)) k (fun HT HF => ?_) (fun h46 k => ?_) (fun h46 k => ?_)
      · refine jr_iload (pc := 107) F 0 dX4_timetable_107 rfl ?_
        refine jr_bipush (pc := 109) F dX4_timetable_109 (by decide) ?_
        refine jr_icmp_eq (pc := 111) (tgt := 140) F r42 (show Rg (-9) from ⟨by decide, by decide⟩) dX4_timetable_111 (by decide) (fun h43 => ?_) (fun h43 => ?_)
        · exact HF (fun q => (fun q => q h43) q.1)
        refine jr_iload_n (pc := 114) F 4 dX4_timetable_114 rfl rfl ?_
        refine jr_bipush (pc := 115) F dX4_timetable_115 (by decide) ?_
        refine jr_icmp_eq (pc := 117) (tgt := 127) F r32 (show Rg (-9) from ⟨by decide, by decide⟩) dX4_timetable_117 (by decide) (fun h44 => ?_) (fun h44 => ?_)
        · exact HT ⟨h43, (Or.inl h44)⟩
        refine jr_iload (pc := 120) F 0 dX4_timetable_120 rfl ?_
        refine jr_iload (pc := 122) F 5 dX4_timetable_122 rfl ?_
        refine jr_icmp_ge (pc := 124) (tgt := 140) F r42 r33 dX4_timetable_124 (by decide) (fun h45 => ?_) (fun h45 => ?_)
        · exact HF (fun q => (fun q => q.elim h44 (ng_lt h45)) q.2)
        exact HT ⟨h43, (Or.inr h45)⟩
      · refine jr_bipush (pc := 127) F dX4_timetable_127 (by decide) ?_
        refine jr_iload (pc := 129) F 6 dX4_timetable_129 rfl ?_
        refine jr_imul (pc := 131) F dX4_timetable_131 ?_
        refine jr_iload (pc := 132) F 7 dX4_timetable_132 rfl ?_
        refine jr_iadd (pc := 134) F dX4_timetable_134 ?_
        obtain ⟨x47, e48, k⟩ := Ok_let k
        have r49 : Rg x47 := rg_of e48 (rg_w _)
        refine jr_top e48 ?_
        refine jr_istore_n (pc := 135) F [(3, iv x47), (7, iv z36.1), (0, .ref (xad X (0, 0, 0))), (1, iv v_one), (2, iv v_other), (4, iv s27.2.1), (5, iv s18.2.2.1), (6, iv s27.2.2.1)] dX4_timetable_135 rfl (by decide) rfl ?_
        refine jr_iload (pc := 136) F 1 dX4_timetable_136 rfl ?_
        refine jr_istore (pc := 138) F [(4, iv z36.1), (3, iv x47), (7, iv z36.1), (0, .ref (xad X (0, 0, 0))), (1, iv v_one), (2, iv v_other), (5, iv s18.2.2.1), (6, iv s27.2.2.1)] dX4_timetable_138 (by decide) rfl ?_
        refine jr_iinc (pc := 140) F [(6, iv (w32 (s27.2.2.1 + 6))), (4, iv z36.1), (3, iv x47), (7, iv z36.1), (0, .ref (xad X (0, 0, 0))), (1, iv v_one), (2, iv v_other), (5, iv s18.2.2.1)] 7 dX4_timetable_140 rfl (by decide) rfl ?_
        refine jr_goto (pc := 143) (tgt := 76) F dX4_timetable_143 (by decide) ?_
        refine jr_sub F [4, 5, 6, 2, 1, 7, 0] [(0, .ref (xad X (0, 0, 0))), (1, iv v_one), (2, iv v_other), (3, iv x47), (4, iv z36.1), (5, iv s18.2.2.1), (6, iv (w32 (s27.2.2.1 + 6)))] rfl ?_
        exact hC29 (x47, z36.1, w32 (s27.2.2.1 + 6), z36.2) (Ok_some k) r49 r42 (rg_w _)
      refine jr_iinc (pc := 140) F [(6, iv (w32 (s27.2.2.1 + 6))), (7, iv z36.1), (0, .ref (xad X (0, 0, 0))), (1, iv v_one), (2, iv v_other), (3, iv s27.1), (4, iv s27.2.1), (5, iv s18.2.2.1)] 7 dX4_timetable_140 rfl (by decide) rfl ?_
      refine jr_goto (pc := 143) (tgt := 76) F dX4_timetable_143 (by decide) ?_
      refine jr_sub F [2, 3, 4, 5, 6, 7, 0] [(0, .ref (xad X (0, 0, 0))), (1, iv v_one), (2, iv v_other), (3, iv s27.1), (4, iv s27.2.1), (5, iv s18.2.2.1), (6, iv (w32 (s27.2.2.1 + 6)))] rfl ?_
      exact hC29 (s27.1, s27.2.1, w32 (s27.2.2.1 + 6), z36.2) (Ok_some k) r32 r33 (rg_w _)
    intro r50 r51 r52
    refine jr_iinc (pc := 146) F [(5, iv (w32 (s18.2.2.1 + 6))), (0, .ref (xad X (0, 0, 0))), (1, iv v_one), (2, iv v_other), (3, iv z31.1), (4, iv z31.2.1), (6, iv z31.2.2.1)] 5 dX4_timetable_146 rfl (by decide) rfl ?_
    refine jr_goto (pc := 149) (tgt := 66) F dX4_timetable_149 (by decide) ?_
    refine jr_sub F [1, 2, 3, 4, 5, 0] [(0, .ref (xad X (0, 0, 0))), (1, iv v_one), (2, iv v_other), (3, iv z31.1), (4, iv z31.2.1), (5, iv (w32 (s18.2.2.1 + 6)))] rfl ?_
    exact hC20 (z31.1, z31.2.1, w32 (s18.2.2.1 + 6), z31.2.2.2) (Ok_some k) r50 r51 (rg_w _)
  intro r53 r54 r55
  refine jr_iload_n (pc := 152) F 3 dX4_timetable_152 rfl rfl ?_
  exact jr_iret (pc := 153) F hQ rfl dX4_timetable_153 ⟨_, _, rfl, r53, rfl, (Ok_some k)⟩
set_option maxHeartbeats 4000000 in
set_option maxRecDepth 100000 in
theorem snd_X4_told {C0 : GG} {v_train : Int} {v_what : Int} {M : LT} (rgp_train : Rg v_train) (rgp_what : Rg v_what) {Q : (Int × GG) → Prop} (k : Ok (X4_told C0 v_train v_what) Q) : MetG SL yX4_told cX4_told 3 (some .int) 1 (fun ad => [.ref (ad (0, 0, 0)), iv v_train, iv v_what]) (gs C0 4 0 M) (fun v g' => ∃ (x : Int) (L' : GG), v = some (iv x) ∧ Rg x ∧ g' = gs L' 4 0 M ∧ Q (x, L')) := by
  refine met_intro SL_ok (by decide +kernel) (fun ad => Nat.le_of_ble_eq_true rfl) (fun X F hQ hR => ?_)
  replace F : FX X cX4_told RX4 3 (some .int) SL 1 := F
  show J X 0 [(0, .ref (xad X (0, 0, 0))), (1, iv v_train), (2, iv v_what)] [] (gs C0 4 0 M)
  refine jr_aload_n (pc := 0) F 0 dX4_told_0 rfl rfl ?_
  refine jr_iload_n (pc := 1) F 1 dX4_told_1 rfl rfl ?_
  refine jr_callV (pc := 2) (st := []) F [iv v_train] (snd_X4_noTrain (M := M) rgp_train (X4_noTrain_ok _ _ )) rfl ck_4_162 rfl m0_0 rfl rfl rfl (by decide) (Nat.le_of_ble_eq_true rfl) dX4_told_2 rfl (fun v g' hq => ?_)
  obtain ⟨x, rfl, r1, eg, hx⟩ := hq
  subst hx
  refine J_eq eg ?_
  show J X 5 [(0, .ref (xad X (0, 0, 0))), (1, iv v_train), (2, iv v_what)] [iv (X4_noTrain_v C0 v_train)] (gs C0 4 0 M)
  refine jr_if_eq (pc := 5) (tgt := 14) F (rg_z r1) dX4_told_5 (by decide) (fun h2 => ?_) (fun h2 => ?_)
  · have k := Ok_f (fun q => q h2) k
    refine jr_iload_n (pc := 14) F 2 dX4_told_14 rfl rfl ?_
    by_cases h3 : v_what = 0
    · have k := Ok_t h3 k
      refine jr_tsin (pc := 15) (tgt := 52) (off := 37) F h3 ⟨by decide, by decide⟩ ⟨by decide, by decide⟩ rfl (by decide) dX4_told_15 ?_
      refine jr_aload_n (pc := 52) F 0 dX4_told_52 rfl rfl ?_
      refine jr_getR (pc := 53) (b := (1, 0, 0)) F f_4_12 m0_0 rfl dX4_told_53 ?_
      refine jr_getR (pc := 56) (b := (1, 0, 9)) F f_4_165 (mL_0 h11_0) rfl dX4_told_56 ?_
      refine jr_iload_n (pc := 59) F 1 dX4_told_59 rfl rfl ?_
      obtain ⟨c4, k⟩ := Ok_grd k
      refine jr_iald (pc := 60) F (C0 1 0 9 v_train) (mL_9 h11_0) (by decide) c4 rfl dX4_told_60 (fun r5 => ?_)
      exact jr_iret (pc := 61) F hQ rfl dX4_told_61 ⟨_, _, rfl, r5, rfl, (Ok_some k)⟩
    have k := Ok_f h3 k
    by_cases h6 : v_what = 1
    · have k := Ok_t h6 k
      refine jr_tsin (pc := 15) (tgt := 62) (off := 47) F h6 ⟨by decide, by decide⟩ ⟨by decide, by decide⟩ rfl (by decide) dX4_told_15 ?_
      refine jr_aload_n (pc := 62) F 0 dX4_told_62 rfl rfl ?_
      refine jr_getR (pc := 63) (b := (1, 0, 0)) F f_4_12 m0_0 rfl dX4_told_63 ?_
      refine jr_getR (pc := 66) (b := (1, 0, 10)) F f_4_168 (mL_0 h11_0) rfl dX4_told_66 ?_
      refine jr_iload_n (pc := 69) F 1 dX4_told_69 rfl rfl ?_
      obtain ⟨c7, k⟩ := Ok_grd k
      refine jr_iald (pc := 70) F (C0 1 0 10 v_train) (mL_10 h11_0) (by decide) c7 rfl dX4_told_70 (fun r8 => ?_)
      exact jr_iret (pc := 71) F hQ rfl dX4_told_71 ⟨_, _, rfl, r8, rfl, (Ok_some k)⟩
    have k := Ok_f h6 k
    by_cases h9 : v_what = 2
    · have k := Ok_t h9 k
      refine jr_tsin (pc := 15) (tgt := 72) (off := 57) F h9 ⟨by decide, by decide⟩ ⟨by decide, by decide⟩ rfl (by decide) dX4_told_15 ?_
      refine jr_aload_n (pc := 72) F 0 dX4_told_72 rfl rfl ?_
      refine jr_getR (pc := 73) (b := (1, 0, 0)) F f_4_12 m0_0 rfl dX4_told_73 ?_
      refine jr_getR (pc := 76) (b := (1, 0, 11)) F f_4_171 (mL_0 h11_0) rfl dX4_told_76 ?_
      refine jr_iload_n (pc := 79) F 1 dX4_told_79 rfl rfl ?_
      obtain ⟨c10, k⟩ := Ok_grd k
      refine jr_iald (pc := 80) F (C0 1 0 11 v_train) (mL_11 h11_0) (by decide) c10 rfl dX4_told_80 (fun r11 => ?_)
      exact jr_iret (pc := 81) F hQ rfl dX4_told_81 ⟨_, _, rfl, r11, rfl, (Ok_some k)⟩
    have k := Ok_f h9 k
    by_cases h12 : v_what = 3
    · have k := Ok_t h12 k
      refine jr_tsin (pc := 15) (tgt := 82) (off := 67) F h12 ⟨by decide, by decide⟩ ⟨by decide, by decide⟩ rfl (by decide) dX4_told_15 ?_
      refine jr_aload_n (pc := 82) F 0 dX4_told_82 rfl rfl ?_
      refine jr_getR (pc := 83) (b := (1, 0, 0)) F f_4_12 m0_0 rfl dX4_told_83 ?_
      refine jr_getR (pc := 86) (b := (1, 0, 12)) F f_4_174 (mL_0 h11_0) rfl dX4_told_86 ?_
      refine jr_iload_n (pc := 89) F 1 dX4_told_89 rfl rfl ?_
      obtain ⟨c13, k⟩ := Ok_grd k
      refine jr_iald (pc := 90) F (C0 1 0 12 v_train) (mL_12 h11_0) (by decide) c13 rfl dX4_told_90 (fun r14 => ?_)
      exact jr_iret (pc := 91) F hQ rfl dX4_told_91 ⟨_, _, rfl, r14, rfl, (Ok_some k)⟩
    have k := Ok_f h12 k
    by_cases h15 : v_what = 4
    · have k := Ok_t h15 k
      refine jr_tsin (pc := 15) (tgt := 92) (off := 77) F h15 ⟨by decide, by decide⟩ ⟨by decide, by decide⟩ rfl (by decide) dX4_told_15 ?_
      refine jr_aload_n (pc := 92) F 0 dX4_told_92 rfl rfl ?_
      refine jr_getR (pc := 93) (b := (1, 0, 0)) F f_4_12 m0_0 rfl dX4_told_93 ?_
      refine jr_getR (pc := 96) (b := (1, 0, 13)) F f_4_177 (mL_0 h11_0) rfl dX4_told_96 ?_
      refine jr_iload_n (pc := 99) F 1 dX4_told_99 rfl rfl ?_
      obtain ⟨c16, k⟩ := Ok_grd k
      refine jr_iald (pc := 100) F (C0 1 0 13 v_train) (mL_13 h11_0) (by decide) c16 rfl dX4_told_100 (fun r17 => ?_)
      exact jr_iret (pc := 101) F hQ rfl dX4_told_101 ⟨_, _, rfl, r17, rfl, (Ok_some k)⟩
    have k := Ok_f h15 k
    by_cases h18 : v_what = 5
    · have k := Ok_t h18 k
      refine jr_tsin (pc := 15) (tgt := 102) (off := 87) F h18 ⟨by decide, by decide⟩ ⟨by decide, by decide⟩ rfl (by decide) dX4_told_15 ?_
      refine jr_aload_n (pc := 102) F 0 dX4_told_102 rfl rfl ?_
      refine jr_getR (pc := 103) (b := (1, 0, 0)) F f_4_12 m0_0 rfl dX4_told_103 ?_
      refine jr_getR (pc := 106) (b := (1, 0, 14)) F f_4_180 (mL_0 h11_0) rfl dX4_told_106 ?_
      refine jr_iload_n (pc := 109) F 1 dX4_told_109 rfl rfl ?_
      obtain ⟨c19, k⟩ := Ok_grd k
      refine jr_iald (pc := 110) F (C0 1 0 14 v_train) (mL_14 h11_0) (by decide) c19 rfl dX4_told_110 (fun r20 => ?_)
      exact jr_iret (pc := 111) F hQ rfl dX4_told_111 ⟨_, _, rfl, r20, rfl, (Ok_some k)⟩
    have k := Ok_f h18 k
    refine jr_tsout (pc := 15) (tgt := 112) F rgp_what (by omega) (by decide) dX4_told_15 ?_
    refine jr_aload_n (pc := 112) F 0 dX4_told_112 rfl rfl ?_
    refine jr_bipush (pc := 113) F dX4_told_113 (by decide) ?_
    have k := Ok_bind k
    refine jr_callV (pc := 115) (st := []) F [iv (-2)] (snd_X4_refuse (M := M) (show Rg (-2) from ⟨by decide, by decide⟩) k) rfl ck_4_61 rfl m0_0 rfl rfl rfl (by decide) (Nat.le_of_ble_eq_true rfl) dX4_told_115 rfl (fun v g' hq => ?_)
    obtain ⟨x, L', rfl, r21, eg, k⟩ := hq
    obtain ⟨z22, ez⟩ : ∃ z : Int × GG, z = (x, L') := ⟨_, rfl⟩
    obtain ⟨rfl, rfl⟩ : x = z22.1 ∧ L' = z22.2 := ⟨by rw [ez], by rw [ez]⟩
    clear ez
    refine J_eq eg ?_
    show J X 118 [(0, .ref (xad X (0, 0, 0))), (1, iv v_train), (2, iv v_what)] [iv z22.1] (gs z22.2 4 0 M)
    exact jr_iret (pc := 118) F hQ rfl dX4_told_118 ⟨_, _, rfl, r21, rfl, (Ok_some k)⟩
  have k := Ok_t h2 k
  refine jr_aload_n (pc := 8) F 0 dX4_told_8 rfl rfl ?_
  refine jr_iconst (pc := 9) F dX4_told_9 ?_
  have k := Ok_bind k
  refine jr_callV (pc := 10) (st := []) F [iv (-1)] (snd_X4_refuse (M := M) (show Rg (-1) from ⟨by decide, by decide⟩) k) rfl ck_4_61 rfl m0_0 rfl rfl rfl (by decide) (Nat.le_of_ble_eq_true rfl) dX4_told_10 rfl (fun v g' hq => ?_)
  obtain ⟨x, L', rfl, r23, eg, k⟩ := hq
  obtain ⟨z24, ez⟩ : ∃ z : Int × GG, z = (x, L') := ⟨_, rfl⟩
  obtain ⟨rfl, rfl⟩ : x = z24.1 ∧ L' = z24.2 := ⟨by rw [ez], by rw [ez]⟩
  clear ez
  refine J_eq eg ?_
  show J X 13 [(0, .ref (xad X (0, 0, 0))), (1, iv v_train), (2, iv v_what)] [iv z24.1] (gs z24.2 4 0 M)
  exact jr_iret (pc := 13) F hQ rfl dX4_told_13 ⟨_, _, rfl, r23, rfl, (Ok_some k)⟩
set_option maxHeartbeats 4000000 in
set_option maxRecDepth 100000 in
theorem snd_X4_train {C0 : GG} {v_weight : Int} {v_warmth : Int} {v_pace : Int} {M : LT} (rgp_weight : Rg v_weight) (rgp_warmth : Rg v_warmth) (rgp_pace : Rg v_pace) {Q : (Int × GG) → Prop} (k : Ok (X4_train C0 v_weight v_warmth v_pace) Q) : MetG SL yX4_train cX4_train 4 (some .int) 1 (fun ad => [.ref (ad (0, 0, 0)), iv v_weight, iv v_warmth, iv v_pace]) (gs C0 4 0 M) (fun v g' => ∃ (x : Int) (L' : GG), v = some (iv x) ∧ Rg x ∧ g' = gs L' 4 0 M ∧ Q (x, L')) := by
  refine met_intro SL_ok (by decide +kernel) (fun ad => Nat.le_of_ble_eq_true rfl) (fun X F hQ hR => ?_)
  replace F : FX X cX4_train RX4 4 (some .int) SL 1 := F
  show J X 0 [(0, .ref (xad X (0, 0, 0))), (1, iv v_weight), (2, iv v_warmth), (3, iv v_pace)] [] (gs C0 4 0 M)
  refine cnd (c := ((v_weight < 1) ∨ (v_warmth < 0)) ∨ (v_pace < 1)) (GT := J X 14 [(0, .ref (xad X (0, 0, 0))), (1, iv v_weight), (2, iv v_warmth), (3, iv v_pace)] [] (gs C0 4 0 M)) (GF := J X 21 [(0, .ref (xad X (0, 0, 0))), (1, iv v_weight), (2, iv v_warmth), (3, iv v_pace)] [] (gs C0 4 0 M)) k (fun HT HF => ?_) (fun h4 k => ?_) (fun h4 k => ?_)
  · refine jr_iload_n (pc := 0) F 1 dX4_train_0 rfl rfl ?_
    refine jr_iconst (pc := 1) F dX4_train_1 ?_
    refine jr_icmp_lt (pc := 2) (tgt := 14) F rgp_weight (show Rg 1 from ⟨by decide, by decide⟩) dX4_train_2 (by decide) (fun h1 => ?_) (fun h1 => ?_)
    · exact HT (Or.inl (Or.inl h1))
    refine jr_iload_n (pc := 5) F 2 dX4_train_5 rfl rfl ?_
    refine jr_if_lt (pc := 6) (tgt := 14) F rgp_warmth dX4_train_6 (by decide) (fun h2 => ?_) (fun h2 => ?_)
    · exact HT (Or.inl (Or.inr h2))
    refine jr_iload_n (pc := 9) F 3 dX4_train_9 rfl rfl ?_
    refine jr_iconst (pc := 10) F dX4_train_10 ?_
    refine jr_icmp_ge (pc := 11) (tgt := 21) F rgp_pace (show Rg 1 from ⟨by decide, by decide⟩) dX4_train_11 (by decide) (fun h3 => ?_) (fun h3 => ?_)
    · exact HF (fun q => q.elim (fun q => q.elim (ng_lt h1) (ng_lt h2)) (ng_lt h3))
    exact HT (Or.inr h3)
  · refine jr_aload_n (pc := 14) F 0 dX4_train_14 rfl rfl ?_
    refine jr_bipush (pc := 15) F dX4_train_15 (by decide) ?_
    have k := Ok_bind k
    refine jr_callV (pc := 17) (st := []) F [iv (-4)] (snd_X4_refuse (M := M) (show Rg (-4) from ⟨by decide, by decide⟩) k) rfl ck_4_61 rfl m0_0 rfl rfl rfl (by decide) (Nat.le_of_ble_eq_true rfl) dX4_train_17 rfl (fun v g' hq => ?_)
    obtain ⟨x, L', rfl, r5, eg, k⟩ := hq
    obtain ⟨z6, ez⟩ : ∃ z : Int × GG, z = (x, L') := ⟨_, rfl⟩
    obtain ⟨rfl, rfl⟩ : x = z6.1 ∧ L' = z6.2 := ⟨by rw [ez], by rw [ez]⟩
    clear ez
    refine J_eq eg ?_
    show J X 20 [(0, .ref (xad X (0, 0, 0))), (1, iv v_weight), (2, iv v_warmth), (3, iv v_pace)] [iv z6.1] (gs z6.2 4 0 M)
    exact jr_iret (pc := 20) F hQ rfl dX4_train_20 ⟨_, _, rfl, r5, rfl, (Ok_some k)⟩
  refine jr_aload_n (pc := 21) F 0 dX4_train_21 rfl rfl ?_
  refine jr_getR (pc := 22) (b := (1, 0, 0)) F f_4_12 m0_0 rfl dX4_train_22 ?_
  refine jr_iload_n (pc := 25) F 1 dX4_train_25 rfl rfl ?_
  refine jr_iload_n (pc := 26) F 2 dX4_train_26 rfl rfl ?_
  refine jr_iload_n (pc := 27) F 3 dX4_train_27 rfl rfl ?_
  have k := Ok_bind k
  refine jr_callV (pc := 28) (st := []) F [iv v_weight, iv v_warmth, iv v_pace] (snd_X2_addTrain h11_0 (g0 := gs C0 4 0 M) rgp_weight rgp_warmth rgp_pace k) (gs_in C0 M 1 0 (by decide)) ck_4_107 rfl (mL_0 h11_0) rfl rfl rfl (by decide) (Nat.le_of_ble_eq_true rfl) dX4_train_28 rfl (fun v g' hq => ?_)
  obtain ⟨x, L', rfl, r7, eg, k⟩ := hq
  obtain ⟨z8, ez⟩ : ∃ z : Int × LT, z = (x, L') := ⟨_, rfl⟩
  obtain ⟨rfl, rfl⟩ : x = z8.1 ∧ L' = z8.2 := ⟨by rw [ez], by rw [ez]⟩
  clear ez
  rw [gs_comm (by decide)] at eg
  obtain ⟨C9, e10, k⟩ := Ok_let k
  rw [← e10] at eg
  refine J_eq eg ?_
  show J X 31 [(0, .ref (xad X (0, 0, 0))), (1, iv v_weight), (2, iv v_warmth), (3, iv v_pace)] [iv z8.1] (gs C9 4 0 M)
  refine jr_if_ne (pc := 31) (tgt := 41) F (rg_z r7) dX4_train_31 (by decide) (fun h11 => ?_) (fun h11 => ?_)
  · have k := Ok_t h11 k
    refine jr_aload_n (pc := 41) F 0 dX4_train_41 rfl rfl ?_
    refine jr_getR (pc := 42) (b := (3, 0, 0)) F f_4_29 m0_0 rfl dX4_train_42 ?_
    have k := Ok_bind k
    refine jr_callV (pc := 45) (st := []) F [] (snd_X3_forget (M := M)  k) rfl ck_4_90 rfl m3_0 rfl rfl rfl (by decide) (Nat.le_of_ble_eq_true rfl) dX4_train_45 rfl (fun v g' hq => ?_)
    obtain ⟨z13, rfl, eg, k⟩ := hq
    refine J_eq eg ?_
    show J X 48 [(0, .ref (xad X (0, 0, 0))), (1, iv v_weight), (2, iv v_warmth), (3, iv v_pace)] [] (gs z13 4 0 M)
    refine jr_aload_n (pc := 48) F 0 dX4_train_48 rfl rfl ?_
    refine jr_getR (pc := 49) (b := (1, 0, 0)) F f_4_12 m0_0 rfl dX4_train_49 ?_
    refine jr_getI (pc := 52) F (z13 1 0 0 4) f_4_159 (mL_0 h11_0) rfl rfl dX4_train_52 (fun r14 => ?_)
    refine jr_iconst (pc := 55) F dX4_train_55 ?_
    refine jr_isub (pc := 56) F dX4_train_56 ?_
    exact jr_iret (pc := 57) F hQ rfl dX4_train_57 ⟨_, _, rfl, (rg_w _), rfl, (Ok_some k)⟩
  have k := Ok_f (fun q => q h11) k
  refine jr_aload_n (pc := 34) F 0 dX4_train_34 rfl rfl ?_
  refine jr_bipush (pc := 35) F dX4_train_35 (by decide) ?_
  have k := Ok_bind k
  refine jr_callV (pc := 37) (st := []) F [iv (-6)] (snd_X4_refuse (M := M) (show Rg (-6) from ⟨by decide, by decide⟩) k) rfl ck_4_61 rfl m0_0 rfl rfl rfl (by decide) (Nat.le_of_ble_eq_true rfl) dX4_train_37 rfl (fun v g' hq => ?_)
  obtain ⟨x, L', rfl, r15, eg, k⟩ := hq
  obtain ⟨z16, ez⟩ : ∃ z : Int × GG, z = (x, L') := ⟨_, rfl⟩
  obtain ⟨rfl, rfl⟩ : x = z16.1 ∧ L' = z16.2 := ⟨by rw [ez], by rw [ez]⟩
  clear ez
  refine J_eq eg ?_
  show J X 40 [(0, .ref (xad X (0, 0, 0))), (1, iv v_weight), (2, iv v_warmth), (3, iv v_pace)] [iv z16.1] (gs z16.2 4 0 M)
  exact jr_iret (pc := 40) F hQ rfl dX4_train_40 ⟨_, _, rfl, r15, rfl, (Ok_some k)⟩
