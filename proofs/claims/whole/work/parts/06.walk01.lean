set_option maxHeartbeats 4000000 in
set_option maxRecDepth 100000 in
theorem snd_X4_blocker {C0 : GG} {M : LT}  {Q : (Int × GG) → Prop} (k : Ok (X4_blocker C0) Q) : MetG SL yX4_blocker cX4_blocker 6 (some .int) 6 (fun ad => [.ref (ad (0, 0, 0))]) (gs C0 4 0 M) (fun v g' => ∃ (x : Int) (L' : GG), v = some (iv x) ∧ Rg x ∧ g' = gs L' 4 0 M ∧ Q (x, L')) := by
  refine met_intro SL_ok (by decide +kernel) (fun ad => Nat.le_of_ble_eq_true rfl) (fun X F hQ hR => ?_)
  replace F : FX X cX4_blocker RX4 6 (some .int) SL 6 := F
  show J X 0 [(0, .ref (xad X (0, 0, 0)))] [] (gs C0 4 0 M)
  refine jr_bipush (pc := 0) F dX4_blocker_0 (by decide) ?_
  refine jr_istore_n (pc := 2) F [(1, iv (-9)), (0, .ref (xad X (0, 0, 0)))] dX4_blocker_2 rfl (by decide) rfl ?_
  refine jr_bipush (pc := 3) F dX4_blocker_3 (by decide) ?_
  refine jr_istore_n (pc := 5) F [(2, iv (-9)), (1, iv (-9)), (0, .ref (xad X (0, 0, 0)))] dX4_blocker_5 rfl (by decide) rfl ?_
  refine jr_iconst (pc := 6) F dX4_blocker_6 ?_
  refine jr_istore_n (pc := 7) F [(3, iv 0), (2, iv (-9)), (1, iv (-9)), (0, .ref (xad X (0, 0, 0)))] dX4_blocker_7 rfl (by decide) rfl ?_
  refine jr_sub F [3, 2, 1, 0] [(0, .ref (xad X (0, 0, 0))), (1, iv (-9)), (2, iv (-9)), (3, iv 0)] rfl ?_
  refine lpj (P := fun s : Int × Int × Int × GG => Rg (s.1) → Rg (s.2.1) → Rg (s.2.2.1) → J X 8 [(0, .ref (xad X (0, 0, 0))), (1, iv s.1), (2, iv s.2.1), (3, iv s.2.2.1)] [] (gs s.2.2.2 4 0 M)) (PE := fun r : Int × Int × Int × GG => Rg (r.1) → Rg (r.2.1) → Rg (r.2.2.1) → J X 69 [(0, .ref (xad X (0, 0, 0))), (1, iv r.1), (2, iv r.2.1), (3, iv r.2.2.1)] [] (gs r.2.2.2 4 0 M)) k (fun s1 Q2 k hC3 hE4 r6 r7 r8 => ?_) (fun z5 k => ?_) (fun h => h (show Rg (-9) from ⟨by decide, by decide⟩) (show Rg (-9) from ⟨by decide, by decide⟩) (show Rg 0 from ⟨by decide, by decide⟩))
  · refine jr_iload_n (pc := 8) F 3 dX4_blocker_8 rfl rfl ?_
    refine jr_aload_n (pc := 9) F 0 dX4_blocker_9 rfl rfl ?_
    refine jr_getR (pc := 10) (b := (1, 0, 0)) F f_4_12 m0_0 rfl dX4_blocker_10 ?_
    refine jr_getI (pc := 13) F (s1.2.2.2 1 0 0 4) f_4_159 (mL_0 h11_0) rfl rfl dX4_blocker_13 (fun r9 => ?_)
    refine jr_icmp_ge (pc := 16) (tgt := 69) F r8 r9 dX4_blocker_16 (by decide) (fun h10 => ?_) (fun h10 => ?_)
    · have k := Ok_f (ng_lt h10) k
      exact hE4 (s1.1, s1.2.1, s1.2.2.1, s1.2.2.2) (Ok_some k) r6 r7 r8
    have k := Ok_t h10 k
    refine jr_aload_n (pc := 19) F 0 dX4_blocker_19 rfl rfl ?_
    refine jr_getR (pc := 20) (b := (1, 0, 0)) F f_4_12 m0_0 rfl dX4_blocker_20 ?_
    refine jr_getR (pc := 23) (b := (1, 0, 14)) F f_4_180 (mL_0 h11_0) rfl dX4_blocker_23 ?_
    refine jr_iload_n (pc := 26) F 3 dX4_blocker_26 rfl rfl ?_
    obtain ⟨c11, k⟩ := Ok_grd k
    refine jr_iald (pc := 27) F (s1.2.2.2 1 0 14 s1.2.2.1) (mL_14 h11_0) (by decide) c11 rfl dX4_blocker_27 (fun r12 => ?_)
    refine jr_if_ne (pc := 28) (tgt := 63) F r12 dX4_blocker_28 (by decide) (fun h13 => ?_) (fun h13 => ?_)
    · have k := Ok_f h13 k
      refine jr_iinc (pc := 63) F [(3, iv (w32 (s1.2.2.1 + 1))), (0, .ref (xad X (0, 0, 0))), (1, iv s1.1), (2, iv s1.2.1)] 3 dX4_blocker_63 rfl (by decide) rfl ?_
      refine jr_goto (pc := 66) (tgt := 8) F dX4_blocker_66 (by decide) ?_
      refine jr_sub F [1, 2, 3, 0] [(0, .ref (xad X (0, 0, 0))), (1, iv s1.1), (2, iv s1.2.1), (3, iv (w32 (s1.2.2.1 + 1)))] rfl ?_
      exact hC3 (s1.1, s1.2.1, w32 (s1.2.2.1 + 1), s1.2.2.2) (Ok_some k) r6 r7 (rg_w _)
    have k := Ok_t h13 k
    refine jr_aload_n (pc := 31) F 0 dX4_blocker_31 rfl rfl ?_
    refine jr_iload_n (pc := 32) F 3 dX4_blocker_32 rfl rfl ?_
    have k := Ok_bind k
    refine jr_callV (pc := 33) (st := []) F [iv s1.2.2.1] (snd_X4_othersThroughNow (M := M) r8 k) rfl ck_4_316 rfl m0_0 rfl rfl rfl (by decide) (Nat.le_of_ble_eq_true rfl) dX4_blocker_33 rfl (fun v g' hq => ?_)
    obtain ⟨x, L', rfl, r14, eg, k⟩ := hq
    obtain ⟨z15, ez⟩ : ∃ z : Int × GG, z = (x, L') := ⟨_, rfl⟩
    obtain ⟨rfl, rfl⟩ : x = z15.1 ∧ L' = z15.2 := ⟨by rw [ez], by rw [ez]⟩
    clear ez
    refine J_eq eg ?_
    show J X 36 [(0, .ref (xad X (0, 0, 0))), (1, iv s1.1), (2, iv s1.2.1), (3, iv s1.2.2.1)] [iv z15.1] (gs z15.2 4 0 M)
    refine jr_istore (pc := 36) F [(4, iv z15.1), (0, .ref (xad X (0, 0, 0))), (1, iv s1.1), (2, iv s1.2.1), (3, iv s1.2.2.1)] dX4_blocker_36 (by decide) rfl ?_
    refine jr_aload_n (pc := 38) F 1 dX4_blocker_38 rfl rfl ?_
    refine jr_iload_n (pc := 39) F 4 dX4_blocker_39 rfl rfl ?_
    have k := Ok_bind k
    refine jr_callV (pc := 40) (st := []) F [iv s1.2.2.1] (snd_X4_othersThroughWithout (M := M) r8 k) rfl ck_4_319 rfl m0_0 rfl rfl rfl (by decide) (Nat.le_of_ble_eq_true rfl) dX4_blocker_40 rfl (fun v g' hq => ?_)
    obtain ⟨x, L', rfl, r16, eg, k⟩ := hq
    obtain ⟨z17, ez⟩ : ∃ z : Int × GG, z = (x, L') := ⟨_, rfl⟩
    obtain ⟨rfl, rfl⟩ : x = z17.1 ∧ L' = z17.2 := ⟨by rw [ez], by rw [ez]⟩
    clear ez
    refine J_eq eg ?_
    show J X 43 [(4, iv z15.1), (0, .ref (xad X (0, 0, 0))), (1, iv s1.1), (2, iv s1.2.1), (3, iv s1.2.2.1)] [iv z17.1] (gs z17.2 4 0 M)
    refine jr_istore (pc := 43) F [(5, iv z17.1), (4, iv z15.1), (0, .ref (xad X (0, 0, 0))), (1, iv s1.1), (2, iv s1.2.1), (3, iv s1.2.2.1)] dX4_blocker_43 (by decide) rfl ?_
    refine cnd (c := (z15.1 < z17.1) ∧ (s1.1 < z17.1)) (GT := J X 58 [(5, iv z17.1), (4, iv z15.1), (0, .ref (xad X (0, 0, 0))), (1, iv s1.1), (2, iv s1.2.1), (3, iv s1.2.2.1)] [] (gs z17.2 4 0 M)) (GF := J X 63 [(5, iv z17.1), (4, iv z15.1), (0, .ref (xad X (0, 0, 0))), (1, iv s1.1), (2, iv s1.2.1), (3, iv s1.2.2.1)] [] (gs z17.2 4 0 M)) k (fun HT HF => ?_) (fun h20 k => ?_) (fun h20 k => ?_)
    · refine jr_iload (pc := 45) F 0 dX4_blocker_45 rfl ?_
      refine jr_iload (pc := 47) F 1 dX4_blocker_47 rfl ?_
      refine jr_icmp_le (pc := 49) (tgt := 63) F r16 r14 dX4_blocker_49 (by decide) (fun h18 => ?_) (fun h18 => ?_)
      · exact HF (fun q => (ng_lt h18) q.1)
      refine jr_iload (pc := 52) F 0 dX4_blocker_52 rfl ?_
      refine jr_iload_n (pc := 54) F 3 dX4_blocker_54 rfl rfl ?_
      refine jr_icmp_le (pc := 55) (tgt := 63) F r16 r6 dX4_blocker_55 (by decide) (fun h19 => ?_) (fun h19 => ?_)
      · exact HF (fun q => (ng_lt h19) q.2)
      exact HT ⟨h18, h19⟩
    · refine jr_iload (pc := 58) F 0 dX4_blocker_58 rfl ?_
      refine jr_istore_n (pc := 60) F [(1, iv z17.1), (5, iv z17.1), (4, iv z15.1), (0, .ref (xad X (0, 0, 0))), (2, iv s1.2.1), (3, iv s1.2.2.1)] dX4_blocker_60 rfl (by decide) rfl ?_
      refine jr_iload_n (pc := 61) F 5 dX4_blocker_61 rfl rfl ?_
      refine jr_istore_n (pc := 62) F [(2, iv s1.2.2.1), (1, iv z17.1), (5, iv z17.1), (4, iv z15.1), (0, .ref (xad X (0, 0, 0))), (3, iv s1.2.2.1)] dX4_blocker_62 rfl (by decide) rfl ?_
      refine jr_iinc (pc := 63) F [(3, iv (w32 (s1.2.2.1 + 1))), (2, iv s1.2.2.1), (1, iv z17.1), (5, iv z17.1), (4, iv z15.1), (0, .ref (xad X (0, 0, 0)))] 5 dX4_blocker_63 rfl (by decide) rfl ?_
      refine jr_goto (pc := 66) (tgt := 8) F dX4_blocker_66 (by decide) ?_
      refine jr_sub F [5, 2, 1, 0] [(0, .ref (xad X (0, 0, 0))), (1, iv z17.1), (2, iv s1.2.2.1), (3, iv (w32 (s1.2.2.1 + 1)))] rfl ?_
      exact hC3 (z17.1, s1.2.2.1, w32 (s1.2.2.1 + 1), z17.2) (Ok_some k) r16 r8 (rg_w _)
    refine jr_iinc (pc := 63) F [(3, iv (w32 (s1.2.2.1 + 1))), (5, iv z17.1), (4, iv z15.1), (0, .ref (xad X (0, 0, 0))), (1, iv s1.1), (2, iv s1.2.1)] 5 dX4_blocker_63 rfl (by decide) rfl ?_
    refine jr_goto (pc := 66) (tgt := 8) F dX4_blocker_66 (by decide) ?_
    refine jr_sub F [3, 4, 5, 0] [(0, .ref (xad X (0, 0, 0))), (1, iv s1.1), (2, iv s1.2.1), (3, iv (w32 (s1.2.2.1 + 1)))] rfl ?_
    exact hC3 (s1.1, s1.2.1, w32 (s1.2.2.1 + 1), z17.2) (Ok_some k) r6 r7 (rg_w _)
  intro r21 r22 r23
  refine jr_iload_n (pc := 69) F 2 dX4_blocker_69 rfl rfl ?_
  exact jr_iret (pc := 70) F hQ rfl dX4_blocker_70 ⟨_, _, rfl, r22, rfl, (Ok_some k)⟩
set_option maxHeartbeats 4000000 in
set_option maxRecDepth 100000 in
theorem snd_X4_canBeSaid {C0 : GG} {v_warmth : Int} {M : LT} (rgp_warmth : Rg v_warmth) {Q : (Int) → Prop} (k : Ok (X4_canBeSaid C0 v_warmth) Q) : MetG SL yX4_canBeSaid cX4_canBeSaid 3 (some .boolean) 0 (fun ad => [.ref (ad (0, 0, 0)), iv v_warmth]) (gs C0 4 0 M) (fun v g' => ∃ x : Int, v = some (iv x) ∧ Bz x ∧ g' = gs C0 4 0 M ∧ Q x) := by
  refine met_intro SL_ok (by decide +kernel) (fun ad => Nat.le_of_ble_eq_true rfl) (fun X F hQ hR => ?_)
  replace F : FX X cX4_canBeSaid RX4 3 (some .boolean) SL 0 := F
  show J X 0 [(0, .ref (xad X (0, 0, 0))), (1, iv v_warmth)] [] (gs C0 4 0 M)
  refine jr_iconst (pc := 0) F dX4_canBeSaid_0 ?_
  refine jr_istore_n (pc := 1) F [(2, iv 0), (0, .ref (xad X (0, 0, 0))), (1, iv v_warmth)] dX4_canBeSaid_1 rfl (by decide) rfl ?_
  refine jr_sub F [1, 2, 0] [(0, .ref (xad X (0, 0, 0))), (1, iv v_warmth), (2, iv 0)] rfl ?_
  refine lpj (P := fun s : Int => Rg (s) → J X 2 [(0, .ref (xad X (0, 0, 0))), (1, iv v_warmth), (2, iv s)] [] (gs C0 4 0 M)) (PE := fun o : ((Int) ⊕ (Int)) => match o with | .inl r => Rg (r) → J X 39 [(0, .ref (xad X (0, 0, 0))), (1, iv v_warmth), (2, iv r)] [] (gs C0 4 0 M) | .inr y => Q (y)) k (fun s1 Q2 k hC3 hE4 r6 => ?_) (fun o k => ?_) (fun h => h (show Rg 0 from ⟨by decide, by decide⟩))
  · refine jr_iload_n (pc := 2) F 2 dX4_canBeSaid_2 rfl rfl ?_
    refine jr_aload_n (pc := 3) F 0 dX4_canBeSaid_3 rfl rfl ?_
    refine jr_getI (pc := 4) F (C0 0 0 0 7) f_4_44 m0_0 rfl rfl dX4_canBeSaid_4 (fun r7 => ?_)
    refine jr_icmp_ge (pc := 7) (tgt := 39) F r6 r7 dX4_canBeSaid_7 (by decide) (fun h8 => ?_) (fun h8 => ?_)
    · have k := Ok_f (ng_lt h8) k
      exact hE4 (Sum.inl s1) (Ok_some k) r6
    have k := Ok_t h8 k
    obtain ⟨c9, k⟩ := Ok_grd k
    refine cnd (c := (¬ (C0 0 0 7 s1) = 99) ∧ (¬ (C0 0 0 7 s1) = v_warmth)) (GT := J X 31 [(0, .ref (xad X (0, 0, 0))), (1, iv v_warmth), (2, iv s1)] [] (gs C0 4 0 M)) (GF := J X 33 [(0, .ref (xad X (0, 0, 0))), (1, iv v_warmth), (2, iv s1)] [] (gs C0 4 0 M)) k (fun HT HF => ?_) (fun h14 k => ?_) (fun h14 k => ?_)
    · refine jr_aload_n (pc := 10) F 0 dX4_canBeSaid_10 rfl rfl ?_
      refine jr_getR (pc := 11) (b := (0, 0, 7)) F f_4_40 m0_0 rfl dX4_canBeSaid_11 ?_
      refine jr_iload_n (pc := 14) F 2 dX4_canBeSaid_14 rfl rfl ?_
      refine jr_iald (pc := 15) F (C0 0 0 7 s1) m0_7 (by decide) c9 rfl dX4_canBeSaid_15 (fun r10 => ?_)
      refine jr_bipush (pc := 16) F dX4_canBeSaid_16 (by decide) ?_
      refine jr_icmp_eq (pc := 18) (tgt := 33) F r10 (show Rg 99 from ⟨by decide, by decide⟩) dX4_canBeSaid_18 (by decide) (fun h11 => ?_) (fun h11 => ?_)
      · exact HF (fun q => (fun q => q h11) q.1)
      refine jr_aload_n (pc := 21) F 0 dX4_canBeSaid_21 rfl rfl ?_
      refine jr_getR (pc := 22) (b := (0, 0, 7)) F f_4_40 m0_0 rfl dX4_canBeSaid_22 ?_
      refine jr_iload_n (pc := 25) F 2 dX4_canBeSaid_25 rfl rfl ?_
      refine jr_iald (pc := 26) F (C0 0 0 7 s1) m0_7 (by decide) c9 rfl dX4_canBeSaid_26 (fun r12 => ?_)
      refine jr_iload_n (pc := 27) F 1 dX4_canBeSaid_27 rfl rfl ?_
      refine jr_icmp_eq (pc := 28) (tgt := 33) F r12 rgp_warmth dX4_canBeSaid_28 (by decide) (fun h13 => ?_) (fun h13 => ?_)
      · exact HF (fun q => (fun q => q h13) q.2)
      exact HT ⟨h11, h13⟩
    · refine jr_iconst (pc := 31) F dX4_canBeSaid_31 ?_
      exact jr_zret (pc := 32) F hQ rfl (Or.inl rfl) dX4_canBeSaid_32 ⟨_, rfl, (Or.inl rfl), rfl, (hE4 (Sum.inr _) (Ok_some k))⟩
    refine jr_iinc (pc := 33) F [(2, iv (w32 (s1 + 1))), (0, .ref (xad X (0, 0, 0))), (1, iv v_warmth)] 2 dX4_canBeSaid_33 rfl (by decide) rfl ?_
    refine jr_goto (pc := 36) (tgt := 2) F dX4_canBeSaid_36 (by decide) ?_
    refine jr_sub F [1, 2, 0] [(0, .ref (xad X (0, 0, 0))), (1, iv v_warmth), (2, iv (w32 (s1 + 1)))] rfl ?_
    exact hC3 (w32 (s1 + 1)) (Ok_some k) (rg_w _)
  rcases o with z5 | y
  rotate_left
  · show Q (y)
    exact Ok_some k
  intro r15
  refine jr_iconst (pc := 39) F dX4_canBeSaid_39 ?_
  exact jr_zret (pc := 40) F hQ rfl (Or.inr rfl) dX4_canBeSaid_40 ⟨_, rfl, (Or.inr rfl), rfl, (Ok_some k)⟩
set_option maxHeartbeats 4000000 in
set_option maxRecDepth 100000 in
theorem snd_X4_clear {C0 : GG} {M : LT}  {Q : (Int × GG) → Prop} (k : Ok (X4_clear C0) Q) : MetG SL yX4_clear cX4_clear 2 (some .int) 0 (fun ad => [.ref (ad (0, 0, 0))]) (gs C0 4 0 M) (fun v g' => ∃ (x : Int) (L' : GG), v = some (iv x) ∧ Rg x ∧ g' = gs L' 4 0 M ∧ Q (x, L')) := by
  refine met_intro SL_ok (by decide +kernel) (fun ad => Nat.le_of_ble_eq_true rfl) (fun X F hQ hR => ?_)
  replace F : FX X cX4_clear RX4 2 (some .int) SL 0 := F
  show J X 0 [(0, .ref (xad X (0, 0, 0)))] [] (gs C0 4 0 M)
  refine jr_aload_n (pc := 0) F 0 dX4_clear_0 rfl rfl ?_
  refine jr_getI (pc := 1) F (C0 0 0 0 7) f_4_44 m0_0 rfl rfl dX4_clear_1 (fun r1 => ?_)
  obtain ⟨x2, e3, k⟩ := Ok_let k
  have r4 : Rg x2 := rg_of e3 r1
  refine jr_top e3 ?_
  refine jr_istore_n (pc := 4) F [(1, iv x2), (0, .ref (xad X (0, 0, 0)))] dX4_clear_4 rfl (by decide) rfl ?_
  refine jr_aload_n (pc := 5) F 1 dX4_clear_5 rfl rfl ?_
  refine jr_iconst (pc := 6) F dX4_clear_6 ?_
  obtain ⟨C5, e6, k⟩ := Ok_let k
  refine jr_putI (pc := 7) F (gs C5 4 0 M) fw_4_44 m0_0 rfl (show Rg 0 from ⟨by decide, by decide⟩) (put2 e6 (by decide)) dX4_clear_7 ?_
  refine jr_iload_n (pc := 10) F 0 dX4_clear_10 rfl rfl ?_
  exact jr_iret (pc := 11) F hQ rfl dX4_clear_11 ⟨_, _, rfl, r4, rfl, (Ok_some k)⟩
set_option maxHeartbeats 4000000 in
set_option maxRecDepth 100000 in
theorem snd_X4_commonDivisor {v_above : Int} {v_below : Int} {g0 : GG} (rgp_above : Rg v_above) (rgp_below : Rg v_below) {Q : (Int) → Prop} (k : Ok (X4_commonDivisor v_above v_below) Q) : MetG SL yX4_commonDivisor cX4_commonDivisor 3 (some .int) 0 (fun ad => [iv v_above, iv v_below]) (g0) (fun v g' => ∃ x : Int, v = some (iv x) ∧ Rg x ∧ g' = g0 ∧ Q x) := by
  refine met_intro SL_ok (by decide +kernel) (fun ad => Nat.le_of_ble_eq_true rfl) (fun X F hQ hR => ?_)
  replace F : FX X cX4_commonDivisor RX4 3 (some .int) SL 0 := F
  show J X 0 [(0, iv v_above), (1, iv v_below)] [] (g0)
  refine jr_iload_n (pc := 0) F 1 dX4_commonDivisor_0 rfl rfl ?_
  refine jr_istore_n (pc := 1) F [(2, iv v_below), (0, iv v_above), (1, iv v_below)] dX4_commonDivisor_1 rfl (by decide) rfl ?_
  refine jr_sub F [1, 2, 0] [(0, iv v_above), (1, iv v_below), (2, iv v_below)] rfl ?_
  refine lpj (P := fun s : Int => Rg (s) → J X 2 [(0, iv v_above), (1, iv v_below), (2, iv s)] [] (g0)) (PE := fun o : ((Int) ⊕ (Int)) => match o with | .inl r => Rg (r) → J X 27 [(0, iv v_above), (1, iv v_below), (2, iv r)] [] (g0) | .inr y => Q (y)) k (fun s1 Q2 k hC3 hE4 r6 => ?_) (fun o k => ?_) (fun h => h rgp_below)
  · refine jr_iload_n (pc := 2) F 2 dX4_commonDivisor_2 rfl rfl ?_
    refine jr_iconst (pc := 3) F dX4_commonDivisor_3 ?_
    refine jr_icmp_le (pc := 4) (tgt := 27) F r6 (show Rg 1 from ⟨by decide, by decide⟩) dX4_commonDivisor_4 (by decide) (fun h7 => ?_) (fun h7 => ?_)
    · have k := Ok_f (ng_lt h7) k
      exact hE4 (Sum.inl s1) (Ok_some k) r6
    have k := Ok_t h7 k
    obtain ⟨c8, k⟩ := Ok_grd k
    refine cnd (c := ((jrem v_above s1) = 0) ∧ ((jrem v_below s1) = 0)) (GT := J X 19 [(0, iv v_above), (1, iv v_below), (2, iv s1)] [] (g0)) (GF := J X 21 [(0, iv v_above), (1, iv v_below), (2, iv s1)] [] (g0)) k (fun HT HF => ?_) (fun h11 k => ?_) (fun h11 k => ?_)
    · refine jr_iload_n (pc := 7) F 0 dX4_commonDivisor_7 rfl rfl ?_
      refine jr_iload_n (pc := 8) F 2 dX4_commonDivisor_8 rfl rfl ?_
      refine jr_irem (pc := 9) F rgp_above r6 c8 dX4_commonDivisor_9 ?_
      refine jr_if_ne (pc := 10) (tgt := 21) F (rg_rem rgp_above r6) dX4_commonDivisor_10 (by decide) (fun h9 => ?_) (fun h9 => ?_)
      · exact HF (fun q => h9 q.1)
      refine jr_iload_n (pc := 13) F 1 dX4_commonDivisor_13 rfl rfl ?_
      refine jr_iload_n (pc := 14) F 2 dX4_commonDivisor_14 rfl rfl ?_
      refine jr_irem (pc := 15) F rgp_below r6 c8 dX4_commonDivisor_15 ?_
      refine jr_if_ne (pc := 16) (tgt := 21) F (rg_rem rgp_below r6) dX4_commonDivisor_16 (by decide) (fun h10 => ?_) (fun h10 => ?_)
      · exact HF (fun q => h10 q.2)
      exact HT ⟨h9, h10⟩
    · refine jr_iload_n (pc := 19) F 2 dX4_commonDivisor_19 rfl rfl ?_
      exact jr_iret (pc := 20) F hQ rfl dX4_commonDivisor_20 ⟨_, rfl, r6, rfl, (hE4 (Sum.inr _) (Ok_some k))⟩
    refine jr_iinc (pc := 21) F [(2, iv (w32 (s1 + (-1)))), (0, iv v_above), (1, iv v_below)] 2 dX4_commonDivisor_21 rfl (by decide) rfl ?_
    refine jr_goto (pc := 24) (tgt := 2) F dX4_commonDivisor_24 (by decide) ?_
    refine jr_sub F [1, 2, 0] [(0, iv v_above), (1, iv v_below), (2, iv (w32 (s1 + (-1))))] rfl ?_
    exact hC3 (w32 (s1 + (-1))) (Ok_some k) (rg_w _)
  rcases o with z5 | y
  rotate_left
  · show Q (y)
    exact Ok_some k
  intro r12
  refine jr_iconst (pc := 27) F dX4_commonDivisor_27 ?_
  exact jr_iret (pc := 28) F hQ rfl dX4_commonDivisor_28 ⟨_, rfl, (show Rg 1 from ⟨by decide, by decide⟩), rfl, (Ok_some k)⟩
set_option maxHeartbeats 4000000 in
set_option maxRecDepth 100000 in
theorem snd_X4_count {C0 : GG} {v_what : Int} {M : LT} (rgp_what : Rg v_what) {Q : (Int) → Prop} (k : Ok (X4_count C0 v_what) Q) : MetG SL yX4_count cX4_count 2 (some .int) 1 (fun ad => [.ref (ad (0, 0, 0)), iv v_what]) (gs C0 4 0 M) (fun v g' => ∃ x : Int, v = some (iv x) ∧ Rg x ∧ g' = gs C0 4 0 M ∧ Q x) := by
  refine met_intro SL_ok (by decide +kernel) (fun ad => Nat.le_of_ble_eq_true rfl) (fun X F hQ hR => ?_)
  replace F : FX X cX4_count RX4 2 (some .int) SL 1 := F
  show J X 0 [(0, .ref (xad X (0, 0, 0))), (1, iv v_what)] [] (gs C0 4 0 M)
  refine cnd (c := (11 ≤ v_what) ∧ (v_what ≤ 16)) (GT := J X 12 [(0, .ref (xad X (0, 0, 0))), (1, iv v_what)] [] (gs C0 4 0 M)) (GF := J X 22 [(0, .ref (xad X (0, 0, 0))), (1, iv v_what)] [] (gs C0 4 0 M)) k (fun HT HF => ?_) (fun h3 k => ?_) (fun h3 k => ?_)
  · refine jr_iload_n (pc := 0) F 1 dX4_count_0 rfl rfl ?_
    refine jr_bipush (pc := 1) F dX4_count_1 (by decide) ?_
    refine jr_icmp_lt (pc := 3) (tgt := 22) F rgp_what (show Rg 11 from ⟨by decide, by decide⟩) dX4_count_3 (by decide) (fun h1 => ?_) (fun h1 => ?_)
    · exact HF (fun q => (ng_le h1) q.1)
    refine jr_iload_n (pc := 6) F 1 dX4_count_6 rfl rfl ?_
    refine jr_bipush (pc := 7) F dX4_count_7 (by decide) ?_
    refine jr_icmp_gt (pc := 9) (tgt := 22) F rgp_what (show Rg 16 from ⟨by decide, by decide⟩) dX4_count_9 (by decide) (fun h2 => ?_) (fun h2 => ?_)
    · exact HF (fun q => (ng_le h2) q.2)
    exact HT ⟨h1, h2⟩
  · refine jr_aload_n (pc := 12) F 0 dX4_count_12 rfl rfl ?_
    refine jr_getR (pc := 13) (b := (0, 0, 9)) F f_4_48 m0_0 rfl dX4_count_13 ?_
    refine jr_iload_n (pc := 16) F 1 dX4_count_16 rfl rfl ?_
    refine jr_bipush (pc := 17) F dX4_count_17 (by decide) ?_
    refine jr_isub (pc := 19) F dX4_count_19 ?_
    obtain ⟨c4, k⟩ := Ok_grd k
    refine jr_iald (pc := 20) F (C0 0 0 9 (w32 (v_what - 10))) m0_9 (by decide) c4 rfl dX4_count_20 (fun r5 => ?_)
    exact jr_iret (pc := 21) F hQ rfl dX4_count_21 ⟨_, rfl, r5, rfl, (Ok_some k)⟩
  refine jr_iload_n (pc := 22) F 1 dX4_count_22 rfl rfl ?_
  by_cases h6 : v_what = 0
  · have k := Ok_t h6 k
    refine jr_tsin (pc := 23) (tgt := 72) (off := 49) F h6 ⟨by decide, by decide⟩ ⟨by decide, by decide⟩ rfl (by decide) dX4_count_23 ?_
    refine jr_aload_n (pc := 72) F 0 dX4_count_72 rfl rfl ?_
    refine jr_getR (pc := 73) (b := (1, 0, 0)) F f_4_12 m0_0 rfl dX4_count_73 ?_
    refine jr_getI (pc := 76) F (C0 1 0 0 0) f_4_156 (mL_0 h11_0) rfl rfl dX4_count_76 (fun r7 => ?_)
    exact jr_iret (pc := 79) F hQ rfl dX4_count_79 ⟨_, rfl, r7, rfl, (Ok_some k)⟩
  have k := Ok_f h6 k
  by_cases h8 : v_what = 1
  · have k := Ok_t h8 k
    refine jr_tsin (pc := 23) (tgt := 80) (off := 57) F h8 ⟨by decide, by decide⟩ ⟨by decide, by decide⟩ rfl (by decide) dX4_count_23 ?_
    refine jr_aload_n (pc := 80) F 0 dX4_count_80 rfl rfl ?_
    refine jr_getR (pc := 81) (b := (1, 0, 0)) F f_4_12 m0_0 rfl dX4_count_81 ?_
    refine jr_getI (pc := 84) F (C0 1 0 0 4) f_4_159 (mL_0 h11_0) rfl rfl dX4_count_84 (fun r9 => ?_)
    exact jr_iret (pc := 87) F hQ rfl dX4_count_87 ⟨_, rfl, r9, rfl, (Ok_some k)⟩
  have k := Ok_f h8 k
  by_cases h10 : v_what = 2
  · have k := Ok_t h10 k
    refine jr_tsin (pc := 23) (tgt := 88) (off := 65) F h10 ⟨by decide, by decide⟩ ⟨by decide, by decide⟩ rfl (by decide) dX4_count_23 ?_
    refine jr_aload_n (pc := 88) F 0 dX4_count_88 rfl rfl ?_
    refine jr_getR (pc := 89) (b := (1, 0, 0)) F f_4_12 m0_0 rfl dX4_count_89 ?_
    refine jr_getI (pc := 92) F (C0 1 0 0 1) f_4_121 (mL_0 h11_0) rfl rfl dX4_count_92 (fun r11 => ?_)
    exact jr_iret (pc := 95) F hQ rfl dX4_count_95 ⟨_, rfl, r11, rfl, (Ok_some k)⟩
  have k := Ok_f h10 k
  by_cases h12 : v_what = 3
  · have k := Ok_t h12 k
    refine jr_tsin (pc := 23) (tgt := 96) (off := 73) F h12 ⟨by decide, by decide⟩ ⟨by decide, by decide⟩ rfl (by decide) dX4_count_23 ?_
    refine jr_aload_n (pc := 96) F 0 dX4_count_96 rfl rfl ?_
    refine jr_getR (pc := 97) (b := (1, 0, 0)) F f_4_12 m0_0 rfl dX4_count_97 ?_
    refine jr_getI (pc := 100) F (C0 1 0 0 2) f_4_115 (mL_0 h11_0) rfl rfl dX4_count_100 (fun r13 => ?_)
    exact jr_iret (pc := 103) F hQ rfl dX4_count_103 ⟨_, rfl, r13, rfl, (Ok_some k)⟩
  have k := Ok_f h12 k
  by_cases h14 : v_what = 4
  · have k := Ok_t h14 k
    refine jr_tsin (pc := 23) (tgt := 104) (off := 81) F h14 ⟨by decide, by decide⟩ ⟨by decide, by decide⟩ rfl (by decide) dX4_count_23 ?_
    refine jr_aload_n (pc := 104) F 0 dX4_count_104 rfl rfl ?_
    refine jr_getR (pc := 105) (b := (1, 0, 0)) F f_4_12 m0_0 rfl dX4_count_105 ?_
    refine jr_getI (pc := 108) F (C0 1 0 0 3) f_4_118 (mL_0 h11_0) rfl rfl dX4_count_108 (fun r15 => ?_)
    exact jr_iret (pc := 111) F hQ rfl dX4_count_111 ⟨_, rfl, r15, rfl, (Ok_some k)⟩
  have k := Ok_f h14 k
  by_cases h16 : v_what = 5
  · have k := Ok_t h16 k
    refine jr_tsin (pc := 23) (tgt := 112) (off := 89) F h16 ⟨by decide, by decide⟩ ⟨by decide, by decide⟩ rfl (by decide) dX4_count_23 ?_
    refine jr_aload_n (pc := 112) F 0 dX4_count_112 rfl rfl ?_
    refine jr_getR (pc := 113) (b := (1, 0, 0)) F f_4_12 m0_0 rfl dX4_count_113 ?_
    have k := Ok_bind k
    refine jr_callV (pc := 116) (st := []) F [] (snd_X2_allFrost h11_0 (g0 := gs C0 4 0 M)  k) (gs_in C0 M 1 0 (by decide)) ck_4_325 rfl (mL_0 h11_0) rfl rfl rfl (by decide) (Nat.le_of_ble_eq_true rfl) dX4_count_116 rfl (fun v g' hq => ?_)
    obtain ⟨z18, rfl, r17, eg, k⟩ := hq
    rw [← (gs_in C0 M 1 0 (by decide))] at eg
    refine J_eq eg ?_
    show J X 119 [(0, .ref (xad X (0, 0, 0))), (1, iv v_what)] [iv z18] (gs C0 4 0 M)
    exact jr_iret (pc := 119) F hQ rfl dX4_count_119 ⟨_, rfl, r17, rfl, (Ok_some k)⟩
  have k := Ok_f h16 k
  by_cases h19 : v_what = 6
  · have k := Ok_t h19 k
    refine jr_tsin (pc := 23) (tgt := 120) (off := 97) F h19 ⟨by decide, by decide⟩ ⟨by decide, by decide⟩ rfl (by decide) dX4_count_23 ?_
    refine jr_aload_n (pc := 120) F 0 dX4_count_120 rfl rfl ?_
    refine jr_getR (pc := 121) (b := (2, 0, 0)) F f_4_36 m0_0 rfl dX4_count_121 ?_
    refine jr_getI (pc := 124) F (C0 2 0 0 1) f_4_65 m2_0 rfl rfl dX4_count_124 (fun r20 => ?_)
    exact jr_iret (pc := 127) F hQ rfl dX4_count_127 ⟨_, rfl, r20, rfl, (Ok_some k)⟩
  have k := Ok_f h19 k
  by_cases h21 : v_what = 7
  · have k := Ok_t h21 k
    refine jr_tsin (pc := 23) (tgt := 128) (off := 105) F h21 ⟨by decide, by decide⟩ ⟨by decide, by decide⟩ rfl (by decide) dX4_count_23 ?_
    refine jr_aload_n (pc := 128) F 0 dX4_count_128 rfl rfl ?_
    refine jr_getI (pc := 129) F (C0 0 0 0 7) f_4_44 m0_0 rfl rfl dX4_count_129 (fun r22 => ?_)
    exact jr_iret (pc := 132) F hQ rfl dX4_count_132 ⟨_, rfl, r22, rfl, (Ok_some k)⟩
  have k := Ok_f h21 k
  by_cases h23 : v_what = 8
  · have k := Ok_t h23 k
    refine jr_tsin (pc := 23) (tgt := 133) (off := 110) F h23 ⟨by decide, by decide⟩ ⟨by decide, by decide⟩ rfl (by decide) dX4_count_23 ?_
    refine jr_aload_n (pc := 133) F 0 dX4_count_133 rfl rfl ?_
    refine jr_getR (pc := 134) (b := (3, 0, 0)) F f_4_29 m0_0 rfl dX4_count_134 ?_
    refine jr_getI (pc := 137) F (C0 3 0 0 1) f_4_186 m3_0 rfl rfl dX4_count_137 (fun r24 => ?_)
    exact jr_iret (pc := 140) F hQ rfl dX4_count_140 ⟨_, rfl, r24, rfl, (Ok_some k)⟩
  have k := Ok_f h23 k
  refine jr_tsout (pc := 23) (tgt := 141) F rgp_what (by omega) (by decide) dX4_count_23 ?_
  refine jr_bipush (pc := 141) F dX4_count_141 (by decide) ?_
  exact jr_iret (pc := 143) F hQ rfl dX4_count_143 ⟨_, rfl, (show Rg (-9) from ⟨by decide, by decide⟩), rfl, (Ok_some k)⟩
set_option maxHeartbeats 4000000 in
set_option maxRecDepth 100000 in
theorem snd_X4_day {C0 : GG} {M : LT}  {Q : (Int × GG) → Prop} (k : Ok (X4_day C0) Q) : MetG SL yX4_day cX4_day 1 (some .int) 4 (fun ad => [.ref (ad (0, 0, 0))]) (gs C0 4 0 M) (fun v g' => ∃ (x : Int) (L' : GG), v = some (iv x) ∧ Rg x ∧ g' = gs L' 4 0 M ∧ Q (x, L')) := by
  refine met_intro SL_ok (by decide +kernel) (fun ad => Nat.le_of_ble_eq_true rfl) (fun X F hQ hR => ?_)
  replace F : FX X cX4_day RX4 1 (some .int) SL 4 := F
  show J X 0 [(0, .ref (xad X (0, 0, 0)))] [] (gs C0 4 0 M)
  refine jr_aload_n (pc := 0) F 0 dX4_day_0 rfl rfl ?_
  refine jr_getR (pc := 1) (b := (1, 1, 0)) F f_4_16 m0_0 rfl dX4_day_1 ?_
  refine jr_aload_n (pc := 4) F 0 dX4_day_4 rfl rfl ?_
  refine jr_getR (pc := 5) (b := (1, 0, 0)) F f_4_12 m0_0 rfl dX4_day_5 ?_
  have k := Ok_bind k
  refine jr_callV (pc := 8) (st := []) F [.ref (xad X (1, 0, 0))] (snd_X2_become h11_1 (g0 := gs C0 4 0 M) h11_0 (by decide) rfl  k) (gs_in C0 M 1 1 (by decide)) ck_4_79 rfl (mL_0 h11_1) rfl rfl rfl (by decide) (Nat.le_of_ble_eq_true rfl) dX4_day_8 rfl (fun v g' hq => ?_)
  obtain ⟨z2, rfl, eg, k⟩ := hq
  rw [gs_comm (by decide)] at eg
  obtain ⟨C3, e4, k⟩ := Ok_let k
  rw [← e4] at eg
  refine J_eq eg ?_
  show J X 11 [(0, .ref (xad X (0, 0, 0)))] [] (gs C3 4 0 M)
  refine jr_aload_n (pc := 11) F 0 dX4_day_11 rfl rfl ?_
  refine jr_getR (pc := 12) (b := (1, 1, 0)) F f_4_16 m0_0 rfl dX4_day_12 ?_
  refine jr_iconst (pc := 15) F dX4_day_15 ?_
  obtain ⟨C5, e6, k⟩ := Ok_let k
  refine jr_putI (pc := 16) F (gs C5 4 0 M) fw_4_159 (mL_0 h11_1) rfl (show Rg 0 from ⟨by decide, by decide⟩) (put2 e6 (by decide)) dX4_day_16 ?_
  refine jr_aload_n (pc := 19) F 0 dX4_day_19 rfl rfl ?_
  refine jr_getR (pc := 20) (b := (1, 1, 0)) F f_4_16 m0_0 rfl dX4_day_20 ?_
  refine jr_bipush (pc := 23) F dX4_day_23 (by decide) ?_
  have k := Ok_bind k
  refine jr_callV (pc := 25) (st := []) F [iv 24] (snd_X2_go h11_1 (g0 := gs C5 4 0 M) (show Rg 24 from ⟨by decide, by decide⟩) k) (gs_in C5 M 1 1 (by decide)) ck_4_124 rfl (mL_0 h11_1) rfl rfl rfl (by decide) (Nat.le_of_ble_eq_true rfl) dX4_day_25 rfl (fun v g' hq => ?_)
  obtain ⟨z8, rfl, eg, k⟩ := hq
  rw [gs_comm (by decide)] at eg
  obtain ⟨C9, e10, k⟩ := Ok_let k
  rw [← e10] at eg
  refine J_eq eg ?_
  show J X 28 [(0, .ref (xad X (0, 0, 0)))] [] (gs C9 4 0 M)
  refine jr_aload_n (pc := 28) F 0 dX4_day_28 rfl rfl ?_
  refine jr_getR (pc := 29) (b := (1, 1, 0)) F f_4_16 m0_0 rfl dX4_day_29 ?_
  have k := Ok_bind k
  refine jr_callV (pc := 32) (st := []) F [] (snd_X2_allFrost h11_1 (g0 := gs C9 4 0 M)  k) (gs_in C9 M 1 1 (by decide)) ck_4_325 rfl (mL_0 h11_1) rfl rfl rfl (by decide) (Nat.le_of_ble_eq_true rfl) dX4_day_32 rfl (fun v g' hq => ?_)
  obtain ⟨z12, rfl, r11, eg, k⟩ := hq
  rw [← (gs_in C9 M 1 1 (by decide))] at eg
  refine J_eq eg ?_
  show J X 35 [(0, .ref (xad X (0, 0, 0)))] [iv z12] (gs C9 4 0 M)
  refine jr_aload_n (pc := 35) F 0 dX4_day_35 rfl rfl ?_
  refine jr_getR (pc := 36) (b := (1, 0, 0)) F f_4_12 m0_0 rfl dX4_day_36 ?_
  have k := Ok_bind k
  refine jr_callV (pc := 39) (st := [iv z12]) F [] (snd_X2_allFrost h11_0 (g0 := gs C9 4 0 M)  k) (gs_in C9 M 1 0 (by decide)) ck_4_325 rfl (mL_0 h11_0) rfl rfl rfl (by decide) (Nat.le_of_ble_eq_true rfl) dX4_day_39 rfl (fun v g' hq => ?_)
  obtain ⟨z14, rfl, r13, eg, k⟩ := hq
  rw [← (gs_in C9 M 1 0 (by decide))] at eg
  refine J_eq eg ?_
  show J X 42 [(0, .ref (xad X (0, 0, 0)))] [iv z14, iv z12] (gs C9 4 0 M)
  refine jr_isub (pc := 42) F dX4_day_42 ?_
  exact jr_iret (pc := 43) F hQ rfl dX4_day_43 ⟨_, _, rfl, (rg_w _), rfl, (Ok_some k)⟩
set_option maxHeartbeats 4000000 in
set_option maxRecDepth 100000 in
theorem snd_X4_drawn {v_z : Int} {v_below : Int} {g0 : GG} (rgp_z : Rg v_z) (rgp_below : Rg v_below) {Q : (Int) → Prop} (k : Ok (X4_drawn_f v_z v_below) Q) : MetG SL yX4_drawn cX4_drawn 2 (some .int) 1 (fun ad => [iv v_z, iv v_below]) (g0) (fun v g' => ∃ x : Int, v = some (iv x) ∧ Rg x ∧ g' = g0 ∧ Q x) := by
  refine met_intro SL_ok (by decide +kernel) (fun ad => Nat.le_of_ble_eq_true rfl) (fun X F hQ hR => ?_)
  replace F : FX X cX4_drawn RX4 2 (some .int) SL 1 := F
  show J X 0 [(0, iv v_z), (1, iv v_below)] [] (g0)
  refine jr_iload_n (pc := 0) F 0 dX4_drawn_0 rfl rfl ?_
  refine jr_ldcw (pc := 1) F kc_4_338 dX4_drawn_1 ?_
  refine jr_iand (pc := 4) F dX4_drawn_4 ?_
  refine jr_ldcw (pc := 5) F kc_4_339 dX4_drawn_5 ?_
  refine jr_idiv (pc := 8) F (rg_and _ _) (show Rg 65536 from ⟨by decide, by decide⟩) (by decide) dX4_drawn_8 ?_
  refine jr_iconst (pc := 9) F dX4_drawn_9 ?_
  refine jr_iload_n (pc := 10) F 1 dX4_drawn_10 rfl rfl ?_
  refine jr_mmax (pc := 11) F (show Rg 1 from ⟨by decide, by decide⟩) rgp_below lb_4_273 (by decide) (Nat.le_of_ble_eq_true rfl) dX4_drawn_11 ?_
  obtain ⟨c1, k⟩ := Ok_grd k
  refine jr_irem (pc := 14) F (rg_div _ _) (rg_imax (show Rg 1 from ⟨by decide, by decide⟩) rgp_below) c1 dX4_drawn_14 ?_
  exact jr_iret (pc := 15) F hQ rfl dX4_drawn_15 ⟨_, rfl, (rg_rem (rg_div _ _) (rg_imax (show Rg 1 from ⟨by decide, by decide⟩) rgp_below)), rfl, (Ok_some k)⟩
set_option maxHeartbeats 4000000 in
set_option maxRecDepth 100000 in
theorem snd_X4_outside {v_v : Int} {v_least : Int} {v_greatest : Int} {g0 : GG} (rgp_v : Rg v_v) (rgp_least : Rg v_least) (rgp_greatest : Rg v_greatest) {Q : (Int) → Prop} (k : Ok (X4_outside_f v_v v_least v_greatest) Q) : MetG SL yX4_outside cX4_outside 3 (some .int) 0 (fun ad => [iv v_v, iv v_least, iv v_greatest]) (g0) (fun v g' => ∃ x : Int, v = some (iv x) ∧ Rg x ∧ g' = g0 ∧ Q x) := by
  refine met_intro SL_ok (by decide +kernel) (fun ad => Nat.le_of_ble_eq_true rfl) (fun X F hQ hR => ?_)
  replace F : FX X cX4_outside RX4 3 (some .int) SL 0 := F
  show J X 0 [(0, iv v_v), (1, iv v_least), (2, iv v_greatest)] [] (g0)
  refine jr_iload_n (pc := 0) F 0 dX4_outside_0 rfl rfl ?_
  refine jr_iload_n (pc := 1) F 1 dX4_outside_1 rfl rfl ?_
  refine jr_icmp_ge (pc := 2) (tgt := 8) F rgp_v rgp_least dX4_outside_2 (by decide) (fun h1 => ?_) (fun h1 => ?_)
  · have k := Ok_f (ng_lt h1) k
    refine jifP (P := fun v => Rg v → J X 19 [(0, iv v_v), (1, iv v_least), (2, iv v_greatest)] (iv v :: []) (g0)) (c := v_greatest < v_v) ((-6)) (0) (fun Ht Hf => ?_) (fun r3 => ?_)
    · refine jr_iload_n (pc := 8) F 0 dX4_outside_8 rfl rfl ?_
      refine jr_iload_n (pc := 9) F 2 dX4_outside_9 rfl rfl ?_
      refine jr_icmp_le (pc := 10) (tgt := 18) F rgp_v rgp_greatest dX4_outside_10 (by decide) (fun h2 => ?_) (fun h2 => ?_)
      · refine jr_iconst (pc := 18) F dX4_outside_18 ?_
        exact Hf (ng_lt h2) (show Rg 0 from ⟨by decide, by decide⟩)
      refine jr_bipush (pc := 13) F dX4_outside_13 (by decide) ?_
      refine jr_goto (pc := 15) (tgt := 19) F dX4_outside_15 (by decide) ?_
      exact Ht h2 (show Rg (-6) from ⟨by decide, by decide⟩)
    exact jr_iret (pc := 19) F hQ rfl dX4_outside_19 ⟨_, rfl, r3, rfl, (Ok_some k)⟩
  have k := Ok_t h1 k
  refine jr_bipush (pc := 5) F dX4_outside_5 (by decide) ?_
  exact jr_iret (pc := 7) F hQ rfl dX4_outside_7 ⟨_, rfl, (show Rg (-4) from ⟨by decide, by decide⟩), rfl, (Ok_some k)⟩
set_option maxHeartbeats 4000000 in
set_option maxRecDepth 100000 in
theorem snd_X4_feed {C0 : GG} {v_letter : Int} {M : LT} (rgp_letter : Rg v_letter) {Q : (Int × GG) → Prop} (k : Ok (X4_feed C0 v_letter) Q) : MetG SL yX4_feed cX4_feed 3 (some .int) 1 (fun ad => [.ref (ad (0, 0, 0)), iv v_letter]) (gs C0 4 0 M) (fun v g' => ∃ (x : Int) (L' : GG), v = some (iv x) ∧ Rg x ∧ g' = gs L' 4 0 M ∧ Q (x, L')) := by
  refine met_intro SL_ok (by decide +kernel) (fun ad => Nat.le_of_ble_eq_true rfl) (fun X F hQ hR => ?_)
  replace F : FX X cX4_feed RX4 3 (some .int) SL 1 := F
  show J X 0 [(0, .ref (xad X (0, 0, 0))), (1, iv v_letter)] [] (gs C0 4 0 M)
  refine jr_iload_n (pc := 0) F 1 dX4_feed_0 rfl rfl ?_
  refine jr_iconst (pc := 1) F dX4_feed_1 ?_
  refine jr_sipush (pc := 2) F dX4_feed_2 (by decide) ?_
  refine jr_callS (pc := 5) (st := []) F [iv v_letter, iv 0, iv 255] (snd_X4_outside (g0 := gs C0 4 0 M) rgp_letter (show Rg 0 from ⟨by decide, by decide⟩) (show Rg 255 from ⟨by decide, by decide⟩) (X4_outside_ok _ _ _ )) rfl ck_4_57 rfl rfl (by decide) (Nat.le_of_ble_eq_true rfl) dX4_feed_5 rfl (fun v g' hq => ?_)
  obtain ⟨x, rfl, r1, eg, hx⟩ := hq
  subst hx
  refine J_eq eg ?_
  show J X 8 [(0, .ref (xad X (0, 0, 0))), (1, iv v_letter)] [iv (X4_outside_v v_letter 0 255)] (gs C0 4 0 M)
  obtain ⟨x2, e3, k⟩ := Ok_let k
  have r4 : Rg x2 := rg_of e3 r1
  refine jr_top e3 ?_
  refine jr_istore_n (pc := 8) F [(2, iv x2), (0, .ref (xad X (0, 0, 0))), (1, iv v_letter)] dX4_feed_8 rfl (by decide) rfl ?_
  refine jr_iload_n (pc := 9) F 0 dX4_feed_9 rfl rfl ?_
  refine jr_if_eq (pc := 10) (tgt := 19) F r4 dX4_feed_10 (by decide) (fun h5 => ?_) (fun h5 => ?_)
  · have k := Ok_f (fun q => q h5) k
    refine jr_aload_n (pc := 19) F 1 dX4_feed_19 rfl rfl ?_
    refine jr_getR (pc := 20) (b := (2, 0, 0)) F f_4_36 m0_0 rfl dX4_feed_20 ?_
    refine jr_getI (pc := 23) F (C0 2 0 0 1) f_4_65 m2_0 rfl rfl dX4_feed_23 (fun r6 => ?_)
    refine jr_bipush (pc := 26) F dX4_feed_26 (by decide) ?_
    refine jr_icmp_lt (pc := 28) (tgt := 38) F r6 (show Rg 96 from ⟨by decide, by decide⟩) dX4_feed_28 (by decide) (fun h7 => ?_) (fun h7 => ?_)
    · have k := Ok_f (ng_le h7) k
      refine jr_aload_n (pc := 38) F 1 dX4_feed_38 rfl rfl ?_
      refine jr_getR (pc := 39) (b := (2, 0, 0)) F f_4_36 m0_0 rfl dX4_feed_39 ?_
      refine jr_iload_n (pc := 42) F 2 dX4_feed_42 rfl rfl ?_
      have k := Ok_bind k
      refine jr_callV (pc := 43) (st := []) F [iv v_letter] (snd_X1_add (g0 := gs C0 4 0 M) rgp_letter k) (gs_in C0 M 2 0 (by decide)) ck_4_68 rfl m2_0 rfl rfl rfl (by decide) (Nat.le_of_ble_eq_true rfl) dX4_feed_43 rfl (fun v g' hq => ?_)
      obtain ⟨z9, rfl, eg, k⟩ := hq
      rw [gs_comm (by decide)] at eg
      obtain ⟨C10, e11, k⟩ := Ok_let k
      rw [← e11] at eg
      refine J_eq eg ?_
      show J X 46 [(2, iv x2), (0, .ref (xad X (0, 0, 0))), (1, iv v_letter)] [] (gs C10 4 0 M)
      refine jr_aload_n (pc := 46) F 1 dX4_feed_46 rfl rfl ?_
      refine jr_getR (pc := 47) (b := (2, 0, 0)) F f_4_36 m0_0 rfl dX4_feed_47 ?_
      refine jr_getI (pc := 50) F (C10 2 0 0 1) f_4_65 m2_0 rfl rfl dX4_feed_50 (fun r12 => ?_)
      exact jr_iret (pc := 53) F hQ rfl dX4_feed_53 ⟨_, _, rfl, r12, rfl, (Ok_some k)⟩
    have k := Ok_t h7 k
    refine jr_aload_n (pc := 31) F 1 dX4_feed_31 rfl rfl ?_
    refine jr_bipush (pc := 32) F dX4_feed_32 (by decide) ?_
    have k := Ok_bind k
    refine jr_callV (pc := 34) (st := []) F [iv (-6)] (snd_X4_refuse (M := M) (show Rg (-6) from ⟨by decide, by decide⟩) k) rfl ck_4_61 rfl m0_0 rfl rfl rfl (by decide) (Nat.le_of_ble_eq_true rfl) dX4_feed_34 rfl (fun v g' hq => ?_)
    obtain ⟨x, L', rfl, r13, eg, k⟩ := hq
    obtain ⟨z14, ez⟩ : ∃ z : Int × GG, z = (x, L') := ⟨_, rfl⟩
    obtain ⟨rfl, rfl⟩ : x = z14.1 ∧ L' = z14.2 := ⟨by rw [ez], by rw [ez]⟩
    clear ez
    refine J_eq eg ?_
    show J X 37 [(2, iv x2), (0, .ref (xad X (0, 0, 0))), (1, iv v_letter)] [iv z14.1] (gs z14.2 4 0 M)
    exact jr_iret (pc := 37) F hQ rfl dX4_feed_37 ⟨_, _, rfl, r13, rfl, (Ok_some k)⟩
  have k := Ok_t h5 k
  refine jr_aload_n (pc := 13) F 1 dX4_feed_13 rfl rfl ?_
  refine jr_iload_n (pc := 14) F 0 dX4_feed_14 rfl rfl ?_
  have k := Ok_bind k
  refine jr_callV (pc := 15) (st := []) F [iv x2] (snd_X4_refuse (M := M) r4 k) rfl ck_4_61 rfl m0_0 rfl rfl rfl (by decide) (Nat.le_of_ble_eq_true rfl) dX4_feed_15 rfl (fun v g' hq => ?_)
  obtain ⟨x, L', rfl, r15, eg, k⟩ := hq
  obtain ⟨z16, ez⟩ : ∃ z : Int × GG, z = (x, L') := ⟨_, rfl⟩
  obtain ⟨rfl, rfl⟩ : x = z16.1 ∧ L' = z16.2 := ⟨by rw [ez], by rw [ez]⟩
  clear ez
  refine J_eq eg ?_
  show J X 18 [(2, iv x2), (0, .ref (xad X (0, 0, 0))), (1, iv v_letter)] [iv z16.1] (gs z16.2 4 0 M)
  exact jr_iret (pc := 18) F hQ rfl dX4_feed_18 ⟨_, _, rfl, r15, rfl, (Ok_some k)⟩
set_option maxHeartbeats 4000000 in
set_option maxRecDepth 100000 in
theorem snd_X4_noYard {C0 : GG} {v_yard : Int} {M : LT} (rgp_yard : Rg v_yard) {Q : (Int) → Prop} (k : Ok (X4_noYard_f C0 v_yard) Q) : MetG SL yX4_noYard cX4_noYard 2 (some .boolean) 0 (fun ad => [.ref (ad (0, 0, 0)), iv v_yard]) (gs C0 4 0 M) (fun v g' => ∃ x : Int, v = some (iv x) ∧ Bz x ∧ g' = gs C0 4 0 M ∧ Q x) := by
  refine met_intro SL_ok (by decide +kernel) (fun ad => Nat.le_of_ble_eq_true rfl) (fun X F hQ hR => ?_)
  replace F : FX X cX4_noYard RX4 2 (some .boolean) SL 0 := F
  show J X 0 [(0, .ref (xad X (0, 0, 0))), (1, iv v_yard)] [] (gs C0 4 0 M)
  refine jifP (P := fun v => Bz v → J X 20 [(0, .ref (xad X (0, 0, 0))), (1, iv v_yard)] (iv v :: []) (gs C0 4 0 M)) (c := (v_yard < 0) ∨ ((C0 1 0 0 0) ≤ v_yard)) (1) (0) (fun Ht Hf => ?_) (fun r4 => ?_)
  · refine jr_iload_n (pc := 0) F 1 dX4_noYard_0 rfl rfl ?_
    refine jr_if_lt (pc := 1) (tgt := 15) F rgp_yard dX4_noYard_1 (by decide) (fun h1 => ?_) (fun h1 => ?_)
    · refine jr_iconst (pc := 15) F dX4_noYard_15 ?_
      refine jr_goto (pc := 16) (tgt := 20) F dX4_noYard_16 (by decide) ?_
      exact Ht (Or.inl h1) (Or.inr rfl)
    refine jr_iload_n (pc := 4) F 1 dX4_noYard_4 rfl rfl ?_
    refine jr_aload_n (pc := 5) F 0 dX4_noYard_5 rfl rfl ?_
    refine jr_getR (pc := 6) (b := (1, 0, 0)) F f_4_12 m0_0 rfl dX4_noYard_6 ?_
    refine jr_getI (pc := 9) F (C0 1 0 0 0) f_4_156 (mL_0 h11_0) rfl rfl dX4_noYard_9 (fun r2 => ?_)
    refine jr_icmp_lt (pc := 12) (tgt := 19) F rgp_yard r2 dX4_noYard_12 (by decide) (fun h3 => ?_) (fun h3 => ?_)
    · refine jr_iconst (pc := 19) F dX4_noYard_19 ?_
      exact Hf (fun q => q.elim (ng_lt h1) (ng_le h3)) (Or.inl rfl)
    refine jr_iconst (pc := 15) F dX4_noYard_15 ?_
    refine jr_goto (pc := 16) (tgt := 20) F dX4_noYard_16 (by decide) ?_
    exact Ht (Or.inr h3) (Or.inr rfl)
  exact jr_zret (pc := 20) F hQ rfl r4 dX4_noYard_20 ⟨_, rfl, r4, rfl, (Ok_some k)⟩
set_option maxHeartbeats 4000000 in
set_option maxRecDepth 100000 in
theorem snd_X4_frost {C0 : GG} {v_yard : Int} {v_v : Int} {M : LT} (rgp_yard : Rg v_yard) (rgp_v : Rg v_v) {Q : (Int × GG) → Prop} (k : Ok (X4_frost C0 v_yard v_v) Q) : MetG SL yX4_frost cX4_frost 5 (some .int) 3 (fun ad => [.ref (ad (0, 0, 0)), iv v_yard, iv v_v]) (gs C0 4 0 M) (fun v g' => ∃ (x : Int) (L' : GG), v = some (iv x) ∧ Rg x ∧ g' = gs L' 4 0 M ∧ Q (x, L')) := by
  refine met_intro SL_ok (by decide +kernel) (fun ad => Nat.le_of_ble_eq_true rfl) (fun X F hQ hR => ?_)
  replace F : FX X cX4_frost RX4 5 (some .int) SL 3 := F
  show J X 0 [(0, .ref (xad X (0, 0, 0))), (1, iv v_yard), (2, iv v_v)] [] (gs C0 4 0 M)
  refine jr_aload_n (pc := 0) F 0 dX4_frost_0 rfl rfl ?_
  refine jr_iload_n (pc := 1) F 1 dX4_frost_1 rfl rfl ?_
  refine jr_callV (pc := 2) (st := []) F [iv v_yard] (snd_X4_noYard (M := M) rgp_yard (X4_noYard_ok _ _ )) rfl ck_4_127 rfl m0_0 rfl rfl rfl (by decide) (Nat.le_of_ble_eq_true rfl) dX4_frost_2 rfl (fun v g' hq => ?_)
  obtain ⟨x, rfl, r1, eg, hx⟩ := hq
  subst hx
  refine J_eq eg ?_
  show J X 5 [(0, .ref (xad X (0, 0, 0))), (1, iv v_yard), (2, iv v_v)] [iv (X4_noYard_v C0 v_yard)] (gs C0 4 0 M)
  refine jr_if_eq (pc := 5) (tgt := 14) F (rg_z r1) dX4_frost_5 (by decide) (fun h2 => ?_) (fun h2 => ?_)
  · have k := Ok_f (fun q => q h2) k
    refine jr_iload_n (pc := 14) F 2 dX4_frost_14 rfl rfl ?_
    refine jr_iconst (pc := 15) F dX4_frost_15 ?_
    refine jr_bipush (pc := 16) F dX4_frost_16 (by decide) ?_
    refine jr_callS (pc := 18) (st := []) F [iv v_v, iv 0, iv 99] (snd_X4_outside (g0 := gs C0 4 0 M) rgp_v (show Rg 0 from ⟨by decide, by decide⟩) (show Rg 99 from ⟨by decide, by decide⟩) (X4_outside_ok _ _ _ )) rfl ck_4_57 rfl rfl (by decide) (Nat.le_of_ble_eq_true rfl) dX4_frost_18 rfl (fun v g' hq => ?_)
    obtain ⟨x, rfl, r3, eg, hx⟩ := hq
    subst hx
    refine J_eq eg ?_
    show J X 21 [(0, .ref (xad X (0, 0, 0))), (1, iv v_yard), (2, iv v_v)] [iv (X4_outside_v v_v 0 99)] (gs C0 4 0 M)
    obtain ⟨x4, e5, k⟩ := Ok_let k
    have r6 : Rg x4 := rg_of e5 r3
    refine jr_top e5 ?_
    refine jr_istore_n (pc := 21) F [(3, iv x4), (0, .ref (xad X (0, 0, 0))), (1, iv v_yard), (2, iv v_v)] dX4_frost_21 rfl (by decide) rfl ?_
    refine jr_iload_n (pc := 22) F 0 dX4_frost_22 rfl rfl ?_
    refine jr_if_eq (pc := 23) (tgt := 32) F r6 dX4_frost_23 (by decide) (fun h7 => ?_) (fun h7 => ?_)
    · have k := Ok_f (fun q => q h7) k
      refine jr_aload_n (pc := 32) F 1 dX4_frost_32 rfl rfl ?_
      refine jr_getR (pc := 33) (b := (3, 0, 0)) F f_4_29 m0_0 rfl dX4_frost_33 ?_
      refine jr_aload_n (pc := 36) F 1 dX4_frost_36 rfl rfl ?_
      refine jr_getR (pc := 37) (b := (1, 0, 0)) F f_4_12 m0_0 rfl dX4_frost_37 ?_
      have k := Ok_bind k
      refine jr_callV (pc := 40) (st := []) F [.ref (xad X (1, 0, 0))] (snd_X3_keep (M := M) h11_0  k) rfl ck_4_150 rfl m3_0 rfl rfl rfl (by decide) (Nat.le_of_ble_eq_true rfl) dX4_frost_40 rfl (fun v g' hq => ?_)
      obtain ⟨z9, rfl, eg, k⟩ := hq
      refine J_eq eg ?_
      show J X 43 [(3, iv x4), (0, .ref (xad X (0, 0, 0))), (1, iv v_yard), (2, iv v_v)] [] (gs z9 4 0 M)
      refine jr_aload_n (pc := 43) F 1 dX4_frost_43 rfl rfl ?_
      refine jr_getR (pc := 44) (b := (1, 0, 0)) F f_4_12 m0_0 rfl dX4_frost_44 ?_
      refine jr_getR (pc := 47) (b := (1, 0, 8)) F f_4_136 (mL_0 h11_0) rfl dX4_frost_47 ?_
      refine jr_iload_n (pc := 50) F 2 dX4_frost_50 rfl rfl ?_
      obtain ⟨c10, k⟩ := Ok_grd k
      refine jr_iald (pc := 51) F (z9 1 0 8 v_yard) (mL_8 h11_0) (by decide) c10 rfl dX4_frost_51 (fun r11 => ?_)
      obtain ⟨x12, e13, k⟩ := Ok_let k
      have r14 : Rg x12 := rg_of e13 r11
      refine jr_top e13 ?_
      refine jr_istore (pc := 52) F [(4, iv x12), (3, iv x4), (0, .ref (xad X (0, 0, 0))), (1, iv v_yard), (2, iv v_v)] dX4_frost_52 (by decide) rfl ?_
      refine jr_aload_n (pc := 54) F 2 dX4_frost_54 rfl rfl ?_
      refine jr_getR (pc := 55) (b := (1, 0, 0)) F f_4_12 m0_0 rfl dX4_frost_55 ?_
      refine jr_getR (pc := 58) (b := (1, 0, 8)) F f_4_136 (mL_0 h11_0) rfl dX4_frost_58 ?_
      refine jr_iload_n (pc := 61) F 3 dX4_frost_61 rfl rfl ?_
      refine jr_iload_n (pc := 62) F 4 dX4_frost_62 rfl rfl ?_
      obtain ⟨C15, e16, k⟩ := Ok_let k
      refine jr_iast (pc := 63) F (gs C15 4 0 M) (mL_8 h11_0) (by decide) c10 rgp_v (put2 e16 (by decide)) dX4_frost_63 ?_
      refine jr_iload (pc := 64) F 0 dX4_frost_64 rfl ?_
      exact jr_iret (pc := 66) F hQ rfl dX4_frost_66 ⟨_, _, rfl, r14, rfl, (Ok_some k)⟩
    have k := Ok_t h7 k
    refine jr_aload_n (pc := 26) F 1 dX4_frost_26 rfl rfl ?_
    refine jr_iload_n (pc := 27) F 0 dX4_frost_27 rfl rfl ?_
    have k := Ok_bind k
    refine jr_callV (pc := 28) (st := []) F [iv x4] (snd_X4_refuse (M := M) r6 k) rfl ck_4_61 rfl m0_0 rfl rfl rfl (by decide) (Nat.le_of_ble_eq_true rfl) dX4_frost_28 rfl (fun v g' hq => ?_)
    obtain ⟨x, L', rfl, r17, eg, k⟩ := hq
    obtain ⟨z18, ez⟩ : ∃ z : Int × GG, z = (x, L') := ⟨_, rfl⟩
    obtain ⟨rfl, rfl⟩ : x = z18.1 ∧ L' = z18.2 := ⟨by rw [ez], by rw [ez]⟩
    clear ez
    refine J_eq eg ?_
    show J X 31 [(3, iv x4), (0, .ref (xad X (0, 0, 0))), (1, iv v_yard), (2, iv v_v)] [iv z18.1] (gs z18.2 4 0 M)
    exact jr_iret (pc := 31) F hQ rfl dX4_frost_31 ⟨_, _, rfl, r17, rfl, (Ok_some k)⟩
  have k := Ok_t h2 k
  refine jr_aload_n (pc := 8) F 0 dX4_frost_8 rfl rfl ?_
  refine jr_iconst (pc := 9) F dX4_frost_9 ?_
  have k := Ok_bind k
  refine jr_callV (pc := 10) (st := []) F [iv (-1)] (snd_X4_refuse (M := M) (show Rg (-1) from ⟨by decide, by decide⟩) k) rfl ck_4_61 rfl m0_0 rfl rfl rfl (by decide) (Nat.le_of_ble_eq_true rfl) dX4_frost_10 rfl (fun v g' hq => ?_)
  obtain ⟨x, L', rfl, r19, eg, k⟩ := hq
  obtain ⟨z20, ez⟩ : ∃ z : Int × GG, z = (x, L') := ⟨_, rfl⟩
  obtain ⟨rfl, rfl⟩ : x = z20.1 ∧ L' = z20.2 := ⟨by rw [ez], by rw [ez]⟩
  clear ez
  refine J_eq eg ?_
  show J X 13 [(0, .ref (xad X (0, 0, 0))), (1, iv v_yard), (2, iv v_v)] [iv z20.1] (gs z20.2 4 0 M)
  exact jr_iret (pc := 13) F hQ rfl dX4_frost_13 ⟨_, _, rfl, r19, rfl, (Ok_some k)⟩
set_option maxHeartbeats 4000000 in
set_option maxRecDepth 100000 in
theorem snd_X4_goInMind {C0 : GG} {v_n : Int} {M : LT} (rgp_n : Rg v_n) {Q : (GG) → Prop} (k : Ok (X4_goInMind C0 v_n) Q) : MetG SL yX4_goInMind cX4_goInMind 2 none 4 (fun ad => [.ref (ad (0, 0, 0)), iv v_n]) (gs C0 4 0 M) (fun v g' => ∃ L' : GG, v = none ∧ g' = gs L' 4 0 M ∧ Q L') := by
  refine met_intro SL_ok (by decide +kernel) (fun ad => Nat.le_of_ble_eq_true rfl) (fun X F hQ hR => ?_)
  replace F : FX X cX4_goInMind RX4 2 none SL 4 := F
  show J X 0 [(0, .ref (xad X (0, 0, 0))), (1, iv v_n)] [] (gs C0 4 0 M)
  refine jr_aload_n (pc := 0) F 0 dX4_goInMind_0 rfl rfl ?_
  refine jr_getR (pc := 1) (b := (1, 1, 0)) F f_4_16 m0_0 rfl dX4_goInMind_1 ?_
  refine jr_aload_n (pc := 4) F 0 dX4_goInMind_4 rfl rfl ?_
  refine jr_getR (pc := 5) (b := (1, 0, 0)) F f_4_12 m0_0 rfl dX4_goInMind_5 ?_
  have k := Ok_bind k
  refine jr_callV (pc := 8) (st := []) F [.ref (xad X (1, 0, 0))] (snd_X2_become h11_1 (g0 := gs C0 4 0 M) h11_0 (by decide) rfl  k) (gs_in C0 M 1 1 (by decide)) ck_4_79 rfl (mL_0 h11_1) rfl rfl rfl (by decide) (Nat.le_of_ble_eq_true rfl) dX4_goInMind_8 rfl (fun v g' hq => ?_)
  obtain ⟨z2, rfl, eg, k⟩ := hq
  rw [gs_comm (by decide)] at eg
  obtain ⟨C3, e4, k⟩ := Ok_let k
  rw [← e4] at eg
  refine J_eq eg ?_
  show J X 11 [(0, .ref (xad X (0, 0, 0))), (1, iv v_n)] [] (gs C3 4 0 M)
  refine jr_aload_n (pc := 11) F 0 dX4_goInMind_11 rfl rfl ?_
  refine jr_getR (pc := 12) (b := (1, 1, 0)) F f_4_16 m0_0 rfl dX4_goInMind_12 ?_
  refine jr_iload_n (pc := 15) F 1 dX4_goInMind_15 rfl rfl ?_
  have k := Ok_bind k
  refine jr_callV (pc := 16) (st := []) F [iv v_n] (snd_X2_go h11_1 (g0 := gs C3 4 0 M) rgp_n k) (gs_in C3 M 1 1 (by decide)) ck_4_124 rfl (mL_0 h11_1) rfl rfl rfl (by decide) (Nat.le_of_ble_eq_true rfl) dX4_goInMind_16 rfl (fun v g' hq => ?_)
  obtain ⟨z6, rfl, eg, k⟩ := hq
  rw [gs_comm (by decide)] at eg
  obtain ⟨C7, e8, k⟩ := Ok_let k
  rw [← e8] at eg
  refine J_eq eg ?_
  show J X 19 [(0, .ref (xad X (0, 0, 0))), (1, iv v_n)] [] (gs C7 4 0 M)
  exact jr_vret (pc := 19) F hQ rfl dX4_goInMind_19 ⟨_, rfl, rfl, (Ok_some k)⟩
set_option maxHeartbeats 4000000 in
set_option maxRecDepth 100000 in
theorem snd_X4_frostIn {C0 : GG} {v_yard : Int} {v_n : Int} {M : LT} (rgp_yard : Rg v_yard) (rgp_n : Rg v_n) {Q : (Int × GG) → Prop} (k : Ok (X4_frostIn C0 v_yard v_n) Q) : MetG SL yX4_frostIn cX4_frostIn 4 (some .int) 5 (fun ad => [.ref (ad (0, 0, 0)), iv v_yard, iv v_n]) (gs C0 4 0 M) (fun v g' => ∃ (x : Int) (L' : GG), v = some (iv x) ∧ Rg x ∧ g' = gs L' 4 0 M ∧ Q (x, L')) := by
  refine met_intro SL_ok (by decide +kernel) (fun ad => Nat.le_of_ble_eq_true rfl) (fun X F hQ hR => ?_)
  replace F : FX X cX4_frostIn RX4 4 (some .int) SL 5 := F
  show J X 0 [(0, .ref (xad X (0, 0, 0))), (1, iv v_yard), (2, iv v_n)] [] (gs C0 4 0 M)
  refine jr_aload_n (pc := 0) F 0 dX4_frostIn_0 rfl rfl ?_
  refine jr_iload_n (pc := 1) F 1 dX4_frostIn_1 rfl rfl ?_
  refine jr_callV (pc := 2) (st := []) F [iv v_yard] (snd_X4_noYard (M := M) rgp_yard (X4_noYard_ok _ _ )) rfl ck_4_127 rfl m0_0 rfl rfl rfl (by decide) (Nat.le_of_ble_eq_true rfl) dX4_frostIn_2 rfl (fun v g' hq => ?_)
  obtain ⟨x, rfl, r1, eg, hx⟩ := hq
  subst hx
  refine J_eq eg ?_
  show J X 5 [(0, .ref (xad X (0, 0, 0))), (1, iv v_yard), (2, iv v_n)] [iv (X4_noYard_v C0 v_yard)] (gs C0 4 0 M)
  refine jr_if_eq (pc := 5) (tgt := 14) F (rg_z r1) dX4_frostIn_5 (by decide) (fun h2 => ?_) (fun h2 => ?_)
  · have k := Ok_f (fun q => q h2) k
    refine jr_iload_n (pc := 14) F 2 dX4_frostIn_14 rfl rfl ?_
    refine jr_iconst (pc := 15) F dX4_frostIn_15 ?_
    refine jr_bipush (pc := 16) F dX4_frostIn_16 (by decide) ?_
    refine jr_callS (pc := 18) (st := []) F [iv v_n, iv 0, iv 72] (snd_X4_outside (g0 := gs C0 4 0 M) rgp_n (show Rg 0 from ⟨by decide, by decide⟩) (show Rg 72 from ⟨by decide, by decide⟩) (X4_outside_ok _ _ _ )) rfl ck_4_57 rfl rfl (by decide) (Nat.le_of_ble_eq_true rfl) dX4_frostIn_18 rfl (fun v g' hq => ?_)
    obtain ⟨x, rfl, r3, eg, hx⟩ := hq
    subst hx
    refine J_eq eg ?_
    show J X 21 [(0, .ref (xad X (0, 0, 0))), (1, iv v_yard), (2, iv v_n)] [iv (X4_outside_v v_n 0 72)] (gs C0 4 0 M)
    obtain ⟨x4, e5, k⟩ := Ok_let k
    have r6 : Rg x4 := rg_of e5 r3
    refine jr_top e5 ?_
    refine jr_istore_n (pc := 21) F [(3, iv x4), (0, .ref (xad X (0, 0, 0))), (1, iv v_yard), (2, iv v_n)] dX4_frostIn_21 rfl (by decide) rfl ?_
    refine jr_iload_n (pc := 22) F 0 dX4_frostIn_22 rfl rfl ?_
    refine jr_if_eq (pc := 23) (tgt := 32) F r6 dX4_frostIn_23 (by decide) (fun h7 => ?_) (fun h7 => ?_)
    · have k := Ok_f (fun q => q h7) k
      refine jr_aload_n (pc := 32) F 1 dX4_frostIn_32 rfl rfl ?_
      refine jr_iload_n (pc := 33) F 3 dX4_frostIn_33 rfl rfl ?_
      have k := Ok_bind k
      refine jr_callV (pc := 34) (st := []) F [iv v_n] (snd_X4_goInMind (M := M) rgp_n k) rfl ck_4_190 rfl m0_0 rfl rfl rfl (by decide) (Nat.le_of_ble_eq_true rfl) dX4_frostIn_34 rfl (fun v g' hq => ?_)
      obtain ⟨z9, rfl, eg, k⟩ := hq
      refine J_eq eg ?_
      show J X 37 [(3, iv x4), (0, .ref (xad X (0, 0, 0))), (1, iv v_yard), (2, iv v_n)] [] (gs z9 4 0 M)
      refine jr_aload_n (pc := 37) F 1 dX4_frostIn_37 rfl rfl ?_
      refine jr_getR (pc := 38) (b := (1, 1, 0)) F f_4_16 m0_0 rfl dX4_frostIn_38 ?_
      refine jr_getR (pc := 41) (b := (1, 1, 8)) F f_4_136 (mL_0 h11_1) rfl dX4_frostIn_41 ?_
      refine jr_iload_n (pc := 44) F 2 dX4_frostIn_44 rfl rfl ?_
      obtain ⟨c10, k⟩ := Ok_grd k
      refine jr_iald (pc := 45) F (z9 1 1 8 v_yard) (mL_8 h11_1) (by decide) c10 rfl dX4_frostIn_45 (fun r11 => ?_)
      exact jr_iret (pc := 46) F hQ rfl dX4_frostIn_46 ⟨_, _, rfl, r11, rfl, (Ok_some k)⟩
    have k := Ok_t h7 k
    refine jr_aload_n (pc := 26) F 1 dX4_frostIn_26 rfl rfl ?_
    refine jr_iload_n (pc := 27) F 0 dX4_frostIn_27 rfl rfl ?_
    have k := Ok_bind k
    refine jr_callV (pc := 28) (st := []) F [iv x4] (snd_X4_refuse (M := M) r6 k) rfl ck_4_61 rfl m0_0 rfl rfl rfl (by decide) (Nat.le_of_ble_eq_true rfl) dX4_frostIn_28 rfl (fun v g' hq => ?_)
    obtain ⟨x, L', rfl, r12, eg, k⟩ := hq
    obtain ⟨z13, ez⟩ : ∃ z : Int × GG, z = (x, L') := ⟨_, rfl⟩
    obtain ⟨rfl, rfl⟩ : x = z13.1 ∧ L' = z13.2 := ⟨by rw [ez], by rw [ez]⟩
    clear ez
    refine J_eq eg ?_
    show J X 31 [(3, iv x4), (0, .ref (xad X (0, 0, 0))), (1, iv v_yard), (2, iv v_n)] [iv z13.1] (gs z13.2 4 0 M)
    exact jr_iret (pc := 31) F hQ rfl dX4_frostIn_31 ⟨_, _, rfl, r12, rfl, (Ok_some k)⟩
  have k := Ok_t h2 k
  refine jr_aload_n (pc := 8) F 0 dX4_frostIn_8 rfl rfl ?_
  refine jr_iconst (pc := 9) F dX4_frostIn_9 ?_
  have k := Ok_bind k
  refine jr_callV (pc := 10) (st := []) F [iv (-1)] (snd_X4_refuse (M := M) (show Rg (-1) from ⟨by decide, by decide⟩) k) rfl ck_4_61 rfl m0_0 rfl rfl rfl (by decide) (Nat.le_of_ble_eq_true rfl) dX4_frostIn_10 rfl (fun v g' hq => ?_)
  obtain ⟨x, L', rfl, r14, eg, k⟩ := hq
  obtain ⟨z15, ez⟩ : ∃ z : Int × GG, z = (x, L') := ⟨_, rfl⟩
  obtain ⟨rfl, rfl⟩ : x = z15.1 ∧ L' = z15.2 := ⟨by rw [ez], by rw [ez]⟩
  clear ez
  refine J_eq eg ?_
  show J X 13 [(0, .ref (xad X (0, 0, 0))), (1, iv v_yard), (2, iv v_n)] [iv z15.1] (gs z15.2 4 0 M)
  exact jr_iret (pc := 13) F hQ rfl dX4_frostIn_13 ⟨_, _, rfl, r14, rfl, (Ok_some k)⟩
set_option maxHeartbeats 4000000 in
set_option maxRecDepth 100000 in
theorem snd_X4_getsThroughAtNoon {C0 : GG} {v_train : Int} {v_noon : Int} {M : LT} (rgp_train : Rg v_train) (rgp_noon : Rg v_noon) {Q : (Int × GG) → Prop} (k : Ok (X4_getsThroughAtNoon C0 v_train v_noon) Q) : MetG SL yX4_getsThroughAtNoon cX4_getsThroughAtNoon 3 (some .boolean) 5 (fun ad => [.ref (ad (0, 0, 0)), iv v_train, iv v_noon]) (gs C0 4 0 M) (fun v g' => ∃ (x : Int) (L' : GG), v = some (iv x) ∧ Bz x ∧ g' = gs L' 4 0 M ∧ Q (x, L')) := by
  refine met_intro SL_ok (by decide +kernel) (fun ad => Nat.le_of_ble_eq_true rfl) (fun X F hQ hR => ?_)
  replace F : FX X cX4_getsThroughAtNoon RX4 3 (some .boolean) SL 5 := F
  show J X 0 [(0, .ref (xad X (0, 0, 0))), (1, iv v_train), (2, iv v_noon)] [] (gs C0 4 0 M)
  refine jr_aload_n (pc := 0) F 0 dX4_getsThroughAtNoon_0 rfl rfl ?_
  refine jr_getR (pc := 1) (b := (1, 1, 0)) F f_4_16 m0_0 rfl dX4_getsThroughAtNoon_1 ?_
  refine jr_aload_n (pc := 4) F 0 dX4_getsThroughAtNoon_4 rfl rfl ?_
  refine jr_getR (pc := 5) (b := (1, 0, 0)) F f_4_12 m0_0 rfl dX4_getsThroughAtNoon_5 ?_
  have k := Ok_bind k
  refine jr_callV (pc := 8) (st := []) F [.ref (xad X (1, 0, 0))] (snd_X2_become h11_1 (g0 := gs C0 4 0 M) h11_0 (by decide) rfl  k) (gs_in C0 M 1 1 (by decide)) ck_4_79 rfl (mL_0 h11_1) rfl rfl rfl (by decide) (Nat.le_of_ble_eq_true rfl) dX4_getsThroughAtNoon_8 rfl (fun v g' hq => ?_)
  obtain ⟨z2, rfl, eg, k⟩ := hq
  rw [gs_comm (by decide)] at eg
  obtain ⟨C3, e4, k⟩ := Ok_let k
  rw [← e4] at eg
  refine J_eq eg ?_
  show J X 11 [(0, .ref (xad X (0, 0, 0))), (1, iv v_train), (2, iv v_noon)] [] (gs C3 4 0 M)
  refine jr_aload_n (pc := 11) F 0 dX4_getsThroughAtNoon_11 rfl rfl ?_
  refine jr_getR (pc := 12) (b := (1, 1, 0)) F f_4_16 m0_0 rfl dX4_getsThroughAtNoon_12 ?_
  refine jr_iload_n (pc := 15) F 2 dX4_getsThroughAtNoon_15 rfl rfl ?_
  obtain ⟨C5, e6, k⟩ := Ok_let k
  refine jr_putI (pc := 16) F (gs C5 4 0 M) fw_4_118 (mL_0 h11_1) rfl rgp_noon (put2 e6 (by decide)) dX4_getsThroughAtNoon_16 ?_
  refine jr_aload_n (pc := 19) F 0 dX4_getsThroughAtNoon_19 rfl rfl ?_
  refine jr_iload_n (pc := 20) F 1 dX4_getsThroughAtNoon_20 rfl rfl ?_
  have k := Ok_bind k
  refine jr_callV (pc := 21) (st := []) F [iv v_train] (snd_X4_getsThrough (M := M) rgp_train k) rfl ck_4_211 rfl m0_0 rfl rfl rfl (by decide) (Nat.le_of_ble_eq_true rfl) dX4_getsThroughAtNoon_21 rfl (fun v g' hq => ?_)
  obtain ⟨x, L', rfl, r7, eg, k⟩ := hq
  obtain ⟨z8, ez⟩ : ∃ z : Int × GG, z = (x, L') := ⟨_, rfl⟩
  obtain ⟨rfl, rfl⟩ : x = z8.1 ∧ L' = z8.2 := ⟨by rw [ez], by rw [ez]⟩
  clear ez
  refine J_eq eg ?_
  show J X 24 [(0, .ref (xad X (0, 0, 0))), (1, iv v_train), (2, iv v_noon)] [iv z8.1] (gs z8.2 4 0 M)
  exact jr_zret (pc := 24) F hQ rfl r7 dX4_getsThroughAtNoon_24 ⟨_, _, rfl, r7, rfl, (Ok_some k)⟩
set_option maxHeartbeats 4000000 in
set_option maxRecDepth 100000 in
theorem snd_X4_greatestWarmth {C0 : GG} {v_train : Int} {M : LT} (rgp_train : Rg v_train) {Q : (Int × GG) → Prop} (k : Ok (X4_greatestWarmth C0 v_train) Q) : MetG SL yX4_greatestWarmth cX4_greatestWarmth 3 (some .int) 5 (fun ad => [.ref (ad (0, 0, 0)), iv v_train]) (gs C0 4 0 M) (fun v g' => ∃ (x : Int) (L' : GG), v = some (iv x) ∧ Rg x ∧ g' = gs L' 4 0 M ∧ Q (x, L')) := by
  refine met_intro SL_ok (by decide +kernel) (fun ad => Nat.le_of_ble_eq_true rfl) (fun X F hQ hR => ?_)
  replace F : FX X cX4_greatestWarmth RX4 3 (some .int) SL 5 := F
  show J X 0 [(0, .ref (xad X (0, 0, 0))), (1, iv v_train)] [] (gs C0 4 0 M)
  refine jr_bipush (pc := 0) F dX4_greatestWarmth_0 (by decide) ?_
  refine jr_istore_n (pc := 2) F [(2, iv 9), (0, .ref (xad X (0, 0, 0))), (1, iv v_train)] dX4_greatestWarmth_2 rfl (by decide) rfl ?_
  refine jr_sub F [1, 2, 0] [(0, .ref (xad X (0, 0, 0))), (1, iv v_train), (2, iv 9)] rfl ?_
  refine lpj (P := fun s : Int × GG => Rg (s.1) → J X 3 [(0, .ref (xad X (0, 0, 0))), (1, iv v_train), (2, iv s.1)] [] (gs s.2 4 0 M)) (PE := fun o : ((Int × GG) ⊕ (Int × GG)) => match o with | .inl r => Rg (r.1) → J X 44 [(0, .ref (xad X (0, 0, 0))), (1, iv v_train), (2, iv r.1)] [] (gs r.2 4 0 M) | .inr y => Q (y)) k (fun s1 Q2 k hC3 hE4 r6 => ?_) (fun o k => ?_) (fun h => h (show Rg 9 from ⟨by decide, by decide⟩))
  · refine jr_iload_n (pc := 3) F 2 dX4_greatestWarmth_3 rfl rfl ?_
    refine jr_if_lt (pc := 4) (tgt := 44) F r6 dX4_greatestWarmth_4 (by decide) (fun h7 => ?_) (fun h7 => ?_)
    · have k := Ok_f (ng_le h7) k
      exact hE4 (Sum.inl (s1.1, s1.2)) (Ok_some k) r6
    have k := Ok_t h7 k
    refine jr_aload_n (pc := 7) F 0 dX4_greatestWarmth_7 rfl rfl ?_
    refine jr_getR (pc := 8) (b := (1, 1, 0)) F f_4_16 m0_0 rfl dX4_greatestWarmth_8 ?_
    refine jr_aload_n (pc := 11) F 0 dX4_greatestWarmth_11 rfl rfl ?_
    refine jr_getR (pc := 12) (b := (1, 0, 0)) F f_4_12 m0_0 rfl dX4_greatestWarmth_12 ?_
    have k := Ok_bind k
    refine jr_callV (pc := 15) (st := []) F [.ref (xad X (1, 0, 0))] (snd_X2_become h11_1 (g0 := gs s1.2 4 0 M) h11_0 (by decide) rfl  k) (gs_in s1.2 M 1 1 (by decide)) ck_4_79 rfl (mL_0 h11_1) rfl rfl rfl (by decide) (Nat.le_of_ble_eq_true rfl) dX4_greatestWarmth_15 rfl (fun v g' hq => ?_)
    obtain ⟨z9, rfl, eg, k⟩ := hq
    rw [gs_comm (by decide)] at eg
    obtain ⟨C10, e11, k⟩ := Ok_let k
    rw [← e11] at eg
    refine J_eq eg ?_
    show J X 18 [(0, .ref (xad X (0, 0, 0))), (1, iv v_train), (2, iv s1.1)] [] (gs C10 4 0 M)
    refine jr_aload_n (pc := 18) F 0 dX4_greatestWarmth_18 rfl rfl ?_
    refine jr_getR (pc := 19) (b := (1, 1, 0)) F f_4_16 m0_0 rfl dX4_greatestWarmth_19 ?_
    refine jr_getR (pc := 22) (b := (1, 1, 10)) F f_4_168 (mL_0 h11_1) rfl dX4_greatestWarmth_22 ?_
    refine jr_iload_n (pc := 25) F 1 dX4_greatestWarmth_25 rfl rfl ?_
    refine jr_iload_n (pc := 26) F 2 dX4_greatestWarmth_26 rfl rfl ?_
    obtain ⟨c12, k⟩ := Ok_grd k
    obtain ⟨C13, e14, k⟩ := Ok_let k
    refine jr_iast (pc := 27) F (gs C13 4 0 M) (mL_10 h11_1) (by decide) c12 r6 (put2 e14 (by decide)) dX4_greatestWarmth_27 ?_
    refine jr_aload_n (pc := 28) F 0 dX4_greatestWarmth_28 rfl rfl ?_
    refine jr_iload_n (pc := 29) F 1 dX4_greatestWarmth_29 rfl rfl ?_
    have k := Ok_bind k
    refine jr_callV (pc := 30) (st := []) F [iv v_train] (snd_X4_getsThrough (M := M) rgp_train k) rfl ck_4_211 rfl m0_0 rfl rfl rfl (by decide) (Nat.le_of_ble_eq_true rfl) dX4_greatestWarmth_30 rfl (fun v g' hq => ?_)
    obtain ⟨x, L', rfl, r15, eg, k⟩ := hq
    obtain ⟨z16, ez⟩ : ∃ z : Int × GG, z = (x, L') := ⟨_, rfl⟩
    obtain ⟨rfl, rfl⟩ : x = z16.1 ∧ L' = z16.2 := ⟨by rw [ez], by rw [ez]⟩
    clear ez
    refine J_eq eg ?_
    show J X 33 [(0, .ref (xad X (0, 0, 0))), (1, iv v_train), (2, iv s1.1)] [iv z16.1] (gs z16.2 4 0 M)
    refine jr_if_eq (pc := 33) (tgt := 38) F (rg_z r15) dX4_greatestWarmth_33 (by decide) (fun h17 => ?_) (fun h17 => ?_)
    · have k := Ok_f (fun q => q h17) k
      refine jr_iinc (pc := 38) F [(2, iv (w32 (s1.1 + (-1)))), (0, .ref (xad X (0, 0, 0))), (1, iv v_train)] 2 dX4_greatestWarmth_38 rfl (by decide) rfl ?_
      refine jr_goto (pc := 41) (tgt := 3) F dX4_greatestWarmth_41 (by decide) ?_
      refine jr_sub F [1, 2, 0] [(0, .ref (xad X (0, 0, 0))), (1, iv v_train), (2, iv (w32 (s1.1 + (-1))))] rfl ?_
      exact hC3 (w32 (s1.1 + (-1)), z16.2) (Ok_some k) (rg_w _)
    have k := Ok_t h17 k
    refine jr_iload_n (pc := 36) F 2 dX4_greatestWarmth_36 rfl rfl ?_
    exact jr_iret (pc := 37) F hQ rfl dX4_greatestWarmth_37 ⟨_, _, rfl, r6, rfl, (hE4 (Sum.inr _) (Ok_some k))⟩
  rcases o with z5 | y
  rotate_left
  · show Q (y)
    exact Ok_some k
  intro r18
  refine jr_bipush (pc := 44) F dX4_greatestWarmth_44 (by decide) ?_
  exact jr_iret (pc := 46) F hQ rfl dX4_greatestWarmth_46 ⟨_, _, rfl, (show Rg (-9) from ⟨by decide, by decide⟩), rfl, (Ok_some k)⟩
set_option maxHeartbeats 4000000 in
set_option maxRecDepth 100000 in
theorem snd_X4_greatestWeight {C0 : GG} {v_train : Int} {M : LT} (rgp_train : Rg v_train) {Q : (Int × GG) → Prop} (k : Ok (X4_greatestWeight C0 v_train) Q) : MetG SL yX4_greatestWeight cX4_greatestWeight 3 (some .int) 5 (fun ad => [.ref (ad (0, 0, 0)), iv v_train]) (gs C0 4 0 M) (fun v g' => ∃ (x : Int) (L' : GG), v = some (iv x) ∧ Rg x ∧ g' = gs L' 4 0 M ∧ Q (x, L')) := by
  refine met_intro SL_ok (by decide +kernel) (fun ad => Nat.le_of_ble_eq_true rfl) (fun X F hQ hR => ?_)
  replace F : FX X cX4_greatestWeight RX4 3 (some .int) SL 5 := F
  show J X 0 [(0, .ref (xad X (0, 0, 0))), (1, iv v_train)] [] (gs C0 4 0 M)
  refine jr_bipush (pc := 0) F dX4_greatestWeight_0 (by decide) ?_
  refine jr_istore_n (pc := 2) F [(2, iv 60), (0, .ref (xad X (0, 0, 0))), (1, iv v_train)] dX4_greatestWeight_2 rfl (by decide) rfl ?_
  refine jr_sub F [1, 2, 0] [(0, .ref (xad X (0, 0, 0))), (1, iv v_train), (2, iv 60)] rfl ?_
  refine lpj (P := fun s : Int × GG => Rg (s.1) → J X 3 [(0, .ref (xad X (0, 0, 0))), (1, iv v_train), (2, iv s.1)] [] (gs s.2 4 0 M)) (PE := fun o : ((Int × GG) ⊕ (Int × GG)) => match o with | .inl r => Rg (r.1) → J X 45 [(0, .ref (xad X (0, 0, 0))), (1, iv v_train), (2, iv r.1)] [] (gs r.2 4 0 M) | .inr y => Q (y)) k (fun s1 Q2 k hC3 hE4 r6 => ?_) (fun o k => ?_) (fun h => h (show Rg 60 from ⟨by decide, by decide⟩))
  · refine jr_iload_n (pc := 3) F 2 dX4_greatestWeight_3 rfl rfl ?_
    refine jr_iconst (pc := 4) F dX4_greatestWeight_4 ?_
    refine jr_icmp_lt (pc := 5) (tgt := 45) F r6 (show Rg 1 from ⟨by decide, by decide⟩) dX4_greatestWeight_5 (by decide) (fun h7 => ?_) (fun h7 => ?_)
    · have k := Ok_f (ng_le h7) k
      exact hE4 (Sum.inl (s1.1, s1.2)) (Ok_some k) r6
    have k := Ok_t h7 k
    refine jr_aload_n (pc := 8) F 0 dX4_greatestWeight_8 rfl rfl ?_
    refine jr_getR (pc := 9) (b := (1, 1, 0)) F f_4_16 m0_0 rfl dX4_greatestWeight_9 ?_
    refine jr_aload_n (pc := 12) F 0 dX4_greatestWeight_12 rfl rfl ?_
    refine jr_getR (pc := 13) (b := (1, 0, 0)) F f_4_12 m0_0 rfl dX4_greatestWeight_13 ?_
    have k := Ok_bind k
    refine jr_callV (pc := 16) (st := []) F [.ref (xad X (1, 0, 0))] (snd_X2_become h11_1 (g0 := gs s1.2 4 0 M) h11_0 (by decide) rfl  k) (gs_in s1.2 M 1 1 (by decide)) ck_4_79 rfl (mL_0 h11_1) rfl rfl rfl (by decide) (Nat.le_of_ble_eq_true rfl) dX4_greatestWeight_16 rfl (fun v g' hq => ?_)
    obtain ⟨z9, rfl, eg, k⟩ := hq
    rw [gs_comm (by decide)] at eg
    obtain ⟨C10, e11, k⟩ := Ok_let k
    rw [← e11] at eg
    refine J_eq eg ?_
    show J X 19 [(0, .ref (xad X (0, 0, 0))), (1, iv v_train), (2, iv s1.1)] [] (gs C10 4 0 M)
    refine jr_aload_n (pc := 19) F 0 dX4_greatestWeight_19 rfl rfl ?_
    refine jr_getR (pc := 20) (b := (1, 1, 0)) F f_4_16 m0_0 rfl dX4_greatestWeight_20 ?_
    refine jr_getR (pc := 23) (b := (1, 1, 9)) F f_4_165 (mL_0 h11_1) rfl dX4_greatestWeight_23 ?_
    refine jr_iload_n (pc := 26) F 1 dX4_greatestWeight_26 rfl rfl ?_
    refine jr_iload_n (pc := 27) F 2 dX4_greatestWeight_27 rfl rfl ?_
    obtain ⟨c12, k⟩ := Ok_grd k
    obtain ⟨C13, e14, k⟩ := Ok_let k
    refine jr_iast (pc := 28) F (gs C13 4 0 M) (mL_9 h11_1) (by decide) c12 r6 (put2 e14 (by decide)) dX4_greatestWeight_28 ?_
    refine jr_aload_n (pc := 29) F 0 dX4_greatestWeight_29 rfl rfl ?_
    refine jr_iload_n (pc := 30) F 1 dX4_greatestWeight_30 rfl rfl ?_
    have k := Ok_bind k
    refine jr_callV (pc := 31) (st := []) F [iv v_train] (snd_X4_getsThrough (M := M) rgp_train k) rfl ck_4_211 rfl m0_0 rfl rfl rfl (by decide) (Nat.le_of_ble_eq_true rfl) dX4_greatestWeight_31 rfl (fun v g' hq => ?_)
    obtain ⟨x, L', rfl, r15, eg, k⟩ := hq
    obtain ⟨z16, ez⟩ : ∃ z : Int × GG, z = (x, L') := ⟨_, rfl⟩
    obtain ⟨rfl, rfl⟩ : x = z16.1 ∧ L' = z16.2 := ⟨by rw [ez], by rw [ez]⟩
    clear ez
    refine J_eq eg ?_
    show J X 34 [(0, .ref (xad X (0, 0, 0))), (1, iv v_train), (2, iv s1.1)] [iv z16.1] (gs z16.2 4 0 M)
    refine jr_if_eq (pc := 34) (tgt := 39) F (rg_z r15) dX4_greatestWeight_34 (by decide) (fun h17 => ?_) (fun h17 => ?_)
    · have k := Ok_f (fun q => q h17) k
      refine jr_iinc (pc := 39) F [(2, iv (w32 (s1.1 + (-1)))), (0, .ref (xad X (0, 0, 0))), (1, iv v_train)] 2 dX4_greatestWeight_39 rfl (by decide) rfl ?_
      refine jr_goto (pc := 42) (tgt := 3) F dX4_greatestWeight_42 (by decide) ?_
      refine jr_sub F [1, 2, 0] [(0, .ref (xad X (0, 0, 0))), (1, iv v_train), (2, iv (w32 (s1.1 + (-1))))] rfl ?_
      exact hC3 (w32 (s1.1 + (-1)), z16.2) (Ok_some k) (rg_w _)
    have k := Ok_t h17 k
    refine jr_iload_n (pc := 37) F 2 dX4_greatestWeight_37 rfl rfl ?_
    exact jr_iret (pc := 38) F hQ rfl dX4_greatestWeight_38 ⟨_, _, rfl, r6, rfl, (hE4 (Sum.inr _) (Ok_some k))⟩
  rcases o with z5 | y
  rotate_left
  · show Q (y)
    exact Ok_some k
  intro r18
  refine jr_bipush (pc := 45) F dX4_greatestWeight_45 (by decide) ?_
  exact jr_iret (pc := 47) F hQ rfl dX4_greatestWeight_47 ⟨_, _, rfl, (show Rg (-9) from ⟨by decide, by decide⟩), rfl, (Ok_some k)⟩
set_option maxHeartbeats 4000000 in
set_option maxRecDepth 100000 in
theorem snd_X4_soonestPace {C0 : GG} {v_train : Int} {M : LT} (rgp_train : Rg v_train) {Q : (Int × GG) → Prop} (k : Ok (X4_soonestPace C0 v_train) Q) : MetG SL yX4_soonestPace cX4_soonestPace 5 (some .int) 5 (fun ad => [.ref (ad (0, 0, 0)), iv v_train]) (gs C0 4 0 M) (fun v g' => ∃ (x : Int) (L' : GG), v = some (iv x) ∧ Rg x ∧ g' = gs L' 4 0 M ∧ Q (x, L')) := by
  refine met_intro SL_ok (by decide +kernel) (fun ad => Nat.le_of_ble_eq_true rfl) (fun X F hQ hR => ?_)
  replace F : FX X cX4_soonestPace RX4 5 (some .int) SL 5 := F
  show J X 0 [(0, .ref (xad X (0, 0, 0))), (1, iv v_train)] [] (gs C0 4 0 M)
  refine jr_bipush (pc := 0) F dX4_soonestPace_0 (by decide) ?_
  refine jr_istore_n (pc := 2) F [(2, iv (-9)), (0, .ref (xad X (0, 0, 0))), (1, iv v_train)] dX4_soonestPace_2 rfl (by decide) rfl ?_
  refine jr_bipush (pc := 3) F dX4_soonestPace_3 (by decide) ?_
  refine jr_istore_n (pc := 5) F [(3, iv (-9)), (2, iv (-9)), (0, .ref (xad X (0, 0, 0))), (1, iv v_train)] dX4_soonestPace_5 rfl (by decide) rfl ?_
  refine jr_iconst (pc := 6) F dX4_soonestPace_6 ?_
  refine jr_istore (pc := 7) F [(4, iv 1), (3, iv (-9)), (2, iv (-9)), (0, .ref (xad X (0, 0, 0))), (1, iv v_train)] dX4_soonestPace_7 (by decide) rfl ?_
  refine jr_sub F [3, 4, 2, 1, 0] [(0, .ref (xad X (0, 0, 0))), (1, iv v_train), (2, iv (-9)), (3, iv (-9)), (4, iv 1)] rfl ?_
  refine lpj (P := fun s : Int × Int × Int × GG => Rg (s.1) → Rg (s.2.1) → Rg (s.2.2.1) → J X 9 [(0, .ref (xad X (0, 0, 0))), (1, iv v_train), (2, iv s.1), (3, iv s.2.1), (4, iv s.2.2.1)] [] (gs s.2.2.2 4 0 M)) (PE := fun r : Int × Int × Int × GG => Rg (r.1) → Rg (r.2.1) → Rg (r.2.2.1) → J X 83 [(0, .ref (xad X (0, 0, 0))), (1, iv v_train), (2, iv r.1), (3, iv r.2.1), (4, iv r.2.2.1)] [] (gs r.2.2.2 4 0 M)) k (fun s1 Q2 k hC3 hE4 r6 r7 r8 => ?_) (fun z5 k => ?_) (fun h => h (show Rg (-9) from ⟨by decide, by decide⟩) (show Rg (-9) from ⟨by decide, by decide⟩) (show Rg 1 from ⟨by decide, by decide⟩))
  · refine jr_iload (pc := 9) F 4 dX4_soonestPace_9 rfl ?_
    refine jr_iconst (pc := 11) F dX4_soonestPace_11 ?_
    refine jr_icmp_gt (pc := 12) (tgt := 83) F r8 (show Rg 3 from ⟨by decide, by decide⟩) dX4_soonestPace_12 (by decide) (fun h9 => ?_) (fun h9 => ?_)
    · have k := Ok_f (ng_le h9) k
      exact hE4 (s1.1, s1.2.1, s1.2.2.1, s1.2.2.2) (Ok_some k) r6 r7 r8
    have k := Ok_t h9 k
    refine jr_aload_n (pc := 15) F 0 dX4_soonestPace_15 rfl rfl ?_
    refine jr_getR (pc := 16) (b := (1, 1, 0)) F f_4_16 m0_0 rfl dX4_soonestPace_16 ?_
    refine jr_aload_n (pc := 19) F 0 dX4_soonestPace_19 rfl rfl ?_
    refine jr_getR (pc := 20) (b := (1, 0, 0)) F f_4_12 m0_0 rfl dX4_soonestPace_20 ?_
    have k := Ok_bind k
    refine jr_callV (pc := 23) (st := []) F [.ref (xad X (1, 0, 0))] (snd_X2_become h11_1 (g0 := gs s1.2.2.2 4 0 M) h11_0 (by decide) rfl  k) (gs_in s1.2.2.2 M 1 1 (by decide)) ck_4_79 rfl (mL_0 h11_1) rfl rfl rfl (by decide) (Nat.le_of_ble_eq_true rfl) dX4_soonestPace_23 rfl (fun v g' hq => ?_)
    obtain ⟨z11, rfl, eg, k⟩ := hq
    rw [gs_comm (by decide)] at eg
    obtain ⟨C12, e13, k⟩ := Ok_let k
    rw [← e13] at eg
    refine J_eq eg ?_
    show J X 26 [(0, .ref (xad X (0, 0, 0))), (1, iv v_train), (2, iv s1.1), (3, iv s1.2.1), (4, iv s1.2.2.1)] [] (gs C12 4 0 M)
    refine jr_aload_n (pc := 26) F 0 dX4_soonestPace_26 rfl rfl ?_
    refine jr_getR (pc := 27) (b := (1, 1, 0)) F f_4_16 m0_0 rfl dX4_soonestPace_27 ?_
    refine jr_getR (pc := 30) (b := (1, 1, 11)) F f_4_171 (mL_0 h11_1) rfl dX4_soonestPace_30 ?_
    refine jr_iload_n (pc := 33) F 1 dX4_soonestPace_33 rfl rfl ?_
    refine jr_iload (pc := 34) F 4 dX4_soonestPace_34 rfl ?_
    obtain ⟨c14, k⟩ := Ok_grd k
    obtain ⟨C15, e16, k⟩ := Ok_let k
    refine jr_iast (pc := 36) F (gs C15 4 0 M) (mL_11 h11_1) (by decide) c14 r8 (put2 e16 (by decide)) dX4_soonestPace_36 ?_
    refine jr_aload_n (pc := 37) F 0 dX4_soonestPace_37 rfl rfl ?_
    refine jr_iload_n (pc := 38) F 1 dX4_soonestPace_38 rfl rfl ?_
    have k := Ok_bind k
    refine jr_callV (pc := 39) (st := []) F [iv v_train] (snd_X4_getsThrough (M := M) rgp_train k) rfl ck_4_211 rfl m0_0 rfl rfl rfl (by decide) (Nat.le_of_ble_eq_true rfl) dX4_soonestPace_39 rfl (fun v g' hq => ?_)
    obtain ⟨x, L', rfl, r17, eg, k⟩ := hq
    obtain ⟨z18, ez⟩ : ∃ z : Int × GG, z = (x, L') := ⟨_, rfl⟩
    obtain ⟨rfl, rfl⟩ : x = z18.1 ∧ L' = z18.2 := ⟨by rw [ez], by rw [ez]⟩
    clear ez
    refine J_eq eg ?_
    show J X 42 [(0, .ref (xad X (0, 0, 0))), (1, iv v_train), (2, iv s1.1), (3, iv s1.2.1), (4, iv s1.2.2.1)] [iv z18.1] (gs z18.2 4 0 M)
    refine jr_if_eq (pc := 42) (tgt := 77) F (rg_z r17) dX4_soonestPace_42 (by decide) (fun h19 => ?_) (fun h19 => ?_)
    · have k := Ok_f (fun q => q h19) k
      refine jr_iinc (pc := 77) F [(4, iv (w32 (s1.2.2.1 + 1))), (0, .ref (xad X (0, 0, 0))), (1, iv v_train), (2, iv s1.1), (3, iv s1.2.1)] 4 dX4_soonestPace_77 rfl (by decide) rfl ?_
      refine jr_goto (pc := 80) (tgt := 9) F dX4_soonestPace_80 (by decide) ?_
      refine jr_sub F [1, 2, 3, 4, 0] [(0, .ref (xad X (0, 0, 0))), (1, iv v_train), (2, iv s1.1), (3, iv s1.2.1), (4, iv (w32 (s1.2.2.1 + 1)))] rfl ?_
      exact hC3 (s1.1, s1.2.1, w32 (s1.2.2.1 + 1), z18.2) (Ok_some k) r6 r7 (rg_w _)
    have k := Ok_t h19 k
    refine cnd (c := (s1.1 = (-9)) ∨ ((z18.2 1 1 16 v_train) < s1.2.1)) (GT := J X 64 [(0, .ref (xad X (0, 0, 0))), (1, iv v_train), (2, iv s1.1), (3, iv s1.2.1), (4, iv s1.2.2.1)] [] (gs z18.2 4 0 M)) (GF := J X 77 [(0, .ref (xad X (0, 0, 0))), (1, iv v_train), (2, iv s1.1), (3, iv s1.2.1), (4, iv s1.2.2.1)] [] (gs z18.2 4 0 M)) k (fun HT HF => ?_) (fun h23 k => ?_) (fun h23 k => ?_)
    · refine jr_iload_n (pc := 45) F 2 dX4_soonestPace_45 rfl rfl ?_
      refine jr_bipush (pc := 46) F dX4_soonestPace_46 (by decide) ?_
      refine jr_icmp_eq (pc := 48) (tgt := 64) F r6 (show Rg (-9) from ⟨by decide, by decide⟩) dX4_soonestPace_48 (by decide) (fun h20 => ?_) (fun h20 => ?_)
      · exact HT (Or.inl h20)
      refine jr_aload_n (pc := 51) F 0 dX4_soonestPace_51 rfl rfl ?_
      refine jr_getR (pc := 52) (b := (1, 1, 0)) F f_4_16 m0_0 rfl dX4_soonestPace_52 ?_
      refine jr_getR (pc := 55) (b := (1, 1, 16)) F f_4_193 (mL_0 h11_1) rfl dX4_soonestPace_55 ?_
      refine jr_iload_n (pc := 58) F 1 dX4_soonestPace_58 rfl rfl ?_
      refine jr_iald (pc := 59) F (z18.2 1 1 16 v_train) (mL_16 h11_1) (by decide) c14 rfl dX4_soonestPace_59 (fun r21 => ?_)
      refine jr_iload_n (pc := 60) F 3 dX4_soonestPace_60 rfl rfl ?_
      refine jr_icmp_ge (pc := 61) (tgt := 77) F r21 r7 dX4_soonestPace_61 (by decide) (fun h22 => ?_) (fun h22 => ?_)
      · exact HF (fun q => q.elim h20 (ng_lt h22))
      exact HT (Or.inr h22)
    · refine jr_iload (pc := 64) F 4 dX4_soonestPace_64 rfl ?_
      refine jr_istore_n (pc := 66) F [(2, iv s1.2.2.1), (0, .ref (xad X (0, 0, 0))), (1, iv v_train), (3, iv s1.2.1), (4, iv s1.2.2.1)] dX4_soonestPace_66 rfl (by decide) rfl ?_
      refine jr_aload_n (pc := 67) F 1 dX4_soonestPace_67 rfl rfl ?_
      refine jr_getR (pc := 68) (b := (1, 1, 0)) F f_4_16 m0_0 rfl dX4_soonestPace_68 ?_
      refine jr_getR (pc := 71) (b := (1, 1, 16)) F f_4_193 (mL_0 h11_1) rfl dX4_soonestPace_71 ?_
      refine jr_iload_n (pc := 74) F 2 dX4_soonestPace_74 rfl rfl ?_
      refine jr_iald (pc := 75) F (z18.2 1 1 16 v_train) (mL_16 h11_1) (by decide) c14 rfl dX4_soonestPace_75 (fun r24 => ?_)
      obtain ⟨x25, e26, k⟩ := Ok_let k
      have r27 : Rg x25 := rg_of e26 r24
      refine jr_top e26 ?_
      refine jr_istore_n (pc := 76) F [(3, iv x25), (2, iv s1.2.2.1), (0, .ref (xad X (0, 0, 0))), (1, iv v_train), (4, iv s1.2.2.1)] dX4_soonestPace_76 rfl (by decide) rfl ?_
      refine jr_iinc (pc := 77) F [(4, iv (w32 (s1.2.2.1 + 1))), (3, iv x25), (2, iv s1.2.2.1), (0, .ref (xad X (0, 0, 0))), (1, iv v_train)] 4 dX4_soonestPace_77 rfl (by decide) rfl ?_
      refine jr_goto (pc := 80) (tgt := 9) F dX4_soonestPace_80 (by decide) ?_
      refine jr_sub F [3, 4, 2, 1, 0] [(0, .ref (xad X (0, 0, 0))), (1, iv v_train), (2, iv s1.2.2.1), (3, iv x25), (4, iv (w32 (s1.2.2.1 + 1)))] rfl ?_
      exact hC3 (s1.2.2.1, x25, w32 (s1.2.2.1 + 1), z18.2) (Ok_some k) r8 r27 (rg_w _)
    refine jr_iinc (pc := 77) F [(4, iv (w32 (s1.2.2.1 + 1))), (0, .ref (xad X (0, 0, 0))), (1, iv v_train), (2, iv s1.1), (3, iv s1.2.1)] 4 dX4_soonestPace_77 rfl (by decide) rfl ?_
    refine jr_goto (pc := 80) (tgt := 9) F dX4_soonestPace_80 (by decide) ?_
    refine jr_sub F [1, 2, 3, 4, 0] [(0, .ref (xad X (0, 0, 0))), (1, iv v_train), (2, iv s1.1), (3, iv s1.2.1), (4, iv (w32 (s1.2.2.1 + 1)))] rfl ?_
    exact hC3 (s1.1, s1.2.1, w32 (s1.2.2.1 + 1), z18.2) (Ok_some k) r6 r7 (rg_w _)
  intro r28 r29 r30
  refine jr_iload_n (pc := 83) F 2 dX4_soonestPace_83 rfl rfl ?_
  exact jr_iret (pc := 84) F hQ rfl dX4_soonestPace_84 ⟨_, _, rfl, r28, rfl, (Ok_some k)⟩
set_option maxHeartbeats 4000000 in
set_option maxRecDepth 100000 in
theorem snd_X4_heaviest {C0 : GG} {v_train : Int} {v_what : Int} {M : LT} (rgp_train : Rg v_train) (rgp_what : Rg v_what) {Q : (Int × GG) → Prop} (k : Ok (X4_heaviest C0 v_train v_what) Q) : MetG SL yX4_heaviest cX4_heaviest 4 (some .int) 6 (fun ad => [.ref (ad (0, 0, 0)), iv v_train, iv v_what]) (gs C0 4 0 M) (fun v g' => ∃ (x : Int) (L' : GG), v = some (iv x) ∧ Rg x ∧ g' = gs L' 4 0 M ∧ Q (x, L')) := by
  refine met_intro SL_ok (by decide +kernel) (fun ad => Nat.le_of_ble_eq_true rfl) (fun X F hQ hR => ?_)
  replace F : FX X cX4_heaviest RX4 4 (some .int) SL 6 := F
  show J X 0 [(0, .ref (xad X (0, 0, 0))), (1, iv v_train), (2, iv v_what)] [] (gs C0 4 0 M)
  refine jr_aload_n (pc := 0) F 0 dX4_heaviest_0 rfl rfl ?_
  refine jr_iload_n (pc := 1) F 1 dX4_heaviest_1 rfl rfl ?_
  refine jr_callV (pc := 2) (st := []) F [iv v_train] (snd_X4_noTrain (M := M) rgp_train (X4_noTrain_ok _ _ )) rfl ck_4_162 rfl m0_0 rfl rfl rfl (by decide) (Nat.le_of_ble_eq_true rfl) dX4_heaviest_2 rfl (fun v g' hq => ?_)
  obtain ⟨x, rfl, r1, eg, hx⟩ := hq
  subst hx
  refine J_eq eg ?_
  show J X 5 [(0, .ref (xad X (0, 0, 0))), (1, iv v_train), (2, iv v_what)] [iv (X4_noTrain_v C0 v_train)] (gs C0 4 0 M)
  refine jr_if_eq (pc := 5) (tgt := 14) F (rg_z r1) dX4_heaviest_5 (by decide) (fun h2 => ?_) (fun h2 => ?_)
  · have k := Ok_f (fun q => q h2) k
    refine cnd (c := (v_what < 0) ∨ (2 < v_what)) (GT := J X 23 [(0, .ref (xad X (0, 0, 0))), (1, iv v_train), (2, iv v_what)] [] (gs C0 4 0 M)) (GF := J X 30 [(0, .ref (xad X (0, 0, 0))), (1, iv v_train), (2, iv v_what)] [] (gs C0 4 0 M)) k (fun HT HF => ?_) (fun h5 k => ?_) (fun h5 k => ?_)
    · refine jr_iload_n (pc := 14) F 2 dX4_heaviest_14 rfl rfl ?_
      refine jr_if_lt (pc := 15) (tgt := 23) F rgp_what dX4_heaviest_15 (by decide) (fun h3 => ?_) (fun h3 => ?_)
      · exact HT (Or.inl h3)
      refine jr_iload_n (pc := 18) F 2 dX4_heaviest_18 rfl rfl ?_
      refine jr_iconst (pc := 19) F dX4_heaviest_19 ?_
      refine jr_icmp_le (pc := 20) (tgt := 30) F rgp_what (show Rg 2 from ⟨by decide, by decide⟩) dX4_heaviest_20 (by decide) (fun h4 => ?_) (fun h4 => ?_)
      · exact HF (fun q => q.elim (ng_lt h3) (ng_lt h4))
      exact HT (Or.inr h4)
    · refine jr_aload_n (pc := 23) F 0 dX4_heaviest_23 rfl rfl ?_
      refine jr_bipush (pc := 24) F dX4_heaviest_24 (by decide) ?_
      have k := Ok_bind k
      refine jr_callV (pc := 26) (st := []) F [iv (-2)] (snd_X4_refuse (M := M) (show Rg (-2) from ⟨by decide, by decide⟩) k) rfl ck_4_61 rfl m0_0 rfl rfl rfl (by decide) (Nat.le_of_ble_eq_true rfl) dX4_heaviest_26 rfl (fun v g' hq => ?_)
      obtain ⟨x, L', rfl, r6, eg, k⟩ := hq
      obtain ⟨z7, ez⟩ : ∃ z : Int × GG, z = (x, L') := ⟨_, rfl⟩
      obtain ⟨rfl, rfl⟩ : x = z7.1 ∧ L' = z7.2 := ⟨by rw [ez], by rw [ez]⟩
      clear ez
      refine J_eq eg ?_
      show J X 29 [(0, .ref (xad X (0, 0, 0))), (1, iv v_train), (2, iv v_what)] [iv z7.1] (gs z7.2 4 0 M)
      exact jr_iret (pc := 29) F hQ rfl dX4_heaviest_29 ⟨_, _, rfl, r6, rfl, (Ok_some k)⟩
    refine jr_aload_n (pc := 30) F 0 dX4_heaviest_30 rfl rfl ?_
    refine jr_iload_n (pc := 31) F 1 dX4_heaviest_31 rfl rfl ?_
    obtain ⟨c9, k⟩ := Ok_grd k
    refine jr_callV (pc := 32) (st := []) F [iv v_train] (snd_X4_notAhead (M := M) rgp_train (X4_notAhead_ok _ _ c9)) rfl ck_4_208 rfl m0_0 rfl rfl rfl (by decide) (Nat.le_of_ble_eq_true rfl) dX4_heaviest_32 rfl (fun v g' hq => ?_)
    obtain ⟨x, rfl, r8, eg, hx⟩ := hq
    subst hx
    refine J_eq eg ?_
    show J X 35 [(0, .ref (xad X (0, 0, 0))), (1, iv v_train), (2, iv v_what)] [iv (X4_notAhead_v C0 v_train)] (gs C0 4 0 M)
    obtain ⟨x10, e11, k⟩ := Ok_let k
    have r12 : Rg x10 := rg_of e11 r8
    refine jr_top e11 ?_
    refine jr_istore_n (pc := 35) F [(3, iv x10), (0, .ref (xad X (0, 0, 0))), (1, iv v_train), (2, iv v_what)] dX4_heaviest_35 rfl (by decide) rfl ?_
    refine jr_iload_n (pc := 36) F 0 dX4_heaviest_36 rfl rfl ?_
    refine jr_if_eq (pc := 37) (tgt := 46) F r12 dX4_heaviest_37 (by decide) (fun h13 => ?_) (fun h13 => ?_)
    · have k := Ok_f (fun q => q h13) k
      refine jr_iload_n (pc := 46) F 3 dX4_heaviest_46 rfl rfl ?_
      refine jr_if_ne (pc := 47) (tgt := 56) F rgp_what dX4_heaviest_47 (by decide) (fun h14 => ?_) (fun h14 => ?_)
      · have k := Ok_f h14 k
        refine jr_iload_n (pc := 56) F 3 dX4_heaviest_56 rfl rfl ?_
        refine jr_iconst (pc := 57) F dX4_heaviest_57 ?_
        refine jr_icmp_ne (pc := 58) (tgt := 69) F rgp_what (show Rg 1 from ⟨by decide, by decide⟩) dX4_heaviest_58 (by decide) (fun h15 => ?_) (fun h15 => ?_)
        · have k := Ok_f h15 k
          refine jr_aload_n (pc := 69) F 1 dX4_heaviest_69 rfl rfl ?_
          refine jr_iload_n (pc := 70) F 2 dX4_heaviest_70 rfl rfl ?_
          have k := Ok_bind k
          refine jr_callV (pc := 71) (st := []) F [iv v_train] (snd_X4_soonestPace (M := M) rgp_train k) rfl ck_4_220 rfl m0_0 rfl rfl rfl (by decide) (Nat.le_of_ble_eq_true rfl) dX4_heaviest_71 rfl (fun v g' hq => ?_)
          obtain ⟨x, L', rfl, r16, eg, k⟩ := hq
          obtain ⟨z17, ez⟩ : ∃ z : Int × GG, z = (x, L') := ⟨_, rfl⟩
          obtain ⟨rfl, rfl⟩ : x = z17.1 ∧ L' = z17.2 := ⟨by rw [ez], by rw [ez]⟩
          clear ez
          refine J_eq eg ?_
          show J X 74 [(3, iv x10), (0, .ref (xad X (0, 0, 0))), (1, iv v_train), (2, iv v_what)] [iv z17.1] (gs z17.2 4 0 M)
          exact jr_iret (pc := 74) F hQ rfl dX4_heaviest_74 ⟨_, _, rfl, r16, rfl, (Ok_some k)⟩
        have k := Ok_t h15 k
        refine jr_aload_n (pc := 61) F 1 dX4_heaviest_61 rfl rfl ?_
        refine jr_iload_n (pc := 62) F 2 dX4_heaviest_62 rfl rfl ?_
        have k := Ok_bind k
        refine jr_callV (pc := 63) (st := []) F [iv v_train] (snd_X4_greatestWarmth (M := M) rgp_train k) rfl ck_4_217 rfl m0_0 rfl rfl rfl (by decide) (Nat.le_of_ble_eq_true rfl) dX4_heaviest_63 rfl (fun v g' hq => ?_)
        obtain ⟨x, L', rfl, r18, eg, k⟩ := hq
        obtain ⟨z19, ez⟩ : ∃ z : Int × GG, z = (x, L') := ⟨_, rfl⟩
        obtain ⟨rfl, rfl⟩ : x = z19.1 ∧ L' = z19.2 := ⟨by rw [ez], by rw [ez]⟩
        clear ez
        refine J_eq eg ?_
        show J X 66 [(3, iv x10), (0, .ref (xad X (0, 0, 0))), (1, iv v_train), (2, iv v_what)] [iv z19.1] (gs z19.2 4 0 M)
        refine jr_goto (pc := 66) (tgt := 74) F dX4_heaviest_66 (by decide) ?_
        exact jr_iret (pc := 74) F hQ rfl dX4_heaviest_74 ⟨_, _, rfl, r18, rfl, (Ok_some k)⟩
      have k := Ok_t h14 k
      refine jr_aload_n (pc := 50) F 1 dX4_heaviest_50 rfl rfl ?_
      refine jr_iload_n (pc := 51) F 2 dX4_heaviest_51 rfl rfl ?_
      have k := Ok_bind k
      refine jr_callV (pc := 52) (st := []) F [iv v_train] (snd_X4_greatestWeight (M := M) rgp_train k) rfl ck_4_214 rfl m0_0 rfl rfl rfl (by decide) (Nat.le_of_ble_eq_true rfl) dX4_heaviest_52 rfl (fun v g' hq => ?_)
      obtain ⟨x, L', rfl, r20, eg, k⟩ := hq
      obtain ⟨z21, ez⟩ : ∃ z : Int × GG, z = (x, L') := ⟨_, rfl⟩
      obtain ⟨rfl, rfl⟩ : x = z21.1 ∧ L' = z21.2 := ⟨by rw [ez], by rw [ez]⟩
      clear ez
      refine J_eq eg ?_
      show J X 55 [(3, iv x10), (0, .ref (xad X (0, 0, 0))), (1, iv v_train), (2, iv v_what)] [iv z21.1] (gs z21.2 4 0 M)
      exact jr_iret (pc := 55) F hQ rfl dX4_heaviest_55 ⟨_, _, rfl, r20, rfl, (Ok_some k)⟩
    have k := Ok_t h13 k
    refine jr_aload_n (pc := 40) F 1 dX4_heaviest_40 rfl rfl ?_
    refine jr_iload_n (pc := 41) F 0 dX4_heaviest_41 rfl rfl ?_
    have k := Ok_bind k
    refine jr_callV (pc := 42) (st := []) F [iv x10] (snd_X4_refuse (M := M) r12 k) rfl ck_4_61 rfl m0_0 rfl rfl rfl (by decide) (Nat.le_of_ble_eq_true rfl) dX4_heaviest_42 rfl (fun v g' hq => ?_)
    obtain ⟨x, L', rfl, r22, eg, k⟩ := hq
    obtain ⟨z23, ez⟩ : ∃ z : Int × GG, z = (x, L') := ⟨_, rfl⟩
    obtain ⟨rfl, rfl⟩ : x = z23.1 ∧ L' = z23.2 := ⟨by rw [ez], by rw [ez]⟩
    clear ez
    refine J_eq eg ?_
    show J X 45 [(3, iv x10), (0, .ref (xad X (0, 0, 0))), (1, iv v_train), (2, iv v_what)] [iv z23.1] (gs z23.2 4 0 M)
    exact jr_iret (pc := 45) F hQ rfl dX4_heaviest_45 ⟨_, _, rfl, r22, rfl, (Ok_some k)⟩
  have k := Ok_t h2 k
  refine jr_aload_n (pc := 8) F 0 dX4_heaviest_8 rfl rfl ?_
  refine jr_iconst (pc := 9) F dX4_heaviest_9 ?_
  have k := Ok_bind k
  refine jr_callV (pc := 10) (st := []) F [iv (-1)] (snd_X4_refuse (M := M) (show Rg (-1) from ⟨by decide, by decide⟩) k) rfl ck_4_61 rfl m0_0 rfl rfl rfl (by decide) (Nat.le_of_ble_eq_true rfl) dX4_heaviest_10 rfl (fun v g' hq => ?_)
  obtain ⟨x, L', rfl, r24, eg, k⟩ := hq
  obtain ⟨z25, ez⟩ : ∃ z : Int × GG, z = (x, L') := ⟨_, rfl⟩
  obtain ⟨rfl, rfl⟩ : x = z25.1 ∧ L' = z25.2 := ⟨by rw [ez], by rw [ez]⟩
  clear ez
  refine J_eq eg ?_
  show J X 13 [(0, .ref (xad X (0, 0, 0))), (1, iv v_train), (2, iv v_what)] [iv z25.1] (gs z25.2 4 0 M)
  exact jr_iret (pc := 13) F hQ rfl dX4_heaviest_13 ⟨_, _, rfl, r24, rfl, (Ok_some k)⟩
set_option maxHeartbeats 4000000 in
set_option maxRecDepth 100000 in
theorem snd_X4_hours {C0 : GG} {v_n : Int} {M : LT} (rgp_n : Rg v_n) {Q : (Int × GG) → Prop} (k : Ok (X4_hours C0 v_n) Q) : MetG SL yX4_hours cX4_hours 4 (some .int) 4 (fun ad => [.ref (ad (0, 0, 0)), iv v_n]) (gs C0 4 0 M) (fun v g' => ∃ (x : Int) (L' : GG), v = some (iv x) ∧ Rg x ∧ g' = gs L' 4 0 M ∧ Q (x, L')) := by
  refine met_intro SL_ok (by decide +kernel) (fun ad => Nat.le_of_ble_eq_true rfl) (fun X F hQ hR => ?_)
  replace F : FX X cX4_hours RX4 4 (some .int) SL 4 := F
  show J X 0 [(0, .ref (xad X (0, 0, 0))), (1, iv v_n)] [] (gs C0 4 0 M)
  refine jr_iload_n (pc := 0) F 1 dX4_hours_0 rfl rfl ?_
  refine jr_iconst (pc := 1) F dX4_hours_1 ?_
  refine jr_bipush (pc := 2) F dX4_hours_2 (by decide) ?_
  refine jr_callS (pc := 4) (st := []) F [iv v_n, iv 1, iv 72] (snd_X4_outside (g0 := gs C0 4 0 M) rgp_n (show Rg 1 from ⟨by decide, by decide⟩) (show Rg 72 from ⟨by decide, by decide⟩) (X4_outside_ok _ _ _ )) rfl ck_4_57 rfl rfl (by decide) (Nat.le_of_ble_eq_true rfl) dX4_hours_4 rfl (fun v g' hq => ?_)
  obtain ⟨x, rfl, r1, eg, hx⟩ := hq
  subst hx
  refine J_eq eg ?_
  show J X 7 [(0, .ref (xad X (0, 0, 0))), (1, iv v_n)] [iv (X4_outside_v v_n 1 72)] (gs C0 4 0 M)
  obtain ⟨x2, e3, k⟩ := Ok_let k
  have r4 : Rg x2 := rg_of e3 r1
  refine jr_top e3 ?_
  refine jr_istore_n (pc := 7) F [(2, iv x2), (0, .ref (xad X (0, 0, 0))), (1, iv v_n)] dX4_hours_7 rfl (by decide) rfl ?_
  refine jr_iload_n (pc := 8) F 0 dX4_hours_8 rfl rfl ?_
  refine jr_if_eq (pc := 9) (tgt := 18) F r4 dX4_hours_9 (by decide) (fun h5 => ?_) (fun h5 => ?_)
  · have k := Ok_f (fun q => q h5) k
    refine jr_aload_n (pc := 18) F 1 dX4_hours_18 rfl rfl ?_
    refine jr_getR (pc := 19) (b := (1, 0, 0)) F f_4_12 m0_0 rfl dX4_hours_19 ?_
    refine jr_getI (pc := 22) F (C0 1 0 0 1) f_4_121 (mL_0 h11_0) rfl rfl dX4_hours_22 (fun r6 => ?_)
    refine jr_iload_n (pc := 25) F 2 dX4_hours_25 rfl rfl ?_
    refine jr_iadd (pc := 26) F dX4_hours_26 ?_
    refine jr_sipush (pc := 27) F dX4_hours_27 (by decide) ?_
    refine jr_icmp_le (pc := 30) (tgt := 40) F (rg_w _) (show Rg 999 from ⟨by decide, by decide⟩) dX4_hours_30 (by decide) (fun h7 => ?_) (fun h7 => ?_)
    · have k := Ok_f (ng_lt h7) k
      refine jr_aload_n (pc := 40) F 1 dX4_hours_40 rfl rfl ?_
      refine jr_getR (pc := 41) (b := (3, 0, 0)) F f_4_29 m0_0 rfl dX4_hours_41 ?_
      refine jr_aload_n (pc := 44) F 1 dX4_hours_44 rfl rfl ?_
      refine jr_getR (pc := 45) (b := (1, 0, 0)) F f_4_12 m0_0 rfl dX4_hours_45 ?_
      have k := Ok_bind k
      refine jr_callV (pc := 48) (st := []) F [.ref (xad X (1, 0, 0))] (snd_X3_keep (M := M) h11_0  k) rfl ck_4_150 rfl m3_0 rfl rfl rfl (by decide) (Nat.le_of_ble_eq_true rfl) dX4_hours_48 rfl (fun v g' hq => ?_)
      obtain ⟨z9, rfl, eg, k⟩ := hq
      refine J_eq eg ?_
      show J X 51 [(2, iv x2), (0, .ref (xad X (0, 0, 0))), (1, iv v_n)] [] (gs z9 4 0 M)
      refine jr_aload_n (pc := 51) F 1 dX4_hours_51 rfl rfl ?_
      refine jr_getR (pc := 52) (b := (1, 0, 0)) F f_4_12 m0_0 rfl dX4_hours_52 ?_
      refine jr_iconst (pc := 55) F dX4_hours_55 ?_
      have k := Ok_bind k
      refine jr_callV (pc := 56) (st := []) F [iv 1] (snd_X2_howMany h11_0 (g0 := gs z9 4 0 M) (show Rg 1 from ⟨by decide, by decide⟩) k) (gs_in z9 M 1 0 (by decide)) ck_4_183 rfl (mL_0 h11_0) rfl rfl rfl (by decide) (Nat.le_of_ble_eq_true rfl) dX4_hours_56 rfl (fun v g' hq => ?_)
      obtain ⟨z11, rfl, r10, eg, k⟩ := hq
      rw [← (gs_in z9 M 1 0 (by decide))] at eg
      refine J_eq eg ?_
      show J X 59 [(2, iv x2), (0, .ref (xad X (0, 0, 0))), (1, iv v_n)] [iv z11] (gs z9 4 0 M)
      refine jr_istore_n (pc := 59) F [(3, iv z11), (2, iv x2), (0, .ref (xad X (0, 0, 0))), (1, iv v_n)] dX4_hours_59 rfl (by decide) rfl ?_
      refine jr_aload_n (pc := 60) F 2 dX4_hours_60 rfl rfl ?_
      refine jr_getR (pc := 61) (b := (1, 0, 0)) F f_4_12 m0_0 rfl dX4_hours_61 ?_
      refine jr_iload_n (pc := 64) F 3 dX4_hours_64 rfl rfl ?_
      have k := Ok_bind k
      refine jr_callV (pc := 65) (st := []) F [iv v_n] (snd_X2_go h11_0 (g0 := gs z9 4 0 M) rgp_n k) (gs_in z9 M 1 0 (by decide)) ck_4_124 rfl (mL_0 h11_0) rfl rfl rfl (by decide) (Nat.le_of_ble_eq_true rfl) dX4_hours_65 rfl (fun v g' hq => ?_)
      obtain ⟨z13, rfl, eg, k⟩ := hq
      rw [gs_comm (by decide)] at eg
      obtain ⟨C14, e15, k⟩ := Ok_let k
      rw [← e15] at eg
      refine J_eq eg ?_
      show J X 68 [(3, iv z11), (2, iv x2), (0, .ref (xad X (0, 0, 0))), (1, iv v_n)] [] (gs C14 4 0 M)
      refine jr_aload_n (pc := 68) F 2 dX4_hours_68 rfl rfl ?_
      refine jr_getR (pc := 69) (b := (1, 0, 0)) F f_4_12 m0_0 rfl dX4_hours_69 ?_
      refine jr_iconst (pc := 72) F dX4_hours_72 ?_
      have k := Ok_bind k
      refine jr_callV (pc := 73) (st := []) F [iv 1] (snd_X2_howMany h11_0 (g0 := gs C14 4 0 M) (show Rg 1 from ⟨by decide, by decide⟩) k) (gs_in C14 M 1 0 (by decide)) ck_4_183 rfl (mL_0 h11_0) rfl rfl rfl (by decide) (Nat.le_of_ble_eq_true rfl) dX4_hours_73 rfl (fun v g' hq => ?_)
      obtain ⟨z17, rfl, r16, eg, k⟩ := hq
      rw [← (gs_in C14 M 1 0 (by decide))] at eg
      refine J_eq eg ?_
      show J X 76 [(3, iv z11), (2, iv x2), (0, .ref (xad X (0, 0, 0))), (1, iv v_n)] [iv z17] (gs C14 4 0 M)
      refine jr_iload_n (pc := 76) F 0 dX4_hours_76 rfl rfl ?_
      refine jr_isub (pc := 77) F dX4_hours_77 ?_
      exact jr_iret (pc := 78) F hQ rfl dX4_hours_78 ⟨_, _, rfl, (rg_w _), rfl, (Ok_some k)⟩
    have k := Ok_t h7 k
    refine jr_aload_n (pc := 33) F 1 dX4_hours_33 rfl rfl ?_
    refine jr_bipush (pc := 34) F dX4_hours_34 (by decide) ?_
    have k := Ok_bind k
    refine jr_callV (pc := 36) (st := []) F [iv (-6)] (snd_X4_refuse (M := M) (show Rg (-6) from ⟨by decide, by decide⟩) k) rfl ck_4_61 rfl m0_0 rfl rfl rfl (by decide) (Nat.le_of_ble_eq_true rfl) dX4_hours_36 rfl (fun v g' hq => ?_)
    obtain ⟨x, L', rfl, r18, eg, k⟩ := hq
    obtain ⟨z19, ez⟩ : ∃ z : Int × GG, z = (x, L') := ⟨_, rfl⟩
    obtain ⟨rfl, rfl⟩ : x = z19.1 ∧ L' = z19.2 := ⟨by rw [ez], by rw [ez]⟩
    clear ez
    refine J_eq eg ?_
    show J X 39 [(2, iv x2), (0, .ref (xad X (0, 0, 0))), (1, iv v_n)] [iv z19.1] (gs z19.2 4 0 M)
    exact jr_iret (pc := 39) F hQ rfl dX4_hours_39 ⟨_, _, rfl, r18, rfl, (Ok_some k)⟩
  have k := Ok_t h5 k
  refine jr_aload_n (pc := 12) F 1 dX4_hours_12 rfl rfl ?_
  refine jr_iload_n (pc := 13) F 0 dX4_hours_13 rfl rfl ?_
  have k := Ok_bind k
  refine jr_callV (pc := 14) (st := []) F [iv x2] (snd_X4_refuse (M := M) r4 k) rfl ck_4_61 rfl m0_0 rfl rfl rfl (by decide) (Nat.le_of_ble_eq_true rfl) dX4_hours_14 rfl (fun v g' hq => ?_)
  obtain ⟨x, L', rfl, r20, eg, k⟩ := hq
  obtain ⟨z21, ez⟩ : ∃ z : Int × GG, z = (x, L') := ⟨_, rfl⟩
  obtain ⟨rfl, rfl⟩ : x = z21.1 ∧ L' = z21.2 := ⟨by rw [ez], by rw [ez]⟩
  clear ez
  refine J_eq eg ?_
  show J X 17 [(2, iv x2), (0, .ref (xad X (0, 0, 0))), (1, iv v_n)] [iv z21.1] (gs z21.2 4 0 M)
  exact jr_iret (pc := 17) F hQ rfl dX4_hours_17 ⟨_, _, rfl, r20, rfl, (Ok_some k)⟩
set_option maxHeartbeats 4000000 in
set_option maxRecDepth 100000 in
theorem snd_X4_image {C0 : GG} {M : LT}  {Q : (Int × GG) → Prop} (k : Ok (X4_image C0) Q) : MetG SL yX4_image cX4_image 1 (some .int) 2 (fun ad => [.ref (ad (0, 0, 0))]) (gs C0 4 0 M) (fun v g' => ∃ (x : Int) (L' : GG), v = some (iv x) ∧ Rg x ∧ g' = gs L' 4 0 M ∧ Q (x, L')) := by
  refine met_intro SL_ok (by decide +kernel) (fun ad => Nat.le_of_ble_eq_true rfl) (fun X F hQ hR => ?_)
  replace F : FX X cX4_image RX4 1 (some .int) SL 2 := F
  show J X 0 [(0, .ref (xad X (0, 0, 0)))] [] (gs C0 4 0 M)
  refine jr_aload_n (pc := 0) F 0 dX4_image_0 rfl rfl ?_
  refine jr_getR (pc := 1) (b := (1, 2, 0)) F f_4_19 m0_0 rfl dX4_image_1 ?_
  refine jr_aload_n (pc := 4) F 0 dX4_image_4 rfl rfl ?_
  refine jr_getR (pc := 5) (b := (1, 0, 0)) F f_4_12 m0_0 rfl dX4_image_5 ?_
  have k := Ok_bind k
  refine jr_callV (pc := 8) (st := []) F [.ref (xad X (1, 0, 0))] (snd_X2_become h11_2 (g0 := gs C0 4 0 M) h11_0 (by decide) rfl  k) (gs_in C0 M 1 2 (by decide)) ck_4_79 rfl (mL_0 h11_2) rfl rfl rfl (by decide) (Nat.le_of_ble_eq_true rfl) dX4_image_8 rfl (fun v g' hq => ?_)
  obtain ⟨z2, rfl, eg, k⟩ := hq
  rw [gs_comm (by decide)] at eg
  obtain ⟨C3, e4, k⟩ := Ok_let k
  rw [← e4] at eg
  refine J_eq eg ?_
  show J X 11 [(0, .ref (xad X (0, 0, 0)))] [] (gs C3 4 0 M)
  refine jr_aload_n (pc := 11) F 0 dX4_image_11 rfl rfl ?_
  refine jr_iconst (pc := 12) F dX4_image_12 ?_
  obtain ⟨C5, e6, k⟩ := Ok_let k
  refine jr_putZ (pc := 13) F (gs C5 4 0 M) fw_4_22 m0_0 rfl (Or.inr rfl) (put2 e6 (by decide)) dX4_image_13 ?_
  refine jr_aload_n (pc := 16) F 0 dX4_image_16 rfl rfl ?_
  refine jr_getR (pc := 17) (b := (1, 0, 0)) F f_4_12 m0_0 rfl dX4_image_17 ?_
  refine jr_getI (pc := 20) F (C5 1 0 0 1) f_4_121 (mL_0 h11_0) rfl rfl dX4_image_20 (fun r7 => ?_)
  exact jr_iret (pc := 23) F hQ rfl dX4_image_23 ⟨_, _, rfl, r7, rfl, (Ok_some k)⟩
set_option maxHeartbeats 4000000 in
set_option maxRecDepth 100000 in
theorem snd_X4_judge {C0 : GG} {v_n : Int} {M : LT} (rgp_n : Rg v_n) {Q : (Int × GG) → Prop} (k : Ok (X4_judge C0 v_n) Q) : MetG SL yX4_judge cX4_judge 5 (some .int) 5 (fun ad => [.ref (ad (0, 0, 0)), iv v_n]) (gs C0 4 0 M) (fun v g' => ∃ (x : Int) (L' : GG), v = some (iv x) ∧ Rg x ∧ g' = gs L' 4 0 M ∧ Q (x, L')) := by
  refine met_intro SL_ok (by decide +kernel) (fun ad => Nat.le_of_ble_eq_true rfl) (fun X F hQ hR => ?_)
  replace F : FX X cX4_judge RX4 5 (some .int) SL 5 := F
  show J X 0 [(0, .ref (xad X (0, 0, 0))), (1, iv v_n)] [] (gs C0 4 0 M)
  refine jr_iload_n (pc := 0) F 1 dX4_judge_0 rfl rfl ?_
  refine jr_iconst (pc := 1) F dX4_judge_1 ?_
  refine jr_bipush (pc := 2) F dX4_judge_2 (by decide) ?_
  refine jr_callS (pc := 4) (st := []) F [iv v_n, iv 0, iv 72] (snd_X4_outside (g0 := gs C0 4 0 M) rgp_n (show Rg 0 from ⟨by decide, by decide⟩) (show Rg 72 from ⟨by decide, by decide⟩) (X4_outside_ok _ _ _ )) rfl ck_4_57 rfl rfl (by decide) (Nat.le_of_ble_eq_true rfl) dX4_judge_4 rfl (fun v g' hq => ?_)
  obtain ⟨x, rfl, r1, eg, hx⟩ := hq
  subst hx
  refine J_eq eg ?_
  show J X 7 [(0, .ref (xad X (0, 0, 0))), (1, iv v_n)] [iv (X4_outside_v v_n 0 72)] (gs C0 4 0 M)
  obtain ⟨x2, e3, k⟩ := Ok_let k
  have r4 : Rg x2 := rg_of e3 r1
  refine jr_top e3 ?_
  refine jr_istore_n (pc := 7) F [(2, iv x2), (0, .ref (xad X (0, 0, 0))), (1, iv v_n)] dX4_judge_7 rfl (by decide) rfl ?_
  refine jr_iload_n (pc := 8) F 0 dX4_judge_8 rfl rfl ?_
  refine jr_if_eq (pc := 9) (tgt := 18) F r4 dX4_judge_9 (by decide) (fun h5 => ?_) (fun h5 => ?_)
  · have k := Ok_f (fun q => q h5) k
    refine jr_aload_n (pc := 18) F 1 dX4_judge_18 rfl rfl ?_
    refine jr_iload_n (pc := 19) F 2 dX4_judge_19 rfl rfl ?_
    have k := Ok_bind k
    refine jr_callV (pc := 20) (st := []) F [iv v_n] (snd_X4_goInMind (M := M) rgp_n k) rfl ck_4_190 rfl m0_0 rfl rfl rfl (by decide) (Nat.le_of_ble_eq_true rfl) dX4_judge_20 rfl (fun v g' hq => ?_)
    obtain ⟨z7, rfl, eg, k⟩ := hq
    refine J_eq eg ?_
    show J X 23 [(2, iv x2), (0, .ref (xad X (0, 0, 0))), (1, iv v_n)] [] (gs z7 4 0 M)
    refine jr_bipush (pc := 23) F dX4_judge_23 (by decide) ?_
    refine jr_istore_n (pc := 25) F [(3, iv (-9)), (2, iv x2), (0, .ref (xad X (0, 0, 0))), (1, iv v_n)] dX4_judge_25 rfl (by decide) rfl ?_
    refine jr_iconst (pc := 26) F dX4_judge_26 ?_
    refine jr_istore (pc := 27) F [(4, iv 0), (3, iv (-9)), (2, iv x2), (0, .ref (xad X (0, 0, 0))), (1, iv v_n)] dX4_judge_27 (by decide) rfl ?_
    refine jr_sub F [3, 4, 2, 1, 0] [(0, .ref (xad X (0, 0, 0))), (1, iv v_n), (2, iv x2), (3, iv (-9)), (4, iv 0)] rfl ?_
    refine lpj (P := fun s : Int × Int => Rg (s.1) → Rg (s.2) → J X 29 [(0, .ref (xad X (0, 0, 0))), (1, iv v_n), (2, iv x2), (3, iv s.1), (4, iv s.2)] [] (gs z7 4 0 M)) (PE := fun r : Int × Int => Rg (r.1) → Rg (r.2) → J X 85 [(0, .ref (xad X (0, 0, 0))), (1, iv v_n), (2, iv x2), (3, iv r.1), (4, iv r.2)] [] (gs z7 4 0 M)) k (fun s8 Q9 k hC10 hE11 r13 r14 => ?_) (fun z12 k => ?_) (fun h => h (show Rg (-9) from ⟨by decide, by decide⟩) (show Rg 0 from ⟨by decide, by decide⟩))
    · refine cnd (c := (s8.2 < (z7 0 0 0 7)) ∧ (s8.1 = (-9))) (GT := J X 44 [(0, .ref (xad X (0, 0, 0))), (1, iv v_n), (2, iv x2), (3, iv s8.1), (4, iv s8.2)] [] (gs z7 4 0 M)) (GF := J X 85 [(0, .ref (xad X (0, 0, 0))), (1, iv v_n), (2, iv x2), (3, iv s8.1), (4, iv s8.2)] [] (gs z7 4 0 M)) k (fun HT HF => ?_) (fun h18 k => ?_) (fun h18 k => ?_)
      · refine jr_iload (pc := 29) F 4 dX4_judge_29 rfl ?_
        refine jr_aload_n (pc := 31) F 0 dX4_judge_31 rfl rfl ?_
        refine jr_getI (pc := 32) F (z7 0 0 0 7) f_4_44 m0_0 rfl rfl dX4_judge_32 (fun r15 => ?_)
        refine jr_icmp_ge (pc := 35) (tgt := 85) F r14 r15 dX4_judge_35 (by decide) (fun h16 => ?_) (fun h16 => ?_)
        · exact HF (fun q => (ng_lt h16) q.1)
        refine jr_iload_n (pc := 38) F 3 dX4_judge_38 rfl rfl ?_
        refine jr_bipush (pc := 39) F dX4_judge_39 (by decide) ?_
        refine jr_icmp_ne (pc := 41) (tgt := 85) F r13 (show Rg (-9) from ⟨by decide, by decide⟩) dX4_judge_41 (by decide) (fun h17 => ?_) (fun h17 => ?_)
        · exact HF (fun q => h17 q.2)
        exact HT ⟨h16, h17⟩
      · obtain ⟨c19, k⟩ := Ok_grd k
        refine cnd (c := ((z7 1 1 0 0) ≤ s8.2) ∨ (¬ (z7 1 1 8 s8.2) = (z7 0 0 7 s8.2))) (GT := J X 76 [(0, .ref (xad X (0, 0, 0))), (1, iv v_n), (2, iv x2), (3, iv s8.1), (4, iv s8.2)] [] (gs z7 4 0 M)) (GF := J X 79 [(0, .ref (xad X (0, 0, 0))), (1, iv v_n), (2, iv x2), (3, iv s8.1), (4, iv s8.2)] [] (gs z7 4 0 M)) k (fun HT HF => ?_) (fun h25 k => ?_) (fun h25 k => ?_)
        · refine jr_iload (pc := 44) F 4 dX4_judge_44 rfl ?_
          refine jr_aload_n (pc := 46) F 0 dX4_judge_46 rfl rfl ?_
          refine jr_getR (pc := 47) (b := (1, 1, 0)) F f_4_16 m0_0 rfl dX4_judge_47 ?_
          refine jr_getI (pc := 50) F (z7 1 1 0 0) f_4_156 (mL_0 h11_1) rfl rfl dX4_judge_50 (fun r20 => ?_)
          refine jr_icmp_ge (pc := 53) (tgt := 76) F r14 r20 dX4_judge_53 (by decide) (fun h21 => ?_) (fun h21 => ?_)
          · exact HT (Or.inl h21)
          refine jr_aload_n (pc := 56) F 0 dX4_judge_56 rfl rfl ?_
          refine jr_getR (pc := 57) (b := (1, 1, 0)) F f_4_16 m0_0 rfl dX4_judge_57 ?_
          refine jr_getR (pc := 60) (b := (1, 1, 8)) F f_4_136 (mL_0 h11_1) rfl dX4_judge_60 ?_
          refine jr_iload (pc := 63) F 4 dX4_judge_63 rfl ?_
          refine jr_iald (pc := 65) F (z7 1 1 8 s8.2) (mL_8 h11_1) (by decide) (c19 (ng_le h21)) rfl dX4_judge_65 (fun r22 => ?_)
          refine jr_aload_n (pc := 66) F 0 dX4_judge_66 rfl rfl ?_
          refine jr_getR (pc := 67) (b := (0, 0, 7)) F f_4_40 m0_0 rfl dX4_judge_67 ?_
          refine jr_iload (pc := 70) F 4 dX4_judge_70 rfl ?_
          refine jr_iald (pc := 72) F (z7 0 0 7 s8.2) m0_7 (by decide) (c19 (ng_le h21)) rfl dX4_judge_72 (fun r23 => ?_)
          refine jr_icmp_eq (pc := 73) (tgt := 79) F r22 r23 dX4_judge_73 (by decide) (fun h24 => ?_) (fun h24 => ?_)
          · exact HF (fun q => q.elim (ng_le h21) (fun q => q h24))
          exact HT (Or.inr h24)
        · refine jr_iload (pc := 76) F 4 dX4_judge_76 rfl ?_
          refine jr_istore_n (pc := 78) F [(3, iv s8.2), (0, .ref (xad X (0, 0, 0))), (1, iv v_n), (2, iv x2), (4, iv s8.2)] dX4_judge_78 rfl (by decide) rfl ?_
          refine jr_iinc (pc := 79) F [(4, iv (w32 (s8.2 + 1))), (3, iv s8.2), (0, .ref (xad X (0, 0, 0))), (1, iv v_n), (2, iv x2)] 4 dX4_judge_79 rfl (by decide) rfl ?_
          refine jr_goto (pc := 82) (tgt := 29) F dX4_judge_82 (by decide) ?_
          refine jr_sub F [2, 3, 4, 1, 0] [(0, .ref (xad X (0, 0, 0))), (1, iv v_n), (2, iv x2), (3, iv s8.2), (4, iv (w32 (s8.2 + 1)))] rfl ?_
          exact hC10 (s8.2, w32 (s8.2 + 1)) (Ok_some k) r14 (rg_w _)
        refine jr_iinc (pc := 79) F [(4, iv (w32 (s8.2 + 1))), (0, .ref (xad X (0, 0, 0))), (1, iv v_n), (2, iv x2), (3, iv s8.1)] 4 dX4_judge_79 rfl (by decide) rfl ?_
        refine jr_goto (pc := 82) (tgt := 29) F dX4_judge_82 (by decide) ?_
        refine jr_sub F [1, 2, 3, 4, 0] [(0, .ref (xad X (0, 0, 0))), (1, iv v_n), (2, iv x2), (3, iv s8.1), (4, iv (w32 (s8.2 + 1)))] rfl ?_
        exact hC10 (s8.1, w32 (s8.2 + 1)) (Ok_some k) r13 (rg_w _)
      exact hE11 (s8.1, s8.2) (Ok_some k) r13 r14
    intro r26 r27
    refine jr_aload_n (pc := 85) F 0 dX4_judge_85 rfl rfl ?_
    refine jr_iconst (pc := 86) F dX4_judge_86 ?_
    obtain ⟨C28, e29, k⟩ := Ok_let k
    refine jr_putI (pc := 87) F (gs C28 4 0 M) fw_4_44 m0_0 rfl (show Rg 0 from ⟨by decide, by decide⟩) (put2 e29 (by decide)) dX4_judge_87 ?_
    refine jr_iload_n (pc := 90) F 3 dX4_judge_90 rfl rfl ?_
    exact jr_iret (pc := 91) F hQ rfl dX4_judge_91 ⟨_, _, rfl, r26, rfl, (Ok_some k)⟩
  have k := Ok_t h5 k
  refine jr_aload_n (pc := 12) F 1 dX4_judge_12 rfl rfl ?_
  refine jr_iload_n (pc := 13) F 0 dX4_judge_13 rfl rfl ?_
  have k := Ok_bind k
  refine jr_callV (pc := 14) (st := []) F [iv x2] (snd_X4_refuse (M := M) r4 k) rfl ck_4_61 rfl m0_0 rfl rfl rfl (by decide) (Nat.le_of_ble_eq_true rfl) dX4_judge_14 rfl (fun v g' hq => ?_)
  obtain ⟨x, L', rfl, r30, eg, k⟩ := hq
  obtain ⟨z31, ez⟩ : ∃ z : Int × GG, z = (x, L') := ⟨_, rfl⟩
  obtain ⟨rfl, rfl⟩ : x = z31.1 ∧ L' = z31.2 := ⟨by rw [ez], by rw [ez]⟩
  clear ez
  refine J_eq eg ?_
  show J X 17 [(2, iv x2), (0, .ref (xad X (0, 0, 0))), (1, iv v_n)] [iv z31.1] (gs z31.2 4 0 M)
  exact jr_iret (pc := 17) F hQ rfl dX4_judge_17 ⟨_, _, rfl, r30, rfl, (Ok_some k)⟩
set_option maxHeartbeats 4000000 in
set_option maxRecDepth 100000 in
theorem snd_X4_key {C0 : GG} {M : LT}  {Q : (Int × GG) → Prop} (k : Ok (X4_key C0) Q) : MetG SL yX4_key cX4_key 5 (some .int) 5 (fun ad => [.ref (ad (0, 0, 0))]) (gs C0 4 0 M) (fun v g' => ∃ (x : Int) (L' : GG), v = some (iv x) ∧ Rg x ∧ g' = gs L' 4 0 M ∧ Q (x, L')) := by
  refine met_intro SL_ok (by decide +kernel) (fun ad => Nat.le_of_ble_eq_true rfl) (fun X F hQ hR => ?_)
  replace F : FX X cX4_key RX4 5 (some .int) SL 5 := F
  show J X 0 [(0, .ref (xad X (0, 0, 0)))] [] (gs C0 4 0 M)
  refine jr_aload_n (pc := 0) F 0 dX4_key_0 rfl rfl ?_
  refine jr_getR (pc := 1) (b := (1, 1, 0)) F f_4_16 m0_0 rfl dX4_key_1 ?_
  refine jr_aload_n (pc := 4) F 0 dX4_key_4 rfl rfl ?_
  refine jr_getR (pc := 5) (b := (1, 0, 0)) F f_4_12 m0_0 rfl dX4_key_5 ?_
  have k := Ok_bind k
  refine jr_callV (pc := 8) (st := []) F [.ref (xad X (1, 0, 0))] (snd_X2_become h11_1 (g0 := gs C0 4 0 M) h11_0 (by decide) rfl  k) (gs_in C0 M 1 1 (by decide)) ck_4_79 rfl (mL_0 h11_1) rfl rfl rfl (by decide) (Nat.le_of_ble_eq_true rfl) dX4_key_8 rfl (fun v g' hq => ?_)
  obtain ⟨z2, rfl, eg, k⟩ := hq
  rw [gs_comm (by decide)] at eg
  obtain ⟨C3, e4, k⟩ := Ok_let k
  rw [← e4] at eg
  refine J_eq eg ?_
  show J X 11 [(0, .ref (xad X (0, 0, 0)))] [] (gs C3 4 0 M)
  refine jr_aload_n (pc := 11) F 0 dX4_key_11 rfl rfl ?_
  have k := Ok_bind k
  refine jr_callV (pc := 12) (st := []) F [] (snd_X4_throughInMind (M := M)  k) rfl ck_4_223 rfl m0_0 rfl rfl rfl (by decide) (Nat.le_of_ble_eq_true rfl) dX4_key_12 rfl (fun v g' hq => ?_)
  obtain ⟨x, L', rfl, r5, eg, k⟩ := hq
  obtain ⟨z6, ez⟩ : ∃ z : Int × GG, z = (x, L') := ⟨_, rfl⟩
  obtain ⟨rfl, rfl⟩ : x = z6.1 ∧ L' = z6.2 := ⟨by rw [ez], by rw [ez]⟩
  clear ez
  refine J_eq eg ?_
  show J X 15 [(0, .ref (xad X (0, 0, 0)))] [iv z6.1] (gs z6.2 4 0 M)
  refine jr_istore_n (pc := 15) F [(1, iv z6.1), (0, .ref (xad X (0, 0, 0)))] dX4_key_15 rfl (by decide) rfl ?_
  refine jr_bipush (pc := 16) F dX4_key_16 (by decide) ?_
  refine jr_istore_n (pc := 18) F [(2, iv (-9)), (1, iv z6.1), (0, .ref (xad X (0, 0, 0)))] dX4_key_18 rfl (by decide) rfl ?_
  refine jr_iconst (pc := 19) F dX4_key_19 ?_
  refine jr_istore_n (pc := 20) F [(3, iv 0), (2, iv (-9)), (1, iv z6.1), (0, .ref (xad X (0, 0, 0)))] dX4_key_20 rfl (by decide) rfl ?_
  refine jr_sub F [3, 2, 1, 0] [(0, .ref (xad X (0, 0, 0))), (1, iv z6.1), (2, iv (-9)), (3, iv 0)] rfl ?_
  refine lpj (P := fun s : Int × Int × Int × GG => Rg (s.1) → Rg (s.2.1) → Rg (s.2.2.1) → J X 21 [(0, .ref (xad X (0, 0, 0))), (1, iv s.1), (2, iv s.2.1), (3, iv s.2.2.1)] [] (gs s.2.2.2 4 0 M)) (PE := fun r : Int × Int × Int × GG => Rg (r.1) → Rg (r.2.1) → Rg (r.2.2.1) → J X 86 [(0, .ref (xad X (0, 0, 0))), (1, iv r.1), (2, iv r.2.1), (3, iv r.2.2.1)] [] (gs r.2.2.2 4 0 M)) k (fun s7 Q8 k hC9 hE10 r12 r13 r14 => ?_) (fun z11 k => ?_) (fun h => h r5 (show Rg (-9) from ⟨by decide, by decide⟩) (show Rg 0 from ⟨by decide, by decide⟩))
  · refine jr_iload_n (pc := 21) F 3 dX4_key_21 rfl rfl ?_
    refine jr_aload_n (pc := 22) F 0 dX4_key_22 rfl rfl ?_
    refine jr_getR (pc := 23) (b := (1, 0, 0)) F f_4_12 m0_0 rfl dX4_key_23 ?_
    refine jr_getI (pc := 26) F (s7.2.2.2 1 0 0 0) f_4_156 (mL_0 h11_0) rfl rfl dX4_key_26 (fun r15 => ?_)
    refine jr_icmp_ge (pc := 29) (tgt := 86) F r14 r15 dX4_key_29 (by decide) (fun h16 => ?_) (fun h16 => ?_)
    · have k := Ok_f (ng_lt h16) k
      exact hE10 (s7.1, s7.2.1, s7.2.2.1, s7.2.2.2) (Ok_some k) r12 r13 r14
    have k := Ok_t h16 k
    refine jr_aload_n (pc := 32) F 0 dX4_key_32 rfl rfl ?_
    refine jr_getR (pc := 33) (b := (1, 1, 0)) F f_4_16 m0_0 rfl dX4_key_33 ?_
    refine jr_aload_n (pc := 36) F 0 dX4_key_36 rfl rfl ?_
    refine jr_getR (pc := 37) (b := (1, 0, 0)) F f_4_12 m0_0 rfl dX4_key_37 ?_
    have k := Ok_bind k
    refine jr_callV (pc := 40) (st := []) F [.ref (xad X (1, 0, 0))] (snd_X2_become h11_1 (g0 := gs s7.2.2.2 4 0 M) h11_0 (by decide) rfl  k) (gs_in s7.2.2.2 M 1 1 (by decide)) ck_4_79 rfl (mL_0 h11_1) rfl rfl rfl (by decide) (Nat.le_of_ble_eq_true rfl) dX4_key_40 rfl (fun v g' hq => ?_)
    obtain ⟨z18, rfl, eg, k⟩ := hq
    rw [gs_comm (by decide)] at eg
    obtain ⟨C19, e20, k⟩ := Ok_let k
    rw [← e20] at eg
    refine J_eq eg ?_
    show J X 43 [(0, .ref (xad X (0, 0, 0))), (1, iv s7.1), (2, iv s7.2.1), (3, iv s7.2.2.1)] [] (gs C19 4 0 M)
    refine jr_aload_n (pc := 43) F 0 dX4_key_43 rfl rfl ?_
    refine jr_getR (pc := 44) (b := (1, 1, 0)) F f_4_16 m0_0 rfl dX4_key_44 ?_
    refine jr_getR (pc := 47) (b := (1, 1, 6)) F f_4_130 (mL_0 h11_1) rfl dX4_key_47 ?_
    refine jr_iload_n (pc := 50) F 3 dX4_key_50 rfl rfl ?_
    refine jr_iconst (pc := 51) F dX4_key_51 ?_
    obtain ⟨c21, k⟩ := Ok_grd k
    obtain ⟨C22, e23, k⟩ := Ok_let k
    refine jr_iast (pc := 52) F (gs C22 4 0 M) (mL_6 h11_1) (by decide) c21 (show Rg 0 from ⟨by decide, by decide⟩) (put2 e23 (by decide)) dX4_key_52 ?_
    refine jr_aload_n (pc := 53) F 0 dX4_key_53 rfl rfl ?_
    refine jr_getR (pc := 54) (b := (1, 1, 0)) F f_4_16 m0_0 rfl dX4_key_54 ?_
    refine jr_getR (pc := 57) (b := (1, 1, 7)) F f_4_133 (mL_0 h11_1) rfl dX4_key_57 ?_
    refine jr_iload_n (pc := 60) F 3 dX4_key_60 rfl rfl ?_
    refine jr_iconst (pc := 61) F dX4_key_61 ?_
    obtain ⟨C24, e25, k⟩ := Ok_let k
    refine jr_iast (pc := 62) F (gs C24 4 0 M) (mL_7 h11_1) (by decide) c21 (show Rg 0 from ⟨by decide, by decide⟩) (put2 e25 (by decide)) dX4_key_62 ?_
    refine jr_aload_n (pc := 63) F 0 dX4_key_63 rfl rfl ?_
    have k := Ok_bind k
    refine jr_callV (pc := 64) (st := []) F [] (snd_X4_throughInMind (M := M)  k) rfl ck_4_223 rfl m0_0 rfl rfl rfl (by decide) (Nat.le_of_ble_eq_true rfl) dX4_key_64 rfl (fun v g' hq => ?_)
    obtain ⟨x, L', rfl, r26, eg, k⟩ := hq
    obtain ⟨z27, ez⟩ : ∃ z : Int × GG, z = (x, L') := ⟨_, rfl⟩
    obtain ⟨rfl, rfl⟩ : x = z27.1 ∧ L' = z27.2 := ⟨by rw [ez], by rw [ez]⟩
    clear ez
    refine J_eq eg ?_
    show J X 67 [(0, .ref (xad X (0, 0, 0))), (1, iv s7.1), (2, iv s7.2.1), (3, iv s7.2.2.1)] [iv z27.1] (gs z27.2 4 0 M)
    refine jr_istore (pc := 67) F [(4, iv z27.1), (0, .ref (xad X (0, 0, 0))), (1, iv s7.1), (2, iv s7.2.1), (3, iv s7.2.2.1)] dX4_key_67 (by decide) rfl ?_
    refine jr_iload (pc := 69) F 0 dX4_key_69 rfl ?_
    refine jr_iload_n (pc := 71) F 2 dX4_key_71 rfl rfl ?_
    refine jr_icmp_le (pc := 72) (tgt := 80) F r26 r12 dX4_key_72 (by decide) (fun h28 => ?_) (fun h28 => ?_)
    · have k := Ok_f (ng_lt h28) k
      refine jr_iinc (pc := 80) F [(3, iv (w32 (s7.2.2.1 + 1))), (4, iv z27.1), (0, .ref (xad X (0, 0, 0))), (1, iv s7.1), (2, iv s7.2.1)] 4 dX4_key_80 rfl (by decide) rfl ?_
      refine jr_goto (pc := 83) (tgt := 21) F dX4_key_83 (by decide) ?_
      refine jr_sub F [2, 3, 4, 0] [(0, .ref (xad X (0, 0, 0))), (1, iv s7.1), (2, iv s7.2.1), (3, iv (w32 (s7.2.2.1 + 1)))] rfl ?_
      exact hC9 (s7.1, s7.2.1, w32 (s7.2.2.1 + 1), z27.2) (Ok_some k) r12 r13 (rg_w _)
    have k := Ok_t h28 k
    refine jr_iload (pc := 75) F 0 dX4_key_75 rfl ?_
    refine jr_istore_n (pc := 77) F [(1, iv z27.1), (4, iv z27.1), (0, .ref (xad X (0, 0, 0))), (2, iv s7.2.1), (3, iv s7.2.2.1)] dX4_key_77 rfl (by decide) rfl ?_
    refine jr_iload_n (pc := 78) F 4 dX4_key_78 rfl rfl ?_
    refine jr_istore_n (pc := 79) F [(2, iv s7.2.2.1), (1, iv z27.1), (4, iv z27.1), (0, .ref (xad X (0, 0, 0))), (3, iv s7.2.2.1)] dX4_key_79 rfl (by decide) rfl ?_
    refine jr_iinc (pc := 80) F [(3, iv (w32 (s7.2.2.1 + 1))), (2, iv s7.2.2.1), (1, iv z27.1), (4, iv z27.1), (0, .ref (xad X (0, 0, 0)))] 4 dX4_key_80 rfl (by decide) rfl ?_
    refine jr_goto (pc := 83) (tgt := 21) F dX4_key_83 (by decide) ?_
    refine jr_sub F [4, 2, 1, 0] [(0, .ref (xad X (0, 0, 0))), (1, iv z27.1), (2, iv s7.2.2.1), (3, iv (w32 (s7.2.2.1 + 1)))] rfl ?_
    exact hC9 (z27.1, s7.2.2.1, w32 (s7.2.2.1 + 1), z27.2) (Ok_some k) r26 r14 (rg_w _)
  intro r29 r30 r31
  refine jr_iload_n (pc := 86) F 2 dX4_key_86 rfl rfl ?_
  exact jr_iret (pc := 87) F hQ rfl dX4_key_87 ⟨_, _, rfl, r30, rfl, (Ok_some k)⟩
set_option maxHeartbeats 4000000 in
set_option maxRecDepth 100000 in
theorem snd_X4_last {C0 : GG} {v_train : Int} {M : LT} (rgp_train : Rg v_train) {Q : (Int × GG) → Prop} (k : Ok (X4_last C0 v_train) Q) : MetG SL yX4_last cX4_last 4 (some .int) 5 (fun ad => [.ref (ad (0, 0, 0)), iv v_train]) (gs C0 4 0 M) (fun v g' => ∃ (x : Int) (L' : GG), v = some (iv x) ∧ Rg x ∧ g' = gs L' 4 0 M ∧ Q (x, L')) := by
  refine met_intro SL_ok (by decide +kernel) (fun ad => Nat.le_of_ble_eq_true rfl) (fun X F hQ hR => ?_)
  replace F : FX X cX4_last RX4 4 (some .int) SL 5 := F
  show J X 0 [(0, .ref (xad X (0, 0, 0))), (1, iv v_train)] [] (gs C0 4 0 M)
  refine jr_aload_n (pc := 0) F 0 dX4_last_0 rfl rfl ?_
  refine jr_iload_n (pc := 1) F 1 dX4_last_1 rfl rfl ?_
  obtain ⟨c2, k⟩ := Ok_grd k
  refine jr_callV (pc := 2) (st := []) F [iv v_train] (snd_X4_notAhead (M := M) rgp_train (X4_notAhead_ok _ _ c2)) rfl ck_4_208 rfl m0_0 rfl rfl rfl (by decide) (Nat.le_of_ble_eq_true rfl) dX4_last_2 rfl (fun v g' hq => ?_)
  obtain ⟨x, rfl, r1, eg, hx⟩ := hq
  subst hx
  refine J_eq eg ?_
  show J X 5 [(0, .ref (xad X (0, 0, 0))), (1, iv v_train)] [iv (X4_notAhead_v C0 v_train)] (gs C0 4 0 M)
  obtain ⟨x3, e4, k⟩ := Ok_let k
  have r5 : Rg x3 := rg_of e4 r1
  refine jr_top e4 ?_
  refine jr_istore_n (pc := 5) F [(2, iv x3), (0, .ref (xad X (0, 0, 0))), (1, iv v_train)] dX4_last_5 rfl (by decide) rfl ?_
  refine jr_iload_n (pc := 6) F 0 dX4_last_6 rfl rfl ?_
  refine jr_if_eq (pc := 7) (tgt := 16) F r5 dX4_last_7 (by decide) (fun h6 => ?_) (fun h6 => ?_)
  · have k := Ok_f (fun q => q h6) k
    refine jr_bipush (pc := 16) F dX4_last_16 (by decide) ?_
    refine jr_istore_n (pc := 18) F [(3, iv 48), (2, iv x3), (0, .ref (xad X (0, 0, 0))), (1, iv v_train)] dX4_last_18 rfl (by decide) rfl ?_
    refine jr_sub F [2, 3, 1, 0] [(0, .ref (xad X (0, 0, 0))), (1, iv v_train), (2, iv x3), (3, iv 48)] rfl ?_
    refine lpj (P := fun s : Int × GG => Rg (s.1) → J X 19 [(0, .ref (xad X (0, 0, 0))), (1, iv v_train), (2, iv x3), (3, iv s.1)] [] (gs s.2 4 0 M)) (PE := fun o : ((Int × GG) ⊕ (Int × GG)) => match o with | .inl r => Rg (r.1) → J X 60 [(0, .ref (xad X (0, 0, 0))), (1, iv v_train), (2, iv x3), (3, iv r.1)] [] (gs r.2 4 0 M) | .inr y => Q (y)) k (fun s7 Q8 k hC9 hE10 r12 => ?_) (fun o k => ?_) (fun h => h (show Rg 48 from ⟨by decide, by decide⟩))
    · refine jr_iload_n (pc := 19) F 3 dX4_last_19 rfl rfl ?_
      refine jr_if_lt (pc := 20) (tgt := 60) F r12 dX4_last_20 (by decide) (fun h13 => ?_) (fun h13 => ?_)
      · have k := Ok_f (ng_le h13) k
        exact hE10 (Sum.inl (s7.1, s7.2)) (Ok_some k) r12
      have k := Ok_t h13 k
      refine jr_aload_n (pc := 23) F 0 dX4_last_23 rfl rfl ?_
      refine jr_getR (pc := 24) (b := (1, 1, 0)) F f_4_16 m0_0 rfl dX4_last_24 ?_
      refine jr_aload_n (pc := 27) F 0 dX4_last_27 rfl rfl ?_
      refine jr_getR (pc := 28) (b := (1, 0, 0)) F f_4_12 m0_0 rfl dX4_last_28 ?_
      have k := Ok_bind k
      refine jr_callV (pc := 31) (st := []) F [.ref (xad X (1, 0, 0))] (snd_X2_become h11_1 (g0 := gs s7.2 4 0 M) h11_0 (by decide) rfl  k) (gs_in s7.2 M 1 1 (by decide)) ck_4_79 rfl (mL_0 h11_1) rfl rfl rfl (by decide) (Nat.le_of_ble_eq_true rfl) dX4_last_31 rfl (fun v g' hq => ?_)
      obtain ⟨z15, rfl, eg, k⟩ := hq
      rw [gs_comm (by decide)] at eg
      obtain ⟨C16, e17, k⟩ := Ok_let k
      rw [← e17] at eg
      refine J_eq eg ?_
      show J X 34 [(0, .ref (xad X (0, 0, 0))), (1, iv v_train), (2, iv x3), (3, iv s7.1)] [] (gs C16 4 0 M)
      refine jr_aload_n (pc := 34) F 0 dX4_last_34 rfl rfl ?_
      refine jr_getR (pc := 35) (b := (1, 1, 0)) F f_4_16 m0_0 rfl dX4_last_35 ?_
      refine jr_getR (pc := 38) (b := (1, 1, 13)) F f_4_177 (mL_0 h11_1) rfl dX4_last_38 ?_
      refine jr_iload_n (pc := 41) F 1 dX4_last_41 rfl rfl ?_
      refine jr_iload_n (pc := 42) F 3 dX4_last_42 rfl rfl ?_
      obtain ⟨c18, k⟩ := Ok_grd k
      obtain ⟨C19, e20, k⟩ := Ok_let k
      refine jr_iast (pc := 43) F (gs C19 4 0 M) (mL_13 h11_1) (by decide) c18 r12 (put2 e20 (by decide)) dX4_last_43 ?_
      refine jr_aload_n (pc := 44) F 0 dX4_last_44 rfl rfl ?_
      refine jr_iload_n (pc := 45) F 1 dX4_last_45 rfl rfl ?_
      have k := Ok_bind k
      refine jr_callV (pc := 46) (st := []) F [iv v_train] (snd_X4_getsThrough (M := M) rgp_train k) rfl ck_4_211 rfl m0_0 rfl rfl rfl (by decide) (Nat.le_of_ble_eq_true rfl) dX4_last_46 rfl (fun v g' hq => ?_)
      obtain ⟨x, L', rfl, r21, eg, k⟩ := hq
      obtain ⟨z22, ez⟩ : ∃ z : Int × GG, z = (x, L') := ⟨_, rfl⟩
      obtain ⟨rfl, rfl⟩ : x = z22.1 ∧ L' = z22.2 := ⟨by rw [ez], by rw [ez]⟩
      clear ez
      refine J_eq eg ?_
      show J X 49 [(0, .ref (xad X (0, 0, 0))), (1, iv v_train), (2, iv x3), (3, iv s7.1)] [iv z22.1] (gs z22.2 4 0 M)
      refine jr_if_eq (pc := 49) (tgt := 54) F (rg_z r21) dX4_last_49 (by decide) (fun h23 => ?_) (fun h23 => ?_)
      · have k := Ok_f (fun q => q h23) k
        refine jr_iinc (pc := 54) F [(3, iv (w32 (s7.1 + (-1)))), (0, .ref (xad X (0, 0, 0))), (1, iv v_train), (2, iv x3)] 3 dX4_last_54 rfl (by decide) rfl ?_
        refine jr_goto (pc := 57) (tgt := 19) F dX4_last_57 (by decide) ?_
        refine jr_sub F [1, 2, 3, 0] [(0, .ref (xad X (0, 0, 0))), (1, iv v_train), (2, iv x3), (3, iv (w32 (s7.1 + (-1))))] rfl ?_
        exact hC9 (w32 (s7.1 + (-1)), z22.2) (Ok_some k) (rg_w _)
      have k := Ok_t h23 k
      refine jr_iload_n (pc := 52) F 3 dX4_last_52 rfl rfl ?_
      exact jr_iret (pc := 53) F hQ rfl dX4_last_53 ⟨_, _, rfl, r12, rfl, (hE10 (Sum.inr _) (Ok_some k))⟩
    rcases o with z11 | y
    rotate_left
    · show Q (y)
      exact Ok_some k
    intro r24
    refine jr_bipush (pc := 60) F dX4_last_60 (by decide) ?_
    exact jr_iret (pc := 62) F hQ rfl dX4_last_62 ⟨_, _, rfl, (show Rg (-9) from ⟨by decide, by decide⟩), rfl, (Ok_some k)⟩
  have k := Ok_t h6 k
  refine jr_aload_n (pc := 10) F 1 dX4_last_10 rfl rfl ?_
  refine jr_iload_n (pc := 11) F 0 dX4_last_11 rfl rfl ?_
  have k := Ok_bind k
  refine jr_callV (pc := 12) (st := []) F [iv x3] (snd_X4_refuse (M := M) r5 k) rfl ck_4_61 rfl m0_0 rfl rfl rfl (by decide) (Nat.le_of_ble_eq_true rfl) dX4_last_12 rfl (fun v g' hq => ?_)
  obtain ⟨x, L', rfl, r25, eg, k⟩ := hq
  obtain ⟨z26, ez⟩ : ∃ z : Int × GG, z = (x, L') := ⟨_, rfl⟩
  obtain ⟨rfl, rfl⟩ : x = z26.1 ∧ L' = z26.2 := ⟨by rw [ez], by rw [ez]⟩
  clear ez
  refine J_eq eg ?_
  show J X 15 [(2, iv x3), (0, .ref (xad X (0, 0, 0))), (1, iv v_train)] [iv z26.1] (gs z26.2 4 0 M)
  exact jr_iret (pc := 15) F hQ rfl dX4_last_15 ⟨_, _, rfl, r25, rfl, (Ok_some k)⟩
set_option maxHeartbeats 4000000 in
set_option maxRecDepth 100000 in
theorem snd_X4_lasts {C0 : GG} {v_yard : Int} {v_weight : Int} {M : LT} (rgp_yard : Rg v_yard) (rgp_weight : Rg v_weight) {Q : (Int × GG) → Prop} (k : Ok (X4_lasts C0 v_yard v_weight) Q) : MetG SL yX4_lasts cX4_lasts 5 (some .int) 3 (fun ad => [.ref (ad (0, 0, 0)), iv v_yard, iv v_weight]) (gs C0 4 0 M) (fun v g' => ∃ (x : Int) (L' : GG), v = some (iv x) ∧ Rg x ∧ g' = gs L' 4 0 M ∧ Q (x, L')) := by
  refine met_intro SL_ok (by decide +kernel) (fun ad => Nat.le_of_ble_eq_true rfl) (fun X F hQ hR => ?_)
  replace F : FX X cX4_lasts RX4 5 (some .int) SL 3 := F
  show J X 0 [(0, .ref (xad X (0, 0, 0))), (1, iv v_yard), (2, iv v_weight)] [] (gs C0 4 0 M)
  refine jr_aload_n (pc := 0) F 0 dX4_lasts_0 rfl rfl ?_
  refine jr_iload_n (pc := 1) F 1 dX4_lasts_1 rfl rfl ?_
  refine jr_callV (pc := 2) (st := []) F [iv v_yard] (snd_X4_noYard (M := M) rgp_yard (X4_noYard_ok _ _ )) rfl ck_4_127 rfl m0_0 rfl rfl rfl (by decide) (Nat.le_of_ble_eq_true rfl) dX4_lasts_2 rfl (fun v g' hq => ?_)
  obtain ⟨x, rfl, r1, eg, hx⟩ := hq
  subst hx
  refine J_eq eg ?_
  show J X 5 [(0, .ref (xad X (0, 0, 0))), (1, iv v_yard), (2, iv v_weight)] [iv (X4_noYard_v C0 v_yard)] (gs C0 4 0 M)
  refine jr_if_eq (pc := 5) (tgt := 14) F (rg_z r1) dX4_lasts_5 (by decide) (fun h2 => ?_) (fun h2 => ?_)
  · have k := Ok_f (fun q => q h2) k
    refine jr_iload_n (pc := 14) F 2 dX4_lasts_14 rfl rfl ?_
    refine jr_iconst (pc := 15) F dX4_lasts_15 ?_
    refine jr_bipush (pc := 16) F dX4_lasts_16 (by decide) ?_
    refine jr_callS (pc := 18) (st := []) F [iv v_weight, iv 1, iv 60] (snd_X4_outside (g0 := gs C0 4 0 M) rgp_weight (show Rg 1 from ⟨by decide, by decide⟩) (show Rg 60 from ⟨by decide, by decide⟩) (X4_outside_ok _ _ _ )) rfl ck_4_57 rfl rfl (by decide) (Nat.le_of_ble_eq_true rfl) dX4_lasts_18 rfl (fun v g' hq => ?_)
    obtain ⟨x, rfl, r3, eg, hx⟩ := hq
    subst hx
    refine J_eq eg ?_
    show J X 21 [(0, .ref (xad X (0, 0, 0))), (1, iv v_yard), (2, iv v_weight)] [iv (X4_outside_v v_weight 1 60)] (gs C0 4 0 M)
    obtain ⟨x4, e5, k⟩ := Ok_let k
    have r6 : Rg x4 := rg_of e5 r3
    refine jr_top e5 ?_
    refine jr_istore_n (pc := 21) F [(3, iv x4), (0, .ref (xad X (0, 0, 0))), (1, iv v_yard), (2, iv v_weight)] dX4_lasts_21 rfl (by decide) rfl ?_
    refine jr_iload_n (pc := 22) F 0 dX4_lasts_22 rfl rfl ?_
    refine jr_if_eq (pc := 23) (tgt := 32) F r6 dX4_lasts_23 (by decide) (fun h7 => ?_) (fun h7 => ?_)
    · have k := Ok_f (fun q => q h7) k
      refine jr_aload_n (pc := 32) F 1 dX4_lasts_32 rfl rfl ?_
      refine jr_getR (pc := 33) (b := (1, 1, 0)) F f_4_16 m0_0 rfl dX4_lasts_33 ?_
      refine jr_aload_n (pc := 36) F 1 dX4_lasts_36 rfl rfl ?_
      refine jr_getR (pc := 37) (b := (1, 0, 0)) F f_4_12 m0_0 rfl dX4_lasts_37 ?_
      have k := Ok_bind k
      refine jr_callV (pc := 40) (st := []) F [.ref (xad X (1, 0, 0))] (snd_X2_become h11_1 (g0 := gs C0 4 0 M) h11_0 (by decide) rfl  k) (gs_in C0 M 1 1 (by decide)) ck_4_79 rfl (mL_0 h11_1) rfl rfl rfl (by decide) (Nat.le_of_ble_eq_true rfl) dX4_lasts_40 rfl (fun v g' hq => ?_)
      obtain ⟨z9, rfl, eg, k⟩ := hq
      rw [gs_comm (by decide)] at eg
      obtain ⟨C10, e11, k⟩ := Ok_let k
      rw [← e11] at eg
      refine J_eq eg ?_
      show J X 43 [(3, iv x4), (0, .ref (xad X (0, 0, 0))), (1, iv v_yard), (2, iv v_weight)] [] (gs C10 4 0 M)
      refine jr_aload_n (pc := 43) F 1 dX4_lasts_43 rfl rfl ?_
      refine jr_getR (pc := 44) (b := (1, 1, 0)) F f_4_16 m0_0 rfl dX4_lasts_44 ?_
      have k := Ok_bind k
      refine jr_callV (pc := 47) (st := []) F [] (snd_X2_feelWeather h11_1 (g0 := gs C10 4 0 M)  k) (gs_in C10 M 1 1 (by decide)) ck_4_199 rfl (mL_0 h11_1) rfl rfl rfl (by decide) (Nat.le_of_ble_eq_true rfl) dX4_lasts_47 rfl (fun v g' hq => ?_)
      obtain ⟨z13, rfl, eg, k⟩ := hq
      rw [gs_comm (by decide)] at eg
      obtain ⟨C14, e15, k⟩ := Ok_let k
      rw [← e15] at eg
      refine J_eq eg ?_
      show J X 50 [(3, iv x4), (0, .ref (xad X (0, 0, 0))), (1, iv v_yard), (2, iv v_weight)] [] (gs C14 4 0 M)
      refine jr_iconst (pc := 50) F dX4_lasts_50 ?_
      refine jr_istore (pc := 51) F [(4, iv 0), (3, iv x4), (0, .ref (xad X (0, 0, 0))), (1, iv v_yard), (2, iv v_weight)] dX4_lasts_51 (by decide) rfl ?_
      refine jr_sub F [2, 3, 4, 1, 0] [(0, .ref (xad X (0, 0, 0))), (1, iv v_yard), (2, iv v_weight), (3, iv x4), (4, iv 0)] rfl ?_
      refine lpj (P := fun s : Int × GG => Rg (s.1) → J X 53 [(0, .ref (xad X (0, 0, 0))), (1, iv v_yard), (2, iv v_weight), (3, iv x4), (4, iv s.1)] [] (gs s.2 4 0 M)) (PE := fun o : ((Int × GG) ⊕ (Int × GG)) => match o with | .inl r => Rg (r.1) → J X 88 [(0, .ref (xad X (0, 0, 0))), (1, iv v_yard), (2, iv v_weight), (3, iv x4), (4, iv r.1)] [] (gs r.2 4 0 M) | .inr y => Q (y)) k (fun s16 Q17 k hC18 hE19 r21 => ?_) (fun o k => ?_) (fun h => h (show Rg 0 from ⟨by decide, by decide⟩))
      · refine jr_iload (pc := 53) F 4 dX4_lasts_53 rfl ?_
        refine jr_bipush (pc := 55) F dX4_lasts_55 (by decide) ?_
        refine jr_icmp_gt (pc := 57) (tgt := 88) F r21 (show Rg 72 from ⟨by decide, by decide⟩) dX4_lasts_57 (by decide) (fun h22 => ?_) (fun h22 => ?_)
        · have k := Ok_f (ng_le h22) k
          exact hE19 (Sum.inl (s16.1, s16.2)) (Ok_some k) r21
        have k := Ok_t h22 k
        obtain ⟨c23, k⟩ := Ok_grd k
        refine cnd (c := (X2_bears_v (s16.2 1 1) v_yard v_weight) = 0) (GT := J X 72 [(0, .ref (xad X (0, 0, 0))), (1, iv v_yard), (2, iv v_weight), (3, iv x4), (4, iv s16.1)] [] (gs s16.2 4 0 M)) (GF := J X 75 [(0, .ref (xad X (0, 0, 0))), (1, iv v_yard), (2, iv v_weight), (3, iv x4), (4, iv s16.1)] [] (gs s16.2 4 0 M)) k (fun HT HF => ?_) (fun h26 k => ?_) (fun h26 k => ?_)
        · refine jr_aload_n (pc := 60) F 0 dX4_lasts_60 rfl rfl ?_
          refine jr_getR (pc := 61) (b := (1, 1, 0)) F f_4_16 m0_0 rfl dX4_lasts_61 ?_
          refine jr_iload_n (pc := 64) F 1 dX4_lasts_64 rfl rfl ?_
          refine jr_iload_n (pc := 65) F 2 dX4_lasts_65 rfl rfl ?_
          refine jr_callV (pc := 66) (st := []) F [iv v_yard, iv v_weight] (snd_X2_bears h11_1 (g0 := gs s16.2 4 0 M) rgp_yard rgp_weight (X2_bears_ok _ _ _ c23)) (gs_in s16.2 M 1 1 (by decide)) ck_4_196 rfl (mL_0 h11_1) rfl rfl rfl (by decide) (Nat.le_of_ble_eq_true rfl) dX4_lasts_66 rfl (fun v g' hq => ?_)
          obtain ⟨x, rfl, r24, eg, hx⟩ := hq
          subst hx
          refine J_eq eg ?_
          refine J_eq (gs_in s16.2 M 1 1 (by decide)).symm ?_
          show J X 69 [(0, .ref (xad X (0, 0, 0))), (1, iv v_yard), (2, iv v_weight), (3, iv x4), (4, iv s16.1)] [iv (X2_bears_v (s16.2 1 1) v_yard v_weight)] (gs s16.2 4 0 M)
          refine jr_if_ne (pc := 69) (tgt := 75) F (rg_z r24) dX4_lasts_69 (by decide) (fun h25 => ?_) (fun h25 => ?_)
          · exact HF h25
          exact HT h25
        · refine jr_iload (pc := 72) F 4 dX4_lasts_72 rfl ?_
          exact jr_iret (pc := 74) F hQ rfl dX4_lasts_74 ⟨_, _, rfl, r21, rfl, (hE19 (Sum.inr _) (Ok_some k))⟩
        refine jr_aload_n (pc := 75) F 0 dX4_lasts_75 rfl rfl ?_
        refine jr_getR (pc := 76) (b := (1, 1, 0)) F f_4_16 m0_0 rfl dX4_lasts_76 ?_
        have k := Ok_bind k
        refine jr_callV (pc := 79) (st := []) F [] (snd_X2_passHour h11_1 (g0 := gs s16.2 4 0 M)  k) (gs_in s16.2 M 1 1 (by decide)) ck_4_202 rfl (mL_0 h11_1) rfl rfl rfl (by decide) (Nat.le_of_ble_eq_true rfl) dX4_lasts_79 rfl (fun v g' hq => ?_)
        obtain ⟨z28, rfl, eg, k⟩ := hq
        rw [gs_comm (by decide)] at eg
        obtain ⟨C29, e30, k⟩ := Ok_let k
        rw [← e30] at eg
        refine J_eq eg ?_
        show J X 82 [(0, .ref (xad X (0, 0, 0))), (1, iv v_yard), (2, iv v_weight), (3, iv x4), (4, iv s16.1)] [] (gs C29 4 0 M)
        refine jr_iinc (pc := 82) F [(4, iv (w32 (s16.1 + 1))), (0, .ref (xad X (0, 0, 0))), (1, iv v_yard), (2, iv v_weight), (3, iv x4)] 4 dX4_lasts_82 rfl (by decide) rfl ?_
        refine jr_goto (pc := 85) (tgt := 53) F dX4_lasts_85 (by decide) ?_
        refine jr_sub F [1, 2, 3, 4, 0] [(0, .ref (xad X (0, 0, 0))), (1, iv v_yard), (2, iv v_weight), (3, iv x4), (4, iv (w32 (s16.1 + 1)))] rfl ?_
        exact hC18 (w32 (s16.1 + 1), C29) (Ok_some k) (rg_w _)
      rcases o with z20 | y
      rotate_left
      · show Q (y)
        exact Ok_some k
      intro r31
      refine jr_bipush (pc := 88) F dX4_lasts_88 (by decide) ?_
      exact jr_iret (pc := 90) F hQ rfl dX4_lasts_90 ⟨_, _, rfl, (show Rg (-9) from ⟨by decide, by decide⟩), rfl, (Ok_some k)⟩
    have k := Ok_t h7 k
    refine jr_aload_n (pc := 26) F 1 dX4_lasts_26 rfl rfl ?_
    refine jr_iload_n (pc := 27) F 0 dX4_lasts_27 rfl rfl ?_
    have k := Ok_bind k
    refine jr_callV (pc := 28) (st := []) F [iv x4] (snd_X4_refuse (M := M) r6 k) rfl ck_4_61 rfl m0_0 rfl rfl rfl (by decide) (Nat.le_of_ble_eq_true rfl) dX4_lasts_28 rfl (fun v g' hq => ?_)
    obtain ⟨x, L', rfl, r32, eg, k⟩ := hq
    obtain ⟨z33, ez⟩ : ∃ z : Int × GG, z = (x, L') := ⟨_, rfl⟩
    obtain ⟨rfl, rfl⟩ : x = z33.1 ∧ L' = z33.2 := ⟨by rw [ez], by rw [ez]⟩
    clear ez
    refine J_eq eg ?_
    show J X 31 [(3, iv x4), (0, .ref (xad X (0, 0, 0))), (1, iv v_yard), (2, iv v_weight)] [iv z33.1] (gs z33.2 4 0 M)
    exact jr_iret (pc := 31) F hQ rfl dX4_lasts_31 ⟨_, _, rfl, r32, rfl, (Ok_some k)⟩
  have k := Ok_t h2 k
  refine jr_aload_n (pc := 8) F 0 dX4_lasts_8 rfl rfl ?_
  refine jr_iconst (pc := 9) F dX4_lasts_9 ?_
  have k := Ok_bind k
  refine jr_callV (pc := 10) (st := []) F [iv (-1)] (snd_X4_refuse (M := M) (show Rg (-1) from ⟨by decide, by decide⟩) k) rfl ck_4_61 rfl m0_0 rfl rfl rfl (by decide) (Nat.le_of_ble_eq_true rfl) dX4_lasts_10 rfl (fun v g' hq => ?_)
  obtain ⟨x, L', rfl, r34, eg, k⟩ := hq
  obtain ⟨z35, ez⟩ : ∃ z : Int × GG, z = (x, L') := ⟨_, rfl⟩
  obtain ⟨rfl, rfl⟩ : x = z35.1 ∧ L' = z35.2 := ⟨by rw [ez], by rw [ez]⟩
  clear ez
  refine J_eq eg ?_
  show J X 13 [(0, .ref (xad X (0, 0, 0))), (1, iv v_yard), (2, iv v_weight)] [iv z35.1] (gs z35.2 4 0 M)
  exact jr_iret (pc := 13) F hQ rfl dX4_lasts_13 ⟨_, _, rfl, r34, rfl, (Ok_some k)⟩
set_option maxHeartbeats 4000000 in
set_option maxRecDepth 100000 in
theorem snd_X4_laterOf {C0 : GG} {v_one : Int} {v_first : Int} {v_other : Int} {v_second : Int} {M : LT} (rgp_one : Rg v_one) (rgp_first : Rg v_first) (rgp_other : Rg v_other) (rgp_second : Rg v_second) {Q : (Int × GG) → Prop} (k : Ok (X4_laterOf C0 v_one v_first v_other v_second) Q) : MetG SL yX4_laterOf cX4_laterOf 5 (some .int) 5 (fun ad => [.ref (ad (0, 0, 0)), iv v_one, iv v_first, iv v_other, iv v_second]) (gs C0 4 0 M) (fun v g' => ∃ (x : Int) (L' : GG), v = some (iv x) ∧ Rg x ∧ g' = gs L' 4 0 M ∧ Q (x, L')) := by
  refine met_intro SL_ok (by decide +kernel) (fun ad => Nat.le_of_ble_eq_true rfl) (fun X F hQ hR => ?_)
  replace F : FX X cX4_laterOf RX4 5 (some .int) SL 5 := F
  show J X 0 [(0, .ref (xad X (0, 0, 0))), (1, iv v_one), (2, iv v_first), (3, iv v_other), (4, iv v_second)] [] (gs C0 4 0 M)
  refine jr_aload_n (pc := 0) F 0 dX4_laterOf_0 rfl rfl ?_
  refine jr_getR (pc := 1) (b := (1, 1, 0)) F f_4_16 m0_0 rfl dX4_laterOf_1 ?_
  refine jr_aload_n (pc := 4) F 0 dX4_laterOf_4 rfl rfl ?_
  refine jr_getR (pc := 5) (b := (1, 0, 0)) F f_4_12 m0_0 rfl dX4_laterOf_5 ?_
  have k := Ok_bind k
  refine jr_callV (pc := 8) (st := []) F [.ref (xad X (1, 0, 0))] (snd_X2_become h11_1 (g0 := gs C0 4 0 M) h11_0 (by decide) rfl  k) (gs_in C0 M 1 1 (by decide)) ck_4_79 rfl (mL_0 h11_1) rfl rfl rfl (by decide) (Nat.le_of_ble_eq_true rfl) dX4_laterOf_8 rfl (fun v g' hq => ?_)
  obtain ⟨z2, rfl, eg, k⟩ := hq
  rw [gs_comm (by decide)] at eg
  obtain ⟨C3, e4, k⟩ := Ok_let k
  rw [← e4] at eg
  refine J_eq eg ?_
  show J X 11 [(0, .ref (xad X (0, 0, 0))), (1, iv v_one), (2, iv v_first), (3, iv v_other), (4, iv v_second)] [] (gs C3 4 0 M)
  refine jr_aload_n (pc := 11) F 0 dX4_laterOf_11 rfl rfl ?_
  refine jr_getR (pc := 12) (b := (1, 1, 0)) F f_4_16 m0_0 rfl dX4_laterOf_12 ?_
  refine jr_getR (pc := 15) (b := (1, 1, 13)) F f_4_177 (mL_0 h11_1) rfl dX4_laterOf_15 ?_
  refine jr_iload_n (pc := 18) F 1 dX4_laterOf_18 rfl rfl ?_
  refine jr_iload_n (pc := 19) F 2 dX4_laterOf_19 rfl rfl ?_
  obtain ⟨c5, k⟩ := Ok_grd k
  obtain ⟨C6, e7, k⟩ := Ok_let k
  refine jr_iast (pc := 20) F (gs C6 4 0 M) (mL_13 h11_1) (by decide) c5 rgp_first (put2 e7 (by decide)) dX4_laterOf_20 ?_
  refine jr_aload_n (pc := 21) F 0 dX4_laterOf_21 rfl rfl ?_
  refine jr_getR (pc := 22) (b := (1, 1, 0)) F f_4_16 m0_0 rfl dX4_laterOf_22 ?_
  refine jr_getR (pc := 25) (b := (1, 1, 13)) F f_4_177 (mL_0 h11_1) rfl dX4_laterOf_25 ?_
  refine jr_iload_n (pc := 28) F 3 dX4_laterOf_28 rfl rfl ?_
  refine jr_iload (pc := 29) F 4 dX4_laterOf_29 rfl ?_
  obtain ⟨c8, k⟩ := Ok_grd k
  obtain ⟨C9, e10, k⟩ := Ok_let k
  refine jr_iast (pc := 31) F (gs C9 4 0 M) (mL_13 h11_1) (by decide) c8 rgp_second (put2 e10 (by decide)) dX4_laterOf_31 ?_
  refine jr_aload_n (pc := 32) F 0 dX4_laterOf_32 rfl rfl ?_
  refine jr_iload_n (pc := 33) F 1 dX4_laterOf_33 rfl rfl ?_
  have k := Ok_bind k
  refine jr_callV (pc := 34) (st := []) F [iv v_one] (snd_X4_getsThrough (M := M) rgp_one k) rfl ck_4_211 rfl m0_0 rfl rfl rfl (by decide) (Nat.le_of_ble_eq_true rfl) dX4_laterOf_34 rfl (fun v g' hq => ?_)
  obtain ⟨x, L', rfl, r11, eg, k⟩ := hq
  obtain ⟨z12, ez⟩ : ∃ z : Int × GG, z = (x, L') := ⟨_, rfl⟩
  obtain ⟨rfl, rfl⟩ : x = z12.1 ∧ L' = z12.2 := ⟨by rw [ez], by rw [ez]⟩
  clear ez
  refine J_eq eg ?_
  show J X 37 [(0, .ref (xad X (0, 0, 0))), (1, iv v_one), (2, iv v_first), (3, iv v_other), (4, iv v_second)] [iv z12.1] (gs z12.2 4 0 M)
  refine jr_if_ne (pc := 37) (tgt := 43) F (rg_z r11) dX4_laterOf_37 (by decide) (fun h13 => ?_) (fun h13 => ?_)
  · have k := Ok_t h13 k
    refine jr_aload_n (pc := 43) F 0 dX4_laterOf_43 rfl rfl ?_
    refine jr_getR (pc := 44) (b := (1, 1, 0)) F f_4_16 m0_0 rfl dX4_laterOf_44 ?_
    refine jr_iload_n (pc := 47) F 3 dX4_laterOf_47 rfl rfl ?_
    refine jr_bipush (pc := 48) F dX4_laterOf_48 (by decide) ?_
    refine jr_aload_n (pc := 50) F 0 dX4_laterOf_50 rfl rfl ?_
    refine jr_getR (pc := 51) (b := (1, 1, 0)) F f_4_16 m0_0 rfl dX4_laterOf_51 ?_
    refine jr_getI (pc := 54) F (z12.2 1 1 0 14) f_4_267 (mL_0 h11_1) rfl rfl dX4_laterOf_54 (fun r14 => ?_)
    refine jr_isub (pc := 57) F dX4_laterOf_57 ?_
    have k := Ok_bind k
    refine jr_callV (pc := 58) (st := []) F [iv v_other, iv (w32 (72 - (z12.2 1 1 0 14)))] (snd_X2_goWhileOnItsWay h11_1 (g0 := gs z12.2 4 0 M) rgp_other (rg_w _) k) (gs_in z12.2 M 1 1 (by decide)) ck_4_270 rfl (mL_0 h11_1) rfl rfl rfl (by decide) (Nat.le_of_ble_eq_true rfl) dX4_laterOf_58 rfl (fun v g' hq => ?_)
    obtain ⟨z16, rfl, eg, k⟩ := hq
    rw [gs_comm (by decide)] at eg
    obtain ⟨C17, e18, k⟩ := Ok_let k
    rw [← e18] at eg
    refine J_eq eg ?_
    show J X 61 [(0, .ref (xad X (0, 0, 0))), (1, iv v_one), (2, iv v_first), (3, iv v_other), (4, iv v_second)] [] (gs C17 4 0 M)
    refine jr_aload_n (pc := 61) F 0 dX4_laterOf_61 rfl rfl ?_
    refine jr_getR (pc := 62) (b := (1, 1, 0)) F f_4_16 m0_0 rfl dX4_laterOf_62 ?_
    refine jr_getR (pc := 65) (b := (1, 1, 14)) F f_4_180 (mL_0 h11_1) rfl dX4_laterOf_65 ?_
    refine jr_iload_n (pc := 68) F 3 dX4_laterOf_68 rfl rfl ?_
    refine jr_iald (pc := 69) F (C17 1 1 14 v_other) (mL_14 h11_1) (by decide) c8 rfl dX4_laterOf_69 (fun r19 => ?_)
    refine jr_iconst (pc := 70) F dX4_laterOf_70 ?_
    refine jr_icmp_eq (pc := 71) (tgt := 77) F r19 (show Rg 1 from ⟨by decide, by decide⟩) dX4_laterOf_71 (by decide) (fun h20 => ?_) (fun h20 => ?_)
    · have k := Ok_f (fun q => q h20) k
      refine jr_aload_n (pc := 77) F 0 dX4_laterOf_77 rfl rfl ?_
      refine jr_getR (pc := 78) (b := (1, 1, 0)) F f_4_16 m0_0 rfl dX4_laterOf_78 ?_
      refine jr_getR (pc := 81) (b := (1, 1, 16)) F f_4_193 (mL_0 h11_1) rfl dX4_laterOf_81 ?_
      refine jr_iload_n (pc := 84) F 1 dX4_laterOf_84 rfl rfl ?_
      refine jr_iald (pc := 85) F (C17 1 1 16 v_one) (mL_16 h11_1) (by decide) c5 rfl dX4_laterOf_85 (fun r21 => ?_)
      refine jr_aload_n (pc := 86) F 0 dX4_laterOf_86 rfl rfl ?_
      refine jr_getR (pc := 87) (b := (1, 1, 0)) F f_4_16 m0_0 rfl dX4_laterOf_87 ?_
      refine jr_getR (pc := 90) (b := (1, 1, 16)) F f_4_193 (mL_0 h11_1) rfl dX4_laterOf_90 ?_
      refine jr_iload_n (pc := 93) F 3 dX4_laterOf_93 rfl rfl ?_
      refine jr_iald (pc := 94) F (C17 1 1 16 v_other) (mL_16 h11_1) (by decide) c8 rfl dX4_laterOf_94 (fun r22 => ?_)
      refine jr_mmax (pc := 95) F r21 r22 lb_4_273 (by decide) (Nat.le_of_ble_eq_true rfl) dX4_laterOf_95 ?_
      exact jr_iret (pc := 98) F hQ rfl dX4_laterOf_98 ⟨_, _, rfl, (rg_imax r21 r22), rfl, (Ok_some k)⟩
    have k := Ok_t h20 k
    refine jr_bipush (pc := 74) F dX4_laterOf_74 (by decide) ?_
    exact jr_iret (pc := 76) F hQ rfl dX4_laterOf_76 ⟨_, _, rfl, (show Rg (-9) from ⟨by decide, by decide⟩), rfl, (Ok_some k)⟩
  have k := Ok_f (fun q => q h13) k
  refine jr_bipush (pc := 40) F dX4_laterOf_40 (by decide) ?_
  exact jr_iret (pc := 42) F hQ rfl dX4_laterOf_42 ⟨_, _, rfl, (show Rg (-9) from ⟨by decide, by decide⟩), rfl, (Ok_some k)⟩
set_option maxHeartbeats 4000000 in
set_option maxRecDepth 100000 in
theorem snd_X4_marchYards {C0 : GG} {M : LT}  {Q : (Int) → Prop} (k : Ok (X4_marchYards_f C0) Q) : MetG SL yX4_marchYards cX4_marchYards 1 (some .int) 1 (fun ad => [.ref (ad (0, 0, 0))]) (gs C0 4 0 M) (fun v g' => ∃ x : Int, v = some (iv x) ∧ Rg x ∧ g' = gs C0 4 0 M ∧ Q x) := by
  refine met_intro SL_ok (by decide +kernel) (fun ad => Nat.le_of_ble_eq_true rfl) (fun X F hQ hR => ?_)
  replace F : FX X cX4_marchYards RX4 1 (some .int) SL 1 := F
  show J X 0 [(0, .ref (xad X (0, 0, 0)))] [] (gs C0 4 0 M)
  refine jr_iconst (pc := 0) F dX4_marchYards_0 ?_
  refine jr_aload_n (pc := 1) F 0 dX4_marchYards_1 rfl rfl ?_
  refine jr_getR (pc := 2) (b := (1, 0, 0)) F f_4_12 m0_0 rfl dX4_marchYards_2 ?_
  refine jr_getI (pc := 5) F (C0 1 0 0 0) f_4_156 (mL_0 h11_0) rfl rfl dX4_marchYards_5 (fun r1 => ?_)
  refine jr_mmin (pc := 8) F (show Rg 5 from ⟨by decide, by decide⟩) r1 lb_4_299 (by decide) (Nat.le_of_ble_eq_true rfl) dX4_marchYards_8 ?_
  exact jr_iret (pc := 11) F hQ rfl dX4_marchYards_11 ⟨_, rfl, (rg_imin (show Rg 5 from ⟨by decide, by decide⟩) r1), rfl, (Ok_some k)⟩
set_option maxHeartbeats 4000000 in
set_option maxRecDepth 100000 in
theorem snd_X4_leastAfter {C0 : GG} {v_poured : Int} {v_taken : Int} {M : LT} (rgp_poured : Rg v_poured) (rgp_taken : Rg v_taken) {Q : (Int) → Prop} (k : Ok (X4_leastAfter C0 v_poured v_taken) Q) : MetG SL yX4_leastAfter cX4_leastAfter 6 (some .int) 2 (fun ad => [.ref (ad (0, 0, 0)), iv v_poured, iv v_taken]) (gs C0 4 0 M) (fun v g' => ∃ x : Int, v = some (iv x) ∧ Rg x ∧ g' = gs C0 4 0 M ∧ Q x) := by
  refine met_intro SL_ok (by decide +kernel) (fun ad => Nat.le_of_ble_eq_true rfl) (fun X F hQ hR => ?_)
  replace F : FX X cX4_leastAfter RX4 6 (some .int) SL 2 := F
  show J X 0 [(0, .ref (xad X (0, 0, 0))), (1, iv v_poured), (2, iv v_taken)] [] (gs C0 4 0 M)
  refine jr_bipush (pc := 0) F dX4_leastAfter_0 (by decide) ?_
  refine jr_istore_n (pc := 2) F [(3, iv 99), (0, .ref (xad X (0, 0, 0))), (1, iv v_poured), (2, iv v_taken)] dX4_leastAfter_2 rfl (by decide) rfl ?_
  refine jr_iconst (pc := 3) F dX4_leastAfter_3 ?_
  refine jr_istore (pc := 4) F [(4, iv 0), (3, iv 99), (0, .ref (xad X (0, 0, 0))), (1, iv v_poured), (2, iv v_taken)] dX4_leastAfter_4 (by decide) rfl ?_
  refine jr_sub F [2, 3, 4, 1, 0] [(0, .ref (xad X (0, 0, 0))), (1, iv v_poured), (2, iv v_taken), (3, iv 99), (4, iv 0)] rfl ?_
  refine lpj (P := fun s : Int × Int => Rg (s.1) → Rg (s.2) → J X 6 [(0, .ref (xad X (0, 0, 0))), (1, iv v_poured), (2, iv v_taken), (3, iv s.1), (4, iv s.2)] [] (gs C0 4 0 M)) (PE := fun r : Int × Int => Rg (r.1) → Rg (r.2) → J X 85 [(0, .ref (xad X (0, 0, 0))), (1, iv v_poured), (2, iv v_taken), (3, iv r.1), (4, iv r.2)] [] (gs C0 4 0 M)) k (fun s1 Q2 k hC3 hE4 r6 r7 => ?_) (fun z5 k => ?_) (fun h => h (show Rg 99 from ⟨by decide, by decide⟩) (show Rg 0 from ⟨by decide, by decide⟩))
  · refine jr_iload (pc := 6) F 4 dX4_leastAfter_6 rfl ?_
    refine jr_aload_n (pc := 8) F 0 dX4_leastAfter_8 rfl rfl ?_
    refine jr_callV (pc := 9) (st := [iv s1.2]) F [] (snd_X4_marchYards (M := M)  (X4_marchYards_ok _ )) rfl ck_4_296 rfl m0_0 rfl rfl rfl (by decide) (Nat.le_of_ble_eq_true rfl) dX4_leastAfter_9 rfl (fun v g' hq => ?_)
    obtain ⟨x, rfl, r8, eg, hx⟩ := hq
    subst hx
    refine J_eq eg ?_
    show J X 12 [(0, .ref (xad X (0, 0, 0))), (1, iv v_poured), (2, iv v_taken), (3, iv s1.1), (4, iv s1.2)] [iv (X4_marchYards_v C0), iv s1.2] (gs C0 4 0 M)
    refine jr_icmp_ge (pc := 12) (tgt := 85) F r7 r8 dX4_leastAfter_12 (by decide) (fun h9 => ?_) (fun h9 => ?_)
    · have k := Ok_f (ng_lt h9) k
      exact hE4 (s1.1, s1.2) (Ok_some k) r6 r7
    have k := Ok_t h9 k
    refine jr_aload_n (pc := 15) F 0 dX4_leastAfter_15 rfl rfl ?_
    refine jr_getR (pc := 16) (b := (1, 0, 0)) F f_4_12 m0_0 rfl dX4_leastAfter_16 ?_
    refine jr_getR (pc := 19) (b := (1, 0, 8)) F f_4_136 (mL_0 h11_0) rfl dX4_leastAfter_19 ?_
    refine jr_iload (pc := 22) F 4 dX4_leastAfter_22 rfl ?_
    obtain ⟨c10, k⟩ := Ok_grd k
    refine jr_iald (pc := 24) F (C0 1 0 8 s1.2) (mL_8 h11_0) (by decide) c10 rfl dX4_leastAfter_24 (fun r11 => ?_)
    obtain ⟨x12, e13, k⟩ := Ok_let k
    have r14 : Rg x12 := rg_of e13 r11
    refine jr_top e13 ?_
    refine jr_istore (pc := 25) F [(5, iv x12), (0, .ref (xad X (0, 0, 0))), (1, iv v_poured), (2, iv v_taken), (3, iv s1.1), (4, iv s1.2)] dX4_leastAfter_25 (by decide) rfl ?_
    refine jn (P := fun v : Int => Rg (v) → J X 50 [(0, .ref (xad X (0, 0, 0))), (1, iv v_poured), (2, iv v_taken), (3, iv s1.1), (4, iv s1.2), (5, iv v)] [] (gs C0 4 0 M)) k (fun Q16 k hJ17 => ?_) (fun z15 k r25 => ?_)
    · refine cnd (c := (s1.2 = v_poured) ∧ (¬ v_poured = v_taken)) (GT := J X 38 [(5, iv x12), (0, .ref (xad X (0, 0, 0))), (1, iv v_poured), (2, iv v_taken), (3, iv s1.1), (4, iv s1.2)] [] (gs C0 4 0 M)) (GF := J X 50 [(5, iv x12), (0, .ref (xad X (0, 0, 0))), (1, iv v_poured), (2, iv v_taken), (3, iv s1.1), (4, iv s1.2)] [] (gs C0 4 0 M)) k (fun HT HF => ?_) (fun h21 k => ?_) (fun h21 k => ?_)
      · refine jr_iload (pc := 27) F 5 dX4_leastAfter_27 rfl ?_
        refine jr_iload_n (pc := 29) F 2 dX4_leastAfter_29 rfl rfl ?_
        refine jr_icmp_ne (pc := 30) (tgt := 50) F r7 rgp_poured dX4_leastAfter_30 (by decide) (fun h19 => ?_) (fun h19 => ?_)
        · exact HF (fun q => h19 q.1)
        refine jr_iload_n (pc := 33) F 2 dX4_leastAfter_33 rfl rfl ?_
        refine jr_iload_n (pc := 34) F 3 dX4_leastAfter_34 rfl rfl ?_
        refine jr_icmp_eq (pc := 35) (tgt := 50) F rgp_poured rgp_taken dX4_leastAfter_35 (by decide) (fun h20 => ?_) (fun h20 => ?_)
        · exact HF (fun q => (fun q => q h20) q.2)
        exact HT ⟨h19, h20⟩
      · refine jr_bipush (pc := 38) F dX4_leastAfter_38 (by decide) ?_
        refine jr_iload (pc := 40) F 0 dX4_leastAfter_40 rfl ?_
        refine jr_bipush (pc := 42) F dX4_leastAfter_42 (by decide) ?_
        refine jr_iadd (pc := 44) F dX4_leastAfter_44 ?_
        refine jr_mmin (pc := 45) F (show Rg 99 from ⟨by decide, by decide⟩) (rg_w _) lb_4_299 (by decide) (Nat.le_of_ble_eq_true rfl) dX4_leastAfter_45 ?_
        obtain ⟨x22, e23, k⟩ := Ok_let k
        have r24 : Rg x22 := rg_of e23 (rg_imin (show Rg 99 from ⟨by decide, by decide⟩) (rg_w _))
        refine jr_top e23 ?_
        refine jr_istore (pc := 48) F [(5, iv x22), (0, .ref (xad X (0, 0, 0))), (1, iv v_poured), (2, iv v_taken), (3, iv s1.1), (4, iv s1.2)] dX4_leastAfter_48 (by decide) rfl ?_
        refine jr_sub F [1, 2, 3, 4, 5, 0] [(0, .ref (xad X (0, 0, 0))), (1, iv v_poured), (2, iv v_taken), (3, iv s1.1), (4, iv s1.2), (5, iv x22)] rfl ?_
        exact hJ17 x22 (Ok_some k) r24
      refine jr_sub F [1, 2, 3, 4, 5, 0] [(0, .ref (xad X (0, 0, 0))), (1, iv v_poured), (2, iv v_taken), (3, iv s1.1), (4, iv s1.2), (5, iv x12)] rfl ?_
      exact hJ17 x12 (Ok_some k) r14
    refine jn (P := fun v : Int => Rg (v) → J X 72 [(0, .ref (xad X (0, 0, 0))), (1, iv v_poured), (2, iv v_taken), (3, iv s1.1), (4, iv s1.2), (5, iv v)] [] (gs C0 4 0 M)) k (fun Q27 k hJ28 => ?_) (fun z26 k r36 => ?_)
    · refine cnd (c := (s1.2 = v_taken) ∧ (¬ v_poured = v_taken)) (GT := J X 61 [(0, .ref (xad X (0, 0, 0))), (1, iv v_poured), (2, iv v_taken), (3, iv s1.1), (4, iv s1.2), (5, iv z15)] [] (gs C0 4 0 M)) (GF := J X 72 [(0, .ref (xad X (0, 0, 0))), (1, iv v_poured), (2, iv v_taken), (3, iv s1.1), (4, iv s1.2), (5, iv z15)] [] (gs C0 4 0 M)) k (fun HT HF => ?_) (fun h32 k => ?_) (fun h32 k => ?_)
      · refine jr_iload (pc := 50) F 4 dX4_leastAfter_50 rfl ?_
        refine jr_iload_n (pc := 52) F 2 dX4_leastAfter_52 rfl rfl ?_
        refine jr_icmp_ne (pc := 53) (tgt := 72) F r7 rgp_taken dX4_leastAfter_53 (by decide) (fun h30 => ?_) (fun h30 => ?_)
        · exact HF (fun q => h30 q.1)
        refine jr_iload_n (pc := 56) F 1 dX4_leastAfter_56 rfl rfl ?_
        refine jr_iload_n (pc := 57) F 2 dX4_leastAfter_57 rfl rfl ?_
        refine jr_icmp_eq (pc := 58) (tgt := 72) F rgp_poured rgp_taken dX4_leastAfter_58 (by decide) (fun h31 => ?_) (fun h31 => ?_)
        · exact HF (fun q => (fun q => q h31) q.2)
        exact HT ⟨h30, h31⟩
      · refine jr_iconst (pc := 61) F dX4_leastAfter_61 ?_
        refine jr_iload (pc := 62) F 5 dX4_leastAfter_62 rfl ?_
        refine jr_bipush (pc := 64) F dX4_leastAfter_64 (by decide) ?_
        refine jr_isub (pc := 66) F dX4_leastAfter_66 ?_
        refine jr_mmax (pc := 67) F (show Rg 0 from ⟨by decide, by decide⟩) (rg_w _) lb_4_273 (by decide) (Nat.le_of_ble_eq_true rfl) dX4_leastAfter_67 ?_
        obtain ⟨x33, e34, k⟩ := Ok_let k
        have r35 : Rg x33 := rg_of e34 (rg_imax (show Rg 0 from ⟨by decide, by decide⟩) (rg_w _))
        refine jr_top e34 ?_
        refine jr_istore (pc := 70) F [(5, iv x33), (0, .ref (xad X (0, 0, 0))), (1, iv v_poured), (2, iv v_taken), (3, iv s1.1), (4, iv s1.2)] dX4_leastAfter_70 (by decide) rfl ?_
        refine jr_sub F [1, 2, 3, 4, 5, 0] [(0, .ref (xad X (0, 0, 0))), (1, iv v_poured), (2, iv v_taken), (3, iv s1.1), (4, iv s1.2), (5, iv x33)] rfl ?_
        exact hJ28 x33 (Ok_some k) r35
      exact hJ28 z15 (Ok_some k) r25
    refine jr_iload_n (pc := 72) F 3 dX4_leastAfter_72 rfl rfl ?_
    refine jr_iload (pc := 73) F 5 dX4_leastAfter_73 rfl ?_
    refine jr_mmin (pc := 75) F r6 r36 lb_4_299 (by decide) (Nat.le_of_ble_eq_true rfl) dX4_leastAfter_75 ?_
    obtain ⟨x37, e38, k⟩ := Ok_let k
    have r39 : Rg x37 := rg_of e38 (rg_imin r6 r36)
    refine jr_top e38 ?_
    refine jr_istore_n (pc := 78) F [(3, iv x37), (0, .ref (xad X (0, 0, 0))), (1, iv v_poured), (2, iv v_taken), (4, iv s1.2), (5, iv z26)] dX4_leastAfter_78 rfl (by decide) rfl ?_
    refine jr_iinc (pc := 79) F [(4, iv (w32 (s1.2 + 1))), (3, iv x37), (0, .ref (xad X (0, 0, 0))), (1, iv v_poured), (2, iv v_taken), (5, iv z26)] 4 dX4_leastAfter_79 rfl (by decide) rfl ?_
    refine jr_goto (pc := 82) (tgt := 6) F dX4_leastAfter_82 (by decide) ?_
    refine jr_sub F [2, 3, 4, 1, 0] [(0, .ref (xad X (0, 0, 0))), (1, iv v_poured), (2, iv v_taken), (3, iv x37), (4, iv (w32 (s1.2 + 1)))] rfl ?_
    exact hC3 (x37, w32 (s1.2 + 1)) (Ok_some k) r39 (rg_w _)
  intro r40 r41
  refine jr_iload_n (pc := 85) F 3 dX4_leastAfter_85 rfl rfl ?_
  exact jr_iret (pc := 86) F hQ rfl dX4_leastAfter_86 ⟨_, rfl, r40, rfl, (Ok_some k)⟩
set_option maxHeartbeats 4000000 in
set_option maxRecDepth 100000 in
theorem snd_X4_lies {C0 : GG} {M : LT}  {Q : (Int) → Prop} (k : Ok (X4_lies C0) Q) : MetG SL yX4_lies cX4_lies 3 (some .int) 0 (fun ad => [.ref (ad (0, 0, 0))]) (gs C0 4 0 M) (fun v g' => ∃ x : Int, v = some (iv x) ∧ Rg x ∧ g' = gs C0 4 0 M ∧ Q x) := by
  refine met_intro SL_ok (by decide +kernel) (fun ad => Nat.le_of_ble_eq_true rfl) (fun X F hQ hR => ?_)
  replace F : FX X cX4_lies RX4 3 (some .int) SL 0 := F
  show J X 0 [(0, .ref (xad X (0, 0, 0)))] [] (gs C0 4 0 M)
  refine jr_bipush (pc := 0) F dX4_lies_0 (by decide) ?_
  refine jr_istore_n (pc := 2) F [(1, iv 99), (0, .ref (xad X (0, 0, 0)))] dX4_lies_2 rfl (by decide) rfl ?_
  refine jr_iconst (pc := 3) F dX4_lies_3 ?_
  refine jr_istore_n (pc := 4) F [(2, iv 0), (1, iv 99), (0, .ref (xad X (0, 0, 0)))] dX4_lies_4 rfl (by decide) rfl ?_
  refine jr_sub F [2, 1, 0] [(0, .ref (xad X (0, 0, 0))), (1, iv 99), (2, iv 0)] rfl ?_
  refine lpj (P := fun s : Int × Int => Rg (s.1) → Rg (s.2) → J X 5 [(0, .ref (xad X (0, 0, 0))), (1, iv s.1), (2, iv s.2)] [] (gs C0 4 0 M)) (PE := fun o : ((Int × Int) ⊕ (Int)) => match o with | .inl r => Rg (r.1) → Rg (r.2) → J X 58 [(0, .ref (xad X (0, 0, 0))), (1, iv r.1), (2, iv r.2)] [] (gs C0 4 0 M) | .inr y => Q (y)) k (fun s1 Q2 k hC3 hE4 r6 r7 => ?_) (fun o k => ?_) (fun h => h (show Rg 99 from ⟨by decide, by decide⟩) (show Rg 0 from ⟨by decide, by decide⟩))
  · refine jr_iload_n (pc := 5) F 2 dX4_lies_5 rfl rfl ?_
    refine jr_aload_n (pc := 6) F 0 dX4_lies_6 rfl rfl ?_
    refine jr_getI (pc := 7) F (C0 0 0 0 7) f_4_44 m0_0 rfl rfl dX4_lies_7 (fun r8 => ?_)
    refine jr_icmp_ge (pc := 10) (tgt := 58) F r7 r8 dX4_lies_10 (by decide) (fun h9 => ?_) (fun h9 => ?_)
    · have k := Ok_f (ng_lt h9) k
      exact hE4 (Sum.inl (s1.1, s1.2)) (Ok_some k) r6 r7
    have k := Ok_t h9 k
    refine jr_iload_n (pc := 13) F 1 dX4_lies_13 rfl rfl ?_
    refine jr_bipush (pc := 14) F dX4_lies_14 (by decide) ?_
    refine jr_icmp_ne (pc := 16) (tgt := 29) F r6 (show Rg 99 from ⟨by decide, by decide⟩) dX4_lies_16 (by decide) (fun h10 => ?_) (fun h10 => ?_)
    · have k := Ok_f h10 k
      obtain ⟨c11, k⟩ := Ok_grd k
      refine cnd (c := (¬ (C0 0 0 7 s1.2) = 99) ∧ (¬ (C0 0 0 7 s1.2) = s1.1)) (GT := J X 50 [(0, .ref (xad X (0, 0, 0))), (1, iv s1.1), (2, iv s1.2)] [] (gs C0 4 0 M)) (GF := J X 52 [(0, .ref (xad X (0, 0, 0))), (1, iv s1.1), (2, iv s1.2)] [] (gs C0 4 0 M)) k (fun HT HF => ?_) (fun h16 k => ?_) (fun h16 k => ?_)
      · refine jr_aload_n (pc := 29) F 0 dX4_lies_29 rfl rfl ?_
        refine jr_getR (pc := 30) (b := (0, 0, 7)) F f_4_40 m0_0 rfl dX4_lies_30 ?_
        refine jr_iload_n (pc := 33) F 2 dX4_lies_33 rfl rfl ?_
        refine jr_iald (pc := 34) F (C0 0 0 7 s1.2) m0_7 (by decide) c11 rfl dX4_lies_34 (fun r12 => ?_)
        refine jr_bipush (pc := 35) F dX4_lies_35 (by decide) ?_
        refine jr_icmp_eq (pc := 37) (tgt := 52) F r12 (show Rg 99 from ⟨by decide, by decide⟩) dX4_lies_37 (by decide) (fun h13 => ?_) (fun h13 => ?_)
        · exact HF (fun q => (fun q => q h13) q.1)
        refine jr_aload_n (pc := 40) F 0 dX4_lies_40 rfl rfl ?_
        refine jr_getR (pc := 41) (b := (0, 0, 7)) F f_4_40 m0_0 rfl dX4_lies_41 ?_
        refine jr_iload_n (pc := 44) F 2 dX4_lies_44 rfl rfl ?_
        refine jr_iald (pc := 45) F (C0 0 0 7 s1.2) m0_7 (by decide) c11 rfl dX4_lies_45 (fun r14 => ?_)
        refine jr_iload_n (pc := 46) F 1 dX4_lies_46 rfl rfl ?_
        refine jr_icmp_eq (pc := 47) (tgt := 52) F r14 r6 dX4_lies_47 (by decide) (fun h15 => ?_) (fun h15 => ?_)
        · exact HF (fun q => (fun q => q h15) q.2)
        exact HT ⟨h13, h15⟩
      · refine jr_iload_n (pc := 50) F 2 dX4_lies_50 rfl rfl ?_
        exact jr_iret (pc := 51) F hQ rfl dX4_lies_51 ⟨_, rfl, r7, rfl, (hE4 (Sum.inr _) (Ok_some k))⟩
      refine jr_iinc (pc := 52) F [(2, iv (w32 (s1.2 + 1))), (0, .ref (xad X (0, 0, 0))), (1, iv s1.1)] 2 dX4_lies_52 rfl (by decide) rfl ?_
      refine jr_goto (pc := 55) (tgt := 5) F dX4_lies_55 (by decide) ?_
      refine jr_sub F [1, 2, 0] [(0, .ref (xad X (0, 0, 0))), (1, iv s1.1), (2, iv (w32 (s1.2 + 1)))] rfl ?_
      exact hC3 (s1.1, w32 (s1.2 + 1)) (Ok_some k) r6 (rg_w _)
    have k := Ok_t h10 k
    refine jr_aload_n (pc := 19) F 0 dX4_lies_19 rfl rfl ?_
    refine jr_getR (pc := 20) (b := (0, 0, 7)) F f_4_40 m0_0 rfl dX4_lies_20 ?_
    refine jr_iload_n (pc := 23) F 2 dX4_lies_23 rfl rfl ?_
    obtain ⟨c17, k⟩ := Ok_grd k
    refine jr_iald (pc := 24) F (C0 0 0 7 s1.2) m0_7 (by decide) c17 rfl dX4_lies_24 (fun r18 => ?_)
    obtain ⟨x19, e20, k⟩ := Ok_let k
    have r21 : Rg x19 := rg_of e20 r18
    refine jr_top e20 ?_
    refine jr_istore_n (pc := 25) F [(1, iv x19), (0, .ref (xad X (0, 0, 0))), (2, iv s1.2)] dX4_lies_25 rfl (by decide) rfl ?_
    refine jr_goto (pc := 26) (tgt := 52) F dX4_lies_26 (by decide) ?_
    refine jr_iinc (pc := 52) F [(2, iv (w32 (s1.2 + 1))), (1, iv x19), (0, .ref (xad X (0, 0, 0)))] 2 dX4_lies_52 rfl (by decide) rfl ?_
    refine jr_goto (pc := 55) (tgt := 5) F dX4_lies_55 (by decide) ?_
    refine jr_sub F [2, 1, 0] [(0, .ref (xad X (0, 0, 0))), (1, iv x19), (2, iv (w32 (s1.2 + 1)))] rfl ?_
    exact hC3 (x19, w32 (s1.2 + 1)) (Ok_some k) r21 (rg_w _)
  rcases o with z5 | y
  rotate_left
  · show Q (y)
    exact Ok_some k
  intro r22 r23
  refine jr_bipush (pc := 58) F dX4_lies_58 (by decide) ?_
  exact jr_iret (pc := 60) F hQ rfl dX4_lies_60 ⟨_, rfl, (show Rg (-9) from ⟨by decide, by decide⟩), rfl, (Ok_some k)⟩
set_option maxHeartbeats 4000000 in
set_option maxRecDepth 100000 in
theorem snd_X4_tellStatement {C0 : GG} {v_place : Int} {M : LT} (rgp_place : Rg v_place) {Q : (Int × GG) → Prop} (k : Ok (X4_tellStatement C0 v_place) Q) : MetG SL yX4_tellStatement cX4_tellStatement 3 (some .boolean) 4 (fun ad => [.ref (ad (0, 0, 0)), iv v_place]) (gs C0 4 0 M) (fun v g' => ∃ (x : Int) (L' : GG), v = some (iv x) ∧ Bz x ∧ g' = gs L' 4 0 M ∧ Q (x, L')) := by
  refine met_intro SL_ok (by decide +kernel) (fun ad => Nat.le_of_ble_eq_true rfl) (fun X F hQ hR => ?_)
  replace F : FX X cX4_tellStatement RX4 3 (some .boolean) SL 4 := F
  show J X 0 [(0, .ref (xad X (0, 0, 0))), (1, iv v_place)] [] (gs C0 4 0 M)
  refine jr_aload_n (pc := 0) F 0 dX4_tellStatement_0 rfl rfl ?_
  refine jr_getR (pc := 1) (b := (2, 0, 0)) F f_4_36 m0_0 rfl dX4_tellStatement_1 ?_
  refine jr_iload_n (pc := 4) F 1 dX4_tellStatement_4 rfl rfl ?_
  refine jr_iconst (pc := 5) F dX4_tellStatement_5 ?_
  refine jr_iadd (pc := 6) F dX4_tellStatement_6 ?_
  refine jr_iconst (pc := 7) F dX4_tellStatement_7 ?_
  have k := Ok_bind k
  refine jr_callV (pc := 8) (st := []) F [iv (w32 (v_place + 1)), iv 2] (snd_X1_number (g0 := gs C0 4 0 M) (rg_w _) (show Rg 2 from ⟨by decide, by decide⟩) k) (gs_in C0 M 2 0 (by decide)) ck_4_93 rfl m2_0 rfl rfl rfl (by decide) (Nat.le_of_ble_eq_true rfl) dX4_tellStatement_8 rfl (fun v g' hq => ?_)
  obtain ⟨z2, rfl, r1, eg, k⟩ := hq
  rw [← (gs_in C0 M 2 0 (by decide))] at eg
  refine J_eq eg ?_
  show J X 11 [(0, .ref (xad X (0, 0, 0))), (1, iv v_place)] [iv z2] (gs C0 4 0 M)
  refine jr_istore_n (pc := 11) F [(2, iv z2), (0, .ref (xad X (0, 0, 0))), (1, iv v_place)] dX4_tellStatement_11 rfl (by decide) rfl ?_
  refine jr_aload_n (pc := 12) F 1 dX4_tellStatement_12 rfl rfl ?_
  refine jr_getR (pc := 13) (b := (2, 0, 0)) F f_4_36 m0_0 rfl dX4_tellStatement_13 ?_
  refine jr_iload_n (pc := 16) F 2 dX4_tellStatement_16 rfl rfl ?_
  obtain ⟨c4, k⟩ := Ok_grd k
  refine jr_callV (pc := 17) (st := []) F [iv v_place] (snd_X1_letterAt (g0 := gs C0 4 0 M) rgp_place (X1_letterAt_ok _ _ c4)) (gs_in C0 M 2 0 (by decide)) ck_4_97 rfl m2_0 rfl rfl rfl (by decide) (Nat.le_of_ble_eq_true rfl) dX4_tellStatement_17 rfl (fun v g' hq => ?_)
  obtain ⟨x, rfl, r3, eg, hx⟩ := hq
  subst hx
  refine J_eq eg ?_
  refine J_eq (gs_in C0 M 2 0 (by decide)).symm ?_
  show J X 20 [(2, iv z2), (0, .ref (xad X (0, 0, 0))), (1, iv v_place)] [iv (X1_letterAt_v (C0 2 0) v_place)] (gs C0 4 0 M)
  obtain ⟨x5, e6, k⟩ := Ok_let k
  have r7 : Rg x5 := rg_of e6 r3
  refine jr_top e6 ?_
  by_cases h8 : x5 = 110
  · have k := Ok_t h8 k
    refine jr_lsw (pc := 20) (tgt := 80) (off := 60) F r7 (by decide) (by rw [h8]; decide) (by decide) dX4_tellStatement_20 ?_
    refine jr_aload_n (pc := 80) F 1 dX4_tellStatement_80 rfl rfl ?_
    refine jr_getR (pc := 81) (b := (1, 1, 0)) F f_4_16 m0_0 rfl dX4_tellStatement_81 ?_
    refine jr_iload_n (pc := 84) F 0 dX4_tellStatement_84 rfl rfl ?_
    have k := Ok_bind k
    refine jr_callV (pc := 85) (st := []) F [iv z2] (snd_X2_becomeMany h11_1 (g0 := gs C0 4 0 M) r1 k) (gs_in C0 M 1 1 (by decide)) ck_4_100 rfl (mL_0 h11_1) rfl rfl rfl (by decide) (Nat.le_of_ble_eq_true rfl) dX4_tellStatement_85 rfl (fun v g' hq => ?_)
    obtain ⟨x, L', rfl, r9, eg, k⟩ := hq
    obtain ⟨z10, ez⟩ : ∃ z : Int × LT, z = (x, L') := ⟨_, rfl⟩
    obtain ⟨rfl, rfl⟩ : x = z10.1 ∧ L' = z10.2 := ⟨by rw [ez], by rw [ez]⟩
    clear ez
    rw [gs_comm (by decide)] at eg
    obtain ⟨C11, e12, k⟩ := Ok_let k
    rw [← e12] at eg
    refine J_eq eg ?_
    show J X 88 [(2, iv z2), (0, .ref (xad X (0, 0, 0))), (1, iv v_place)] [iv z10.1] (gs C11 4 0 M)
    exact jr_zret (pc := 88) F hQ rfl r9 dX4_tellStatement_88 ⟨_, _, rfl, r9, rfl, (Ok_some k)⟩
  have k := Ok_f h8 k
  by_cases h13 : x5 = 121
  · have k := Ok_t h13 k
    refine jr_lsw (pc := 20) (tgt := 89) (off := 69) F r7 (by decide) (by rw [h13]; decide) (by decide) dX4_tellStatement_20 ?_
    refine jr_aload_n (pc := 89) F 1 dX4_tellStatement_89 rfl rfl ?_
    refine jr_getR (pc := 90) (b := (1, 1, 0)) F f_4_16 m0_0 rfl dX4_tellStatement_90 ?_
    refine jr_iload_n (pc := 93) F 0 dX4_tellStatement_93 rfl rfl ?_
    refine jr_aload_n (pc := 94) F 1 dX4_tellStatement_94 rfl rfl ?_
    refine jr_getR (pc := 95) (b := (2, 0, 0)) F f_4_36 m0_0 rfl dX4_tellStatement_95 ?_
    refine jr_iload_n (pc := 98) F 2 dX4_tellStatement_98 rfl rfl ?_
    refine jr_iconst (pc := 99) F dX4_tellStatement_99 ?_
    refine jr_iadd (pc := 100) F dX4_tellStatement_100 ?_
    refine jr_iconst (pc := 101) F dX4_tellStatement_101 ?_
    have k := Ok_bind k
    refine jr_callV (pc := 102) (st := [iv z2, .ref (xad X (1, 1, 0))]) F [iv (w32 (v_place + 3)), iv 1] (snd_X1_number (g0 := gs C0 4 0 M) (rg_w _) (show Rg 1 from ⟨by decide, by decide⟩) k) (gs_in C0 M 2 0 (by decide)) ck_4_93 rfl m2_0 rfl rfl rfl (by decide) (Nat.le_of_ble_eq_true rfl) dX4_tellStatement_102 rfl (fun v g' hq => ?_)
    obtain ⟨z15, rfl, r14, eg, k⟩ := hq
    rw [← (gs_in C0 M 2 0 (by decide))] at eg
    refine J_eq eg ?_
    show J X 105 [(2, iv z2), (0, .ref (xad X (0, 0, 0))), (1, iv v_place)] [iv z15, iv z2, .ref (xad X (1, 1, 0))] (gs C0 4 0 M)
    refine jr_aload_n (pc := 105) F 1 dX4_tellStatement_105 rfl rfl ?_
    refine jr_getR (pc := 106) (b := (2, 0, 0)) F f_4_36 m0_0 rfl dX4_tellStatement_106 ?_
    refine jr_iload_n (pc := 109) F 2 dX4_tellStatement_109 rfl rfl ?_
    refine jr_iconst (pc := 110) F dX4_tellStatement_110 ?_
    refine jr_iadd (pc := 111) F dX4_tellStatement_111 ?_
    refine jr_iconst (pc := 112) F dX4_tellStatement_112 ?_
    have k := Ok_bind k
    refine jr_callV (pc := 113) (st := [iv z15, iv z2, .ref (xad X (1, 1, 0))]) F [iv (w32 (v_place + 4)), iv 1] (snd_X1_number (g0 := gs C0 4 0 M) (rg_w _) (show Rg 1 from ⟨by decide, by decide⟩) k) (gs_in C0 M 2 0 (by decide)) ck_4_93 rfl m2_0 rfl rfl rfl (by decide) (Nat.le_of_ble_eq_true rfl) dX4_tellStatement_113 rfl (fun v g' hq => ?_)
    obtain ⟨z17, rfl, r16, eg, k⟩ := hq
    rw [← (gs_in C0 M 2 0 (by decide))] at eg
    refine J_eq eg ?_
    show J X 116 [(2, iv z2), (0, .ref (xad X (0, 0, 0))), (1, iv v_place)] [iv z17, iv z15, iv z2, .ref (xad X (1, 1, 0))] (gs C0 4 0 M)
    refine jr_aload_n (pc := 116) F 1 dX4_tellStatement_116 rfl rfl ?_
    refine jr_getR (pc := 117) (b := (2, 0, 0)) F f_4_36 m0_0 rfl dX4_tellStatement_117 ?_
    refine jr_iload_n (pc := 120) F 2 dX4_tellStatement_120 rfl rfl ?_
    refine jr_iconst (pc := 121) F dX4_tellStatement_121 ?_
    refine jr_iadd (pc := 122) F dX4_tellStatement_122 ?_
    refine jr_iconst (pc := 123) F dX4_tellStatement_123 ?_
    have k := Ok_bind k
    refine jr_callV (pc := 124) (st := [iv z17, iv z15, iv z2, .ref (xad X (1, 1, 0))]) F [iv (w32 (v_place + 5)), iv 2] (snd_X1_number (g0 := gs C0 4 0 M) (rg_w _) (show Rg 2 from ⟨by decide, by decide⟩) k) (gs_in C0 M 2 0 (by decide)) ck_4_93 rfl m2_0 rfl rfl rfl (by decide) (Nat.le_of_ble_eq_true rfl) dX4_tellStatement_124 rfl (fun v g' hq => ?_)
    obtain ⟨z19, rfl, r18, eg, k⟩ := hq
    rw [← (gs_in C0 M 2 0 (by decide))] at eg
    refine J_eq eg ?_
    show J X 127 [(2, iv z2), (0, .ref (xad X (0, 0, 0))), (1, iv v_place)] [iv z19, iv z17, iv z15, iv z2, .ref (xad X (1, 1, 0))] (gs C0 4 0 M)
    have k := Ok_bind k
    refine jr_callV (pc := 127) (st := []) F [iv z2, iv z15, iv z17, iv z19] (snd_X2_becomeYard h11_1 (g0 := gs C0 4 0 M) r1 r14 r16 r18 k) (gs_in C0 M 1 1 (by decide)) ck_4_103 rfl (mL_0 h11_1) rfl rfl rfl (by decide) (Nat.le_of_ble_eq_true rfl) dX4_tellStatement_127 rfl (fun v g' hq => ?_)
    obtain ⟨x, L', rfl, r20, eg, k⟩ := hq
    obtain ⟨z21, ez⟩ : ∃ z : Int × LT, z = (x, L') := ⟨_, rfl⟩
    obtain ⟨rfl, rfl⟩ : x = z21.1 ∧ L' = z21.2 := ⟨by rw [ez], by rw [ez]⟩
    clear ez
    rw [gs_comm (by decide)] at eg
    obtain ⟨C22, e23, k⟩ := Ok_let k
    rw [← e23] at eg
    refine J_eq eg ?_
    show J X 130 [(2, iv z2), (0, .ref (xad X (0, 0, 0))), (1, iv v_place)] [iv z21.1] (gs C22 4 0 M)
    exact jr_zret (pc := 130) F hQ rfl r20 dX4_tellStatement_130 ⟨_, _, rfl, r20, rfl, (Ok_some k)⟩
  have k := Ok_f h13 k
  by_cases h24 : x5 = 116
  · have k := Ok_t h24 k
    refine jr_lsw (pc := 20) (tgt := 131) (off := 111) F r7 (by decide) (by rw [h24]; decide) (by decide) dX4_tellStatement_20 ?_
    refine jr_aload_n (pc := 131) F 1 dX4_tellStatement_131 rfl rfl ?_
    refine jr_getR (pc := 132) (b := (1, 1, 0)) F f_4_16 m0_0 rfl dX4_tellStatement_132 ?_
    refine jr_iload_n (pc := 135) F 0 dX4_tellStatement_135 rfl rfl ?_
    refine jr_aload_n (pc := 136) F 1 dX4_tellStatement_136 rfl rfl ?_
    refine jr_getR (pc := 137) (b := (2, 0, 0)) F f_4_36 m0_0 rfl dX4_tellStatement_137 ?_
    refine jr_iload_n (pc := 140) F 2 dX4_tellStatement_140 rfl rfl ?_
    refine jr_iconst (pc := 141) F dX4_tellStatement_141 ?_
    refine jr_iadd (pc := 142) F dX4_tellStatement_142 ?_
    refine jr_iconst (pc := 143) F dX4_tellStatement_143 ?_
    have k := Ok_bind k
    refine jr_callV (pc := 144) (st := [iv z2, .ref (xad X (1, 1, 0))]) F [iv (w32 (v_place + 3)), iv 1] (snd_X1_number (g0 := gs C0 4 0 M) (rg_w _) (show Rg 1 from ⟨by decide, by decide⟩) k) (gs_in C0 M 2 0 (by decide)) ck_4_93 rfl m2_0 rfl rfl rfl (by decide) (Nat.le_of_ble_eq_true rfl) dX4_tellStatement_144 rfl (fun v g' hq => ?_)
    obtain ⟨z26, rfl, r25, eg, k⟩ := hq
    rw [← (gs_in C0 M 2 0 (by decide))] at eg
    refine J_eq eg ?_
    show J X 147 [(2, iv z2), (0, .ref (xad X (0, 0, 0))), (1, iv v_place)] [iv z26, iv z2, .ref (xad X (1, 1, 0))] (gs C0 4 0 M)
    refine jr_aload_n (pc := 147) F 1 dX4_tellStatement_147 rfl rfl ?_
    refine jr_getR (pc := 148) (b := (2, 0, 0)) F f_4_36 m0_0 rfl dX4_tellStatement_148 ?_
    refine jr_iload_n (pc := 151) F 2 dX4_tellStatement_151 rfl rfl ?_
    refine jr_iconst (pc := 152) F dX4_tellStatement_152 ?_
    refine jr_iadd (pc := 153) F dX4_tellStatement_153 ?_
    refine jr_iconst (pc := 154) F dX4_tellStatement_154 ?_
    have k := Ok_bind k
    refine jr_callV (pc := 155) (st := [iv z26, iv z2, .ref (xad X (1, 1, 0))]) F [iv (w32 (v_place + 4)), iv 1] (snd_X1_number (g0 := gs C0 4 0 M) (rg_w _) (show Rg 1 from ⟨by decide, by decide⟩) k) (gs_in C0 M 2 0 (by decide)) ck_4_93 rfl m2_0 rfl rfl rfl (by decide) (Nat.le_of_ble_eq_true rfl) dX4_tellStatement_155 rfl (fun v g' hq => ?_)
    obtain ⟨z28, rfl, r27, eg, k⟩ := hq
    rw [← (gs_in C0 M 2 0 (by decide))] at eg
    refine J_eq eg ?_
    show J X 158 [(2, iv z2), (0, .ref (xad X (0, 0, 0))), (1, iv v_place)] [iv z28, iv z26, iv z2, .ref (xad X (1, 1, 0))] (gs C0 4 0 M)
    have k := Ok_bind k
    refine jr_callV (pc := 158) (st := []) F [iv z2, iv z26, iv z28] (snd_X2_addTrain h11_1 (g0 := gs C0 4 0 M) r1 r25 r27 k) (gs_in C0 M 1 1 (by decide)) ck_4_107 rfl (mL_0 h11_1) rfl rfl rfl (by decide) (Nat.le_of_ble_eq_true rfl) dX4_tellStatement_158 rfl (fun v g' hq => ?_)
    obtain ⟨x, L', rfl, r29, eg, k⟩ := hq
    obtain ⟨z30, ez⟩ : ∃ z : Int × LT, z = (x, L') := ⟨_, rfl⟩
    obtain ⟨rfl, rfl⟩ : x = z30.1 ∧ L' = z30.2 := ⟨by rw [ez], by rw [ez]⟩
    clear ez
    rw [gs_comm (by decide)] at eg
    obtain ⟨C31, e32, k⟩ := Ok_let k
    rw [← e32] at eg
    refine J_eq eg ?_
    show J X 161 [(2, iv z2), (0, .ref (xad X (0, 0, 0))), (1, iv v_place)] [iv z30.1] (gs C31 4 0 M)
    exact jr_zret (pc := 161) F hQ rfl r29 dX4_tellStatement_161 ⟨_, _, rfl, r29, rfl, (Ok_some k)⟩
  have k := Ok_f h24 k
  by_cases h33 : x5 = 119
  · have k := Ok_t h33 k
    refine jr_lsw (pc := 20) (tgt := 162) (off := 142) F r7 (by decide) (by rw [h33]; decide) (by decide) dX4_tellStatement_20 ?_
    refine jr_aload_n (pc := 162) F 1 dX4_tellStatement_162 rfl rfl ?_
    refine jr_getR (pc := 163) (b := (1, 1, 0)) F f_4_16 m0_0 rfl dX4_tellStatement_163 ?_
    refine jr_aload_n (pc := 166) F 1 dX4_tellStatement_166 rfl rfl ?_
    refine jr_getR (pc := 167) (b := (2, 0, 0)) F f_4_36 m0_0 rfl dX4_tellStatement_167 ?_
    refine jr_iload_n (pc := 170) F 2 dX4_tellStatement_170 rfl rfl ?_
    refine jr_iconst (pc := 171) F dX4_tellStatement_171 ?_
    refine jr_iadd (pc := 172) F dX4_tellStatement_172 ?_
    refine jr_iconst (pc := 173) F dX4_tellStatement_173 ?_
    have k := Ok_bind k
    refine jr_callV (pc := 174) (st := [.ref (xad X (1, 1, 0))]) F [iv (w32 (v_place + 1)), iv 1] (snd_X1_number (g0 := gs C0 4 0 M) (rg_w _) (show Rg 1 from ⟨by decide, by decide⟩) k) (gs_in C0 M 2 0 (by decide)) ck_4_93 rfl m2_0 rfl rfl rfl (by decide) (Nat.le_of_ble_eq_true rfl) dX4_tellStatement_174 rfl (fun v g' hq => ?_)
    obtain ⟨z35, rfl, r34, eg, k⟩ := hq
    rw [← (gs_in C0 M 2 0 (by decide))] at eg
    refine J_eq eg ?_
    show J X 177 [(2, iv z2), (0, .ref (xad X (0, 0, 0))), (1, iv v_place)] [iv z35, .ref (xad X (1, 1, 0))] (gs C0 4 0 M)
    refine jr_aload_n (pc := 177) F 1 dX4_tellStatement_177 rfl rfl ?_
    refine jr_getR (pc := 178) (b := (2, 0, 0)) F f_4_36 m0_0 rfl dX4_tellStatement_178 ?_
    refine jr_iload_n (pc := 181) F 2 dX4_tellStatement_181 rfl rfl ?_
    refine jr_iconst (pc := 182) F dX4_tellStatement_182 ?_
    refine jr_iadd (pc := 183) F dX4_tellStatement_183 ?_
    refine jr_iconst (pc := 184) F dX4_tellStatement_184 ?_
    have k := Ok_bind k
    refine jr_callV (pc := 185) (st := [iv z35, .ref (xad X (1, 1, 0))]) F [iv (w32 (v_place + 2)), iv 2] (snd_X1_number (g0 := gs C0 4 0 M) (rg_w _) (show Rg 2 from ⟨by decide, by decide⟩) k) (gs_in C0 M 2 0 (by decide)) ck_4_93 rfl m2_0 rfl rfl rfl (by decide) (Nat.le_of_ble_eq_true rfl) dX4_tellStatement_185 rfl (fun v g' hq => ?_)
    obtain ⟨z37, rfl, r36, eg, k⟩ := hq
    rw [← (gs_in C0 M 2 0 (by decide))] at eg
    refine J_eq eg ?_
    show J X 188 [(2, iv z2), (0, .ref (xad X (0, 0, 0))), (1, iv v_place)] [iv z37, iv z35, .ref (xad X (1, 1, 0))] (gs C0 4 0 M)
    have k := Ok_bind k
    refine jr_callV (pc := 188) (st := []) F [iv z35, iv z37] (snd_X2_letWait h11_1 (g0 := gs C0 4 0 M) r34 r36 k) (gs_in C0 M 1 1 (by decide)) ck_4_111 rfl (mL_0 h11_1) rfl rfl rfl (by decide) (Nat.le_of_ble_eq_true rfl) dX4_tellStatement_188 rfl (fun v g' hq => ?_)
    obtain ⟨x, L', rfl, r38, eg, k⟩ := hq
    obtain ⟨z39, ez⟩ : ∃ z : Int × LT, z = (x, L') := ⟨_, rfl⟩
    obtain ⟨rfl, rfl⟩ : x = z39.1 ∧ L' = z39.2 := ⟨by rw [ez], by rw [ez]⟩
    clear ez
    rw [gs_comm (by decide)] at eg
    obtain ⟨C40, e41, k⟩ := Ok_let k
    rw [← e41] at eg
    refine J_eq eg ?_
    show J X 191 [(2, iv z2), (0, .ref (xad X (0, 0, 0))), (1, iv v_place)] [iv z39.1] (gs C40 4 0 M)
    exact jr_zret (pc := 191) F hQ rfl r38 dX4_tellStatement_191 ⟨_, _, rfl, r38, rfl, (Ok_some k)⟩
  have k := Ok_f h33 k
  by_cases h42 : x5 = 99
  · have k := Ok_t h42 k
    refine jr_lsw (pc := 20) (tgt := 192) (off := 172) F r7 (by decide) (by rw [h42]; decide) (by decide) dX4_tellStatement_20 ?_
    refine jr_aload_n (pc := 192) F 1 dX4_tellStatement_192 rfl rfl ?_
    refine jr_getR (pc := 193) (b := (1, 1, 0)) F f_4_16 m0_0 rfl dX4_tellStatement_193 ?_
    refine jr_aload_n (pc := 196) F 1 dX4_tellStatement_196 rfl rfl ?_
    refine jr_getR (pc := 197) (b := (2, 0, 0)) F f_4_36 m0_0 rfl dX4_tellStatement_197 ?_
    refine jr_iload_n (pc := 200) F 2 dX4_tellStatement_200 rfl rfl ?_
    refine jr_iconst (pc := 201) F dX4_tellStatement_201 ?_
    refine jr_iadd (pc := 202) F dX4_tellStatement_202 ?_
    refine jr_iconst (pc := 203) F dX4_tellStatement_203 ?_
    have k := Ok_bind k
    refine jr_callV (pc := 204) (st := [.ref (xad X (1, 1, 0))]) F [iv (w32 (v_place + 1)), iv 1] (snd_X1_number (g0 := gs C0 4 0 M) (rg_w _) (show Rg 1 from ⟨by decide, by decide⟩) k) (gs_in C0 M 2 0 (by decide)) ck_4_93 rfl m2_0 rfl rfl rfl (by decide) (Nat.le_of_ble_eq_true rfl) dX4_tellStatement_204 rfl (fun v g' hq => ?_)
    obtain ⟨z44, rfl, r43, eg, k⟩ := hq
    rw [← (gs_in C0 M 2 0 (by decide))] at eg
    refine J_eq eg ?_
    show J X 207 [(2, iv z2), (0, .ref (xad X (0, 0, 0))), (1, iv v_place)] [iv z44, .ref (xad X (1, 1, 0))] (gs C0 4 0 M)
    obtain ⟨C45, e46, k⟩ := Ok_let k
    refine jr_putI (pc := 207) F (gs C45 4 0 M) fw_4_115 (mL_0 h11_1) rfl r43 (put2 e46 (by decide)) dX4_tellStatement_207 ?_
    refine jr_aload_n (pc := 210) F 1 dX4_tellStatement_210 rfl rfl ?_
    refine jr_getR (pc := 211) (b := (1, 1, 0)) F f_4_16 m0_0 rfl dX4_tellStatement_211 ?_
    refine jr_aload_n (pc := 214) F 1 dX4_tellStatement_214 rfl rfl ?_
    refine jr_getR (pc := 215) (b := (2, 0, 0)) F f_4_36 m0_0 rfl dX4_tellStatement_215 ?_
    refine jr_iload_n (pc := 218) F 2 dX4_tellStatement_218 rfl rfl ?_
    refine jr_iconst (pc := 219) F dX4_tellStatement_219 ?_
    refine jr_iadd (pc := 220) F dX4_tellStatement_220 ?_
    refine jr_iconst (pc := 221) F dX4_tellStatement_221 ?_
    have k := Ok_bind k
    refine jr_callV (pc := 222) (st := [.ref (xad X (1, 1, 0))]) F [iv (w32 (v_place + 2)), iv 1] (snd_X1_number (g0 := gs C45 4 0 M) (rg_w _) (show Rg 1 from ⟨by decide, by decide⟩) k) (gs_in C45 M 2 0 (by decide)) ck_4_93 rfl m2_0 rfl rfl rfl (by decide) (Nat.le_of_ble_eq_true rfl) dX4_tellStatement_222 rfl (fun v g' hq => ?_)
    obtain ⟨z48, rfl, r47, eg, k⟩ := hq
    rw [← (gs_in C45 M 2 0 (by decide))] at eg
    refine J_eq eg ?_
    show J X 225 [(2, iv z2), (0, .ref (xad X (0, 0, 0))), (1, iv v_place)] [iv z48, .ref (xad X (1, 1, 0))] (gs C45 4 0 M)
    obtain ⟨C49, e50, k⟩ := Ok_let k
    refine jr_putI (pc := 225) F (gs C49 4 0 M) fw_4_118 (mL_0 h11_1) rfl r47 (put2 e50 (by decide)) dX4_tellStatement_225 ?_
    refine jr_iconst (pc := 228) F dX4_tellStatement_228 ?_
    exact jr_zret (pc := 229) F hQ rfl (Or.inr rfl) dX4_tellStatement_229 ⟨_, _, rfl, (Or.inr rfl), rfl, (Ok_some k)⟩
  have k := Ok_f h42 k
  by_cases h51 : x5 = 104
  · have k := Ok_t h51 k
    refine jr_lsw (pc := 20) (tgt := 230) (off := 210) F r7 (by decide) (by rw [h51]; decide) (by decide) dX4_tellStatement_20 ?_
    refine cnd (c := (¬ (X4_outside_v z2 1 72) = 0) ∨ (999 < (w32 ((C0 1 1 0 1) + z2)))) (GT := J X 255 [(2, iv z2), (0, .ref (xad X (0, 0, 0))), (1, iv v_place)] [] (gs C0 4 0 M)) (GF := J X 257 [(2, iv z2), (0, .ref (xad X (0, 0, 0))), (1, iv v_place)] [] (gs C0 4 0 M)) k (fun HT HF => ?_) (fun h56 k => ?_) (fun h56 k => ?_)
    · refine jr_iload_n (pc := 230) F 0 dX4_tellStatement_230 rfl rfl ?_
      refine jr_iconst (pc := 231) F dX4_tellStatement_231 ?_
      refine jr_bipush (pc := 232) F dX4_tellStatement_232 (by decide) ?_
      refine jr_callS (pc := 234) (st := []) F [iv z2, iv 1, iv 72] (snd_X4_outside (g0 := gs C0 4 0 M) r1 (show Rg 1 from ⟨by decide, by decide⟩) (show Rg 72 from ⟨by decide, by decide⟩) (X4_outside_ok _ _ _ )) rfl ck_4_57 rfl rfl (by decide) (Nat.le_of_ble_eq_true rfl) dX4_tellStatement_234 rfl (fun v g' hq => ?_)
      obtain ⟨x, rfl, r52, eg, hx⟩ := hq
      subst hx
      refine J_eq eg ?_
      show J X 237 [(2, iv z2), (0, .ref (xad X (0, 0, 0))), (1, iv v_place)] [iv (X4_outside_v z2 1 72)] (gs C0 4 0 M)
      refine jr_if_ne (pc := 237) (tgt := 255) F r52 dX4_tellStatement_237 (by decide) (fun h53 => ?_) (fun h53 => ?_)
      · exact HT (Or.inl h53)
      refine jr_aload_n (pc := 240) F 1 dX4_tellStatement_240 rfl rfl ?_
      refine jr_getR (pc := 241) (b := (1, 1, 0)) F f_4_16 m0_0 rfl dX4_tellStatement_241 ?_
      refine jr_getI (pc := 244) F (C0 1 1 0 1) f_4_121 (mL_0 h11_1) rfl rfl dX4_tellStatement_244 (fun r54 => ?_)
      refine jr_iload_n (pc := 247) F 0 dX4_tellStatement_247 rfl rfl ?_
      refine jr_iadd (pc := 248) F dX4_tellStatement_248 ?_
      refine jr_sipush (pc := 249) F dX4_tellStatement_249 (by decide) ?_
      refine jr_icmp_le (pc := 252) (tgt := 257) F (rg_w _) (show Rg 999 from ⟨by decide, by decide⟩) dX4_tellStatement_252 (by decide) (fun h55 => ?_) (fun h55 => ?_)
      · exact HF (fun q => q.elim (fun q => q h53) (ng_lt h55))
      exact HT (Or.inr h55)
    · refine jr_iconst (pc := 255) F dX4_tellStatement_255 ?_
      exact jr_zret (pc := 256) F hQ rfl (Or.inl rfl) dX4_tellStatement_256 ⟨_, _, rfl, (Or.inl rfl), rfl, (Ok_some k)⟩
    refine jr_aload_n (pc := 257) F 1 dX4_tellStatement_257 rfl rfl ?_
    refine jr_getR (pc := 258) (b := (1, 1, 0)) F f_4_16 m0_0 rfl dX4_tellStatement_258 ?_
    refine jr_iload_n (pc := 261) F 0 dX4_tellStatement_261 rfl rfl ?_
    have k := Ok_bind k
    refine jr_callV (pc := 262) (st := []) F [iv z2] (snd_X2_go h11_1 (g0 := gs C0 4 0 M) r1 k) (gs_in C0 M 1 1 (by decide)) ck_4_124 rfl (mL_0 h11_1) rfl rfl rfl (by decide) (Nat.le_of_ble_eq_true rfl) dX4_tellStatement_262 rfl (fun v g' hq => ?_)
    obtain ⟨z58, rfl, eg, k⟩ := hq
    rw [gs_comm (by decide)] at eg
    obtain ⟨C59, e60, k⟩ := Ok_let k
    rw [← e60] at eg
    refine J_eq eg ?_
    show J X 265 [(2, iv z2), (0, .ref (xad X (0, 0, 0))), (1, iv v_place)] [] (gs C59 4 0 M)
    refine jr_iconst (pc := 265) F dX4_tellStatement_265 ?_
    exact jr_zret (pc := 266) F hQ rfl (Or.inr rfl) dX4_tellStatement_266 ⟨_, _, rfl, (Or.inr rfl), rfl, (Ok_some k)⟩
  have k := Ok_f h51 k
  refine jr_lsw (pc := 20) (tgt := 267) (off := 247) F r7 (by decide) (by simp [Op.lookupswitch.offset, lsw_n2 h8, lsw_n2 h13, lsw_n2 h24, lsw_n2 h33, lsw_n2 h42, lsw_n2 h51]) (by decide) dX4_tellStatement_20 ?_
  refine jr_iconst (pc := 267) F dX4_tellStatement_267 ?_
  exact jr_zret (pc := 268) F hQ rfl (Or.inl rfl) dX4_tellStatement_268 ⟨_, _, rfl, (Or.inl rfl), rfl, (Ok_some k)⟩
set_option maxHeartbeats 4000000 in
set_option maxRecDepth 100000 in
theorem snd_X4_tellLine {C0 : GG} {M : LT}  {Q : (Int × GG) → Prop} (k : Ok (X4_tellLine C0) Q) : MetG SL yX4_tellLine cX4_tellLine 3 (some .int) 5 (fun ad => [.ref (ad (0, 0, 0))]) (gs C0 4 0 M) (fun v g' => ∃ (x : Int) (L' : GG), v = some (iv x) ∧ Rg x ∧ g' = gs L' 4 0 M ∧ Q (x, L')) := by
  refine met_intro SL_ok (by decide +kernel) (fun ad => Nat.le_of_ble_eq_true rfl) (fun X F hQ hR => ?_)
  replace F : FX X cX4_tellLine RX4 3 (some .int) SL 5 := F
  show J X 0 [(0, .ref (xad X (0, 0, 0)))] [] (gs C0 4 0 M)
  refine jr_aload_n (pc := 0) F 0 dX4_tellLine_0 rfl rfl ?_
  refine jr_getR (pc := 1) (b := (1, 1, 0)) F f_4_16 m0_0 rfl dX4_tellLine_1 ?_
  refine jr_aload_n (pc := 4) F 0 dX4_tellLine_4 rfl rfl ?_
  refine jr_getR (pc := 5) (b := (1, 0, 0)) F f_4_12 m0_0 rfl dX4_tellLine_5 ?_
  have k := Ok_bind k
  refine jr_callV (pc := 8) (st := []) F [.ref (xad X (1, 0, 0))] (snd_X2_become h11_1 (g0 := gs C0 4 0 M) h11_0 (by decide) rfl  k) (gs_in C0 M 1 1 (by decide)) ck_4_79 rfl (mL_0 h11_1) rfl rfl rfl (by decide) (Nat.le_of_ble_eq_true rfl) dX4_tellLine_8 rfl (fun v g' hq => ?_)
  obtain ⟨z2, rfl, eg, k⟩ := hq
  rw [gs_comm (by decide)] at eg
  obtain ⟨C3, e4, k⟩ := Ok_let k
  rw [← e4] at eg
  refine J_eq eg ?_
  show J X 11 [(0, .ref (xad X (0, 0, 0)))] [] (gs C3 4 0 M)
  refine jr_iconst (pc := 11) F dX4_tellLine_11 ?_
  refine jr_istore_n (pc := 12) F [(1, iv 0), (0, .ref (xad X (0, 0, 0)))] dX4_tellLine_12 rfl (by decide) rfl ?_
  refine jr_iconst (pc := 13) F dX4_tellLine_13 ?_
  refine jr_istore_n (pc := 14) F [(2, iv 0), (1, iv 0), (0, .ref (xad X (0, 0, 0)))] dX4_tellLine_14 rfl (by decide) rfl ?_
  refine jr_sub F [2, 1, 0] [(0, .ref (xad X (0, 0, 0))), (1, iv 0), (2, iv 0)] rfl ?_
  refine lpj (P := fun s : Int × Int × GG => Rg (s.1) → Rg (s.2.1) → J X 15 [(0, .ref (xad X (0, 0, 0))), (1, iv s.1), (2, iv s.2.1)] [] (gs s.2.2 4 0 M)) (PE := fun o : ((Int × Int × GG) ⊕ (Int × GG)) => match o with | .inl r => Rg (r.1) → Rg (r.2.1) → J X 63 [(0, .ref (xad X (0, 0, 0))), (1, iv r.1), (2, iv r.2.1)] [] (gs r.2.2 4 0 M) | .inr y => Q (y)) k (fun s5 Q6 k hC7 hE8 r10 r11 => ?_) (fun o k => ?_) (fun h => h (show Rg 0 from ⟨by decide, by decide⟩) (show Rg 0 from ⟨by decide, by decide⟩))
  · refine cnd (c := (s5.2.1 < (s5.2.2 2 0 0 1)) ∧ (s5.1 < 24)) (GT := J X 32 [(0, .ref (xad X (0, 0, 0))), (1, iv s5.1), (2, iv s5.2.1)] [] (gs s5.2.2 4 0 M)) (GF := J X 63 [(0, .ref (xad X (0, 0, 0))), (1, iv s5.1), (2, iv s5.2.1)] [] (gs s5.2.2 4 0 M)) k (fun HT HF => ?_) (fun h15 k => ?_) (fun h15 k => ?_)
    · refine jr_iload_n (pc := 15) F 2 dX4_tellLine_15 rfl rfl ?_
      refine jr_aload_n (pc := 16) F 0 dX4_tellLine_16 rfl rfl ?_
      refine jr_getR (pc := 17) (b := (2, 0, 0)) F f_4_36 m0_0 rfl dX4_tellLine_17 ?_
      refine jr_getI (pc := 20) F (s5.2.2 2 0 0 1) f_4_65 m2_0 rfl rfl dX4_tellLine_20 (fun r12 => ?_)
      refine jr_icmp_ge (pc := 23) (tgt := 63) F r11 r12 dX4_tellLine_23 (by decide) (fun h13 => ?_) (fun h13 => ?_)
      · exact HF (fun q => (ng_lt h13) q.1)
      refine jr_iload_n (pc := 26) F 1 dX4_tellLine_26 rfl rfl ?_
      refine jr_bipush (pc := 27) F dX4_tellLine_27 (by decide) ?_
      refine jr_icmp_ge (pc := 29) (tgt := 63) F r10 (show Rg 24 from ⟨by decide, by decide⟩) dX4_tellLine_29 (by decide) (fun h14 => ?_) (fun h14 => ?_)
      · exact HF (fun q => (ng_lt h14) q.2)
      exact HT ⟨h13, h14⟩
    · refine jr_aload_n (pc := 32) F 0 dX4_tellLine_32 rfl rfl ?_
      refine jr_iload_n (pc := 33) F 2 dX4_tellLine_33 rfl rfl ?_
      have k := Ok_bind k
      refine jr_callV (pc := 34) (st := []) F [iv s5.2.1] (snd_X4_tellStatement (M := M) r11 k) rfl ck_4_83 rfl m0_0 rfl rfl rfl (by decide) (Nat.le_of_ble_eq_true rfl) dX4_tellLine_34 rfl (fun v g' hq => ?_)
      obtain ⟨x, L', rfl, r16, eg, k⟩ := hq
      obtain ⟨z17, ez⟩ : ∃ z : Int × GG, z = (x, L') := ⟨_, rfl⟩
      obtain ⟨rfl, rfl⟩ : x = z17.1 ∧ L' = z17.2 := ⟨by rw [ez], by rw [ez]⟩
      clear ez
      refine J_eq eg ?_
      show J X 37 [(0, .ref (xad X (0, 0, 0))), (1, iv s5.1), (2, iv s5.2.1)] [iv z17.1] (gs z17.2 4 0 M)
      refine jr_if_ne (pc := 37) (tgt := 46) F (rg_z r16) dX4_tellLine_37 (by decide) (fun h18 => ?_) (fun h18 => ?_)
      · have k := Ok_t h18 k
        refine jr_iload_n (pc := 46) F 2 dX4_tellLine_46 rfl rfl ?_
        refine jr_aload_n (pc := 47) F 0 dX4_tellLine_47 rfl rfl ?_
        refine jr_getR (pc := 48) (b := (2, 0, 0)) F f_4_36 m0_0 rfl dX4_tellLine_48 ?_
        refine jr_iload_n (pc := 51) F 2 dX4_tellLine_51 rfl rfl ?_
        obtain ⟨c20, k⟩ := Ok_grd k
        refine jr_callV (pc := 52) (st := [iv s5.2.1]) F [iv s5.2.1] (snd_X1_lengthAt (g0 := gs z17.2 4 0 M) r11 (X1_lengthAt_ok _ _ c20)) (gs_in z17.2 M 2 0 (by decide)) ck_4_87 rfl m2_0 rfl rfl rfl (by decide) (Nat.le_of_ble_eq_true rfl) dX4_tellLine_52 rfl (fun v g' hq => ?_)
        obtain ⟨x, rfl, r19, eg, hx⟩ := hq
        subst hx
        refine J_eq eg ?_
        refine J_eq (gs_in z17.2 M 2 0 (by decide)).symm ?_
        show J X 55 [(0, .ref (xad X (0, 0, 0))), (1, iv s5.1), (2, iv s5.2.1)] [iv (X1_lengthAt_v (z17.2 2 0) s5.2.1), iv s5.2.1] (gs z17.2 4 0 M)
        refine jr_iadd (pc := 55) F dX4_tellLine_55 ?_
        obtain ⟨x21, e22, k⟩ := Ok_let k
        have r23 : Rg x21 := rg_of e22 (rg_w _)
        refine jr_top e22 ?_
        refine jr_istore_n (pc := 56) F [(2, iv x21), (0, .ref (xad X (0, 0, 0))), (1, iv s5.1)] dX4_tellLine_56 rfl (by decide) rfl ?_
        refine jr_iinc (pc := 57) F [(1, iv (w32 (s5.1 + 1))), (2, iv x21), (0, .ref (xad X (0, 0, 0)))] 2 dX4_tellLine_57 rfl (by decide) rfl ?_
        refine jr_goto (pc := 60) (tgt := 15) F dX4_tellLine_60 (by decide) ?_
        refine jr_sub F [2, 0, 1] [(0, .ref (xad X (0, 0, 0))), (1, iv (w32 (s5.1 + 1))), (2, iv x21)] rfl ?_
        exact hC7 (w32 (s5.1 + 1), x21, z17.2) (Ok_some k) (rg_w _) r23
      have k := Ok_f (fun q => q h18) k
      refine jr_sipush (pc := 40) F dX4_tellLine_40 (by decide) ?_
      refine jr_iload_n (pc := 43) F 2 dX4_tellLine_43 rfl rfl ?_
      refine jr_isub (pc := 44) F dX4_tellLine_44 ?_
      exact jr_iret (pc := 45) F hQ rfl dX4_tellLine_45 ⟨_, _, rfl, (rg_w _), rfl, (hE8 (Sum.inr _) (Ok_some k))⟩
    exact hE8 (Sum.inl (s5.1, s5.2.1, s5.2.2)) (Ok_some k) r10 r11
  rcases o with z9 | y
  rotate_left
  · show Q (y)
    exact Ok_some k
  intro r24 r25
  refine jr_aload_n (pc := 63) F 0 dX4_tellLine_63 rfl rfl ?_
  refine jr_getR (pc := 64) (b := (1, 0, 0)) F f_4_12 m0_0 rfl dX4_tellLine_64 ?_
  refine jr_aload_n (pc := 67) F 0 dX4_tellLine_67 rfl rfl ?_
  refine jr_getR (pc := 68) (b := (1, 1, 0)) F f_4_16 m0_0 rfl dX4_tellLine_68 ?_
  have k := Ok_bind k
  refine jr_callV (pc := 71) (st := []) F [.ref (xad X (1, 1, 0))] (snd_X2_become h11_0 (g0 := gs z9.2.2 4 0 M) h11_1 (by decide) rfl  k) (gs_in z9.2.2 M 1 0 (by decide)) ck_4_79 rfl (mL_0 h11_0) rfl rfl rfl (by decide) (Nat.le_of_ble_eq_true rfl) dX4_tellLine_71 rfl (fun v g' hq => ?_)
  obtain ⟨z27, rfl, eg, k⟩ := hq
  rw [gs_comm (by decide)] at eg
  obtain ⟨C28, e29, k⟩ := Ok_let k
  rw [← e29] at eg
  refine J_eq eg ?_
  show J X 74 [(0, .ref (xad X (0, 0, 0))), (1, iv z9.1), (2, iv z9.2.1)] [] (gs C28 4 0 M)
  refine jr_aload_n (pc := 74) F 0 dX4_tellLine_74 rfl rfl ?_
  refine jr_getR (pc := 75) (b := (3, 0, 0)) F f_4_29 m0_0 rfl dX4_tellLine_75 ?_
  have k := Ok_bind k
  refine jr_callV (pc := 78) (st := []) F [] (snd_X3_forget (M := M)  k) rfl ck_4_90 rfl m3_0 rfl rfl rfl (by decide) (Nat.le_of_ble_eq_true rfl) dX4_tellLine_78 rfl (fun v g' hq => ?_)
  obtain ⟨z31, rfl, eg, k⟩ := hq
  refine J_eq eg ?_
  show J X 81 [(0, .ref (xad X (0, 0, 0))), (1, iv z9.1), (2, iv z9.2.1)] [] (gs z31 4 0 M)
  refine jr_iload_n (pc := 81) F 1 dX4_tellLine_81 rfl rfl ?_
  exact jr_iret (pc := 82) F hQ rfl dX4_tellLine_82 ⟨_, _, rfl, r24, rfl, (Ok_some k)⟩
set_option maxHeartbeats 4000000 in
set_option maxRecDepth 100000 in
theorem snd_X4_line {C0 : GG} {M : LT}  {Q : (Int × GG) → Prop} (k : Ok (X4_line C0) Q) : MetG SL yX4_line cX4_line 3 (some .int) 6 (fun ad => [.ref (ad (0, 0, 0))]) (gs C0 4 0 M) (fun v g' => ∃ (x : Int) (L' : GG), v = some (iv x) ∧ Rg x ∧ g' = gs L' 4 0 M ∧ Q (x, L')) := by
  refine met_intro SL_ok (by decide +kernel) (fun ad => Nat.le_of_ble_eq_true rfl) (fun X F hQ hR => ?_)
  replace F : FX X cX4_line RX4 3 (some .int) SL 6 := F
  show J X 0 [(0, .ref (xad X (0, 0, 0)))] [] (gs C0 4 0 M)
  refine jr_aload_n (pc := 0) F 0 dX4_line_0 rfl rfl ?_
  refine jr_getR (pc := 1) (b := (2, 0, 0)) F f_4_36 m0_0 rfl dX4_line_1 ?_
  have k := Ok_bind k
  refine jr_callV (pc := 4) (st := []) F [] (snd_X1_brokenAt (g0 := gs C0 4 0 M)  k) (gs_in C0 M 2 0 (by decide)) ck_4_72 rfl m2_0 rfl rfl rfl (by decide) (Nat.le_of_ble_eq_true rfl) dX4_line_4 rfl (fun v g' hq => ?_)
  obtain ⟨z2, rfl, r1, eg, k⟩ := hq
  rw [← (gs_in C0 M 2 0 (by decide))] at eg
  refine J_eq eg ?_
  show J X 7 [(0, .ref (xad X (0, 0, 0)))] [iv z2] (gs C0 4 0 M)
  refine jr_istore_n (pc := 7) F [(1, iv z2), (0, .ref (xad X (0, 0, 0)))] dX4_line_7 rfl (by decide) rfl ?_
  refine jn (P := fun v : Int × GG => Rg (v.1) → J X 24 [(1, iv z2), (0, .ref (xad X (0, 0, 0)))] (iv (v.1) :: []) (gs v.2 4 0 M)) k (fun Q4 k hJ5 => ?_) (fun z3 k r9 => ?_)
  · refine jr_iload_n (pc := 8) F 0 dX4_line_8 rfl rfl ?_
    refine jr_if_lt (pc := 9) (tgt := 20) F r1 dX4_line_9 (by decide) (fun h6 => ?_) (fun h6 => ?_)
    · have k := Ok_f (ng_le h6) k
      refine jr_aload_n (pc := 20) F 1 dX4_line_20 rfl rfl ?_
      have k := Ok_bind k
      refine jr_callV (pc := 21) (st := []) F [] (snd_X4_tellLine (M := M)  k) rfl ck_4_76 rfl m0_0 rfl rfl rfl (by decide) (Nat.le_of_ble_eq_true rfl) dX4_line_21 rfl (fun v g' hq => ?_)
      obtain ⟨x, L', rfl, r7, eg, k⟩ := hq
      obtain ⟨z8, ez⟩ : ∃ z : Int × GG, z = (x, L') := ⟨_, rfl⟩
      obtain ⟨rfl, rfl⟩ : x = z8.1 ∧ L' = z8.2 := ⟨by rw [ez], by rw [ez]⟩
      clear ez
      refine J_eq eg ?_
      show J X 24 [(1, iv z2), (0, .ref (xad X (0, 0, 0)))] [iv z8.1] (gs z8.2 4 0 M)
      exact hJ5 (z8.1, z8.2) (Ok_some k) r7
    have k := Ok_t h6 k
    refine jr_sipush (pc := 12) F dX4_line_12 (by decide) ?_
    refine jr_iload_n (pc := 15) F 0 dX4_line_15 rfl rfl ?_
    refine jr_isub (pc := 16) F dX4_line_16 ?_
    refine jr_goto (pc := 17) (tgt := 24) F dX4_line_17 (by decide) ?_
    exact hJ5 (w32 ((-1000) - z2), C0) (Ok_some k) (rg_w _)
  refine jr_istore_n (pc := 24) F [(2, iv z3.1), (1, iv z2), (0, .ref (xad X (0, 0, 0)))] dX4_line_24 rfl (by decide) rfl ?_
  refine jr_aload_n (pc := 25) F 2 dX4_line_25 rfl rfl ?_
  refine jr_getR (pc := 26) (b := (2, 0, 0)) F f_4_36 m0_0 rfl dX4_line_26 ?_
  refine jr_iconst (pc := 29) F dX4_line_29 ?_
  obtain ⟨C10, e11, k⟩ := Ok_let k
  refine jr_putI (pc := 30) F (gs C10 4 0 M) fw_4_65 m2_0 rfl (show Rg 0 from ⟨by decide, by decide⟩) (put2 e11 (by decide)) dX4_line_30 ?_
  refine jr_iload_n (pc := 33) F 0 dX4_line_33 rfl rfl ?_
  exact jr_iret (pc := 34) F hQ rfl dX4_line_34 ⟨_, _, rfl, r9, rfl, (Ok_some k)⟩
set_option maxHeartbeats 4000000 in
set_option maxRecDepth 100000 in
theorem snd_X4_lineUp {C0 : GG} {M : LT}  {Q : (Int × GG) → Prop} (k : Ok (X4_lineUp C0) Q) : MetG SL yX4_lineUp cX4_lineUp 3 (some .int) 1 (fun ad => [.ref (ad (0, 0, 0))]) (gs C0 4 0 M) (fun v g' => ∃ (x : Int) (L' : GG), v = some (iv x) ∧ Rg x ∧ g' = gs L' 4 0 M ∧ Q (x, L')) := by
  refine met_intro SL_ok (by decide +kernel) (fun ad => Nat.le_of_ble_eq_true rfl) (fun X F hQ hR => ?_)
  replace F : FX X cX4_lineUp RX4 3 (some .int) SL 1 := F
  show J X 0 [(0, .ref (xad X (0, 0, 0)))] [] (gs C0 4 0 M)
  refine jr_iconst (pc := 0) F dX4_lineUp_0 ?_
  refine jr_istore_n (pc := 1) F [(1, iv 0), (0, .ref (xad X (0, 0, 0)))] dX4_lineUp_1 rfl (by decide) rfl ?_
  refine jr_iconst (pc := 2) F dX4_lineUp_2 ?_
  refine jr_istore_n (pc := 3) F [(2, iv 0), (1, iv 0), (0, .ref (xad X (0, 0, 0)))] dX4_lineUp_3 rfl (by decide) rfl ?_
  refine jr_sub F [2, 1, 0] [(0, .ref (xad X (0, 0, 0))), (1, iv 0), (2, iv 0)] rfl ?_
  refine lpj (P := fun s : Int × Int × GG => Rg (s.1) → Rg (s.2.1) → J X 4 [(0, .ref (xad X (0, 0, 0))), (1, iv s.1), (2, iv s.2.1)] [] (gs s.2.2 4 0 M)) (PE := fun r : Int × Int × GG => Rg (r.1) → Rg (r.2.1) → J X 49 [(0, .ref (xad X (0, 0, 0))), (1, iv r.1), (2, iv r.2.1)] [] (gs r.2.2 4 0 M)) k (fun s1 Q2 k hC3 hE4 r6 r7 => ?_) (fun z5 k => ?_) (fun h => h (show Rg 0 from ⟨by decide, by decide⟩) (show Rg 0 from ⟨by decide, by decide⟩))
  · refine jr_iload_n (pc := 4) F 2 dX4_lineUp_4 rfl rfl ?_
    refine jr_aload_n (pc := 5) F 0 dX4_lineUp_5 rfl rfl ?_
    refine jr_getR (pc := 6) (b := (1, 0, 0)) F f_4_12 m0_0 rfl dX4_lineUp_6 ?_
    refine jr_getI (pc := 9) F (s1.2.2 1 0 0 4) f_4_159 (mL_0 h11_0) rfl rfl dX4_lineUp_9 (fun r8 => ?_)
    refine jr_icmp_ge (pc := 12) (tgt := 49) F r7 r8 dX4_lineUp_12 (by decide) (fun h9 => ?_) (fun h9 => ?_)
    · have k := Ok_f (ng_lt h9) k
      exact hE4 (s1.1, s1.2.1, s1.2.2) (Ok_some k) r6 r7
    have k := Ok_t h9 k
    refine jr_aload_n (pc := 15) F 0 dX4_lineUp_15 rfl rfl ?_
    refine jr_getR (pc := 16) (b := (1, 0, 0)) F f_4_12 m0_0 rfl dX4_lineUp_16 ?_
    refine jr_iload_n (pc := 19) F 2 dX4_lineUp_19 rfl rfl ?_
    obtain ⟨c11, k⟩ := Ok_grd k
    refine jr_callV (pc := 20) (st := []) F [iv s1.2.1] (snd_X2_isAhead h11_0 (g0 := gs s1.2.2 4 0 M) r7 (X2_isAhead_ok _ _ c11)) (gs_in s1.2.2 M 1 0 (by decide)) ck_4_252 rfl (mL_0 h11_0) rfl rfl rfl (by decide) (Nat.le_of_ble_eq_true rfl) dX4_lineUp_20 rfl (fun v g' hq => ?_)
    obtain ⟨x, rfl, r10, eg, hx⟩ := hq
    subst hx
    refine J_eq eg ?_
    refine J_eq (gs_in s1.2.2 M 1 0 (by decide)).symm ?_
    show J X 23 [(0, .ref (xad X (0, 0, 0))), (1, iv s1.1), (2, iv s1.2.1)] [iv (X2_isAhead_v (s1.2.2 1 0) s1.2.1)] (gs s1.2.2 4 0 M)
    refine jr_if_eq (pc := 23) (tgt := 43) F (rg_z r10) dX4_lineUp_23 (by decide) (fun h12 => ?_) (fun h12 => ?_)
    · have k := Ok_f (fun q => q h12) k
      refine jr_iinc (pc := 43) F [(2, iv (w32 (s1.2.1 + 1))), (0, .ref (xad X (0, 0, 0))), (1, iv s1.1)] 2 dX4_lineUp_43 rfl (by decide) rfl ?_
      refine jr_goto (pc := 46) (tgt := 4) F dX4_lineUp_46 (by decide) ?_
      refine jr_sub F [1, 2, 0] [(0, .ref (xad X (0, 0, 0))), (1, iv s1.1), (2, iv (w32 (s1.2.1 + 1)))] rfl ?_
      exact hC3 (s1.1, w32 (s1.2.1 + 1), s1.2.2) (Ok_some k) r6 (rg_w _)
    have k := Ok_t h12 k
    refine jr_aload_n (pc := 26) F 0 dX4_lineUp_26 rfl rfl ?_
    refine jr_getR (pc := 27) (b := (0, 0, 11)) F f_4_54 m0_0 rfl dX4_lineUp_27 ?_
    refine jr_iload_n (pc := 30) F 1 dX4_lineUp_30 rfl rfl ?_
    refine jr_iload_n (pc := 31) F 2 dX4_lineUp_31 rfl rfl ?_
    obtain ⟨c13, k⟩ := Ok_grd k
    obtain ⟨C14, e15, k⟩ := Ok_let k
    refine jr_iast (pc := 32) F (gs C14 4 0 M) m0_11 (by decide) c13 r7 (put2 e15 (by decide)) dX4_lineUp_32 ?_
    refine jr_aload_n (pc := 33) F 0 dX4_lineUp_33 rfl rfl ?_
    refine jr_getR (pc := 34) (b := (0, 0, 10)) F f_4_51 m0_0 rfl dX4_lineUp_34 ?_
    refine jr_iload_n (pc := 37) F 1 dX4_lineUp_37 rfl rfl ?_
    refine jr_iload_n (pc := 38) F 2 dX4_lineUp_38 rfl rfl ?_
    obtain ⟨C16, e17, k⟩ := Ok_let k
    refine jr_iast (pc := 39) F (gs C16 4 0 M) m0_10 (by decide) c13 r7 (put2 e17 (by decide)) dX4_lineUp_39 ?_
    refine jr_iinc (pc := 40) F [(1, iv (w32 (s1.1 + 1))), (0, .ref (xad X (0, 0, 0))), (2, iv s1.2.1)] 1 dX4_lineUp_40 rfl (by decide) rfl ?_
    refine jr_iinc (pc := 43) F [(2, iv (w32 (s1.2.1 + 1))), (1, iv (w32 (s1.1 + 1))), (0, .ref (xad X (0, 0, 0)))] 2 dX4_lineUp_43 rfl (by decide) rfl ?_
    refine jr_goto (pc := 46) (tgt := 4) F dX4_lineUp_46 (by decide) ?_
    refine jr_sub F [2, 1, 0] [(0, .ref (xad X (0, 0, 0))), (1, iv (w32 (s1.1 + 1))), (2, iv (w32 (s1.2.1 + 1)))] rfl ?_
    exact hC3 (w32 (s1.1 + 1), w32 (s1.2.1 + 1), C16) (Ok_some k) (rg_w _) (rg_w _)
  intro r18 r19
  refine jr_iload_n (pc := 49) F 1 dX4_lineUp_49 rfl rfl ?_
  exact jr_iret (pc := 50) F hQ rfl dX4_lineUp_50 ⟨_, _, rfl, r18, rfl, (Ok_some k)⟩
set_option maxHeartbeats 4000000 in
set_option maxRecDepth 100000 in
theorem snd_X4_nextSeed {v_z : Int} {g0 : GG} (rgp_z : Rg v_z) {Q : (Int) → Prop} (k : Ok (X4_nextSeed_f v_z) Q) : MetG SL yX4_nextSeed cX4_nextSeed 1 (some .int) 0 (fun ad => [iv v_z]) (g0) (fun v g' => ∃ x : Int, v = some (iv x) ∧ Rg x ∧ g' = g0 ∧ Q x) := by
  refine met_intro SL_ok (by decide +kernel) (fun ad => Nat.le_of_ble_eq_true rfl) (fun X F hQ hR => ?_)
  replace F : FX X cX4_nextSeed RX4 1 (some .int) SL 0 := F
  show J X 0 [(0, iv v_z)] [] (g0)
  refine jr_iload_n (pc := 0) F 0 dX4_nextSeed_0 rfl rfl ?_
  refine jr_ldcw (pc := 1) F kc_4_337 dX4_nextSeed_1 ?_
  refine jr_imul (pc := 4) F dX4_nextSeed_4 ?_
  refine jr_sipush (pc := 5) F dX4_nextSeed_5 (by decide) ?_
  refine jr_iadd (pc := 8) F dX4_nextSeed_8 ?_
  exact jr_iret (pc := 9) F hQ rfl dX4_nextSeed_9 ⟨_, rfl, (rg_w _), rfl, (Ok_some k)⟩
set_option maxHeartbeats 4000000 in
set_option maxRecDepth 100000 in
theorem snd_X4_lots {C0 : GG} {v_n : Int} {v_z : Int} {v_what : Int} {M : LT} (rgp_n : Rg v_n) (rgp_z : Rg v_z) (rgp_what : Rg v_what) {Q : (Int × GG) → Prop} (k : Ok (X4_lots C0 v_n v_z v_what) Q) : MetG SL yX4_lots cX4_lots 8 (some .int) 4 (fun ad => [.ref (ad (0, 0, 0)), iv v_n, iv v_z, iv v_what]) (gs C0 4 0 M) (fun v g' => ∃ (x : Int) (L' : GG), v = some (iv x) ∧ Rg x ∧ g' = gs L' 4 0 M ∧ Q (x, L')) := by
  refine met_intro SL_ok (by decide +kernel) (fun ad => Nat.le_of_ble_eq_true rfl) (fun X F hQ hR => ?_)
  replace F : FX X cX4_lots RX4 8 (some .int) SL 4 := F
  show J X 0 [(0, .ref (xad X (0, 0, 0))), (1, iv v_n), (2, iv v_z), (3, iv v_what)] [] (gs C0 4 0 M)
  refine jr_iload_n (pc := 0) F 1 dX4_lots_0 rfl rfl ?_
  refine jr_iconst (pc := 1) F dX4_lots_1 ?_
  refine jr_bipush (pc := 2) F dX4_lots_2 (by decide) ?_
  refine jr_callS (pc := 4) (st := []) F [iv v_n, iv 1, iv 20] (snd_X4_outside (g0 := gs C0 4 0 M) rgp_n (show Rg 1 from ⟨by decide, by decide⟩) (show Rg 20 from ⟨by decide, by decide⟩) (X4_outside_ok _ _ _ )) rfl ck_4_57 rfl rfl (by decide) (Nat.le_of_ble_eq_true rfl) dX4_lots_4 rfl (fun v g' hq => ?_)
  obtain ⟨x, rfl, r1, eg, hx⟩ := hq
  subst hx
  refine J_eq eg ?_
  show J X 7 [(0, .ref (xad X (0, 0, 0))), (1, iv v_n), (2, iv v_z), (3, iv v_what)] [iv (X4_outside_v v_n 1 20)] (gs C0 4 0 M)
  obtain ⟨x2, e3, k⟩ := Ok_let k
  have r4 : Rg x2 := rg_of e3 r1
  refine jr_top e3 ?_
  refine jr_istore (pc := 7) F [(4, iv x2), (0, .ref (xad X (0, 0, 0))), (1, iv v_n), (2, iv v_z), (3, iv v_what)] dX4_lots_7 (by decide) rfl ?_
  refine jr_iload (pc := 9) F 0 dX4_lots_9 rfl ?_
  refine jr_if_eq (pc := 11) (tgt := 21) F r4 dX4_lots_11 (by decide) (fun h5 => ?_) (fun h5 => ?_)
  · have k := Ok_f (fun q => q h5) k
    refine jr_iload_n (pc := 21) F 4 dX4_lots_21 rfl rfl ?_
    refine jr_callS (pc := 22) (st := []) F [iv v_what] (snd_X4_neither (g0 := gs C0 4 0 M) rgp_what (X4_neither_ok _ )) rfl ck_4_153 rfl rfl (by decide) (Nat.le_of_ble_eq_true rfl) dX4_lots_22 rfl (fun v g' hq => ?_)
    obtain ⟨x, rfl, r6, eg, hx⟩ := hq
    subst hx
    refine J_eq eg ?_
    show J X 25 [(4, iv x2), (0, .ref (xad X (0, 0, 0))), (1, iv v_n), (2, iv v_z), (3, iv v_what)] [iv (X4_neither_v v_what)] (gs C0 4 0 M)
    refine jr_if_eq (pc := 25) (tgt := 35) F (rg_z r6) dX4_lots_25 (by decide) (fun h7 => ?_) (fun h7 => ?_)
    · have k := Ok_f (fun q => q h7) k
      refine jr_iload_n (pc := 35) F 3 dX4_lots_35 rfl rfl ?_
      refine jr_istore (pc := 36) F [(5, iv v_z), (4, iv x2), (0, .ref (xad X (0, 0, 0))), (1, iv v_n), (2, iv v_z), (3, iv v_what)] dX4_lots_36 (by decide) rfl ?_
      refine jr_iconst (pc := 38) F dX4_lots_38 ?_
      refine jr_istore (pc := 39) F [(6, iv 0), (5, iv v_z), (4, iv x2), (0, .ref (xad X (0, 0, 0))), (1, iv v_n), (2, iv v_z), (3, iv v_what)] dX4_lots_39 (by decide) rfl ?_
      refine jr_iconst (pc := 41) F dX4_lots_41 ?_
      refine jr_istore (pc := 42) F [(7, iv 0), (6, iv 0), (5, iv v_z), (4, iv x2), (0, .ref (xad X (0, 0, 0))), (1, iv v_n), (2, iv v_z), (3, iv v_what)] dX4_lots_42 (by decide) rfl ?_
      refine jr_sub F [4, 5, 6, 7, 3, 2, 1, 0] [(0, .ref (xad X (0, 0, 0))), (1, iv v_n), (2, iv v_z), (3, iv v_what), (4, iv x2), (5, iv v_z), (6, iv 0), (7, iv 0)] rfl ?_
      refine lpj (P := fun s : Int × Int × Int × GG => Rg (s.1) → Rg (s.2.1) → Rg (s.2.2.1) → J X 44 [(0, .ref (xad X (0, 0, 0))), (1, iv v_n), (2, iv v_z), (3, iv v_what), (4, iv x2), (5, iv s.1), (6, iv s.2.1), (7, iv s.2.2.1)] [] (gs s.2.2.2 4 0 M)) (PE := fun r : Int × Int × Int × GG => Rg (r.1) → Rg (r.2.1) → Rg (r.2.2.1) → J X 139 [(0, .ref (xad X (0, 0, 0))), (1, iv v_n), (2, iv v_z), (3, iv v_what), (4, iv x2), (5, iv r.1), (6, iv r.2.1), (7, iv r.2.2.1)] [] (gs r.2.2.2 4 0 M)) k (fun s8 Q9 k hC10 hE11 r13 r14 r15 => ?_) (fun z12 k => ?_) (fun h => h rgp_z (show Rg 0 from ⟨by decide, by decide⟩) (show Rg 0 from ⟨by decide, by decide⟩))
      · refine jr_iload (pc := 44) F 7 dX4_lots_44 rfl ?_
        refine jr_iload_n (pc := 46) F 1 dX4_lots_46 rfl rfl ?_
        refine jr_icmp_ge (pc := 47) (tgt := 139) F r15 rgp_n dX4_lots_47 (by decide) (fun h16 => ?_) (fun h16 => ?_)
        · have k := Ok_f (ng_lt h16) k
          exact hE11 (s8.1, s8.2.1, s8.2.2.1, s8.2.2.2) (Ok_some k) r13 r14 r15
        have k := Ok_t h16 k
        refine jr_aload_n (pc := 50) F 0 dX4_lots_50 rfl rfl ?_
        refine jr_getR (pc := 51) (b := (1, 1, 0)) F f_4_16 m0_0 rfl dX4_lots_51 ?_
        refine jr_aload_n (pc := 54) F 0 dX4_lots_54 rfl rfl ?_
        refine jr_getR (pc := 55) (b := (1, 0, 0)) F f_4_12 m0_0 rfl dX4_lots_55 ?_
        have k := Ok_bind k
        refine jr_callV (pc := 58) (st := []) F [.ref (xad X (1, 0, 0))] (snd_X2_become h11_1 (g0 := gs s8.2.2.2 4 0 M) h11_0 (by decide) rfl  k) (gs_in s8.2.2.2 M 1 1 (by decide)) ck_4_79 rfl (mL_0 h11_1) rfl rfl rfl (by decide) (Nat.le_of_ble_eq_true rfl) dX4_lots_58 rfl (fun v g' hq => ?_)
        obtain ⟨z18, rfl, eg, k⟩ := hq
        rw [gs_comm (by decide)] at eg
        obtain ⟨C19, e20, k⟩ := Ok_let k
        rw [← e20] at eg
        refine J_eq eg ?_
        show J X 61 [(0, .ref (xad X (0, 0, 0))), (1, iv v_n), (2, iv v_z), (3, iv v_what), (4, iv x2), (5, iv s8.1), (6, iv s8.2.1), (7, iv s8.2.2.1)] [] (gs C19 4 0 M)
        refine jr_iload (pc := 61) F 5 dX4_lots_61 rfl ?_
        refine jr_callS (pc := 63) (st := []) F [iv s8.1] (snd_X4_nextSeed (g0 := gs C19 4 0 M) r13 (X4_nextSeed_ok _ )) rfl ck_4_328 rfl rfl (by decide) (Nat.le_of_ble_eq_true rfl) dX4_lots_63 rfl (fun v g' hq => ?_)
        obtain ⟨x, rfl, r21, eg, hx⟩ := hq
        subst hx
        refine J_eq eg ?_
        show J X 66 [(0, .ref (xad X (0, 0, 0))), (1, iv v_n), (2, iv v_z), (3, iv v_what), (4, iv x2), (5, iv s8.1), (6, iv s8.2.1), (7, iv s8.2.2.1)] [iv (X4_nextSeed_v s8.1)] (gs C19 4 0 M)
        obtain ⟨x22, e23, k⟩ := Ok_let k
        have r24 : Rg x22 := rg_of e23 r21
        refine jr_top e23 ?_
        refine jr_istore (pc := 66) F [(5, iv x22), (0, .ref (xad X (0, 0, 0))), (1, iv v_n), (2, iv v_z), (3, iv v_what), (4, iv x2), (6, iv s8.2.1), (7, iv s8.2.2.1)] dX4_lots_66 (by decide) rfl ?_
        refine jr_aload_n (pc := 68) F 1 dX4_lots_68 rfl rfl ?_
        refine jr_getR (pc := 69) (b := (1, 1, 0)) F f_4_16 m0_0 rfl dX4_lots_69 ?_
        refine jr_iload (pc := 72) F 0 dX4_lots_72 rfl ?_
        refine jr_bipush (pc := 74) F dX4_lots_74 (by decide) ?_
        obtain ⟨c26, k⟩ := Ok_grd k
        refine jr_callS (pc := 76) (st := [.ref (xad X (1, 1, 0))]) F [iv x22, iv 10] (snd_X4_drawn (g0 := gs C19 4 0 M) r24 (show Rg 10 from ⟨by decide, by decide⟩) (X4_drawn_ok _ _ c26)) rfl ck_4_331 rfl rfl (by decide) (Nat.le_of_ble_eq_true rfl) dX4_lots_76 rfl (fun v g' hq => ?_)
        obtain ⟨x, rfl, r25, eg, hx⟩ := hq
        subst hx
        refine J_eq eg ?_
        show J X 79 [(5, iv x22), (0, .ref (xad X (0, 0, 0))), (1, iv v_n), (2, iv v_z), (3, iv v_what), (4, iv x2), (6, iv s8.2.1), (7, iv s8.2.2.1)] [iv (X4_drawn_v x22 10), .ref (xad X (1, 1, 0))] (gs C19 4 0 M)
        obtain ⟨C27, e28, k⟩ := Ok_let k
        refine jr_putI (pc := 79) F (gs C27 4 0 M) fw_4_115 (mL_0 h11_1) rfl r25 (put2 e28 (by decide)) dX4_lots_79 ?_
        refine jr_iload (pc := 82) F 0 dX4_lots_82 rfl ?_
        refine jr_callS (pc := 84) (st := []) F [iv x22] (snd_X4_nextSeed (g0 := gs C27 4 0 M) r24 (X4_nextSeed_ok _ )) rfl ck_4_328 rfl rfl (by decide) (Nat.le_of_ble_eq_true rfl) dX4_lots_84 rfl (fun v g' hq => ?_)
        obtain ⟨x, rfl, r29, eg, hx⟩ := hq
        subst hx
        refine J_eq eg ?_
        show J X 87 [(5, iv x22), (0, .ref (xad X (0, 0, 0))), (1, iv v_n), (2, iv v_z), (3, iv v_what), (4, iv x2), (6, iv s8.2.1), (7, iv s8.2.2.1)] [iv (X4_nextSeed_v x22)] (gs C27 4 0 M)
        obtain ⟨x30, e31, k⟩ := Ok_let k
        have r32 : Rg x30 := rg_of e31 r29
        refine jr_top e31 ?_
        refine jr_istore (pc := 87) F [(5, iv x30), (0, .ref (xad X (0, 0, 0))), (1, iv v_n), (2, iv v_z), (3, iv v_what), (4, iv x2), (6, iv s8.2.1), (7, iv s8.2.2.1)] dX4_lots_87 (by decide) rfl ?_
        refine jr_aload_n (pc := 89) F 1 dX4_lots_89 rfl rfl ?_
        refine jr_getR (pc := 90) (b := (1, 1, 0)) F f_4_16 m0_0 rfl dX4_lots_90 ?_
        refine jr_iload (pc := 93) F 0 dX4_lots_93 rfl ?_
        refine jr_bipush (pc := 95) F dX4_lots_95 (by decide) ?_
        obtain ⟨c34, k⟩ := Ok_grd k
        refine jr_callS (pc := 97) (st := [.ref (xad X (1, 1, 0))]) F [iv x30, iv 10] (snd_X4_drawn (g0 := gs C27 4 0 M) r32 (show Rg 10 from ⟨by decide, by decide⟩) (X4_drawn_ok _ _ c34)) rfl ck_4_331 rfl rfl (by decide) (Nat.le_of_ble_eq_true rfl) dX4_lots_97 rfl (fun v g' hq => ?_)
        obtain ⟨x, rfl, r33, eg, hx⟩ := hq
        subst hx
        refine J_eq eg ?_
        show J X 100 [(5, iv x30), (0, .ref (xad X (0, 0, 0))), (1, iv v_n), (2, iv v_z), (3, iv v_what), (4, iv x2), (6, iv s8.2.1), (7, iv s8.2.2.1)] [iv (X4_drawn_v x30 10), .ref (xad X (1, 1, 0))] (gs C27 4 0 M)
        obtain ⟨C35, e36, k⟩ := Ok_let k
        refine jr_putI (pc := 100) F (gs C35 4 0 M) fw_4_118 (mL_0 h11_1) rfl r33 (put2 e36 (by decide)) dX4_lots_100 ?_
        refine jr_aload_n (pc := 103) F 1 dX4_lots_103 rfl rfl ?_
        refine jr_getR (pc := 104) (b := (1, 1, 0)) F f_4_16 m0_0 rfl dX4_lots_104 ?_
        refine jr_bipush (pc := 107) F dX4_lots_107 (by decide) ?_
        have k := Ok_bind k
        refine jr_callV (pc := 109) (st := []) F [iv 48] (snd_X2_goWhileAnyGoes h11_1 (g0 := gs C35 4 0 M) (show Rg 48 from ⟨by decide, by decide⟩) k) (gs_in C35 M 1 1 (by decide)) ck_4_334 rfl (mL_0 h11_1) rfl rfl rfl (by decide) (Nat.le_of_ble_eq_true rfl) dX4_lots_109 rfl (fun v g' hq => ?_)
        obtain ⟨z38, rfl, eg, k⟩ := hq
        rw [gs_comm (by decide)] at eg
        obtain ⟨C39, e40, k⟩ := Ok_let k
        rw [← e40] at eg
        refine J_eq eg ?_
        show J X 112 [(5, iv x30), (0, .ref (xad X (0, 0, 0))), (1, iv v_n), (2, iv v_z), (3, iv v_what), (4, iv x2), (6, iv s8.2.1), (7, iv s8.2.2.1)] [] (gs C39 4 0 M)
        refine jr_iload (pc := 112) F 6 dX4_lots_112 rfl ?_
        refine jr_aload_n (pc := 114) F 1 dX4_lots_114 rfl rfl ?_
        refine jr_getR (pc := 115) (b := (1, 1, 0)) F f_4_16 m0_0 rfl dX4_lots_115 ?_
        refine jifP (P := fun v => Rg v → J X 127 [(5, iv x30), (0, .ref (xad X (0, 0, 0))), (1, iv v_n), (2, iv v_z), (3, iv v_what), (4, iv x2), (6, iv s8.2.1), (7, iv s8.2.2.1)] (iv v :: [.ref (xad X (1, 1, 0)), iv s8.2.1]) (gs C39 4 0 M)) (c := v_what = 0) (1) (2) (fun Ht Hf => ?_) (fun r42 => ?_)
        · refine jr_iload_n (pc := 118) F 4 dX4_lots_118 rfl rfl ?_
          refine jr_if_ne (pc := 119) (tgt := 126) F rgp_what dX4_lots_119 (by decide) (fun h41 => ?_) (fun h41 => ?_)
          · refine jr_iconst (pc := 126) F dX4_lots_126 ?_
            exact Hf h41 (show Rg 2 from ⟨by decide, by decide⟩)
          refine jr_iconst (pc := 122) F dX4_lots_122 ?_
          refine jr_goto (pc := 123) (tgt := 127) F dX4_lots_123 (by decide) ?_
          exact Ht h41 (show Rg 1 from ⟨by decide, by decide⟩)
        have k := Ok_bind k
        refine jr_callV (pc := 127) (st := [iv s8.2.1]) F [iv (if v_what = 0 then 1 else 2)] (snd_X2_howMany h11_1 (g0 := gs C39 4 0 M) r42 k) (gs_in C39 M 1 1 (by decide)) ck_4_183 rfl (mL_0 h11_1) rfl rfl rfl (by decide) (Nat.le_of_ble_eq_true rfl) dX4_lots_127 rfl (fun v g' hq => ?_)
        obtain ⟨z44, rfl, r43, eg, k⟩ := hq
        rw [← (gs_in C39 M 1 1 (by decide))] at eg
        refine J_eq eg ?_
        show J X 130 [(5, iv x30), (0, .ref (xad X (0, 0, 0))), (1, iv v_n), (2, iv v_z), (3, iv v_what), (4, iv x2), (6, iv s8.2.1), (7, iv s8.2.2.1)] [iv z44, iv s8.2.1] (gs C39 4 0 M)
        refine jr_iadd (pc := 130) F dX4_lots_130 ?_
        obtain ⟨x45, e46, k⟩ := Ok_let k
        have r47 : Rg x45 := rg_of e46 (rg_w _)
        refine jr_top e46 ?_
        refine jr_istore (pc := 131) F [(6, iv x45), (5, iv x30), (0, .ref (xad X (0, 0, 0))), (1, iv v_n), (2, iv v_z), (3, iv v_what), (4, iv x2), (7, iv s8.2.2.1)] dX4_lots_131 (by decide) rfl ?_
        refine jr_iinc (pc := 133) F [(7, iv (w32 (s8.2.2.1 + 1))), (6, iv x45), (5, iv x30), (0, .ref (xad X (0, 0, 0))), (1, iv v_n), (2, iv v_z), (3, iv v_what), (4, iv x2)] 7 dX4_lots_133 rfl (by decide) rfl ?_
        refine jr_goto (pc := 136) (tgt := 44) F dX4_lots_136 (by decide) ?_
        refine jr_sub F [3, 4, 5, 6, 7, 2, 1, 0] [(0, .ref (xad X (0, 0, 0))), (1, iv v_n), (2, iv v_z), (3, iv v_what), (4, iv x2), (5, iv x30), (6, iv x45), (7, iv (w32 (s8.2.2.1 + 1)))] rfl ?_
        exact hC10 (x30, x45, w32 (s8.2.2.1 + 1), C39) (Ok_some k) r32 r47 (rg_w _)
      intro r48 r49 r50
      refine jr_iload (pc := 139) F 6 dX4_lots_139 rfl ?_
      exact jr_iret (pc := 141) F hQ rfl dX4_lots_141 ⟨_, _, rfl, r49, rfl, (Ok_some k)⟩
    have k := Ok_t h7 k
    refine jr_aload_n (pc := 28) F 1 dX4_lots_28 rfl rfl ?_
    refine jr_bipush (pc := 29) F dX4_lots_29 (by decide) ?_
    have k := Ok_bind k
    refine jr_callV (pc := 31) (st := []) F [iv (-2)] (snd_X4_refuse (M := M) (show Rg (-2) from ⟨by decide, by decide⟩) k) rfl ck_4_61 rfl m0_0 rfl rfl rfl (by decide) (Nat.le_of_ble_eq_true rfl) dX4_lots_31 rfl (fun v g' hq => ?_)
    obtain ⟨x, L', rfl, r51, eg, k⟩ := hq
    obtain ⟨z52, ez⟩ : ∃ z : Int × GG, z = (x, L') := ⟨_, rfl⟩
    obtain ⟨rfl, rfl⟩ : x = z52.1 ∧ L' = z52.2 := ⟨by rw [ez], by rw [ez]⟩
    clear ez
    refine J_eq eg ?_
    show J X 34 [(4, iv x2), (0, .ref (xad X (0, 0, 0))), (1, iv v_n), (2, iv v_z), (3, iv v_what)] [iv z52.1] (gs z52.2 4 0 M)
    exact jr_iret (pc := 34) F hQ rfl dX4_lots_34 ⟨_, _, rfl, r51, rfl, (Ok_some k)⟩
  have k := Ok_t h5 k
  refine jr_aload_n (pc := 14) F 1 dX4_lots_14 rfl rfl ?_
  refine jr_iload (pc := 15) F 0 dX4_lots_15 rfl ?_
  have k := Ok_bind k
  refine jr_callV (pc := 17) (st := []) F [iv x2] (snd_X4_refuse (M := M) r4 k) rfl ck_4_61 rfl m0_0 rfl rfl rfl (by decide) (Nat.le_of_ble_eq_true rfl) dX4_lots_17 rfl (fun v g' hq => ?_)
  obtain ⟨x, L', rfl, r53, eg, k⟩ := hq
  obtain ⟨z54, ez⟩ : ∃ z : Int × GG, z = (x, L') := ⟨_, rfl⟩
  obtain ⟨rfl, rfl⟩ : x = z54.1 ∧ L' = z54.2 := ⟨by rw [ez], by rw [ez]⟩
  clear ez
  refine J_eq eg ?_
  show J X 20 [(4, iv x2), (0, .ref (xad X (0, 0, 0))), (1, iv v_n), (2, iv v_z), (3, iv v_what)] [iv z54.1] (gs z54.2 4 0 M)
  exact jr_iret (pc := 20) F hQ rfl dX4_lots_20 ⟨_, _, rfl, r53, rfl, (Ok_some k)⟩
set_option maxHeartbeats 4000000 in
set_option maxRecDepth 100000 in
theorem snd_X4_lowest {C0 : GG} {v_n : Int} {v_what : Int} {M : LT} (rgp_n : Rg v_n) (rgp_what : Rg v_what) {Q : (Int × GG) → Prop} (k : Ok (X4_lowest C0 v_n v_what) Q) : MetG SL yX4_lowest cX4_lowest 5 (some .int) 5 (fun ad => [.ref (ad (0, 0, 0)), iv v_n, iv v_what]) (gs C0 4 0 M) (fun v g' => ∃ (x : Int) (L' : GG), v = some (iv x) ∧ Rg x ∧ g' = gs L' 4 0 M ∧ Q (x, L')) := by
  refine met_intro SL_ok (by decide +kernel) (fun ad => Nat.le_of_ble_eq_true rfl) (fun X F hQ hR => ?_)
  replace F : FX X cX4_lowest RX4 5 (some .int) SL 5 := F
  show J X 0 [(0, .ref (xad X (0, 0, 0))), (1, iv v_n), (2, iv v_what)] [] (gs C0 4 0 M)
  refine jr_iload_n (pc := 0) F 1 dX4_lowest_0 rfl rfl ?_
  refine jr_iconst (pc := 1) F dX4_lowest_1 ?_
  refine jr_bipush (pc := 2) F dX4_lowest_2 (by decide) ?_
  refine jr_callS (pc := 4) (st := []) F [iv v_n, iv 0, iv 72] (snd_X4_outside (g0 := gs C0 4 0 M) rgp_n (show Rg 0 from ⟨by decide, by decide⟩) (show Rg 72 from ⟨by decide, by decide⟩) (X4_outside_ok _ _ _ )) rfl ck_4_57 rfl rfl (by decide) (Nat.le_of_ble_eq_true rfl) dX4_lowest_4 rfl (fun v g' hq => ?_)
  obtain ⟨x, rfl, r1, eg, hx⟩ := hq
  subst hx
  refine J_eq eg ?_
  show J X 7 [(0, .ref (xad X (0, 0, 0))), (1, iv v_n), (2, iv v_what)] [iv (X4_outside_v v_n 0 72)] (gs C0 4 0 M)
  obtain ⟨x2, e3, k⟩ := Ok_let k
  have r4 : Rg x2 := rg_of e3 r1
  refine jr_top e3 ?_
  refine jr_istore_n (pc := 7) F [(3, iv x2), (0, .ref (xad X (0, 0, 0))), (1, iv v_n), (2, iv v_what)] dX4_lowest_7 rfl (by decide) rfl ?_
  refine jr_iload_n (pc := 8) F 0 dX4_lowest_8 rfl rfl ?_
  refine jr_if_eq (pc := 9) (tgt := 18) F r4 dX4_lowest_9 (by decide) (fun h5 => ?_) (fun h5 => ?_)
  · have k := Ok_f (fun q => q h5) k
    refine jr_iload_n (pc := 18) F 3 dX4_lowest_18 rfl rfl ?_
    refine jr_callS (pc := 19) (st := []) F [iv v_what] (snd_X4_neither (g0 := gs C0 4 0 M) rgp_what (X4_neither_ok _ )) rfl ck_4_153 rfl rfl (by decide) (Nat.le_of_ble_eq_true rfl) dX4_lowest_19 rfl (fun v g' hq => ?_)
    obtain ⟨x, rfl, r6, eg, hx⟩ := hq
    subst hx
    refine J_eq eg ?_
    show J X 22 [(3, iv x2), (0, .ref (xad X (0, 0, 0))), (1, iv v_n), (2, iv v_what)] [iv (X4_neither_v v_what)] (gs C0 4 0 M)
    refine jr_if_eq (pc := 22) (tgt := 32) F (rg_z r6) dX4_lowest_22 (by decide) (fun h7 => ?_) (fun h7 => ?_)
    · have k := Ok_f (fun q => q h7) k
      refine jr_aload_n (pc := 32) F 1 dX4_lowest_32 rfl rfl ?_
      refine jr_iload_n (pc := 33) F 2 dX4_lowest_33 rfl rfl ?_
      have k := Ok_bind k
      refine jr_callV (pc := 34) (st := []) F [iv v_n] (snd_X4_goInMind (M := M) rgp_n k) rfl ck_4_190 rfl m0_0 rfl rfl rfl (by decide) (Nat.le_of_ble_eq_true rfl) dX4_lowest_34 rfl (fun v g' hq => ?_)
      obtain ⟨z9, rfl, eg, k⟩ := hq
      refine J_eq eg ?_
      show J X 37 [(3, iv x2), (0, .ref (xad X (0, 0, 0))), (1, iv v_n), (2, iv v_what)] [] (gs z9 4 0 M)
      refine jr_aload_n (pc := 37) F 1 dX4_lowest_37 rfl rfl ?_
      refine jr_getR (pc := 38) (b := (1, 1, 0)) F f_4_16 m0_0 rfl dX4_lowest_38 ?_
      have k := Ok_bind k
      refine jr_callV (pc := 41) (st := []) F [] (snd_X2_weakest h11_1 (g0 := gs z9 4 0 M)  k) (gs_in z9 M 1 1 (by decide)) ck_4_205 rfl (mL_0 h11_1) rfl rfl rfl (by decide) (Nat.le_of_ble_eq_true rfl) dX4_lowest_41 rfl (fun v g' hq => ?_)
      obtain ⟨z11, rfl, r10, eg, k⟩ := hq
      rw [← (gs_in z9 M 1 1 (by decide))] at eg
      refine J_eq eg ?_
      show J X 44 [(3, iv x2), (0, .ref (xad X (0, 0, 0))), (1, iv v_n), (2, iv v_what)] [iv z11] (gs z9 4 0 M)
      refine jr_istore (pc := 44) F [(4, iv z11), (3, iv x2), (0, .ref (xad X (0, 0, 0))), (1, iv v_n), (2, iv v_what)] dX4_lowest_44 (by decide) rfl ?_
      obtain ⟨c12, k⟩ := Ok_grd k
      refine jifP (P := fun v => Rg v → J X 65 [(4, iv z11), (3, iv x2), (0, .ref (xad X (0, 0, 0))), (1, iv v_n), (2, iv v_what)] (iv v :: []) (gs z9 4 0 M)) (c := v_what = 0) (z9 1 1 8 z11) (z11) (fun Ht Hf => ?_) (fun r15 => ?_)
      · refine jr_iload_n (pc := 46) F 4 dX4_lowest_46 rfl rfl ?_
        refine jr_if_ne (pc := 47) (tgt := 63) F rgp_what dX4_lowest_47 (by decide) (fun h13 => ?_) (fun h13 => ?_)
        · refine jr_iload (pc := 63) F 0 dX4_lowest_63 rfl ?_
          exact Hf h13 r10
        refine jr_aload_n (pc := 50) F 2 dX4_lowest_50 rfl rfl ?_
        refine jr_getR (pc := 51) (b := (1, 1, 0)) F f_4_16 m0_0 rfl dX4_lowest_51 ?_
        refine jr_getR (pc := 54) (b := (1, 1, 8)) F f_4_136 (mL_0 h11_1) rfl dX4_lowest_54 ?_
        refine jr_iload (pc := 57) F 0 dX4_lowest_57 rfl ?_
        refine jr_iald (pc := 59) F (z9 1 1 8 z11) (mL_8 h11_1) (by decide) (c12 h13) rfl dX4_lowest_59 (fun r14 => ?_)
        refine jr_goto (pc := 60) (tgt := 65) F dX4_lowest_60 (by decide) ?_
        exact Ht h13 r14
      exact jr_iret (pc := 65) F hQ rfl dX4_lowest_65 ⟨_, _, rfl, r15, rfl, (Ok_some k)⟩
    have k := Ok_t h7 k
    refine jr_aload_n (pc := 25) F 1 dX4_lowest_25 rfl rfl ?_
    refine jr_bipush (pc := 26) F dX4_lowest_26 (by decide) ?_
    have k := Ok_bind k
    refine jr_callV (pc := 28) (st := []) F [iv (-2)] (snd_X4_refuse (M := M) (show Rg (-2) from ⟨by decide, by decide⟩) k) rfl ck_4_61 rfl m0_0 rfl rfl rfl (by decide) (Nat.le_of_ble_eq_true rfl) dX4_lowest_28 rfl (fun v g' hq => ?_)
    obtain ⟨x, L', rfl, r16, eg, k⟩ := hq
    obtain ⟨z17, ez⟩ : ∃ z : Int × GG, z = (x, L') := ⟨_, rfl⟩
    obtain ⟨rfl, rfl⟩ : x = z17.1 ∧ L' = z17.2 := ⟨by rw [ez], by rw [ez]⟩
    clear ez
    refine J_eq eg ?_
    show J X 31 [(3, iv x2), (0, .ref (xad X (0, 0, 0))), (1, iv v_n), (2, iv v_what)] [iv z17.1] (gs z17.2 4 0 M)
    exact jr_iret (pc := 31) F hQ rfl dX4_lowest_31 ⟨_, _, rfl, r16, rfl, (Ok_some k)⟩
  have k := Ok_t h5 k
  refine jr_aload_n (pc := 12) F 1 dX4_lowest_12 rfl rfl ?_
  refine jr_iload_n (pc := 13) F 0 dX4_lowest_13 rfl rfl ?_
  have k := Ok_bind k
  refine jr_callV (pc := 14) (st := []) F [iv x2] (snd_X4_refuse (M := M) r4 k) rfl ck_4_61 rfl m0_0 rfl rfl rfl (by decide) (Nat.le_of_ble_eq_true rfl) dX4_lowest_14 rfl (fun v g' hq => ?_)
  obtain ⟨x, L', rfl, r18, eg, k⟩ := hq
  obtain ⟨z19, ez⟩ : ∃ z : Int × GG, z = (x, L') := ⟨_, rfl⟩
  obtain ⟨rfl, rfl⟩ : x = z19.1 ∧ L' = z19.2 := ⟨by rw [ez], by rw [ez]⟩
  clear ez
  refine J_eq eg ?_
  show J X 17 [(3, iv x2), (0, .ref (xad X (0, 0, 0))), (1, iv v_n), (2, iv v_what)] [iv z19.1] (gs z19.2 4 0 M)
  exact jr_iret (pc := 17) F hQ rfl dX4_lowest_17 ⟨_, _, rfl, r18, rfl, (Ok_some k)⟩
set_option maxHeartbeats 4000000 in
set_option maxRecDepth 100000 in
theorem snd_X4_many {C0 : GG} {v_n : Int} {M : LT} (rgp_n : Rg v_n) {Q : (Int × GG) → Prop} (k : Ok (X4_many C0 v_n) Q) : MetG SL yX4_many cX4_many 4 (some .int) 1 (fun ad => [.ref (ad (0, 0, 0)), iv v_n]) (gs C0 4 0 M) (fun v g' => ∃ (x : Int) (L' : GG), v = some (iv x) ∧ Rg x ∧ g' = gs L' 4 0 M ∧ Q (x, L')) := by
  refine met_intro SL_ok (by decide +kernel) (fun ad => Nat.le_of_ble_eq_true rfl) (fun X F hQ hR => ?_)
  replace F : FX X cX4_many RX4 4 (some .int) SL 1 := F
  show J X 0 [(0, .ref (xad X (0, 0, 0))), (1, iv v_n)] [] (gs C0 4 0 M)
  refine jr_iload_n (pc := 0) F 1 dX4_many_0 rfl rfl ?_
  refine jr_iconst (pc := 1) F dX4_many_1 ?_
  refine jr_bipush (pc := 2) F dX4_many_2 (by decide) ?_
  refine jr_callS (pc := 4) (st := []) F [iv v_n, iv 2, iv 16] (snd_X4_outside (g0 := gs C0 4 0 M) rgp_n (show Rg 2 from ⟨by decide, by decide⟩) (show Rg 16 from ⟨by decide, by decide⟩) (X4_outside_ok _ _ _ )) rfl ck_4_57 rfl rfl (by decide) (Nat.le_of_ble_eq_true rfl) dX4_many_4 rfl (fun v g' hq => ?_)
  obtain ⟨x, rfl, r1, eg, hx⟩ := hq
  subst hx
  refine J_eq eg ?_
  show J X 7 [(0, .ref (xad X (0, 0, 0))), (1, iv v_n)] [iv (X4_outside_v v_n 2 16)] (gs C0 4 0 M)
  obtain ⟨x2, e3, k⟩ := Ok_let k
  have r4 : Rg x2 := rg_of e3 r1
  refine jr_top e3 ?_
  refine jr_istore_n (pc := 7) F [(2, iv x2), (0, .ref (xad X (0, 0, 0))), (1, iv v_n)] dX4_many_7 rfl (by decide) rfl ?_
  refine jr_iload_n (pc := 8) F 0 dX4_many_8 rfl rfl ?_
  refine jr_if_eq (pc := 9) (tgt := 18) F r4 dX4_many_9 (by decide) (fun h5 => ?_) (fun h5 => ?_)
  · have k := Ok_f (fun q => q h5) k
    refine jr_aload_n (pc := 18) F 1 dX4_many_18 rfl rfl ?_
    refine jr_getR (pc := 19) (b := (1, 0, 0)) F f_4_12 m0_0 rfl dX4_many_19 ?_
    refine jr_getI (pc := 22) F (C0 1 0 0 0) f_4_156 (mL_0 h11_0) rfl rfl dX4_many_22 (fun r6 => ?_)
    obtain ⟨x7, e8, k⟩ := Ok_let k
    have r9 : Rg x7 := rg_of e8 r6
    refine jr_top e8 ?_
    refine jr_istore_n (pc := 25) F [(3, iv x7), (2, iv x2), (0, .ref (xad X (0, 0, 0))), (1, iv v_n)] dX4_many_25 rfl (by decide) rfl ?_
    refine jr_aload_n (pc := 26) F 2 dX4_many_26 rfl rfl ?_
    refine jr_getR (pc := 27) (b := (1, 0, 0)) F f_4_12 m0_0 rfl dX4_many_27 ?_
    refine jr_iload_n (pc := 30) F 3 dX4_many_30 rfl rfl ?_
    have k := Ok_bind k
    refine jr_callV (pc := 31) (st := []) F [iv v_n] (snd_X2_becomeMany h11_0 (g0 := gs C0 4 0 M) rgp_n k) (gs_in C0 M 1 0 (by decide)) ck_4_100 rfl (mL_0 h11_0) rfl rfl rfl (by decide) (Nat.le_of_ble_eq_true rfl) dX4_many_31 rfl (fun v g' hq => ?_)
    obtain ⟨x, L', rfl, r10, eg, k⟩ := hq
    obtain ⟨z11, ez⟩ : ∃ z : Int × LT, z = (x, L') := ⟨_, rfl⟩
    obtain ⟨rfl, rfl⟩ : x = z11.1 ∧ L' = z11.2 := ⟨by rw [ez], by rw [ez]⟩
    clear ez
    rw [gs_comm (by decide)] at eg
    obtain ⟨C12, e13, k⟩ := Ok_let k
    rw [← e13] at eg
    refine J_eq eg ?_
    show J X 34 [(3, iv x7), (2, iv x2), (0, .ref (xad X (0, 0, 0))), (1, iv v_n)] [iv z11.1] (gs C12 4 0 M)
    refine jr_if_ne (pc := 34) (tgt := 44) F (rg_z r10) dX4_many_34 (by decide) (fun h14 => ?_) (fun h14 => ?_)
    · have k := Ok_t h14 k
      refine jr_aload_n (pc := 44) F 2 dX4_many_44 rfl rfl ?_
      refine jr_getR (pc := 45) (b := (3, 0, 0)) F f_4_29 m0_0 rfl dX4_many_45 ?_
      have k := Ok_bind k
      refine jr_callV (pc := 48) (st := []) F [] (snd_X3_forget (M := M)  k) rfl ck_4_90 rfl m3_0 rfl rfl rfl (by decide) (Nat.le_of_ble_eq_true rfl) dX4_many_48 rfl (fun v g' hq => ?_)
      obtain ⟨z16, rfl, eg, k⟩ := hq
      refine J_eq eg ?_
      show J X 51 [(3, iv x7), (2, iv x2), (0, .ref (xad X (0, 0, 0))), (1, iv v_n)] [] (gs z16 4 0 M)
      refine jr_iload_n (pc := 51) F 0 dX4_many_51 rfl rfl ?_
      exact jr_iret (pc := 52) F hQ rfl dX4_many_52 ⟨_, _, rfl, r9, rfl, (Ok_some k)⟩
    have k := Ok_f (fun q => q h14) k
    refine jr_aload_n (pc := 37) F 2 dX4_many_37 rfl rfl ?_
    refine jr_bipush (pc := 38) F dX4_many_38 (by decide) ?_
    have k := Ok_bind k
    refine jr_callV (pc := 40) (st := []) F [iv (-3)] (snd_X4_refuse (M := M) (show Rg (-3) from ⟨by decide, by decide⟩) k) rfl ck_4_61 rfl m0_0 rfl rfl rfl (by decide) (Nat.le_of_ble_eq_true rfl) dX4_many_40 rfl (fun v g' hq => ?_)
    obtain ⟨x, L', rfl, r17, eg, k⟩ := hq
    obtain ⟨z18, ez⟩ : ∃ z : Int × GG, z = (x, L') := ⟨_, rfl⟩
    obtain ⟨rfl, rfl⟩ : x = z18.1 ∧ L' = z18.2 := ⟨by rw [ez], by rw [ez]⟩
    clear ez
    refine J_eq eg ?_
    show J X 43 [(3, iv x7), (2, iv x2), (0, .ref (xad X (0, 0, 0))), (1, iv v_n)] [iv z18.1] (gs z18.2 4 0 M)
    exact jr_iret (pc := 43) F hQ rfl dX4_many_43 ⟨_, _, rfl, r17, rfl, (Ok_some k)⟩
  have k := Ok_t h5 k
  refine jr_aload_n (pc := 12) F 1 dX4_many_12 rfl rfl ?_
  refine jr_iload_n (pc := 13) F 0 dX4_many_13 rfl rfl ?_
  have k := Ok_bind k
  refine jr_callV (pc := 14) (st := []) F [iv x2] (snd_X4_refuse (M := M) r4 k) rfl ck_4_61 rfl m0_0 rfl rfl rfl (by decide) (Nat.le_of_ble_eq_true rfl) dX4_many_14 rfl (fun v g' hq => ?_)
  obtain ⟨x, L', rfl, r19, eg, k⟩ := hq
  obtain ⟨z20, ez⟩ : ∃ z : Int × GG, z = (x, L') := ⟨_, rfl⟩
  obtain ⟨rfl, rfl⟩ : x = z20.1 ∧ L' = z20.2 := ⟨by rw [ez], by rw [ez]⟩
  clear ez
  refine J_eq eg ?_
  show J X 17 [(2, iv x2), (0, .ref (xad X (0, 0, 0))), (1, iv v_n)] [iv z20.1] (gs z20.2 4 0 M)
  exact jr_iret (pc := 17) F hQ rfl dX4_many_17 ⟨_, _, rfl, r19, rfl, (Ok_some k)⟩
