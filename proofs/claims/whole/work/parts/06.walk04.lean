set_option maxHeartbeats 4000000 in
set_option maxRecDepth 100000 in
theorem snd_X5_isBeyond {L0 : LT} {v_n : Int} {g0 : GG} (rgp_n : Rg v_n) {Q : (Int) → Prop} (k : Ok (X5_isBeyond L0 v_n) Q) : MetG SL yX5_isBeyond cX5_isBeyond 4 (some .boolean) 0 (fun ad => [.ref (ad (4, 0, 0)), iv v_n]) (gs g0 4 0 L0) (fun v g' => ∃ x : Int, v = some (iv x) ∧ Bz x ∧ g' = gs g0 4 0 L0 ∧ Q x) := by
  refine met_intro SL_ok (by decide +kernel) (fun ad => Nat.le_of_ble_eq_true rfl) (fun X F hQ hR => ?_)
  replace F : FX X cX5_isBeyond RX5 4 (some .boolean) SL 0 := F
  show J X 0 [(0, .ref (xad X (4, 0, 0))), (1, iv v_n)] [] (gs g0 4 0 L0)
  refine jr_iconst (pc := 0) F dX5_isBeyond_0 ?_
  refine jr_istore_n (pc := 1) F [(2, iv 0), (0, .ref (xad X (4, 0, 0))), (1, iv v_n)] dX5_isBeyond_1 rfl (by decide) rfl ?_
  refine jr_iconst (pc := 2) F dX5_isBeyond_2 ?_
  refine jr_istore_n (pc := 3) F [(3, iv 0), (2, iv 0), (0, .ref (xad X (4, 0, 0))), (1, iv v_n)] dX5_isBeyond_3 rfl (by decide) rfl ?_
  refine jr_sub F [2, 3, 1, 0] [(0, .ref (xad X (4, 0, 0))), (1, iv v_n), (2, iv 0), (3, iv 0)] rfl ?_
  refine lpj (P := fun s : Int × Int => Bz (s.1) → Rg (s.2) → J X 4 [(0, .ref (xad X (4, 0, 0))), (1, iv v_n), (2, iv s.1), (3, iv s.2)] [] (gs g0 4 0 L0)) (PE := fun r : Int × Int => Bz (r.1) → Rg (r.2) → J X 47 [(0, .ref (xad X (4, 0, 0))), (1, iv v_n), (2, iv r.1), (3, iv r.2)] [] (gs g0 4 0 L0)) k (fun s1 Q2 k hC3 hE4 r6 r7 => ?_) (fun z5 k => ?_) (fun h => h (Or.inl rfl) (show Rg 0 from ⟨by decide, by decide⟩))
  · refine jr_iload_n (pc := 4) F 3 dX5_isBeyond_4 rfl rfl ?_
    refine jr_aload_n (pc := 5) F 0 dX5_isBeyond_5 rfl rfl ?_
    refine jr_getI (pc := 6) F (L0 0 7) f_5_99 m4_0 rfl (gs_at' _ _ _ _ _ _) dX5_isBeyond_6 (fun r8 => ?_)
    refine jr_icmp_ge (pc := 9) (tgt := 47) F r7 r8 dX5_isBeyond_9 (by decide) (fun h9 => ?_) (fun h9 => ?_)
    · have k := Ok_f (ng_lt h9) k
      exact hE4 (s1.1, s1.2) (Ok_some k) r6 r7
    have k := Ok_t h9 k
    obtain ⟨c10, k⟩ := Ok_grd k
    obtain ⟨c11, k⟩ := Ok_grd k
    refine jifP (P := fun v => Bz v → J X 40 [(0, .ref (xad X (4, 0, 0))), (1, iv v_n), (2, iv s1.1), (3, iv s1.2)] (iv v :: []) (gs g0 4 0 L0)) (c := (¬ s1.1 = 0) ∨ (((L0 14 s1.2) = 0) ∧ (v_n ≤ (L0 12 s1.2)))) (1) (0) (fun Ht Hf => ?_) (fun r17 => ?_)
    · refine jr_iload_n (pc := 12) F 2 dX5_isBeyond_12 rfl rfl ?_
      refine jr_if_ne (pc := 13) (tgt := 35) F (rg_z r6) dX5_isBeyond_13 (by decide) (fun h12 => ?_) (fun h12 => ?_)
      · refine jr_iconst (pc := 35) F dX5_isBeyond_35 ?_
        refine jr_goto (pc := 36) (tgt := 40) F dX5_isBeyond_36 (by decide) ?_
        exact Ht (Or.inl h12) (Or.inr rfl)
      refine jr_aload_n (pc := 16) F 0 dX5_isBeyond_16 rfl rfl ?_
      refine jr_getR (pc := 17) (b := (4, 0, 14)) F f_5_44 m4_0 rfl dX5_isBeyond_17 ?_
      refine jr_iload_n (pc := 20) F 3 dX5_isBeyond_20 rfl rfl ?_
      refine jr_iald (pc := 21) F (L0 14 s1.2) m4_14 (by decide) (c10 (fun q => q h12)) (gs_at' _ _ _ _ _ _) dX5_isBeyond_21 (fun r13 => ?_)
      refine jr_if_ne (pc := 22) (tgt := 39) F r13 dX5_isBeyond_22 (by decide) (fun h14 => ?_) (fun h14 => ?_)
      · refine jr_iconst (pc := 39) F dX5_isBeyond_39 ?_
        exact Hf (fun q => q.elim (fun q => q h12) (fun q => h14 q.1)) (Or.inl rfl)
      refine jr_aload_n (pc := 25) F 0 dX5_isBeyond_25 rfl rfl ?_
      refine jr_getR (pc := 26) (b := (4, 0, 12)) F f_5_38 m4_0 rfl dX5_isBeyond_26 ?_
      refine jr_iload_n (pc := 29) F 3 dX5_isBeyond_29 rfl rfl ?_
      refine jr_iald (pc := 30) F (L0 12 s1.2) m4_12 (by decide) (c11 (fun q => q h12) h14) (gs_at' _ _ _ _ _ _) dX5_isBeyond_30 (fun r15 => ?_)
      refine jr_iload_n (pc := 31) F 1 dX5_isBeyond_31 rfl rfl ?_
      refine jr_icmp_lt (pc := 32) (tgt := 39) F r15 rgp_n dX5_isBeyond_32 (by decide) (fun h16 => ?_) (fun h16 => ?_)
      · refine jr_iconst (pc := 39) F dX5_isBeyond_39 ?_
        exact Hf (fun q => q.elim (fun q => q h12) (fun q => (ng_le h16) q.2)) (Or.inl rfl)
      refine jr_iconst (pc := 35) F dX5_isBeyond_35 ?_
      refine jr_goto (pc := 36) (tgt := 40) F dX5_isBeyond_36 (by decide) ?_
      exact Ht (Or.inr ⟨h14, h16⟩) (Or.inr rfl)
    obtain ⟨x18, e19, k⟩ := Ok_let k
    have r20 : Bz x18 := bz_of e19 r17
    refine jr_top e19 ?_
    refine jr_istore_n (pc := 40) F [(2, iv x18), (0, .ref (xad X (4, 0, 0))), (1, iv v_n), (3, iv s1.2)] dX5_isBeyond_40 rfl (by decide) rfl ?_
    refine jr_iinc (pc := 41) F [(3, iv (w32 (s1.2 + 1))), (2, iv x18), (0, .ref (xad X (4, 0, 0))), (1, iv v_n)] 3 dX5_isBeyond_41 rfl (by decide) rfl ?_
    refine jr_goto (pc := 44) (tgt := 4) F dX5_isBeyond_44 (by decide) ?_
    refine jr_sub F [2, 3, 1, 0] [(0, .ref (xad X (4, 0, 0))), (1, iv v_n), (2, iv x18), (3, iv (w32 (s1.2 + 1)))] rfl ?_
    exact hC3 (x18, w32 (s1.2 + 1)) (Ok_some k) r20 (rg_w _)
  intro r21 r22
  refine jr_iload_n (pc := 47) F 2 dX5_isBeyond_47 rfl rfl ?_
  exact jr_zret (pc := 48) F hQ rfl r21 dX5_isBeyond_48 ⟨_, rfl, r21, rfl, (Ok_some k)⟩
set_option maxHeartbeats 4000000 in
set_option maxRecDepth 100000 in
theorem snd_X5_isYard {L0 : LT} {v_y : Int} {g0 : GG} (rgp_y : Rg v_y) {Q : (Int) → Prop} (k : Ok (X5_isYard_f L0 v_y) Q) : MetG SL yX5_isYard cX5_isYard 2 (some .boolean) 1 (fun ad => [.ref (ad (4, 0, 0)), iv v_y]) (gs g0 4 0 L0) (fun v g' => ∃ x : Int, v = some (iv x) ∧ Bz x ∧ g' = gs g0 4 0 L0 ∧ Q x) := by
  refine met_intro SL_ok (by decide +kernel) (fun ad => Nat.le_of_ble_eq_true rfl) (fun X F hQ hR => ?_)
  replace F : FX X cX5_isYard RX5 2 (some .boolean) SL 1 := F
  show J X 0 [(0, .ref (xad X (4, 0, 0))), (1, iv v_y)] [] (gs g0 4 0 L0)
  refine jr_iload_n (pc := 0) F 1 dX5_isYard_0 rfl rfl ?_
  refine jr_i2l (pc := 1) F rgp_y dX5_isYard_1 ?_
  refine jr_lconst (pc := 2) (v := 0) F dX5_isYard_2 (by decide) ?_
  refine jr_aload_n (pc := 3) F 0 dX5_isYard_3 rfl rfl ?_
  refine jr_getI (pc := 4) F (L0 0 0) f_5_7 m4_0 rfl (gs_at' _ _ _ _ _ _) dX5_isYard_4 (fun r1 => ?_)
  refine jr_iconst (pc := 7) F dX5_isYard_7 ?_
  refine jr_isub (pc := 8) F dX5_isYard_8 ?_
  refine jr_i2l (pc := 9) F (rg_w _) dX5_isYard_9 ?_
  refine jr_callS (pc := 10) (st := []) F [lgv v_y, lgv 0, lgv (w32 ((L0 0 0) - 1))] (snd_X5_in (g0 := gs g0 4 0 L0) (rl_rg rgp_y) (show Rl 0 from ⟨by decide, by decide⟩) (rl_rg (rg_w _)) (X5_in_ok _ _ _ )) rfl ck_5_95 rfl rfl (by decide) (Nat.le_of_ble_eq_true rfl) dX5_isYard_10 rfl (fun v g' hq => ?_)
  obtain ⟨x, rfl, r2, eg, hx⟩ := hq
  subst hx
  refine J_eq eg ?_
  show J X 13 [(0, .ref (xad X (4, 0, 0))), (1, iv v_y)] [iv (X5_in_v v_y 0 (w32 ((L0 0 0) - 1)))] (gs g0 4 0 L0)
  exact jr_zret (pc := 13) F hQ rfl r2 dX5_isYard_13 ⟨_, rfl, r2, rfl, (Ok_some k)⟩
set_option maxHeartbeats 4000000 in
set_option maxRecDepth 100000 in
theorem snd_X5_trainComes {L0 : LT} {v_weight : Int} {v_warmth : Int} {v_pace : Int} {g0 : GG} (rgp_weight : Rg v_weight) (rgp_warmth : Rg v_warmth) (rgp_pace : Rg v_pace) {Q : (LT) → Prop} (k : Ok (X5_trainComes L0 v_weight v_warmth v_pace) Q) : MetG SL yX5_trainComes cX5_trainComes 4 none 0 (fun ad => [.ref (ad (4, 0, 0)), iv v_weight, iv v_warmth, iv v_pace]) (gs g0 4 0 L0) (fun v g' => ∃ L' : LT, v = none ∧ g' = gs g0 4 0 L' ∧ Q L') := by
  refine met_intro SL_ok (by decide +kernel) (fun ad => Nat.le_of_ble_eq_true rfl) (fun X F hQ hR => ?_)
  replace F : FX X cX5_trainComes RX5 4 none SL 0 := F
  show J X 0 [(0, .ref (xad X (4, 0, 0))), (1, iv v_weight), (2, iv v_warmth), (3, iv v_pace)] [] (gs g0 4 0 L0)
  refine jr_aload_n (pc := 0) F 0 dX5_trainComes_0 rfl rfl ?_
  refine jr_getR (pc := 1) (b := (4, 0, 9)) F f_5_29 m4_0 rfl dX5_trainComes_1 ?_
  refine jr_aload_n (pc := 4) F 0 dX5_trainComes_4 rfl rfl ?_
  refine jr_getI (pc := 5) F (L0 0 7) f_5_99 m4_0 rfl (gs_at' _ _ _ _ _ _) dX5_trainComes_5 (fun r1 => ?_)
  refine jr_iload_n (pc := 8) F 1 dX5_trainComes_8 rfl rfl ?_
  obtain ⟨c2, k⟩ := Ok_grd k
  obtain ⟨L3, e4, k⟩ := Ok_let k
  refine jr_iast (pc := 9) F (gs g0 4 0 L3) m4_9 (by decide) c2 rgp_weight (put1 e4) dX5_trainComes_9 ?_
  refine jr_aload_n (pc := 10) F 0 dX5_trainComes_10 rfl rfl ?_
  refine jr_getR (pc := 11) (b := (4, 0, 10)) F f_5_32 m4_0 rfl dX5_trainComes_11 ?_
  refine jr_aload_n (pc := 14) F 0 dX5_trainComes_14 rfl rfl ?_
  refine jr_getI (pc := 15) F (L3 0 7) f_5_99 m4_0 rfl (gs_at' _ _ _ _ _ _) dX5_trainComes_15 (fun r5 => ?_)
  refine jr_iload_n (pc := 18) F 2 dX5_trainComes_18 rfl rfl ?_
  obtain ⟨c6, k⟩ := Ok_grd k
  obtain ⟨L7, e8, k⟩ := Ok_let k
  refine jr_iast (pc := 19) F (gs g0 4 0 L7) m4_10 (by decide) c6 rgp_warmth (put1 e8) dX5_trainComes_19 ?_
  refine jr_aload_n (pc := 20) F 0 dX5_trainComes_20 rfl rfl ?_
  refine jr_getR (pc := 21) (b := (4, 0, 11)) F f_5_35 m4_0 rfl dX5_trainComes_21 ?_
  refine jr_aload_n (pc := 24) F 0 dX5_trainComes_24 rfl rfl ?_
  refine jr_getI (pc := 25) F (L7 0 7) f_5_99 m4_0 rfl (gs_at' _ _ _ _ _ _) dX5_trainComes_25 (fun r9 => ?_)
  refine jr_iload_n (pc := 28) F 3 dX5_trainComes_28 rfl rfl ?_
  obtain ⟨c10, k⟩ := Ok_grd k
  obtain ⟨L11, e12, k⟩ := Ok_let k
  refine jr_iast (pc := 29) F (gs g0 4 0 L11) m4_11 (by decide) c10 rgp_pace (put1 e12) dX5_trainComes_29 ?_
  refine jr_aload_n (pc := 30) F 0 dX5_trainComes_30 rfl rfl ?_
  refine jr_getR (pc := 31) (b := (4, 0, 12)) F f_5_38 m4_0 rfl dX5_trainComes_31 ?_
  refine jr_aload_n (pc := 34) F 0 dX5_trainComes_34 rfl rfl ?_
  refine jr_getI (pc := 35) F (L11 0 7) f_5_99 m4_0 rfl (gs_at' _ _ _ _ _ _) dX5_trainComes_35 (fun r13 => ?_)
  refine jr_iconst (pc := 38) F dX5_trainComes_38 ?_
  obtain ⟨c14, k⟩ := Ok_grd k
  obtain ⟨L15, e16, k⟩ := Ok_let k
  refine jr_iast (pc := 39) F (gs g0 4 0 L15) m4_12 (by decide) c14 (show Rg (-1) from ⟨by decide, by decide⟩) (put1 e16) dX5_trainComes_39 ?_
  refine jr_aload_n (pc := 40) F 0 dX5_trainComes_40 rfl rfl ?_
  refine jr_getR (pc := 41) (b := (4, 0, 13)) F f_5_41 m4_0 rfl dX5_trainComes_41 ?_
  refine jr_aload_n (pc := 44) F 0 dX5_trainComes_44 rfl rfl ?_
  refine jr_getI (pc := 45) F (L15 0 7) f_5_99 m4_0 rfl (gs_at' _ _ _ _ _ _) dX5_trainComes_45 (fun r17 => ?_)
  refine jr_iconst (pc := 48) F dX5_trainComes_48 ?_
  obtain ⟨c18, k⟩ := Ok_grd k
  obtain ⟨L19, e20, k⟩ := Ok_let k
  refine jr_iast (pc := 49) F (gs g0 4 0 L19) m4_13 (by decide) c18 (show Rg 0 from ⟨by decide, by decide⟩) (put1 e20) dX5_trainComes_49 ?_
  refine jr_aload_n (pc := 50) F 0 dX5_trainComes_50 rfl rfl ?_
  refine jr_getR (pc := 51) (b := (4, 0, 14)) F f_5_44 m4_0 rfl dX5_trainComes_51 ?_
  refine jr_aload_n (pc := 54) F 0 dX5_trainComes_54 rfl rfl ?_
  refine jr_getI (pc := 55) F (L19 0 7) f_5_99 m4_0 rfl (gs_at' _ _ _ _ _ _) dX5_trainComes_55 (fun r21 => ?_)
  refine jr_iconst (pc := 58) F dX5_trainComes_58 ?_
  obtain ⟨c22, k⟩ := Ok_grd k
  obtain ⟨L23, e24, k⟩ := Ok_let k
  refine jr_iast (pc := 59) F (gs g0 4 0 L23) m4_14 (by decide) c22 (show Rg 0 from ⟨by decide, by decide⟩) (put1 e24) dX5_trainComes_59 ?_
  refine jr_aload_n (pc := 60) F 0 dX5_trainComes_60 rfl rfl ?_
  refine jr_dup (pc := 61) F dX5_trainComes_61 rfl ?_
  refine jr_getI (pc := 62) F (L23 0 7) f_5_99 m4_0 rfl (gs_at' _ _ _ _ _ _) dX5_trainComes_62 (fun r25 => ?_)
  refine jr_iconst (pc := 65) F dX5_trainComes_65 ?_
  refine jr_iadd (pc := 66) F dX5_trainComes_66 ?_
  obtain ⟨L26, e27, k⟩ := Ok_let k
  refine jr_putI (pc := 67) F (gs g0 4 0 L26) fw_5_99 m4_0 rfl (rg_w _) (put1 e27) dX5_trainComes_67 ?_
  exact jr_vret (pc := 70) F hQ rfl dX5_trainComes_70 ⟨_, rfl, rfl, (Ok_some k)⟩
set_option maxHeartbeats 4000000 in
set_option maxRecDepth 100000 in
theorem snd_X5_comesTold {L0 : LT} {v_k : Int} {g0 : GG} (rgp_k : Rg v_k) {Q : (Int × LT) → Prop} (k : Ok (X5_comesTold L0 v_k) Q) : MetG SL yX5_comesTold cX5_comesTold 6 (some .boolean) 5 (fun ad => [.ref (ad (4, 0, 0)), iv v_k]) (gs g0 4 0 L0) (fun v g' => ∃ (x : Int) (L' : LT), v = some (iv x) ∧ Bz x ∧ g' = gs g0 4 0 L' ∧ Q (x, L')) := by
  refine met_intro SL_ok (by decide +kernel) (fun ad => Nat.le_of_ble_eq_true rfl) (fun X F hQ hR => ?_)
  replace F : FX X cX5_comesTold RX5 6 (some .boolean) SL 5 := F
  show J X 0 [(0, .ref (xad X (4, 0, 0))), (1, iv v_k)] [] (gs g0 4 0 L0)
  refine jr_iconst (pc := 0) F dX5_comesTold_0 ?_
  refine jr_iload_n (pc := 1) F 1 dX5_comesTold_1 rfl rfl ?_
  refine jr_imul (pc := 2) F dX5_comesTold_2 ?_
  obtain ⟨x1, e2, k⟩ := Ok_let k
  have r3 : Rg x1 := rg_of e2 (rg_w _)
  refine jr_top e2 ?_
  refine jr_istore_n (pc := 3) F [(2, iv x1), (0, .ref (xad X (4, 0, 0))), (1, iv v_k)] dX5_comesTold_3 rfl (by decide) rfl ?_
  refine jr_aload_n (pc := 4) F 1 dX5_comesTold_4 rfl rfl ?_
  refine jr_getR (pc := 5) (b := (4, 0, 26)) F f_5_65 m4_0 rfl dX5_comesTold_5 ?_
  refine jr_iload_n (pc := 8) F 0 dX5_comesTold_8 rfl rfl ?_
  obtain ⟨c4, k⟩ := Ok_grd k
  refine jr_iald (pc := 9) F (L0 26 x1) m4_26 (by decide) c4 (gs_at' _ _ _ _ _ _) dX5_comesTold_9 (fun r5 => ?_)
  obtain ⟨x6, e7, k⟩ := Ok_let k
  have r8 : Rg x6 := rg_of e7 r5
  refine jr_top e7 ?_
  refine jr_istore_n (pc := 10) F [(3, iv x6), (2, iv x1), (0, .ref (xad X (4, 0, 0))), (1, iv v_k)] dX5_comesTold_10 rfl (by decide) rfl ?_
  refine jr_aload_n (pc := 11) F 2 dX5_comesTold_11 rfl rfl ?_
  refine jr_getR (pc := 12) (b := (4, 0, 26)) F f_5_65 m4_0 rfl dX5_comesTold_12 ?_
  refine jr_iload_n (pc := 15) F 1 dX5_comesTold_15 rfl rfl ?_
  refine jr_iconst (pc := 16) F dX5_comesTold_16 ?_
  refine jr_iadd (pc := 17) F dX5_comesTold_17 ?_
  obtain ⟨c9, k⟩ := Ok_grd k
  refine jr_iald (pc := 18) F (L0 26 (w32 (x1 + 1))) m4_26 (by decide) c9 (gs_at' _ _ _ _ _ _) dX5_comesTold_18 (fun r10 => ?_)
  obtain ⟨x11, e12, k⟩ := Ok_let k
  have r13 : Rg x11 := rg_of e12 r10
  refine jr_top e12 ?_
  refine jr_istore (pc := 19) F [(4, iv x11), (3, iv x6), (2, iv x1), (0, .ref (xad X (4, 0, 0))), (1, iv v_k)] dX5_comesTold_19 (by decide) rfl ?_
  refine jr_iconst (pc := 21) F dX5_comesTold_21 ?_
  refine jr_istore (pc := 22) F [(5, iv 1), (4, iv x11), (3, iv x6), (2, iv x1), (0, .ref (xad X (4, 0, 0))), (1, iv v_k)] dX5_comesTold_22 (by decide) rfl ?_
  refine jr_aload_n (pc := 24) F 4 dX5_comesTold_24 rfl rfl ?_
  refine jr_getR (pc := 25) (b := (4, 0, 25)) F f_5_62 m4_0 rfl dX5_comesTold_25 ?_
  refine jr_iload_n (pc := 28) F 5 dX5_comesTold_28 rfl rfl ?_
  obtain ⟨c14, k⟩ := Ok_grd k
  refine jr_iald (pc := 29) F (L0 25 v_k) m4_25 (by decide) c14 (gs_at' _ _ _ _ _ _) dX5_comesTold_29 (fun r15 => ?_)
  by_cases h16 : L0 25 v_k = 110
  · have k := Ok_t h16 k
    refine jr_lsw (pc := 30) (tgt := 80) (off := 50) F r15 (by decide) (by rw [h16]; decide) (by decide) dX5_comesTold_30 ?_
    refine jn (P := fun v : Int => Bz (v) → J X 107 [(5, iv 1), (4, iv x11), (3, iv x6), (2, iv x1), (0, .ref (xad X (4, 0, 0))), (1, iv v_k)] (iv (v) :: []) (gs g0 4 0 L0)) k (fun Q18 k hJ19 => ?_) (fun z17 k r25 => ?_)
    · refine jr_iload_n (pc := 80) F 2 dX5_comesTold_80 rfl rfl ?_
      refine jr_i2l (pc := 81) F r8 dX5_comesTold_81 ?_
      refine jr_ldc2 (pc := 82) F kc_5_174 dX5_comesTold_82 ?_
      refine jr_ldc2 (pc := 85) F kc_5_176 dX5_comesTold_85 ?_
      refine jr_callS (pc := 88) (st := []) F [lgv x6, lgv 2, lgv 16] (snd_X5_in (g0 := gs g0 4 0 L0) (rl_rg r8) (show Rl 2 from ⟨by decide, by decide⟩) (show Rl 16 from ⟨by decide, by decide⟩) (X5_in_ok _ _ _ )) rfl ck_5_95 rfl rfl (by decide) (Nat.le_of_ble_eq_true rfl) dX5_comesTold_88 rfl (fun v g' hq => ?_)
      obtain ⟨x, rfl, r20, eg, hx⟩ := hq
      subst hx
      refine J_eq eg ?_
      show J X 91 [(5, iv 1), (4, iv x11), (3, iv x6), (2, iv x1), (0, .ref (xad X (4, 0, 0))), (1, iv v_k)] [iv (X5_in_v x6 2 16)] (gs g0 4 0 L0)
      refine jr_if_eq (pc := 91) (tgt := 106) F (rg_z r20) dX5_comesTold_91 (by decide) (fun h21 => ?_) (fun h21 => ?_)
      · have k := Ok_f (fun q => q h21) k
        refine jr_iconst (pc := 106) F dX5_comesTold_106 ?_
        exact hJ19 0 (Ok_some k) (Or.inl rfl)
      have k := Ok_t h21 k
      refine jr_aload_n (pc := 94) F 4 dX5_comesTold_94 rfl rfl ?_
      refine jr_iload_n (pc := 95) F 2 dX5_comesTold_95 rfl rfl ?_
      have k := Ok_bind k
      refine jr_callV (pc := 96) (st := []) F [iv x6] (snd_X5_isBeyond  (g0 := g0) r8 k) rfl ck_5_178 rfl m4_0 rfl rfl rfl (by decide) (Nat.le_of_ble_eq_true rfl) dX5_comesTold_96 rfl (fun v g' hq => ?_)
      obtain ⟨z23, rfl, r22, eg, k⟩ := hq
      refine J_eq eg ?_
      show J X 99 [(5, iv 1), (4, iv x11), (3, iv x6), (2, iv x1), (0, .ref (xad X (4, 0, 0))), (1, iv v_k)] [iv z23] (gs g0 4 0 L0)
      refine jr_if_ne (pc := 99) (tgt := 106) F (rg_z r22) dX5_comesTold_99 (by decide) (fun h24 => ?_) (fun h24 => ?_)
      · have k := Ok_t h24 k
        refine jr_iconst (pc := 106) F dX5_comesTold_106 ?_
        exact hJ19 0 (Ok_some k) (Or.inl rfl)
      have k := Ok_f (fun q => q h24) k
      refine jr_iconst (pc := 102) F dX5_comesTold_102 ?_
      refine jr_goto (pc := 103) (tgt := 107) F dX5_comesTold_103 (by decide) ?_
      exact hJ19 1 (Ok_some k) (Or.inr rfl)
    refine jr_istore (pc := 107) F [(5, iv z17), (4, iv x11), (3, iv x6), (2, iv x1), (0, .ref (xad X (4, 0, 0))), (1, iv v_k)] dX5_comesTold_107 (by decide) rfl ?_
    refine jr_aload_n (pc := 109) F 4 dX5_comesTold_109 rfl rfl ?_
    refine jifP (P := fun v => Rg v → J X 123 [(5, iv z17), (4, iv x11), (3, iv x6), (2, iv x1), (0, .ref (xad X (4, 0, 0))), (1, iv v_k)] (iv v :: [.ref (xad X (4, 0, 0))]) (gs g0 4 0 L0)) (c := ¬ z17 = 0) (x6) (L0 0 0) (fun Ht Hf => ?_) (fun r28 => ?_)
    · refine jr_iload (pc := 110) F 0 dX5_comesTold_110 rfl ?_
      refine jr_if_eq (pc := 112) (tgt := 119) F (rg_z r25) dX5_comesTold_112 (by decide) (fun h26 => ?_) (fun h26 => ?_)
      · refine jr_aload_n (pc := 119) F 4 dX5_comesTold_119 rfl rfl ?_
        refine jr_getI (pc := 120) F (L0 0 0) f_5_7 m4_0 rfl (gs_at' _ _ _ _ _ _) dX5_comesTold_120 (fun r27 => ?_)
        exact Hf (fun q => q h26) r27
      refine jr_iload_n (pc := 115) F 2 dX5_comesTold_115 rfl rfl ?_
      refine jr_goto (pc := 116) (tgt := 123) F dX5_comesTold_116 (by decide) ?_
      exact Ht h26 r8
    obtain ⟨L29, e30, k⟩ := Ok_let k
    refine jr_putI (pc := 123) F (gs g0 4 0 L29) fw_5_7 m4_0 rfl r28 (put1 e30) dX5_comesTold_123 ?_
    refine jr_iload (pc := 126) F 0 dX5_comesTold_126 rfl ?_
    exact jr_zret (pc := 128) F hQ rfl r25 dX5_comesTold_128 ⟨_, _, rfl, r25, rfl, (Ok_some k)⟩
  have k := Ok_f h16 k
  by_cases h31 : L0 25 v_k = 121
  · have k := Ok_t h31 k
    refine jr_lsw (pc := 30) (tgt := 129) (off := 99) F r15 (by decide) (by rw [h31]; decide) (by decide) dX5_comesTold_30 ?_
    refine jifP (P := fun v => Bz v → J X 149 [(5, iv 1), (4, iv x11), (3, iv x6), (2, iv x1), (0, .ref (xad X (4, 0, 0))), (1, iv v_k)] (iv v :: []) (gs g0 4 0 L0)) (c := (¬ (X5_isYard_v L0 x6) = 0) ∧ (x11 < 6)) (1) (0) (fun Ht Hf => ?_) (fun r35 => ?_)
    · refine jr_aload_n (pc := 129) F 4 dX5_comesTold_129 rfl rfl ?_
      refine jr_iload_n (pc := 130) F 2 dX5_comesTold_130 rfl rfl ?_
      refine jr_callV (pc := 131) (st := []) F [iv x6] (snd_X5_isYard  (g0 := g0) r8 (X5_isYard_ok _ _ )) rfl ck_5_181 rfl m4_0 rfl rfl rfl (by decide) (Nat.le_of_ble_eq_true rfl) dX5_comesTold_131 rfl (fun v g' hq => ?_)
      obtain ⟨x, rfl, r32, eg, hx⟩ := hq
      subst hx
      refine J_eq eg ?_
      show J X 134 [(5, iv 1), (4, iv x11), (3, iv x6), (2, iv x1), (0, .ref (xad X (4, 0, 0))), (1, iv v_k)] [iv (X5_isYard_v L0 x6)] (gs g0 4 0 L0)
      refine jr_if_eq (pc := 134) (tgt := 148) F (rg_z r32) dX5_comesTold_134 (by decide) (fun h33 => ?_) (fun h33 => ?_)
      · refine jr_iconst (pc := 148) F dX5_comesTold_148 ?_
        exact Hf (fun q => (fun q => q h33) q.1) (Or.inl rfl)
      refine jr_iload (pc := 137) F 1 dX5_comesTold_137 rfl ?_
      refine jr_bipush (pc := 139) F dX5_comesTold_139 (by decide) ?_
      refine jr_icmp_ge (pc := 141) (tgt := 148) F r13 (show Rg 6 from ⟨by decide, by decide⟩) dX5_comesTold_141 (by decide) (fun h34 => ?_) (fun h34 => ?_)
      · refine jr_iconst (pc := 148) F dX5_comesTold_148 ?_
        exact Hf (fun q => (ng_lt h34) q.2) (Or.inl rfl)
      refine jr_iconst (pc := 144) F dX5_comesTold_144 ?_
      refine jr_goto (pc := 145) (tgt := 149) F dX5_comesTold_145 (by decide) ?_
      exact Ht ⟨h33, h34⟩ (Or.inr rfl)
    obtain ⟨x36, e37, k⟩ := Ok_let k
    have r38 : Bz x36 := bz_of e37 r35
    refine jr_top e37 ?_
    refine jr_istore (pc := 149) F [(5, iv x36), (4, iv x11), (3, iv x6), (2, iv x1), (0, .ref (xad X (4, 0, 0))), (1, iv v_k)] dX5_comesTold_149 (by decide) rfl ?_
    refine jr_iload (pc := 151) F 0 dX5_comesTold_151 rfl ?_
    refine jr_if_eq (pc := 153) (tgt := 192) F (rg_z r38) dX5_comesTold_153 (by decide) (fun h39 => ?_) (fun h39 => ?_)
    · have k := Ok_f (fun q => q h39) k
      refine jr_iload (pc := 192) F 0 dX5_comesTold_192 rfl ?_
      exact jr_zret (pc := 194) F hQ rfl r38 dX5_comesTold_194 ⟨_, _, rfl, r38, rfl, (Ok_some k)⟩
    have k := Ok_t h39 k
    refine jr_aload_n (pc := 156) F 4 dX5_comesTold_156 rfl rfl ?_
    refine jr_getR (pc := 157) (b := (4, 0, 2)) F f_5_13 m4_0 rfl dX5_comesTold_157 ?_
    refine jr_iload_n (pc := 160) F 2 dX5_comesTold_160 rfl rfl ?_
    refine jr_iload (pc := 161) F 1 dX5_comesTold_161 rfl ?_
    obtain ⟨c40, k⟩ := Ok_grd k
    obtain ⟨L41, e42, k⟩ := Ok_let k
    refine jr_iast (pc := 163) F (gs g0 4 0 L41) m4_2 (by decide) c40 r13 (put1 e42) dX5_comesTold_163 ?_
    refine jr_aload_n (pc := 164) F 4 dX5_comesTold_164 rfl rfl ?_
    refine jr_getR (pc := 165) (b := (4, 0, 3)) F f_5_17 m4_0 rfl dX5_comesTold_165 ?_
    refine jr_iload_n (pc := 168) F 2 dX5_comesTold_168 rfl rfl ?_
    refine jr_aload_n (pc := 169) F 4 dX5_comesTold_169 rfl rfl ?_
    refine jr_getR (pc := 170) (b := (4, 0, 26)) F f_5_65 m4_0 rfl dX5_comesTold_170 ?_
    refine jr_iload_n (pc := 173) F 3 dX5_comesTold_173 rfl rfl ?_
    refine jr_iconst (pc := 174) F dX5_comesTold_174 ?_
    refine jr_iadd (pc := 175) F dX5_comesTold_175 ?_
    obtain ⟨c43, k⟩ := Ok_grd k
    refine jr_iald (pc := 176) F (L41 26 (w32 (x1 + 2))) m4_26 (by decide) c43 (gs_at' _ _ _ _ _ _) dX5_comesTold_176 (fun r44 => ?_)
    obtain ⟨L45, e46, k⟩ := Ok_let k
    refine jr_iast (pc := 177) F (gs g0 4 0 L45) m4_3 (by decide) c40 r44 (put1 e46) dX5_comesTold_177 ?_
    refine jr_aload_n (pc := 178) F 4 dX5_comesTold_178 rfl rfl ?_
    refine jr_getR (pc := 179) (b := (4, 0, 4)) F f_5_20 m4_0 rfl dX5_comesTold_179 ?_
    refine jr_iload_n (pc := 182) F 2 dX5_comesTold_182 rfl rfl ?_
    refine jr_aload_n (pc := 183) F 4 dX5_comesTold_183 rfl rfl ?_
    refine jr_getR (pc := 184) (b := (4, 0, 26)) F f_5_65 m4_0 rfl dX5_comesTold_184 ?_
    refine jr_iload_n (pc := 187) F 3 dX5_comesTold_187 rfl rfl ?_
    refine jr_iconst (pc := 188) F dX5_comesTold_188 ?_
    refine jr_iadd (pc := 189) F dX5_comesTold_189 ?_
    obtain ⟨c47, k⟩ := Ok_grd k
    refine jr_iald (pc := 190) F (L45 26 (w32 (x1 + 3))) m4_26 (by decide) c47 (gs_at' _ _ _ _ _ _) dX5_comesTold_190 (fun r48 => ?_)
    obtain ⟨L49, e50, k⟩ := Ok_let k
    refine jr_iast (pc := 191) F (gs g0 4 0 L49) m4_4 (by decide) c40 r48 (put1 e50) dX5_comesTold_191 ?_
    refine jr_iload (pc := 192) F 0 dX5_comesTold_192 rfl ?_
    exact jr_zret (pc := 194) F hQ rfl r38 dX5_comesTold_194 ⟨_, _, rfl, r38, rfl, (Ok_some k)⟩
  have k := Ok_f h31 k
  by_cases h51 : L0 25 v_k = 116
  · have k := Ok_t h51 k
    refine jr_lsw (pc := 30) (tgt := 195) (off := 165) F r15 (by decide) (by rw [h51]; decide) (by decide) dX5_comesTold_30 ?_
    obtain ⟨c52, k⟩ := Ok_grd k
    refine jifP (P := fun v => Bz v → J X 239 [(5, iv 1), (4, iv x11), (3, iv x6), (2, iv x1), (0, .ref (xad X (4, 0, 0))), (1, iv v_k)] (iv v :: []) (gs g0 4 0 L0)) (c := ((¬ (X5_in_v x6 1 60) = 0) ∧ (¬ (X5_in_v (L0 26 (w32 (x1 + 2))) 1 3) = 0)) ∧ ((L0 0 7) < 5)) (1) (0) (fun Ht Hf => ?_) (fun r60 => ?_)
    · refine jr_iload_n (pc := 195) F 2 dX5_comesTold_195 rfl rfl ?_
      refine jr_i2l (pc := 196) F r8 dX5_comesTold_196 ?_
      refine jr_lconst (pc := 197) (v := 1) F dX5_comesTold_197 (by decide) ?_
      refine jr_ldc2 (pc := 198) F kc_5_184 dX5_comesTold_198 ?_
      refine jr_callS (pc := 201) (st := []) F [lgv x6, lgv 1, lgv 60] (snd_X5_in (g0 := gs g0 4 0 L0) (rl_rg r8) (show Rl 1 from ⟨by decide, by decide⟩) (show Rl 60 from ⟨by decide, by decide⟩) (X5_in_ok _ _ _ )) rfl ck_5_95 rfl rfl (by decide) (Nat.le_of_ble_eq_true rfl) dX5_comesTold_201 rfl (fun v g' hq => ?_)
      obtain ⟨x, rfl, r53, eg, hx⟩ := hq
      subst hx
      refine J_eq eg ?_
      show J X 204 [(5, iv 1), (4, iv x11), (3, iv x6), (2, iv x1), (0, .ref (xad X (4, 0, 0))), (1, iv v_k)] [iv (X5_in_v x6 1 60)] (gs g0 4 0 L0)
      refine jr_if_eq (pc := 204) (tgt := 238) F (rg_z r53) dX5_comesTold_204 (by decide) (fun h54 => ?_) (fun h54 => ?_)
      · refine jr_iconst (pc := 238) F dX5_comesTold_238 ?_
        exact Hf (fun q => (fun q => (fun q => q h54) q.1) q.1) (Or.inl rfl)
      refine jr_aload_n (pc := 207) F 4 dX5_comesTold_207 rfl rfl ?_
      refine jr_getR (pc := 208) (b := (4, 0, 26)) F f_5_65 m4_0 rfl dX5_comesTold_208 ?_
      refine jr_iload_n (pc := 211) F 3 dX5_comesTold_211 rfl rfl ?_
      refine jr_iconst (pc := 212) F dX5_comesTold_212 ?_
      refine jr_iadd (pc := 213) F dX5_comesTold_213 ?_
      refine jr_iald (pc := 214) F (L0 26 (w32 (x1 + 2))) m4_26 (by decide) (c52 h54) (gs_at' _ _ _ _ _ _) dX5_comesTold_214 (fun r55 => ?_)
      refine jr_i2l (pc := 215) F r55 dX5_comesTold_215 ?_
      refine jr_lconst (pc := 216) (v := 1) F dX5_comesTold_216 (by decide) ?_
      refine jr_ldc2 (pc := 217) F kc_5_186 dX5_comesTold_217 ?_
      refine jr_callS (pc := 220) (st := []) F [lgv (L0 26 (w32 (x1 + 2))), lgv 1, lgv 3] (snd_X5_in (g0 := gs g0 4 0 L0) (rl_rg r55) (show Rl 1 from ⟨by decide, by decide⟩) (show Rl 3 from ⟨by decide, by decide⟩) (X5_in_ok _ _ _ )) rfl ck_5_95 rfl rfl (by decide) (Nat.le_of_ble_eq_true rfl) dX5_comesTold_220 rfl (fun v g' hq => ?_)
      obtain ⟨x, rfl, r56, eg, hx⟩ := hq
      subst hx
      refine J_eq eg ?_
      show J X 223 [(5, iv 1), (4, iv x11), (3, iv x6), (2, iv x1), (0, .ref (xad X (4, 0, 0))), (1, iv v_k)] [iv (X5_in_v (L0 26 (w32 (x1 + 2))) 1 3)] (gs g0 4 0 L0)
      refine jr_if_eq (pc := 223) (tgt := 238) F (rg_z r56) dX5_comesTold_223 (by decide) (fun h57 => ?_) (fun h57 => ?_)
      · refine jr_iconst (pc := 238) F dX5_comesTold_238 ?_
        exact Hf (fun q => (fun q => (fun q => q h57) q.2) q.1) (Or.inl rfl)
      refine jr_aload_n (pc := 226) F 4 dX5_comesTold_226 rfl rfl ?_
      refine jr_getI (pc := 227) F (L0 0 7) f_5_99 m4_0 rfl (gs_at' _ _ _ _ _ _) dX5_comesTold_227 (fun r58 => ?_)
      refine jr_iconst (pc := 230) F dX5_comesTold_230 ?_
      refine jr_icmp_ge (pc := 231) (tgt := 238) F r58 (show Rg 5 from ⟨by decide, by decide⟩) dX5_comesTold_231 (by decide) (fun h59 => ?_) (fun h59 => ?_)
      · refine jr_iconst (pc := 238) F dX5_comesTold_238 ?_
        exact Hf (fun q => (ng_lt h59) q.2) (Or.inl rfl)
      refine jr_iconst (pc := 234) F dX5_comesTold_234 ?_
      refine jr_goto (pc := 235) (tgt := 239) F dX5_comesTold_235 (by decide) ?_
      exact Ht ⟨⟨h54, h57⟩, h59⟩ (Or.inr rfl)
    obtain ⟨x61, e62, k⟩ := Ok_let k
    have r63 : Bz x61 := bz_of e62 r60
    refine jr_top e62 ?_
    refine jr_istore (pc := 239) F [(5, iv x61), (4, iv x11), (3, iv x6), (2, iv x1), (0, .ref (xad X (4, 0, 0))), (1, iv v_k)] dX5_comesTold_239 (by decide) rfl ?_
    refine jr_iload (pc := 241) F 0 dX5_comesTold_241 rfl ?_
    refine jr_if_eq (pc := 243) (tgt := 261) F (rg_z r63) dX5_comesTold_243 (by decide) (fun h64 => ?_) (fun h64 => ?_)
    · have k := Ok_f (fun q => q h64) k
      refine jr_iload (pc := 261) F 0 dX5_comesTold_261 rfl ?_
      exact jr_zret (pc := 263) F hQ rfl r63 dX5_comesTold_263 ⟨_, _, rfl, r63, rfl, (Ok_some k)⟩
    have k := Ok_t h64 k
    refine jr_aload_n (pc := 246) F 4 dX5_comesTold_246 rfl rfl ?_
    refine jr_iload_n (pc := 247) F 2 dX5_comesTold_247 rfl rfl ?_
    refine jr_iload (pc := 248) F 1 dX5_comesTold_248 rfl ?_
    refine jr_aload_n (pc := 250) F 4 dX5_comesTold_250 rfl rfl ?_
    refine jr_getR (pc := 251) (b := (4, 0, 26)) F f_5_65 m4_0 rfl dX5_comesTold_251 ?_
    refine jr_iload_n (pc := 254) F 3 dX5_comesTold_254 rfl rfl ?_
    refine jr_iconst (pc := 255) F dX5_comesTold_255 ?_
    refine jr_iadd (pc := 256) F dX5_comesTold_256 ?_
    obtain ⟨c65, k⟩ := Ok_grd k
    refine jr_iald (pc := 257) F (L0 26 (w32 (x1 + 2))) m4_26 (by decide) c65 (gs_at' _ _ _ _ _ _) dX5_comesTold_257 (fun r66 => ?_)
    have k := Ok_bind k
    refine jr_callV (pc := 258) (st := []) F [iv x6, iv x11, iv (L0 26 (w32 (x1 + 2)))] (snd_X5_trainComes  (g0 := g0) r8 r13 r66 k) rfl ck_5_188 rfl m4_0 rfl rfl rfl (by decide) (Nat.le_of_ble_eq_true rfl) dX5_comesTold_258 rfl (fun v g' hq => ?_)
    obtain ⟨z68, rfl, eg, k⟩ := hq
    refine J_eq eg ?_
    show J X 261 [(5, iv x61), (4, iv x11), (3, iv x6), (2, iv x1), (0, .ref (xad X (4, 0, 0))), (1, iv v_k)] [] (gs g0 4 0 z68)
    refine jr_iload (pc := 261) F 0 dX5_comesTold_261 rfl ?_
    exact jr_zret (pc := 263) F hQ rfl r63 dX5_comesTold_263 ⟨_, _, rfl, r63, rfl, (Ok_some k)⟩
  have k := Ok_f h51 k
  by_cases h69 : L0 25 v_k = 119
  · have k := Ok_t h69 k
    refine jr_lsw (pc := 30) (tgt := 264) (off := 234) F r15 (by decide) (by rw [h69]; decide) (by decide) dX5_comesTold_30 ?_
    obtain ⟨c70, k⟩ := Ok_grd k
    refine jifP (P := fun v => Bz v → J X 293 [(5, iv 1), (4, iv x11), (3, iv x6), (2, iv x1), (0, .ref (xad X (4, 0, 0))), (1, iv v_k)] (iv v :: []) (gs g0 4 0 L0)) (c := ((¬ (X5_isTrain_v L0 x6) = 0) ∧ (x11 ≤ 48)) ∧ ((L0 14 x6) = 0)) (1) (0) (fun Ht Hf => ?_) (fun r76 => ?_)
    · refine jr_aload_n (pc := 264) F 4 dX5_comesTold_264 rfl rfl ?_
      refine jr_iload_n (pc := 265) F 2 dX5_comesTold_265 rfl rfl ?_
      refine jr_callV (pc := 266) (st := []) F [iv x6] (snd_X5_isTrain  (g0 := g0) r8 (X5_isTrain_ok _ _ )) rfl ck_5_192 rfl m4_0 rfl rfl rfl (by decide) (Nat.le_of_ble_eq_true rfl) dX5_comesTold_266 rfl (fun v g' hq => ?_)
      obtain ⟨x, rfl, r71, eg, hx⟩ := hq
      subst hx
      refine J_eq eg ?_
      show J X 269 [(5, iv 1), (4, iv x11), (3, iv x6), (2, iv x1), (0, .ref (xad X (4, 0, 0))), (1, iv v_k)] [iv (X5_isTrain_v L0 x6)] (gs g0 4 0 L0)
      refine jr_if_eq (pc := 269) (tgt := 292) F (rg_z r71) dX5_comesTold_269 (by decide) (fun h72 => ?_) (fun h72 => ?_)
      · refine jr_iconst (pc := 292) F dX5_comesTold_292 ?_
        exact Hf (fun q => (fun q => (fun q => q h72) q.1) q.1) (Or.inl rfl)
      refine jr_iload (pc := 272) F 1 dX5_comesTold_272 rfl ?_
      refine jr_bipush (pc := 274) F dX5_comesTold_274 (by decide) ?_
      refine jr_icmp_gt (pc := 276) (tgt := 292) F r13 (show Rg 48 from ⟨by decide, by decide⟩) dX5_comesTold_276 (by decide) (fun h73 => ?_) (fun h73 => ?_)
      · refine jr_iconst (pc := 292) F dX5_comesTold_292 ?_
        exact Hf (fun q => (fun q => (ng_le h73) q.2) q.1) (Or.inl rfl)
      refine jr_aload_n (pc := 279) F 4 dX5_comesTold_279 rfl rfl ?_
      refine jr_getR (pc := 280) (b := (4, 0, 14)) F f_5_44 m4_0 rfl dX5_comesTold_280 ?_
      refine jr_iload_n (pc := 283) F 2 dX5_comesTold_283 rfl rfl ?_
      refine jr_iald (pc := 284) F (L0 14 x6) m4_14 (by decide) (c70 ⟨h72, h73⟩) (gs_at' _ _ _ _ _ _) dX5_comesTold_284 (fun r74 => ?_)
      refine jr_if_ne (pc := 285) (tgt := 292) F r74 dX5_comesTold_285 (by decide) (fun h75 => ?_) (fun h75 => ?_)
      · refine jr_iconst (pc := 292) F dX5_comesTold_292 ?_
        exact Hf (fun q => h75 q.2) (Or.inl rfl)
      refine jr_iconst (pc := 288) F dX5_comesTold_288 ?_
      refine jr_goto (pc := 289) (tgt := 293) F dX5_comesTold_289 (by decide) ?_
      exact Ht ⟨⟨h72, h73⟩, h75⟩ (Or.inr rfl)
    obtain ⟨x77, e78, k⟩ := Ok_let k
    have r79 : Bz x77 := bz_of e78 r76
    refine jr_top e78 ?_
    refine jr_istore (pc := 293) F [(5, iv x77), (4, iv x11), (3, iv x6), (2, iv x1), (0, .ref (xad X (4, 0, 0))), (1, iv v_k)] dX5_comesTold_293 (by decide) rfl ?_
    refine jr_iload (pc := 295) F 0 dX5_comesTold_295 rfl ?_
    refine jr_if_eq (pc := 297) (tgt := 308) F (rg_z r79) dX5_comesTold_297 (by decide) (fun h80 => ?_) (fun h80 => ?_)
    · have k := Ok_f (fun q => q h80) k
      refine jr_iload (pc := 308) F 0 dX5_comesTold_308 rfl ?_
      exact jr_zret (pc := 310) F hQ rfl r79 dX5_comesTold_310 ⟨_, _, rfl, r79, rfl, (Ok_some k)⟩
    have k := Ok_t h80 k
    refine jr_aload_n (pc := 300) F 4 dX5_comesTold_300 rfl rfl ?_
    refine jr_getR (pc := 301) (b := (4, 0, 13)) F f_5_41 m4_0 rfl dX5_comesTold_301 ?_
    refine jr_iload_n (pc := 304) F 2 dX5_comesTold_304 rfl rfl ?_
    refine jr_iload (pc := 305) F 1 dX5_comesTold_305 rfl ?_
    obtain ⟨c81, k⟩ := Ok_grd k
    obtain ⟨L82, e83, k⟩ := Ok_let k
    refine jr_iast (pc := 307) F (gs g0 4 0 L82) m4_13 (by decide) c81 r13 (put1 e83) dX5_comesTold_307 ?_
    refine jr_iload (pc := 308) F 0 dX5_comesTold_308 rfl ?_
    exact jr_zret (pc := 310) F hQ rfl r79 dX5_comesTold_310 ⟨_, _, rfl, r79, rfl, (Ok_some k)⟩
  have k := Ok_f h69 k
  by_cases h84 : L0 25 v_k = 99
  · have k := Ok_t h84 k
    refine jr_lsw (pc := 30) (tgt := 311) (off := 281) F r15 (by decide) (by rw [h84]; decide) (by decide) dX5_comesTold_30 ?_
    refine jr_aload_n (pc := 311) F 4 dX5_comesTold_311 rfl rfl ?_
    refine jr_iload_n (pc := 312) F 2 dX5_comesTold_312 rfl rfl ?_
    obtain ⟨L85, e86, k⟩ := Ok_let k
    refine jr_putI (pc := 313) F (gs g0 4 0 L85) fw_5_23 m4_0 rfl r8 (put1 e86) dX5_comesTold_313 ?_
    refine jr_aload_n (pc := 316) F 4 dX5_comesTold_316 rfl rfl ?_
    refine jr_iload (pc := 317) F 1 dX5_comesTold_317 rfl ?_
    obtain ⟨L87, e88, k⟩ := Ok_let k
    refine jr_putI (pc := 319) F (gs g0 4 0 L87) fw_5_26 m4_0 rfl r13 (put1 e88) dX5_comesTold_319 ?_
    refine jr_iconst (pc := 322) F dX5_comesTold_322 ?_
    exact jr_zret (pc := 323) F hQ rfl (Or.inr rfl) dX5_comesTold_323 ⟨_, _, rfl, (Or.inr rfl), rfl, (Ok_some k)⟩
  have k := Ok_f h84 k
  refine jr_lsw (pc := 30) (tgt := 324) (off := 294) F r15 (by decide) (by simp [Op.lookupswitch.offset, lsw_n2 h16, lsw_n2 h31, lsw_n2 h51, lsw_n2 h69, lsw_n2 h84]) (by decide) dX5_comesTold_30 ?_
  refine jifP (P := fun v => Bz v → J X 353 [(5, iv 1), (4, iv x11), (3, iv x6), (2, iv x1), (0, .ref (xad X (4, 0, 0))), (1, iv v_k)] (iv v :: []) (gs g0 4 0 L0)) (c := (¬ (X5_in_v x6 1 72) = 0) ∧ ((w32 ((L0 0 4) + x6)) ≤ 999)) (1) (0) (fun Ht Hf => ?_) (fun r93 => ?_)
  · refine jr_iload_n (pc := 324) F 2 dX5_comesTold_324 rfl rfl ?_
    refine jr_i2l (pc := 325) F r8 dX5_comesTold_325 ?_
    refine jr_lconst (pc := 326) (v := 1) F dX5_comesTold_326 (by decide) ?_
    refine jr_ldc2 (pc := 327) F kc_5_195 dX5_comesTold_327 ?_
    refine jr_callS (pc := 330) (st := []) F [lgv x6, lgv 1, lgv 72] (snd_X5_in (g0 := gs g0 4 0 L0) (rl_rg r8) (show Rl 1 from ⟨by decide, by decide⟩) (show Rl 72 from ⟨by decide, by decide⟩) (X5_in_ok _ _ _ )) rfl ck_5_95 rfl rfl (by decide) (Nat.le_of_ble_eq_true rfl) dX5_comesTold_330 rfl (fun v g' hq => ?_)
    obtain ⟨x, rfl, r89, eg, hx⟩ := hq
    subst hx
    refine J_eq eg ?_
    show J X 333 [(5, iv 1), (4, iv x11), (3, iv x6), (2, iv x1), (0, .ref (xad X (4, 0, 0))), (1, iv v_k)] [iv (X5_in_v x6 1 72)] (gs g0 4 0 L0)
    refine jr_if_eq (pc := 333) (tgt := 352) F (rg_z r89) dX5_comesTold_333 (by decide) (fun h90 => ?_) (fun h90 => ?_)
    · refine jr_iconst (pc := 352) F dX5_comesTold_352 ?_
      exact Hf (fun q => (fun q => q h90) q.1) (Or.inl rfl)
    refine jr_aload_n (pc := 336) F 4 dX5_comesTold_336 rfl rfl ?_
    refine jr_getI (pc := 337) F (L0 0 4) f_5_120 m4_0 rfl (gs_at' _ _ _ _ _ _) dX5_comesTold_337 (fun r91 => ?_)
    refine jr_iload_n (pc := 340) F 2 dX5_comesTold_340 rfl rfl ?_
    refine jr_iadd (pc := 341) F dX5_comesTold_341 ?_
    refine jr_sipush (pc := 342) F dX5_comesTold_342 (by decide) ?_
    refine jr_icmp_gt (pc := 345) (tgt := 352) F (rg_w _) (show Rg 999 from ⟨by decide, by decide⟩) dX5_comesTold_345 (by decide) (fun h92 => ?_) (fun h92 => ?_)
    · refine jr_iconst (pc := 352) F dX5_comesTold_352 ?_
      exact Hf (fun q => (ng_le h92) q.2) (Or.inl rfl)
    refine jr_iconst (pc := 348) F dX5_comesTold_348 ?_
    refine jr_goto (pc := 349) (tgt := 353) F dX5_comesTold_349 (by decide) ?_
    exact Ht ⟨h90, h92⟩ (Or.inr rfl)
  obtain ⟨x94, e95, k⟩ := Ok_let k
  have r96 : Bz x94 := bz_of e95 r93
  refine jr_top e95 ?_
  refine jr_istore (pc := 353) F [(5, iv x94), (4, iv x11), (3, iv x6), (2, iv x1), (0, .ref (xad X (4, 0, 0))), (1, iv v_k)] dX5_comesTold_353 (by decide) rfl ?_
  refine jr_iload (pc := 355) F 0 dX5_comesTold_355 rfl ?_
  refine jr_if_eq (pc := 357) (tgt := 365) F (rg_z r96) dX5_comesTold_357 (by decide) (fun h97 => ?_) (fun h97 => ?_)
  · have k := Ok_f (fun q => q h97) k
    refine jr_iload (pc := 365) F 0 dX5_comesTold_365 rfl ?_
    exact jr_zret (pc := 367) F hQ rfl r96 dX5_comesTold_367 ⟨_, _, rfl, r96, rfl, (Ok_some k)⟩
  have k := Ok_t h97 k
  refine jr_aload_n (pc := 360) F 4 dX5_comesTold_360 rfl rfl ?_
  refine jr_iload_n (pc := 361) F 2 dX5_comesTold_361 rfl rfl ?_
  have k := Ok_bind k
  refine jr_callV (pc := 362) (st := []) F [iv x6] (snd_X5_goHours  (g0 := g0) r8 k) rfl ck_5_197 rfl m4_0 rfl rfl rfl (by decide) (Nat.le_of_ble_eq_true rfl) dX5_comesTold_362 rfl (fun v g' hq => ?_)
  obtain ⟨z99, rfl, eg, k⟩ := hq
  refine J_eq eg ?_
  show J X 365 [(5, iv x94), (4, iv x11), (3, iv x6), (2, iv x1), (0, .ref (xad X (4, 0, 0))), (1, iv v_k)] [] (gs g0 4 0 z99)
  refine jr_iload (pc := 365) F 0 dX5_comesTold_365 rfl ?_
  exact jr_zret (pc := 367) F hQ rfl r96 dX5_comesTold_367 ⟨_, _, rfl, r96, rfl, (Ok_some k)⟩
set_option maxHeartbeats 4000000 in
set_option maxRecDepth 100000 in
theorem snd_X5_count {L0 : LT} {v_what : Int} {g0 : GG} (rgp_what : Rg v_what) {Q : (Int × LT) → Prop} (k : Ok (X5_count L0 v_what) Q) : MetG SL yX5_count cX5_count 2 (some .int) 1 (fun ad => [.ref (ad (4, 0, 0)), iv v_what]) (gs g0 4 0 L0) (fun v g' => ∃ (x : Int) (L' : LT), v = some (iv x) ∧ Rg x ∧ g' = gs g0 4 0 L' ∧ Q (x, L')) := by
  refine met_intro SL_ok (by decide +kernel) (fun ad => Nat.le_of_ble_eq_true rfl) (fun X F hQ hR => ?_)
  replace F : FX X cX5_count RX5 2 (some .int) SL 1 := F
  show J X 0 [(0, .ref (xad X (4, 0, 0))), (1, iv v_what)] [] (gs g0 4 0 L0)
  refine jr_aload_n (pc := 0) F 0 dX5_count_0 rfl rfl ?_
  refine jr_iconst (pc := 1) F dX5_count_1 ?_
  obtain ⟨L1, e2, k⟩ := Ok_let k
  refine jr_putI (pc := 2) F (gs g0 4 0 L1) fw_5_92 m4_0 rfl (show Rg 0 from ⟨by decide, by decide⟩) (put1 e2) dX5_count_2 ?_
  refine jr_iload_n (pc := 5) F 1 dX5_count_5 rfl rfl ?_
  by_cases h3 : v_what = 0
  · have k := Ok_t h3 k
    refine jr_tsin (pc := 6) (tgt := 56) (off := 50) F h3 ⟨by decide, by decide⟩ ⟨by decide, by decide⟩ rfl (by decide) dX5_count_6 ?_
    refine jr_aload_n (pc := 56) F 0 dX5_count_56 rfl rfl ?_
    refine jr_getI (pc := 57) F (L1 0 0) f_5_7 m4_0 rfl (gs_at' _ _ _ _ _ _) dX5_count_57 (fun r4 => ?_)
    exact jr_iret (pc := 60) F hQ rfl dX5_count_60 ⟨_, _, rfl, r4, rfl, (Ok_some k)⟩
  have k := Ok_f h3 k
  by_cases h5 : v_what = 1
  · have k := Ok_t h5 k
    refine jr_tsin (pc := 6) (tgt := 61) (off := 55) F h5 ⟨by decide, by decide⟩ ⟨by decide, by decide⟩ rfl (by decide) dX5_count_6 ?_
    refine jr_aload_n (pc := 61) F 0 dX5_count_61 rfl rfl ?_
    refine jr_getI (pc := 62) F (L1 0 7) f_5_99 m4_0 rfl (gs_at' _ _ _ _ _ _) dX5_count_62 (fun r6 => ?_)
    exact jr_iret (pc := 65) F hQ rfl dX5_count_65 ⟨_, _, rfl, r6, rfl, (Ok_some k)⟩
  have k := Ok_f h5 k
  by_cases h7 : v_what = 2
  · have k := Ok_t h7 k
    refine jr_tsin (pc := 6) (tgt := 66) (off := 60) F h7 ⟨by decide, by decide⟩ ⟨by decide, by decide⟩ rfl (by decide) dX5_count_6 ?_
    refine jr_aload_n (pc := 66) F 0 dX5_count_66 rfl rfl ?_
    refine jr_getI (pc := 67) F (L1 0 4) f_5_120 m4_0 rfl (gs_at' _ _ _ _ _ _) dX5_count_67 (fun r8 => ?_)
    exact jr_iret (pc := 70) F hQ rfl dX5_count_70 ⟨_, _, rfl, r8, rfl, (Ok_some k)⟩
  have k := Ok_f h7 k
  by_cases h9 : v_what = 3
  · have k := Ok_t h9 k
    refine jr_tsin (pc := 6) (tgt := 71) (off := 65) F h9 ⟨by decide, by decide⟩ ⟨by decide, by decide⟩ rfl (by decide) dX5_count_6 ?_
    refine jr_aload_n (pc := 71) F 0 dX5_count_71 rfl rfl ?_
    refine jr_getI (pc := 72) F (L1 0 5) f_5_23 m4_0 rfl (gs_at' _ _ _ _ _ _) dX5_count_72 (fun r10 => ?_)
    exact jr_iret (pc := 75) F hQ rfl dX5_count_75 ⟨_, _, rfl, r10, rfl, (Ok_some k)⟩
  have k := Ok_f h9 k
  by_cases h11 : v_what = 4
  · have k := Ok_t h11 k
    refine jr_tsin (pc := 6) (tgt := 76) (off := 70) F h11 ⟨by decide, by decide⟩ ⟨by decide, by decide⟩ rfl (by decide) dX5_count_6 ?_
    refine jr_aload_n (pc := 76) F 0 dX5_count_76 rfl rfl ?_
    refine jr_getI (pc := 77) F (L1 0 6) f_5_26 m4_0 rfl (gs_at' _ _ _ _ _ _) dX5_count_77 (fun r12 => ?_)
    exact jr_iret (pc := 80) F hQ rfl dX5_count_80 ⟨_, _, rfl, r12, rfl, (Ok_some k)⟩
  have k := Ok_f h11 k
  by_cases h13 : v_what = 5
  · have k := Ok_t h13 k
    refine jr_tsin (pc := 6) (tgt := 81) (off := 75) F h13 ⟨by decide, by decide⟩ ⟨by decide, by decide⟩ rfl (by decide) dX5_count_6 ?_
    refine jr_aload_n (pc := 81) F 0 dX5_count_81 rfl rfl ?_
    have k := Ok_bind k
    refine jr_callV (pc := 82) (st := []) F [] (snd_X5_allFrost  (g0 := g0)  k) rfl ck_5_299 rfl m4_0 rfl rfl rfl (by decide) (Nat.le_of_ble_eq_true rfl) dX5_count_82 rfl (fun v g' hq => ?_)
    obtain ⟨z15, rfl, r14, eg, k⟩ := hq
    refine J_eq eg ?_
    show J X 85 [(0, .ref (xad X (4, 0, 0))), (1, iv v_what)] [iv z15] (gs g0 4 0 L1)
    exact jr_iret (pc := 85) F hQ rfl dX5_count_85 ⟨_, _, rfl, r14, rfl, (Ok_some k)⟩
  have k := Ok_f h13 k
  by_cases h16 : v_what = 6
  · have k := Ok_t h16 k
    refine jr_tsin (pc := 6) (tgt := 86) (off := 80) F h16 ⟨by decide, by decide⟩ ⟨by decide, by decide⟩ rfl (by decide) dX5_count_6 ?_
    refine jr_aload_n (pc := 86) F 0 dX5_count_86 rfl rfl ?_
    refine jr_getI (pc := 87) F (L1 0 19) f_5_142 m4_0 rfl (gs_at' _ _ _ _ _ _) dX5_count_87 (fun r17 => ?_)
    exact jr_iret (pc := 90) F hQ rfl dX5_count_90 ⟨_, _, rfl, r17, rfl, (Ok_some k)⟩
  have k := Ok_f h16 k
  by_cases h18 : v_what = 7
  · have k := Ok_t h18 k
    refine jr_tsin (pc := 6) (tgt := 91) (off := 85) F h18 ⟨by decide, by decide⟩ ⟨by decide, by decide⟩ rfl (by decide) dX5_count_6 ?_
    refine jr_aload_n (pc := 91) F 0 dX5_count_91 rfl rfl ?_
    refine jr_getI (pc := 92) F (L1 0 39) f_5_276 m4_0 rfl (gs_at' _ _ _ _ _ _) dX5_count_92 (fun r19 => ?_)
    exact jr_iret (pc := 95) F hQ rfl dX5_count_95 ⟨_, _, rfl, r19, rfl, (Ok_some k)⟩
  have k := Ok_f h18 k
  by_cases h20 : v_what = 8
  · have k := Ok_t h20 k
    refine jr_tsin (pc := 6) (tgt := 96) (off := 90) F h20 ⟨by decide, by decide⟩ ⟨by decide, by decide⟩ rfl (by decide) dX5_count_6 ?_
    refine jr_aload_n (pc := 96) F 0 dX5_count_96 rfl rfl ?_
    refine jr_getI (pc := 97) F (L1 0 34) f_5_212 m4_0 rfl (gs_at' _ _ _ _ _ _) dX5_count_97 (fun r21 => ?_)
    exact jr_iret (pc := 100) F hQ rfl dX5_count_100 ⟨_, _, rfl, r21, rfl, (Ok_some k)⟩
  have k := Ok_f h20 k
  refine jr_tsout (pc := 6) (tgt := 101) F rgp_what (by omega) (by decide) dX5_count_6 ?_
  obtain ⟨c22, k⟩ := Ok_grd k
  refine jifP (P := fun v => Rg v → J X 129 [(0, .ref (xad X (4, 0, 0))), (1, iv v_what)] (iv v :: []) (gs g0 4 0 L1)) (c := ¬ (X5_in_v v_what 11 16) = 0) (L1 16 (w32 (v_what - 10))) ((-9)) (fun Ht Hf => ?_) (fun r26 => ?_)
  · refine jr_iload_n (pc := 101) F 1 dX5_count_101 rfl rfl ?_
    refine jr_i2l (pc := 102) F rgp_what dX5_count_102 ?_
    refine jr_ldc2 (pc := 103) F kc_5_311 dX5_count_103 ?_
    refine jr_ldc2 (pc := 106) F kc_5_176 dX5_count_106 ?_
    refine jr_callS (pc := 109) (st := []) F [lgv v_what, lgv 11, lgv 16] (snd_X5_in (g0 := gs g0 4 0 L1) (rl_rg rgp_what) (show Rl 11 from ⟨by decide, by decide⟩) (show Rl 16 from ⟨by decide, by decide⟩) (X5_in_ok _ _ _ )) rfl ck_5_95 rfl rfl (by decide) (Nat.le_of_ble_eq_true rfl) dX5_count_109 rfl (fun v g' hq => ?_)
    obtain ⟨x, rfl, r23, eg, hx⟩ := hq
    subst hx
    refine J_eq eg ?_
    show J X 112 [(0, .ref (xad X (4, 0, 0))), (1, iv v_what)] [iv (X5_in_v v_what 11 16)] (gs g0 4 0 L1)
    refine jr_if_eq (pc := 112) (tgt := 127) F (rg_z r23) dX5_count_112 (by decide) (fun h24 => ?_) (fun h24 => ?_)
    · refine jr_bipush (pc := 127) F dX5_count_127 (by decide) ?_
      exact Hf (fun q => q h24) (show Rg (-9) from ⟨by decide, by decide⟩)
    refine jr_aload_n (pc := 115) F 0 dX5_count_115 rfl rfl ?_
    refine jr_getR (pc := 116) (b := (4, 0, 16)) F f_5_47 m4_0 rfl dX5_count_116 ?_
    refine jr_iload_n (pc := 119) F 1 dX5_count_119 rfl rfl ?_
    refine jr_bipush (pc := 120) F dX5_count_120 (by decide) ?_
    refine jr_isub (pc := 122) F dX5_count_122 ?_
    refine jr_iald (pc := 123) F (L1 16 (w32 (v_what - 10))) m4_16 (by decide) (c22 h24) (gs_at' _ _ _ _ _ _) dX5_count_123 (fun r25 => ?_)
    refine jr_goto (pc := 124) (tgt := 129) F dX5_count_124 (by decide) ?_
    exact Ht h24 r25
  exact jr_iret (pc := 129) F hQ rfl dX5_count_129 ⟨_, _, rfl, r26, rfl, (Ok_some k)⟩
set_option maxHeartbeats 4000000 in
set_option maxRecDepth 100000 in
theorem snd_X5_day {L0 : LT} {g0 : GG}  {Q : (Int × LT) → Prop} (k : Ok (X5_day L0) Q) : MetG SL yX5_day cX5_day 3 (some .int) 5 (fun ad => [.ref (ad (4, 0, 0))]) (gs g0 4 0 L0) (fun v g' => ∃ (x : Int) (L' : LT), v = some (iv x) ∧ Rg x ∧ g' = gs g0 4 0 L' ∧ Q (x, L')) := by
  refine met_intro SL_ok (by decide +kernel) (fun ad => Nat.le_of_ble_eq_true rfl) (fun X F hQ hR => ?_)
  replace F : FX X cX5_day RX5 3 (some .int) SL 5 := F
  show J X 0 [(0, .ref (xad X (4, 0, 0)))] [] (gs g0 4 0 L0)
  refine jr_aload_n (pc := 0) F 0 dX5_day_0 rfl rfl ?_
  refine jr_iconst (pc := 1) F dX5_day_1 ?_
  obtain ⟨L1, e2, k⟩ := Ok_let k
  refine jr_putI (pc := 2) F (gs g0 4 0 L1) fw_5_92 m4_0 rfl (show Rg 0 from ⟨by decide, by decide⟩) (put1 e2) dX5_day_2 ?_
  refine jr_aload_n (pc := 5) F 0 dX5_day_5 rfl rfl ?_
  have k := Ok_bind k
  refine jr_callV (pc := 6) (st := []) F [] (snd_X5_open  (g0 := g0)  k) rfl ck_5_203 rfl m4_0 rfl rfl rfl (by decide) (Nat.le_of_ble_eq_true rfl) dX5_day_6 rfl (fun v g' hq => ?_)
  obtain ⟨z4, rfl, eg, k⟩ := hq
  refine J_eq eg ?_
  show J X 9 [(0, .ref (xad X (4, 0, 0)))] [] (gs g0 4 0 z4)
  refine jr_aload_n (pc := 9) F 0 dX5_day_9 rfl rfl ?_
  have k := Ok_bind k
  refine jr_callV (pc := 10) (st := []) F [] (snd_X5_allFrost  (g0 := g0)  k) rfl ck_5_299 rfl m4_0 rfl rfl rfl (by decide) (Nat.le_of_ble_eq_true rfl) dX5_day_10 rfl (fun v g' hq => ?_)
  obtain ⟨z6, rfl, r5, eg, k⟩ := hq
  refine J_eq eg ?_
  show J X 13 [(0, .ref (xad X (4, 0, 0)))] [iv z6] (gs g0 4 0 z4)
  refine jr_istore_n (pc := 13) F [(1, iv z6), (0, .ref (xad X (4, 0, 0)))] dX5_day_13 rfl (by decide) rfl ?_
  refine jr_aload_n (pc := 14) F 1 dX5_day_14 rfl rfl ?_
  refine jr_iconst (pc := 15) F dX5_day_15 ?_
  obtain ⟨L7, e8, k⟩ := Ok_let k
  refine jr_putI (pc := 16) F (gs g0 4 0 L7) fw_5_99 m4_0 rfl (show Rg 0 from ⟨by decide, by decide⟩) (put1 e8) dX5_day_16 ?_
  refine jr_aload_n (pc := 19) F 1 dX5_day_19 rfl rfl ?_
  refine jr_bipush (pc := 20) F dX5_day_20 (by decide) ?_
  have k := Ok_bind k
  refine jr_callV (pc := 22) (st := []) F [iv 24] (snd_X5_goHours  (g0 := g0) (show Rg 24 from ⟨by decide, by decide⟩) k) rfl ck_5_197 rfl m4_0 rfl rfl rfl (by decide) (Nat.le_of_ble_eq_true rfl) dX5_day_22 rfl (fun v g' hq => ?_)
  obtain ⟨z10, rfl, eg, k⟩ := hq
  refine J_eq eg ?_
  show J X 25 [(1, iv z6), (0, .ref (xad X (4, 0, 0)))] [] (gs g0 4 0 z10)
  refine jr_aload_n (pc := 25) F 1 dX5_day_25 rfl rfl ?_
  have k := Ok_bind k
  refine jr_callV (pc := 26) (st := []) F [] (snd_X5_allFrost  (g0 := g0)  k) rfl ck_5_299 rfl m4_0 rfl rfl rfl (by decide) (Nat.le_of_ble_eq_true rfl) dX5_day_26 rfl (fun v g' hq => ?_)
  obtain ⟨z12, rfl, r11, eg, k⟩ := hq
  refine J_eq eg ?_
  show J X 29 [(1, iv z6), (0, .ref (xad X (4, 0, 0)))] [iv z12] (gs g0 4 0 z10)
  refine jr_istore_n (pc := 29) F [(2, iv z12), (1, iv z6), (0, .ref (xad X (4, 0, 0)))] dX5_day_29 rfl (by decide) rfl ?_
  refine jr_aload_n (pc := 30) F 2 dX5_day_30 rfl rfl ?_
  have k := Ok_bind k
  refine jr_callV (pc := 31) (st := []) F [] (snd_X5_close  (g0 := g0)  k) rfl ck_5_209 rfl m4_0 rfl rfl rfl (by decide) (Nat.le_of_ble_eq_true rfl) dX5_day_31 rfl (fun v g' hq => ?_)
  obtain ⟨z14, rfl, eg, k⟩ := hq
  refine J_eq eg ?_
  show J X 34 [(2, iv z12), (1, iv z6), (0, .ref (xad X (4, 0, 0)))] [] (gs g0 4 0 z14)
  refine jr_iload_n (pc := 34) F 0 dX5_day_34 rfl rfl ?_
  refine jr_iload_n (pc := 35) F 1 dX5_day_35 rfl rfl ?_
  refine jr_isub (pc := 36) F dX5_day_36 ?_
  exact jr_iret (pc := 37) F hQ rfl dX5_day_37 ⟨_, _, rfl, (rg_w _), rfl, (Ok_some k)⟩
set_option maxHeartbeats 4000000 in
set_option maxRecDepth 100000 in
theorem snd_X5_divisor {v_a : Int} {v_b : Int} {g0 : GG} (rgp_a : Rl v_a) (rgp_b : Rl v_b) {Q : (Int) → Prop} (k : Ok (X5_divisor v_a v_b) Q) : MetG SL yX5_divisor cX5_divisor 10 (some .long) 0 (fun ad => [lgv v_a, lgv v_b]) (g0) (fun v g' => ∃ x : Int, v = some (lgv x) ∧ Rl x ∧ g' = g0 ∧ Q x) := by
  refine met_intro SL_ok (by decide +kernel) (fun ad => Nat.le_of_ble_eq_true rfl) (fun X F hQ hR => ?_)
  replace F : FX X cX5_divisor RX5 10 (some .long) SL 0 := F
  show J X 0 [(0, lgv v_a), (2, lgv v_b)] [] (g0)
  refine jr_lload_n (pc := 0) F 0 dX5_divisor_0 rfl rfl ?_
  refine jr_lstore (pc := 1) F [(4, lgv v_a), (0, lgv v_a), (2, lgv v_b)] dX5_divisor_1 (by decide) rfl ?_
  refine jr_lload_n (pc := 3) F 2 dX5_divisor_3 rfl rfl ?_
  refine jr_lstore (pc := 4) F [(6, lgv v_b), (4, lgv v_a), (0, lgv v_a), (2, lgv v_b)] dX5_divisor_4 (by decide) rfl ?_
  refine jr_sub F [2, 3, 1, 0] [(0, lgv v_a), (2, lgv v_b), (4, lgv v_a), (6, lgv v_b)] rfl ?_
  refine lpj (P := fun s : Int × Int => Rl (s.1) → Rl (s.2) → J X 6 [(0, lgv v_a), (2, lgv v_b), (4, lgv s.1), (6, lgv s.2)] [] (g0)) (PE := fun r : Int × Int => Rl (r.1) → Rl (r.2) → J X 31 [(0, lgv v_a), (2, lgv v_b), (4, lgv r.1), (6, lgv r.2)] [] (g0)) k (fun s1 Q2 k hC3 hE4 r6 r7 => ?_) (fun z5 k => ?_) (fun h => h rgp_a rgp_b)
  · refine jr_lload (pc := 6) F 3 dX5_divisor_6 rfl ?_
    refine jr_lconst (pc := 8) (v := 0) F dX5_divisor_8 (by decide) ?_
    refine jr_lcmp_eq (pc := 9) (tgt := 31) F r7 (show Rl 0 from ⟨by decide, by decide⟩) dX5_divisor_9 dX5_divisor_10 (by decide) (fun h8 => ?_) (fun h8 => ?_)
    · have k := Ok_f (fun q => q h8) k
      exact hE4 (s1.1, s1.2) (Ok_some k) r6 r7
    have k := Ok_t h8 k
    refine jr_lload (pc := 13) F 2 dX5_divisor_13 rfl ?_
    refine jr_lload (pc := 15) F 3 dX5_divisor_15 rfl ?_
    obtain ⟨c9, k⟩ := Ok_grd k
    refine jr_lrem (pc := 17) F r6 r7 c9 dX5_divisor_17 ?_
    obtain ⟨x10, e11, k⟩ := Ok_let k
    have r12 : Rl x10 := rl_of e11 (rl_rem r6 r7)
    refine jr_topl e11 ?_
    refine jr_lstore (pc := 18) F [(8, lgv x10), (0, lgv v_a), (2, lgv v_b), (4, lgv s1.1), (6, lgv s1.2)] dX5_divisor_18 (by decide) rfl ?_
    refine jr_lload (pc := 20) F 4 dX5_divisor_20 rfl ?_
    refine jr_lstore (pc := 22) F [(4, lgv s1.2), (8, lgv x10), (0, lgv v_a), (2, lgv v_b), (6, lgv s1.2)] dX5_divisor_22 (by decide) rfl ?_
    refine jr_lload (pc := 24) F 1 dX5_divisor_24 rfl ?_
    refine jr_lstore (pc := 26) F [(6, lgv x10), (4, lgv s1.2), (8, lgv x10), (0, lgv v_a), (2, lgv v_b)] dX5_divisor_26 (by decide) rfl ?_
    refine jr_goto (pc := 28) (tgt := 6) F dX5_divisor_28 (by decide) ?_
    refine jr_sub F [3, 4, 1, 0] [(0, lgv v_a), (2, lgv v_b), (4, lgv s1.2), (6, lgv x10)] rfl ?_
    exact hC3 (s1.2, x10) (Ok_some k) r7 r12
  intro r13 r14
  refine jr_lload (pc := 31) F 2 dX5_divisor_31 rfl ?_
  exact jr_lret (pc := 33) F hQ rfl dX5_divisor_33 ⟨_, rfl, r13, rfl, (Ok_some k)⟩
set_option maxHeartbeats 4000000 in
set_option maxRecDepth 100000 in
theorem snd_X5_drawBelow {L0 : LT} {v_n : Int} {g0 : GG} (rgp_n : Rg v_n) {Q : (Int × LT) → Prop} (k : Ok (X5_drawBelow L0 v_n) Q) : MetG SL yX5_drawBelow cX5_drawBelow 2 (some .int) 0 (fun ad => [.ref (ad (4, 0, 0)), iv v_n]) (gs g0 4 0 L0) (fun v g' => ∃ (x : Int) (L' : LT), v = some (iv x) ∧ Rg x ∧ g' = gs g0 4 0 L' ∧ Q (x, L')) := by
  refine met_intro SL_ok (by decide +kernel) (fun ad => Nat.le_of_ble_eq_true rfl) (fun X F hQ hR => ?_)
  replace F : FX X cX5_drawBelow RX5 2 (some .int) SL 0 := F
  show J X 0 [(0, .ref (xad X (4, 0, 0))), (1, iv v_n)] [] (gs g0 4 0 L0)
  refine jr_aload_n (pc := 0) F 0 dX5_drawBelow_0 rfl rfl ?_
  refine jr_aload_n (pc := 1) F 0 dX5_drawBelow_1 rfl rfl ?_
  refine jr_getI (pc := 2) F (L0 0 40) f_5_302 m4_0 rfl (gs_at' _ _ _ _ _ _) dX5_drawBelow_2 (fun r1 => ?_)
  refine jr_ldcw (pc := 5) F kc_5_305 dX5_drawBelow_5 ?_
  refine jr_imul (pc := 8) F dX5_drawBelow_8 ?_
  refine jr_sipush (pc := 9) F dX5_drawBelow_9 (by decide) ?_
  refine jr_iadd (pc := 12) F dX5_drawBelow_12 ?_
  obtain ⟨L2, e3, k⟩ := Ok_let k
  refine jr_putI (pc := 13) F (gs g0 4 0 L2) fw_5_302 m4_0 rfl (rg_w _) (put1 e3) dX5_drawBelow_13 ?_
  refine jr_aload_n (pc := 16) F 0 dX5_drawBelow_16 rfl rfl ?_
  refine jr_getI (pc := 17) F (L2 0 40) f_5_302 m4_0 rfl (gs_at' _ _ _ _ _ _) dX5_drawBelow_17 (fun r4 => ?_)
  refine jr_ldcw (pc := 20) F kc_5_306 dX5_drawBelow_20 ?_
  refine jr_iand (pc := 23) F dX5_drawBelow_23 ?_
  refine jr_ldcw (pc := 24) F kc_5_307 dX5_drawBelow_24 ?_
  refine jr_idiv (pc := 27) F (rg_and _ _) (show Rg 65536 from ⟨by decide, by decide⟩) (by decide) dX5_drawBelow_27 ?_
  refine jr_iload_n (pc := 28) F 1 dX5_drawBelow_28 rfl rfl ?_
  obtain ⟨c5, k⟩ := Ok_grd k
  refine jr_irem (pc := 29) F (rg_div _ _) rgp_n c5 dX5_drawBelow_29 ?_
  exact jr_iret (pc := 30) F hQ rfl dX5_drawBelow_30 ⟨_, _, rfl, (rg_rem (rg_div _ _) rgp_n), rfl, (Ok_some k)⟩
set_option maxHeartbeats 4000000 in
set_option maxRecDepth 100000 in
theorem snd_X5_feed {L0 : LT} {v_letter : Int} {g0 : GG} (rgp_letter : Rg v_letter) {Q : (Int × LT) → Prop} (k : Ok (X5_feed L0 v_letter) Q) : MetG SL yX5_feed cX5_feed 2 (some .int) 1 (fun ad => [.ref (ad (4, 0, 0)), iv v_letter]) (gs g0 4 0 L0) (fun v g' => ∃ (x : Int) (L' : LT), v = some (iv x) ∧ Rg x ∧ g' = gs g0 4 0 L' ∧ Q (x, L')) := by
  refine met_intro SL_ok (by decide +kernel) (fun ad => Nat.le_of_ble_eq_true rfl) (fun X F hQ hR => ?_)
  replace F : FX X cX5_feed RX5 2 (some .int) SL 1 := F
  show J X 0 [(0, .ref (xad X (4, 0, 0))), (1, iv v_letter)] [] (gs g0 4 0 L0)
  refine jr_aload_n (pc := 0) F 0 dX5_feed_0 rfl rfl ?_
  refine jr_iconst (pc := 1) F dX5_feed_1 ?_
  obtain ⟨L1, e2, k⟩ := Ok_let k
  refine jr_putI (pc := 2) F (gs g0 4 0 L1) fw_5_92 m4_0 rfl (show Rg 0 from ⟨by decide, by decide⟩) (put1 e2) dX5_feed_2 ?_
  refine jr_iload_n (pc := 5) F 1 dX5_feed_5 rfl rfl ?_
  refine jr_if_ge (pc := 6) (tgt := 16) F rgp_letter dX5_feed_6 (by decide) (fun h3 => ?_) (fun h3 => ?_)
  · have k := Ok_f (ng_lt h3) k
    refine cnd (c := (255 < v_letter) ∨ ((L1 0 19) = 96)) (GT := J X 32 [(0, .ref (xad X (4, 0, 0))), (1, iv v_letter)] [] (gs g0 4 0 L1)) (GF := J X 39 [(0, .ref (xad X (4, 0, 0))), (1, iv v_letter)] [] (gs g0 4 0 L1)) k (fun HT HF => ?_) (fun h7 k => ?_) (fun h7 k => ?_)
    · refine jr_iload_n (pc := 16) F 1 dX5_feed_16 rfl rfl ?_
      refine jr_sipush (pc := 17) F dX5_feed_17 (by decide) ?_
      refine jr_icmp_gt (pc := 20) (tgt := 32) F rgp_letter (show Rg 255 from ⟨by decide, by decide⟩) dX5_feed_20 (by decide) (fun h4 => ?_) (fun h4 => ?_)
      · exact HT (Or.inl h4)
      refine jr_aload_n (pc := 23) F 0 dX5_feed_23 rfl rfl ?_
      refine jr_getI (pc := 24) F (L1 0 19) f_5_142 m4_0 rfl (gs_at' _ _ _ _ _ _) dX5_feed_24 (fun r5 => ?_)
      refine jr_bipush (pc := 27) F dX5_feed_27 (by decide) ?_
      refine jr_icmp_ne (pc := 29) (tgt := 39) F r5 (show Rg 96 from ⟨by decide, by decide⟩) dX5_feed_29 (by decide) (fun h6 => ?_) (fun h6 => ?_)
      · exact HF (fun q => q.elim (ng_lt h4) h6)
      exact HT (Or.inr h6)
    · refine jr_aload_n (pc := 32) F 0 dX5_feed_32 rfl rfl ?_
      refine jr_bipush (pc := 33) F dX5_feed_33 (by decide) ?_
      have k := Ok_bind k
      refine jr_callV (pc := 35) (st := []) F [iv (-6)] (snd_X5_refuse  (g0 := g0) (show Rg (-6) from ⟨by decide, by decide⟩) k) rfl ck_5_139 rfl m4_0 rfl rfl rfl (by decide) (Nat.le_of_ble_eq_true rfl) dX5_feed_35 rfl (fun v g' hq => ?_)
      obtain ⟨x, L', rfl, r8, eg, k⟩ := hq
      obtain ⟨z9, ez⟩ : ∃ z : Int × LT, z = (x, L') := ⟨_, rfl⟩
      obtain ⟨rfl, rfl⟩ : x = z9.1 ∧ L' = z9.2 := ⟨by rw [ez], by rw [ez]⟩
      clear ez
      refine J_eq eg ?_
      show J X 38 [(0, .ref (xad X (4, 0, 0))), (1, iv v_letter)] [iv z9.1] (gs g0 4 0 z9.2)
      exact jr_iret (pc := 38) F hQ rfl dX5_feed_38 ⟨_, _, rfl, r8, rfl, (Ok_some k)⟩
    refine jr_aload_n (pc := 39) F 0 dX5_feed_39 rfl rfl ?_
    refine jr_getR (pc := 40) (b := (4, 0, 19)) F f_5_56 m4_0 rfl dX5_feed_40 ?_
    refine jr_aload_n (pc := 43) F 0 dX5_feed_43 rfl rfl ?_
    refine jr_getI (pc := 44) F (L1 0 19) f_5_142 m4_0 rfl (gs_at' _ _ _ _ _ _) dX5_feed_44 (fun r10 => ?_)
    refine jr_iload_n (pc := 47) F 1 dX5_feed_47 rfl rfl ?_
    obtain ⟨c11, k⟩ := Ok_grd k
    obtain ⟨L12, e13, k⟩ := Ok_let k
    refine jr_iast (pc := 48) F (gs g0 4 0 L12) m4_19 (by decide) c11 rgp_letter (put1 e13) dX5_feed_48 ?_
    refine jr_aload_n (pc := 49) F 0 dX5_feed_49 rfl rfl ?_
    refine jr_dup (pc := 50) F dX5_feed_50 rfl ?_
    refine jr_getI (pc := 51) F (L12 0 19) f_5_142 m4_0 rfl (gs_at' _ _ _ _ _ _) dX5_feed_51 (fun r14 => ?_)
    refine jr_iconst (pc := 54) F dX5_feed_54 ?_
    refine jr_iadd (pc := 55) F dX5_feed_55 ?_
    obtain ⟨L15, e16, k⟩ := Ok_let k
    refine jr_putI (pc := 56) F (gs g0 4 0 L15) fw_5_142 m4_0 rfl (rg_w _) (put1 e16) dX5_feed_56 ?_
    refine jr_aload_n (pc := 59) F 0 dX5_feed_59 rfl rfl ?_
    refine jr_getI (pc := 60) F (L15 0 19) f_5_142 m4_0 rfl (gs_at' _ _ _ _ _ _) dX5_feed_60 (fun r17 => ?_)
    exact jr_iret (pc := 63) F hQ rfl dX5_feed_63 ⟨_, _, rfl, r17, rfl, (Ok_some k)⟩
  have k := Ok_t h3 k
  refine jr_aload_n (pc := 9) F 0 dX5_feed_9 rfl rfl ?_
  refine jr_bipush (pc := 10) F dX5_feed_10 (by decide) ?_
  have k := Ok_bind k
  refine jr_callV (pc := 12) (st := []) F [iv (-4)] (snd_X5_refuse  (g0 := g0) (show Rg (-4) from ⟨by decide, by decide⟩) k) rfl ck_5_139 rfl m4_0 rfl rfl rfl (by decide) (Nat.le_of_ble_eq_true rfl) dX5_feed_12 rfl (fun v g' hq => ?_)
  obtain ⟨x, L', rfl, r18, eg, k⟩ := hq
  obtain ⟨z19, ez⟩ : ∃ z : Int × LT, z = (x, L') := ⟨_, rfl⟩
  obtain ⟨rfl, rfl⟩ : x = z19.1 ∧ L' = z19.2 := ⟨by rw [ez], by rw [ez]⟩
  clear ez
  refine J_eq eg ?_
  show J X 15 [(0, .ref (xad X (4, 0, 0))), (1, iv v_letter)] [iv z19.1] (gs g0 4 0 z19.2)
  exact jr_iret (pc := 15) F hQ rfl dX5_feed_15 ⟨_, _, rfl, r18, rfl, (Ok_some k)⟩
set_option maxHeartbeats 4000000 in
set_option maxRecDepth 100000 in
theorem snd_X5_keepTurn {L0 : LT} {g0 : GG}  {Q : (LT) → Prop} (k : Ok (X5_keepTurn L0) Q) : MetG SL yX5_keepTurn cX5_keepTurn 2 none 2 (fun ad => [.ref (ad (4, 0, 0))]) (gs g0 4 0 L0) (fun v g' => ∃ L' : LT, v = none ∧ g' = gs g0 4 0 L' ∧ Q L') := by
  refine met_intro SL_ok (by decide +kernel) (fun ad => Nat.le_of_ble_eq_true rfl) (fun X F hQ hR => ?_)
  replace F : FX X cX5_keepTurn RX5 2 none SL 2 := F
  show J X 0 [(0, .ref (xad X (4, 0, 0)))] [] (gs g0 4 0 L0)
  refine jn (P := fun v : LT => J X 50 [(0, .ref (xad X (4, 0, 0)))] [] (gs g0 4 0 v)) k (fun Q2 k hJ3 => ?_) (fun z1 k  => ?_)
  · refine jr_aload_n (pc := 0) F 0 dX5_keepTurn_0 rfl rfl ?_
    refine jr_getI (pc := 1) F (L0 0 34) f_5_212 m4_0 rfl (gs_at' _ _ _ _ _ _) dX5_keepTurn_1 (fun r5 => ?_)
    refine jr_bipush (pc := 4) F dX5_keepTurn_4 (by decide) ?_
    refine jr_icmp_ne (pc := 6) (tgt := 50) F r5 (show Rg 8 from ⟨by decide, by decide⟩) dX5_keepTurn_6 (by decide) (fun h6 => ?_) (fun h6 => ?_)
    · have k := Ok_f h6 k
      exact hJ3 L0 (Ok_some k) 
    have k := Ok_t h6 k
    refine jr_bipush (pc := 9) F dX5_keepTurn_9 (by decide) ?_
    refine jr_istore_n (pc := 11) F [(1, iv 83), (0, .ref (xad X (4, 0, 0)))] dX5_keepTurn_11 rfl (by decide) rfl ?_
    refine jr_sub F [1, 0] [(0, .ref (xad X (4, 0, 0))), (1, iv 83)] rfl ?_
    refine lpj (P := fun s : Int × LT => Rg (s.1) → J X 12 [(0, .ref (xad X (4, 0, 0))), (1, iv s.1)] [] (gs g0 4 0 s.2)) (PE := fun r : Int × LT => Rg (r.1) → J X 40 [(0, .ref (xad X (4, 0, 0))), (1, iv r.1)] [] (gs g0 4 0 r.2)) k (fun s7 Q8 k hC9 hE10 r12 => ?_) (fun z11 k => ?_) (fun h => h (show Rg 83 from ⟨by decide, by decide⟩))
    · refine jr_iload_n (pc := 12) F 1 dX5_keepTurn_12 rfl rfl ?_
      refine jr_sipush (pc := 13) F dX5_keepTurn_13 (by decide) ?_
      refine jr_icmp_ge (pc := 16) (tgt := 40) F r12 (show Rg 664 from ⟨by decide, by decide⟩) dX5_keepTurn_16 (by decide) (fun h13 => ?_) (fun h13 => ?_)
      · have k := Ok_f (ng_lt h13) k
        exact hE10 (s7.1, s7.2) (Ok_some k) r12
      have k := Ok_t h13 k
      refine jr_aload_n (pc := 19) F 0 dX5_keepTurn_19 rfl rfl ?_
      refine jr_getR (pc := 20) (b := (4, 0, 33)) F f_5_74 m4_0 rfl dX5_keepTurn_20 ?_
      refine jr_iload_n (pc := 23) F 1 dX5_keepTurn_23 rfl rfl ?_
      refine jr_bipush (pc := 24) F dX5_keepTurn_24 (by decide) ?_
      refine jr_isub (pc := 26) F dX5_keepTurn_26 ?_
      refine jr_aload_n (pc := 27) F 0 dX5_keepTurn_27 rfl rfl ?_
      refine jr_getR (pc := 28) (b := (4, 0, 33)) F f_5_74 m4_0 rfl dX5_keepTurn_28 ?_
      refine jr_iload_n (pc := 31) F 1 dX5_keepTurn_31 rfl rfl ?_
      obtain ⟨c14, k⟩ := Ok_grd k
      refine jr_iald (pc := 32) F (s7.2 33 s7.1) m4_33 (by decide) c14 (gs_at' _ _ _ _ _ _) dX5_keepTurn_32 (fun r15 => ?_)
      obtain ⟨c16, k⟩ := Ok_grd k
      obtain ⟨L17, e18, k⟩ := Ok_let k
      refine jr_iast (pc := 33) F (gs g0 4 0 L17) m4_33 (by decide) c16 r15 (put1 e18) dX5_keepTurn_33 ?_
      refine jr_iinc (pc := 34) F [(1, iv (w32 (s7.1 + 1))), (0, .ref (xad X (4, 0, 0)))] 1 dX5_keepTurn_34 rfl (by decide) rfl ?_
      refine jr_goto (pc := 37) (tgt := 12) F dX5_keepTurn_37 (by decide) ?_
      refine jr_sub F [1, 0] [(0, .ref (xad X (4, 0, 0))), (1, iv (w32 (s7.1 + 1)))] rfl ?_
      exact hC9 (w32 (s7.1 + 1), L17) (Ok_some k) (rg_w _)
    intro r19
    refine jr_aload_n (pc := 40) F 0 dX5_keepTurn_40 rfl rfl ?_
    refine jr_dup (pc := 41) F dX5_keepTurn_41 rfl ?_
    refine jr_getI (pc := 42) F (z11.2 0 34) f_5_212 m4_0 rfl (gs_at' _ _ _ _ _ _) dX5_keepTurn_42 (fun r20 => ?_)
    refine jr_iconst (pc := 45) F dX5_keepTurn_45 ?_
    refine jr_isub (pc := 46) F dX5_keepTurn_46 ?_
    obtain ⟨L21, e22, k⟩ := Ok_let k
    refine jr_putI (pc := 47) F (gs g0 4 0 L21) fw_5_212 m4_0 rfl (rg_w _) (put1 e22) dX5_keepTurn_47 ?_
    refine jr_sub F [0] [(0, .ref (xad X (4, 0, 0)))] rfl ?_
    exact hJ3 L21 (Ok_some k) 
  refine jr_aload_n (pc := 50) F 0 dX5_keepTurn_50 rfl rfl ?_
  refine jr_aload_n (pc := 51) F 0 dX5_keepTurn_51 rfl rfl ?_
  refine jr_getR (pc := 52) (b := (4, 0, 34)) F f_5_77 m4_0 rfl dX5_keepTurn_52 ?_
  refine jr_iconst (pc := 55) F dX5_keepTurn_55 ?_
  have k := Ok_bind k
  refine jr_callV (pc := 56) (st := []) F [.ref (xad X (4, 0, 34)), iv 1] (snd_X5_carryAll  (g0 := g0) (show Rg 1 from ⟨by decide, by decide⟩) k) rfl ck_5_227 rfl m4_0 rfl rfl rfl (by decide) (Nat.le_of_ble_eq_true rfl) dX5_keepTurn_56 rfl (fun v g' hq => ?_)
  obtain ⟨z24, rfl, eg, k⟩ := hq
  refine J_eq eg ?_
  show J X 59 [(0, .ref (xad X (4, 0, 0)))] [] (gs g0 4 0 z24)
  refine jr_iconst (pc := 59) F dX5_keepTurn_59 ?_
  refine jr_istore_n (pc := 60) F [(1, iv 0), (0, .ref (xad X (4, 0, 0)))] dX5_keepTurn_60 rfl (by decide) rfl ?_
  refine jr_sub F [1, 0] [(0, .ref (xad X (4, 0, 0))), (1, iv 0)] rfl ?_
  refine lpj (P := fun s : Int × LT => Rg (s.1) → J X 61 [(0, .ref (xad X (4, 0, 0))), (1, iv s.1)] [] (gs g0 4 0 s.2)) (PE := fun r : Int × LT => Rg (r.1) → J X 93 [(0, .ref (xad X (4, 0, 0))), (1, iv r.1)] [] (gs g0 4 0 r.2)) k (fun s25 Q26 k hC27 hE28 r30 => ?_) (fun z29 k => ?_) (fun h => h (show Rg 0 from ⟨by decide, by decide⟩))
  · refine jr_iload_n (pc := 61) F 1 dX5_keepTurn_61 rfl rfl ?_
    refine jr_bipush (pc := 62) F dX5_keepTurn_62 (by decide) ?_
    refine jr_icmp_ge (pc := 64) (tgt := 93) F r30 (show Rg 83 from ⟨by decide, by decide⟩) dX5_keepTurn_64 (by decide) (fun h31 => ?_) (fun h31 => ?_)
    · have k := Ok_f (ng_lt h31) k
      exact hE28 (s25.1, s25.2) (Ok_some k) r30
    have k := Ok_t h31 k
    refine jr_aload_n (pc := 67) F 0 dX5_keepTurn_67 rfl rfl ?_
    refine jr_getR (pc := 68) (b := (4, 0, 33)) F f_5_74 m4_0 rfl dX5_keepTurn_68 ?_
    refine jr_bipush (pc := 71) F dX5_keepTurn_71 (by decide) ?_
    refine jr_aload_n (pc := 73) F 0 dX5_keepTurn_73 rfl rfl ?_
    refine jr_getI (pc := 74) F (s25.2 0 34) f_5_212 m4_0 rfl (gs_at' _ _ _ _ _ _) dX5_keepTurn_74 (fun r32 => ?_)
    refine jr_imul (pc := 77) F dX5_keepTurn_77 ?_
    refine jr_iload_n (pc := 78) F 1 dX5_keepTurn_78 rfl rfl ?_
    refine jr_iadd (pc := 79) F dX5_keepTurn_79 ?_
    refine jr_aload_n (pc := 80) F 0 dX5_keepTurn_80 rfl rfl ?_
    refine jr_getR (pc := 81) (b := (4, 0, 34)) F f_5_77 m4_0 rfl dX5_keepTurn_81 ?_
    refine jr_iload_n (pc := 84) F 1 dX5_keepTurn_84 rfl rfl ?_
    obtain ⟨c33, k⟩ := Ok_grd k
    refine jr_iald (pc := 85) F (s25.2 34 s25.1) m4_34 (by decide) c33 (gs_at' _ _ _ _ _ _) dX5_keepTurn_85 (fun r34 => ?_)
    obtain ⟨c35, k⟩ := Ok_grd k
    obtain ⟨L36, e37, k⟩ := Ok_let k
    refine jr_iast (pc := 86) F (gs g0 4 0 L36) m4_33 (by decide) c35 r34 (put1 e37) dX5_keepTurn_86 ?_
    refine jr_iinc (pc := 87) F [(1, iv (w32 (s25.1 + 1))), (0, .ref (xad X (4, 0, 0)))] 1 dX5_keepTurn_87 rfl (by decide) rfl ?_
    refine jr_goto (pc := 90) (tgt := 61) F dX5_keepTurn_90 (by decide) ?_
    refine jr_sub F [1, 0] [(0, .ref (xad X (4, 0, 0))), (1, iv (w32 (s25.1 + 1)))] rfl ?_
    exact hC27 (w32 (s25.1 + 1), L36) (Ok_some k) (rg_w _)
  intro r38
  refine jr_aload_n (pc := 93) F 0 dX5_keepTurn_93 rfl rfl ?_
  refine jr_dup (pc := 94) F dX5_keepTurn_94 rfl ?_
  refine jr_getI (pc := 95) F (z29.2 0 34) f_5_212 m4_0 rfl (gs_at' _ _ _ _ _ _) dX5_keepTurn_95 (fun r39 => ?_)
  refine jr_iconst (pc := 98) F dX5_keepTurn_98 ?_
  refine jr_iadd (pc := 99) F dX5_keepTurn_99 ?_
  obtain ⟨L40, e41, k⟩ := Ok_let k
  refine jr_putI (pc := 100) F (gs g0 4 0 L40) fw_5_212 m4_0 rfl (rg_w _) (put1 e41) dX5_keepTurn_100 ?_
  exact jr_vret (pc := 103) F hQ rfl dX5_keepTurn_103 ⟨_, rfl, rfl, (Ok_some k)⟩
set_option maxHeartbeats 4000000 in
set_option maxRecDepth 100000 in
theorem snd_X5_wrongNumber {v_v : Int} {v_low : Int} {v_high : Int} {g0 : GG} (rgp_v : Rg v_v) (rgp_low : Rg v_low) (rgp_high : Rg v_high) {Q : (Int) → Prop} (k : Ok (X5_wrongNumber_f v_v v_low v_high) Q) : MetG SL yX5_wrongNumber cX5_wrongNumber 3 (some .int) 0 (fun ad => [iv v_v, iv v_low, iv v_high]) (g0) (fun v g' => ∃ x : Int, v = some (iv x) ∧ Rg x ∧ g' = g0 ∧ Q x) := by
  refine met_intro SL_ok (by decide +kernel) (fun ad => Nat.le_of_ble_eq_true rfl) (fun X F hQ hR => ?_)
  replace F : FX X cX5_wrongNumber RX5 3 (some .int) SL 0 := F
  show J X 0 [(0, iv v_v), (1, iv v_low), (2, iv v_high)] [] (g0)
  refine jifP (P := fun v => Rg v → J X 21 [(0, iv v_v), (1, iv v_low), (2, iv v_high)] (iv v :: []) (g0)) (c := v_v < v_low) ((-4)) (if v_high < v_v then (-6) else 0) (fun Ht Hf => ?_) (fun r4 => ?_)
  · refine jr_iload_n (pc := 0) F 0 dX5_wrongNumber_0 rfl rfl ?_
    refine jr_iload_n (pc := 1) F 1 dX5_wrongNumber_1 rfl rfl ?_
    refine jr_icmp_ge (pc := 2) (tgt := 10) F rgp_v rgp_low dX5_wrongNumber_2 (by decide) (fun h1 => ?_) (fun h1 => ?_)
    · refine jifP (P := fun v => Rg v → J X 21 [(0, iv v_v), (1, iv v_low), (2, iv v_high)] (iv v :: []) (g0)) (c := v_high < v_v) ((-6)) (0) (fun Ht Hf => ?_) (fun r3 => ?_)
      · refine jr_iload_n (pc := 10) F 0 dX5_wrongNumber_10 rfl rfl ?_
        refine jr_iload_n (pc := 11) F 2 dX5_wrongNumber_11 rfl rfl ?_
        refine jr_icmp_le (pc := 12) (tgt := 20) F rgp_v rgp_high dX5_wrongNumber_12 (by decide) (fun h2 => ?_) (fun h2 => ?_)
        · refine jr_iconst (pc := 20) F dX5_wrongNumber_20 ?_
          exact Hf (ng_lt h2) (show Rg 0 from ⟨by decide, by decide⟩)
        refine jr_bipush (pc := 15) F dX5_wrongNumber_15 (by decide) ?_
        refine jr_goto (pc := 17) (tgt := 21) F dX5_wrongNumber_17 (by decide) ?_
        exact Ht h2 (show Rg (-6) from ⟨by decide, by decide⟩)
      exact Hf (ng_lt h1) r3
    refine jr_bipush (pc := 5) F dX5_wrongNumber_5 (by decide) ?_
    refine jr_goto (pc := 7) (tgt := 21) F dX5_wrongNumber_7 (by decide) ?_
    exact Ht h1 (show Rg (-4) from ⟨by decide, by decide⟩)
  exact jr_iret (pc := 21) F hQ rfl dX5_wrongNumber_21 ⟨_, rfl, r4, rfl, (Ok_some k)⟩
set_option maxHeartbeats 4000000 in
set_option maxRecDepth 100000 in
theorem snd_X5_frost {L0 : LT} {v_y : Int} {v_v : Int} {g0 : GG} (rgp_y : Rg v_y) (rgp_v : Rg v_v) {Q : (Int × LT) → Prop} (k : Ok (X5_frost L0 v_y v_v) Q) : MetG SL yX5_frost cX5_frost 5 (some .int) 3 (fun ad => [.ref (ad (4, 0, 0)), iv v_y, iv v_v]) (gs g0 4 0 L0) (fun v g' => ∃ (x : Int) (L' : LT), v = some (iv x) ∧ Rg x ∧ g' = gs g0 4 0 L' ∧ Q (x, L')) := by
  refine met_intro SL_ok (by decide +kernel) (fun ad => Nat.le_of_ble_eq_true rfl) (fun X F hQ hR => ?_)
  replace F : FX X cX5_frost RX5 5 (some .int) SL 3 := F
  show J X 0 [(0, .ref (xad X (4, 0, 0))), (1, iv v_y), (2, iv v_v)] [] (gs g0 4 0 L0)
  refine jr_aload_n (pc := 0) F 0 dX5_frost_0 rfl rfl ?_
  refine jr_iconst (pc := 1) F dX5_frost_1 ?_
  obtain ⟨L1, e2, k⟩ := Ok_let k
  refine jr_putI (pc := 2) F (gs g0 4 0 L1) fw_5_92 m4_0 rfl (show Rg 0 from ⟨by decide, by decide⟩) (put1 e2) dX5_frost_2 ?_
  refine jifP (P := fun v => Rg v → J X 24 [(0, .ref (xad X (4, 0, 0))), (1, iv v_y), (2, iv v_v)] (iv v :: []) (gs g0 4 0 L1)) (c := ¬ (X5_isYard_v L1 v_y) = 0) (X5_wrongNumber_v v_v 0 99) ((-1)) (fun Ht Hf => ?_) (fun r6 => ?_)
  · refine jr_aload_n (pc := 5) F 0 dX5_frost_5 rfl rfl ?_
    refine jr_iload_n (pc := 6) F 1 dX5_frost_6 rfl rfl ?_
    refine jr_callV (pc := 7) (st := []) F [iv v_y] (snd_X5_isYard  (g0 := g0) rgp_y (X5_isYard_ok _ _ )) rfl ck_5_181 rfl m4_0 rfl rfl rfl (by decide) (Nat.le_of_ble_eq_true rfl) dX5_frost_7 rfl (fun v g' hq => ?_)
    obtain ⟨x, rfl, r3, eg, hx⟩ := hq
    subst hx
    refine J_eq eg ?_
    show J X 10 [(0, .ref (xad X (4, 0, 0))), (1, iv v_y), (2, iv v_v)] [iv (X5_isYard_v L1 v_y)] (gs g0 4 0 L1)
    refine jr_if_eq (pc := 10) (tgt := 23) F (rg_z r3) dX5_frost_10 (by decide) (fun h4 => ?_) (fun h4 => ?_)
    · refine jr_iconst (pc := 23) F dX5_frost_23 ?_
      exact Hf (fun q => q h4) (show Rg (-1) from ⟨by decide, by decide⟩)
    refine jr_iload_n (pc := 13) F 2 dX5_frost_13 rfl rfl ?_
    refine jr_iconst (pc := 14) F dX5_frost_14 ?_
    refine jr_bipush (pc := 15) F dX5_frost_15 (by decide) ?_
    refine jr_callS (pc := 17) (st := []) F [iv v_v, iv 0, iv 99] (snd_X5_wrongNumber (g0 := gs g0 4 0 L1) rgp_v (show Rg 0 from ⟨by decide, by decide⟩) (show Rg 99 from ⟨by decide, by decide⟩) (X5_wrongNumber_ok _ _ _ )) rfl ck_5_236 rfl rfl (by decide) (Nat.le_of_ble_eq_true rfl) dX5_frost_17 rfl (fun v g' hq => ?_)
    obtain ⟨x, rfl, r5, eg, hx⟩ := hq
    subst hx
    refine J_eq eg ?_
    show J X 20 [(0, .ref (xad X (4, 0, 0))), (1, iv v_y), (2, iv v_v)] [iv (X5_wrongNumber_v v_v 0 99)] (gs g0 4 0 L1)
    refine jr_goto (pc := 20) (tgt := 24) F dX5_frost_20 (by decide) ?_
    exact Ht h4 r5
  obtain ⟨x7, e8, k⟩ := Ok_let k
  have r9 : Rg x7 := rg_of e8 r6
  refine jr_top e8 ?_
  refine jr_istore_n (pc := 24) F [(3, iv x7), (0, .ref (xad X (4, 0, 0))), (1, iv v_y), (2, iv v_v)] dX5_frost_24 rfl (by decide) rfl ?_
  refine jr_iload_n (pc := 25) F 0 dX5_frost_25 rfl rfl ?_
  refine jr_if_ge (pc := 26) (tgt := 35) F r9 dX5_frost_26 (by decide) (fun h10 => ?_) (fun h10 => ?_)
  · have k := Ok_f (ng_lt h10) k
    refine jr_aload_n (pc := 35) F 1 dX5_frost_35 rfl rfl ?_
    have k := Ok_bind k
    refine jr_callV (pc := 36) (st := []) F [] (snd_X5_keepTurn  (g0 := g0)  k) rfl ck_5_240 rfl m4_0 rfl rfl rfl (by decide) (Nat.le_of_ble_eq_true rfl) dX5_frost_36 rfl (fun v g' hq => ?_)
    obtain ⟨z12, rfl, eg, k⟩ := hq
    refine J_eq eg ?_
    show J X 39 [(3, iv x7), (0, .ref (xad X (4, 0, 0))), (1, iv v_y), (2, iv v_v)] [] (gs g0 4 0 z12)
    refine jr_aload_n (pc := 39) F 1 dX5_frost_39 rfl rfl ?_
    refine jr_getR (pc := 40) (b := (4, 0, 4)) F f_5_20 m4_0 rfl dX5_frost_40 ?_
    refine jr_iload_n (pc := 43) F 2 dX5_frost_43 rfl rfl ?_
    obtain ⟨c13, k⟩ := Ok_grd k
    refine jr_iald (pc := 44) F (z12 4 v_y) m4_4 (by decide) c13 (gs_at' _ _ _ _ _ _) dX5_frost_44 (fun r14 => ?_)
    obtain ⟨x15, e16, k⟩ := Ok_let k
    have r17 : Rg x15 := rg_of e16 r14
    refine jr_top e16 ?_
    refine jr_istore (pc := 45) F [(4, iv x15), (3, iv x7), (0, .ref (xad X (4, 0, 0))), (1, iv v_y), (2, iv v_v)] dX5_frost_45 (by decide) rfl ?_
    refine jr_aload_n (pc := 47) F 2 dX5_frost_47 rfl rfl ?_
    refine jr_getR (pc := 48) (b := (4, 0, 4)) F f_5_20 m4_0 rfl dX5_frost_48 ?_
    refine jr_iload_n (pc := 51) F 3 dX5_frost_51 rfl rfl ?_
    refine jr_iload_n (pc := 52) F 4 dX5_frost_52 rfl rfl ?_
    obtain ⟨L18, e19, k⟩ := Ok_let k
    refine jr_iast (pc := 53) F (gs g0 4 0 L18) m4_4 (by decide) c13 rgp_v (put1 e19) dX5_frost_53 ?_
    refine jr_iload (pc := 54) F 0 dX5_frost_54 rfl ?_
    exact jr_iret (pc := 56) F hQ rfl dX5_frost_56 ⟨_, _, rfl, r17, rfl, (Ok_some k)⟩
  have k := Ok_t h10 k
  refine jr_aload_n (pc := 29) F 1 dX5_frost_29 rfl rfl ?_
  refine jr_iload_n (pc := 30) F 0 dX5_frost_30 rfl rfl ?_
  have k := Ok_bind k
  refine jr_callV (pc := 31) (st := []) F [iv x7] (snd_X5_refuse  (g0 := g0) r9 k) rfl ck_5_139 rfl m4_0 rfl rfl rfl (by decide) (Nat.le_of_ble_eq_true rfl) dX5_frost_31 rfl (fun v g' hq => ?_)
  obtain ⟨x, L', rfl, r20, eg, k⟩ := hq
  obtain ⟨z21, ez⟩ : ∃ z : Int × LT, z = (x, L') := ⟨_, rfl⟩
  obtain ⟨rfl, rfl⟩ : x = z21.1 ∧ L' = z21.2 := ⟨by rw [ez], by rw [ez]⟩
  clear ez
  refine J_eq eg ?_
  show J X 34 [(3, iv x7), (0, .ref (xad X (4, 0, 0))), (1, iv v_y), (2, iv v_v)] [iv z21.1] (gs g0 4 0 z21.2)
  exact jr_iret (pc := 34) F hQ rfl dX5_frost_34 ⟨_, _, rfl, r20, rfl, (Ok_some k)⟩
set_option maxHeartbeats 4000000 in
set_option maxRecDepth 100000 in
theorem snd_X5_frostIn {L0 : LT} {v_y : Int} {v_n : Int} {g0 : GG} (rgp_y : Rg v_y) (rgp_n : Rg v_n) {Q : (Int × LT) → Prop} (k : Ok (X5_frostIn L0 v_y v_n) Q) : MetG SL yX5_frostIn cX5_frostIn 5 (some .int) 5 (fun ad => [.ref (ad (4, 0, 0)), iv v_y, iv v_n]) (gs g0 4 0 L0) (fun v g' => ∃ (x : Int) (L' : LT), v = some (iv x) ∧ Rg x ∧ g' = gs g0 4 0 L' ∧ Q (x, L')) := by
  refine met_intro SL_ok (by decide +kernel) (fun ad => Nat.le_of_ble_eq_true rfl) (fun X F hQ hR => ?_)
  replace F : FX X cX5_frostIn RX5 5 (some .int) SL 5 := F
  show J X 0 [(0, .ref (xad X (4, 0, 0))), (1, iv v_y), (2, iv v_n)] [] (gs g0 4 0 L0)
  refine jr_aload_n (pc := 0) F 0 dX5_frostIn_0 rfl rfl ?_
  refine jr_iconst (pc := 1) F dX5_frostIn_1 ?_
  obtain ⟨L1, e2, k⟩ := Ok_let k
  refine jr_putI (pc := 2) F (gs g0 4 0 L1) fw_5_92 m4_0 rfl (show Rg 0 from ⟨by decide, by decide⟩) (put1 e2) dX5_frostIn_2 ?_
  refine jifP (P := fun v => Rg v → J X 24 [(0, .ref (xad X (4, 0, 0))), (1, iv v_y), (2, iv v_n)] (iv v :: []) (gs g0 4 0 L1)) (c := ¬ (X5_isYard_v L1 v_y) = 0) (X5_wrongNumber_v v_n 0 72) ((-1)) (fun Ht Hf => ?_) (fun r6 => ?_)
  · refine jr_aload_n (pc := 5) F 0 dX5_frostIn_5 rfl rfl ?_
    refine jr_iload_n (pc := 6) F 1 dX5_frostIn_6 rfl rfl ?_
    refine jr_callV (pc := 7) (st := []) F [iv v_y] (snd_X5_isYard  (g0 := g0) rgp_y (X5_isYard_ok _ _ )) rfl ck_5_181 rfl m4_0 rfl rfl rfl (by decide) (Nat.le_of_ble_eq_true rfl) dX5_frostIn_7 rfl (fun v g' hq => ?_)
    obtain ⟨x, rfl, r3, eg, hx⟩ := hq
    subst hx
    refine J_eq eg ?_
    show J X 10 [(0, .ref (xad X (4, 0, 0))), (1, iv v_y), (2, iv v_n)] [iv (X5_isYard_v L1 v_y)] (gs g0 4 0 L1)
    refine jr_if_eq (pc := 10) (tgt := 23) F (rg_z r3) dX5_frostIn_10 (by decide) (fun h4 => ?_) (fun h4 => ?_)
    · refine jr_iconst (pc := 23) F dX5_frostIn_23 ?_
      exact Hf (fun q => q h4) (show Rg (-1) from ⟨by decide, by decide⟩)
    refine jr_iload_n (pc := 13) F 2 dX5_frostIn_13 rfl rfl ?_
    refine jr_iconst (pc := 14) F dX5_frostIn_14 ?_
    refine jr_bipush (pc := 15) F dX5_frostIn_15 (by decide) ?_
    refine jr_callS (pc := 17) (st := []) F [iv v_n, iv 0, iv 72] (snd_X5_wrongNumber (g0 := gs g0 4 0 L1) rgp_n (show Rg 0 from ⟨by decide, by decide⟩) (show Rg 72 from ⟨by decide, by decide⟩) (X5_wrongNumber_ok _ _ _ )) rfl ck_5_236 rfl rfl (by decide) (Nat.le_of_ble_eq_true rfl) dX5_frostIn_17 rfl (fun v g' hq => ?_)
    obtain ⟨x, rfl, r5, eg, hx⟩ := hq
    subst hx
    refine J_eq eg ?_
    show J X 20 [(0, .ref (xad X (4, 0, 0))), (1, iv v_y), (2, iv v_n)] [iv (X5_wrongNumber_v v_n 0 72)] (gs g0 4 0 L1)
    refine jr_goto (pc := 20) (tgt := 24) F dX5_frostIn_20 (by decide) ?_
    exact Ht h4 r5
  obtain ⟨x7, e8, k⟩ := Ok_let k
  have r9 : Rg x7 := rg_of e8 r6
  refine jr_top e8 ?_
  refine jr_istore_n (pc := 24) F [(3, iv x7), (0, .ref (xad X (4, 0, 0))), (1, iv v_y), (2, iv v_n)] dX5_frostIn_24 rfl (by decide) rfl ?_
  refine jr_iload_n (pc := 25) F 0 dX5_frostIn_25 rfl rfl ?_
  refine jr_if_ge (pc := 26) (tgt := 35) F r9 dX5_frostIn_26 (by decide) (fun h10 => ?_) (fun h10 => ?_)
  · have k := Ok_f (ng_lt h10) k
    refine jr_aload_n (pc := 35) F 1 dX5_frostIn_35 rfl rfl ?_
    have k := Ok_bind k
    refine jr_callV (pc := 36) (st := []) F [] (snd_X5_open  (g0 := g0)  k) rfl ck_5_203 rfl m4_0 rfl rfl rfl (by decide) (Nat.le_of_ble_eq_true rfl) dX5_frostIn_36 rfl (fun v g' hq => ?_)
    obtain ⟨z12, rfl, eg, k⟩ := hq
    refine J_eq eg ?_
    show J X 39 [(3, iv x7), (0, .ref (xad X (4, 0, 0))), (1, iv v_y), (2, iv v_n)] [] (gs g0 4 0 z12)
    refine jr_aload_n (pc := 39) F 1 dX5_frostIn_39 rfl rfl ?_
    refine jr_iload_n (pc := 40) F 3 dX5_frostIn_40 rfl rfl ?_
    have k := Ok_bind k
    refine jr_callV (pc := 41) (st := []) F [iv v_n] (snd_X5_goHours  (g0 := g0) rgp_n k) rfl ck_5_197 rfl m4_0 rfl rfl rfl (by decide) (Nat.le_of_ble_eq_true rfl) dX5_frostIn_41 rfl (fun v g' hq => ?_)
    obtain ⟨z14, rfl, eg, k⟩ := hq
    refine J_eq eg ?_
    show J X 44 [(3, iv x7), (0, .ref (xad X (4, 0, 0))), (1, iv v_y), (2, iv v_n)] [] (gs g0 4 0 z14)
    refine jr_aload_n (pc := 44) F 1 dX5_frostIn_44 rfl rfl ?_
    refine jr_getR (pc := 45) (b := (4, 0, 4)) F f_5_20 m4_0 rfl dX5_frostIn_45 ?_
    refine jr_iload_n (pc := 48) F 2 dX5_frostIn_48 rfl rfl ?_
    obtain ⟨c15, k⟩ := Ok_grd k
    refine jr_iald (pc := 49) F (z14 4 v_y) m4_4 (by decide) c15 (gs_at' _ _ _ _ _ _) dX5_frostIn_49 (fun r16 => ?_)
    obtain ⟨x17, e18, k⟩ := Ok_let k
    have r19 : Rg x17 := rg_of e18 r16
    refine jr_top e18 ?_
    refine jr_istore (pc := 50) F [(4, iv x17), (3, iv x7), (0, .ref (xad X (4, 0, 0))), (1, iv v_y), (2, iv v_n)] dX5_frostIn_50 (by decide) rfl ?_
    refine jr_aload_n (pc := 52) F 2 dX5_frostIn_52 rfl rfl ?_
    have k := Ok_bind k
    refine jr_callV (pc := 53) (st := []) F [] (snd_X5_close  (g0 := g0)  k) rfl ck_5_209 rfl m4_0 rfl rfl rfl (by decide) (Nat.le_of_ble_eq_true rfl) dX5_frostIn_53 rfl (fun v g' hq => ?_)
    obtain ⟨z21, rfl, eg, k⟩ := hq
    refine J_eq eg ?_
    show J X 56 [(4, iv x17), (3, iv x7), (0, .ref (xad X (4, 0, 0))), (1, iv v_y), (2, iv v_n)] [] (gs g0 4 0 z21)
    refine jr_iload (pc := 56) F 0 dX5_frostIn_56 rfl ?_
    exact jr_iret (pc := 58) F hQ rfl dX5_frostIn_58 ⟨_, _, rfl, r19, rfl, (Ok_some k)⟩
  have k := Ok_t h10 k
  refine jr_aload_n (pc := 29) F 1 dX5_frostIn_29 rfl rfl ?_
  refine jr_iload_n (pc := 30) F 0 dX5_frostIn_30 rfl rfl ?_
  have k := Ok_bind k
  refine jr_callV (pc := 31) (st := []) F [iv x7] (snd_X5_refuse  (g0 := g0) r9 k) rfl ck_5_139 rfl m4_0 rfl rfl rfl (by decide) (Nat.le_of_ble_eq_true rfl) dX5_frostIn_31 rfl (fun v g' hq => ?_)
  obtain ⟨x, L', rfl, r22, eg, k⟩ := hq
  obtain ⟨z23, ez⟩ : ∃ z : Int × LT, z = (x, L') := ⟨_, rfl⟩
  obtain ⟨rfl, rfl⟩ : x = z23.1 ∧ L' = z23.2 := ⟨by rw [ez], by rw [ez]⟩
  clear ez
  refine J_eq eg ?_
  show J X 34 [(3, iv x7), (0, .ref (xad X (4, 0, 0))), (1, iv v_y), (2, iv v_n)] [iv z23.1] (gs g0 4 0 z23.2)
  exact jr_iret (pc := 34) F hQ rfl dX5_frostIn_34 ⟨_, _, rfl, r22, rfl, (Ok_some k)⟩
set_option maxHeartbeats 4000000 in
set_option maxRecDepth 100000 in
theorem snd_X5_haltNear {L0 : LT} {v_y : Int} {g0 : GG} (rgp_y : Rg v_y) {Q : (Int) → Prop} (k : Ok (X5_haltNear L0 v_y) Q) : MetG SL yX5_haltNear cX5_haltNear 6 (some .int) 0 (fun ad => [.ref (ad (4, 0, 0)), iv v_y]) (gs g0 4 0 L0) (fun v g' => ∃ x : Int, v = some (iv x) ∧ Rg x ∧ g' = gs g0 4 0 L0 ∧ Q x) := by
  refine met_intro SL_ok (by decide +kernel) (fun ad => Nat.le_of_ble_eq_true rfl) (fun X F hQ hR => ?_)
  replace F : FX X cX5_haltNear RX5 6 (some .int) SL 0 := F
  show J X 0 [(0, .ref (xad X (4, 0, 0))), (1, iv v_y)] [] (gs g0 4 0 L0)
  refine jr_bipush (pc := 0) F dX5_haltNear_0 (by decide) ?_
  refine jr_istore_n (pc := 2) F [(2, iv (-9)), (0, .ref (xad X (4, 0, 0))), (1, iv v_y)] dX5_haltNear_2 rfl (by decide) rfl ?_
  refine jr_bipush (pc := 3) F dX5_haltNear_3 (by decide) ?_
  refine jr_istore_n (pc := 5) F [(3, iv 99), (2, iv (-9)), (0, .ref (xad X (4, 0, 0))), (1, iv v_y)] dX5_haltNear_5 rfl (by decide) rfl ?_
  refine jr_iconst (pc := 6) F dX5_haltNear_6 ?_
  refine jr_istore (pc := 7) F [(4, iv 0), (3, iv 99), (2, iv (-9)), (0, .ref (xad X (4, 0, 0))), (1, iv v_y)] dX5_haltNear_7 (by decide) rfl ?_
  refine jr_sub F [3, 4, 2, 1, 0] [(0, .ref (xad X (4, 0, 0))), (1, iv v_y), (2, iv (-9)), (3, iv 99), (4, iv 0)] rfl ?_
  refine lpj (P := fun s : Int × Int × Int => Rg (s.1) → Rg (s.2.1) → Rg (s.2.2) → J X 9 [(0, .ref (xad X (4, 0, 0))), (1, iv v_y), (2, iv s.1), (3, iv s.2.1), (4, iv s.2.2)] [] (gs g0 4 0 L0)) (PE := fun r : Int × Int × Int => Rg (r.1) → Rg (r.2.1) → Rg (r.2.2) → J X 91 [(0, .ref (xad X (4, 0, 0))), (1, iv v_y), (2, iv r.1), (3, iv r.2.1), (4, iv r.2.2)] [] (gs g0 4 0 L0)) k (fun s1 Q2 k hC3 hE4 r6 r7 r8 => ?_) (fun z5 k => ?_) (fun h => h (show Rg (-9) from ⟨by decide, by decide⟩) (show Rg 99 from ⟨by decide, by decide⟩) (show Rg 0 from ⟨by decide, by decide⟩))
  · refine jr_iload (pc := 9) F 4 dX5_haltNear_9 rfl ?_
    refine jr_aload_n (pc := 11) F 0 dX5_haltNear_11 rfl rfl ?_
    refine jr_getI (pc := 12) F (L0 0 0) f_5_7 m4_0 rfl (gs_at' _ _ _ _ _ _) dX5_haltNear_12 (fun r9 => ?_)
    refine jr_icmp_ge (pc := 15) (tgt := 91) F r8 r9 dX5_haltNear_15 (by decide) (fun h10 => ?_) (fun h10 => ?_)
    · have k := Ok_f (ng_lt h10) k
      exact hE4 (s1.1, s1.2.1, s1.2.2) (Ok_some k) r6 r7 r8
    have k := Ok_t h10 k
    refine jifP (P := fun v => Rg v → J X 35 [(0, .ref (xad X (4, 0, 0))), (1, iv v_y), (2, iv s1.1), (3, iv s1.2.1), (4, iv s1.2.2)] (iv v :: []) (gs g0 4 0 L0)) (c := v_y < s1.2.2) (w32 (s1.2.2 - v_y)) (w32 (v_y - s1.2.2)) (fun Ht Hf => ?_) (fun r12 => ?_)
    · refine jr_iload (pc := 18) F 4 dX5_haltNear_18 rfl ?_
      refine jr_iload_n (pc := 20) F 1 dX5_haltNear_20 rfl rfl ?_
      refine jr_icmp_le (pc := 21) (tgt := 31) F r8 rgp_y dX5_haltNear_21 (by decide) (fun h11 => ?_) (fun h11 => ?_)
      · refine jr_iload_n (pc := 31) F 1 dX5_haltNear_31 rfl rfl ?_
        refine jr_iload (pc := 32) F 4 dX5_haltNear_32 rfl ?_
        refine jr_isub (pc := 34) F dX5_haltNear_34 ?_
        exact Hf (ng_lt h11) (rg_w _)
      refine jr_iload (pc := 24) F 4 dX5_haltNear_24 rfl ?_
      refine jr_iload_n (pc := 26) F 1 dX5_haltNear_26 rfl rfl ?_
      refine jr_isub (pc := 27) F dX5_haltNear_27 ?_
      refine jr_goto (pc := 28) (tgt := 35) F dX5_haltNear_28 (by decide) ?_
      exact Ht h11 (rg_w _)
    obtain ⟨x13, e14, k⟩ := Ok_let k
    have r15 : Rg x13 := rg_of e14 r12
    refine jr_top e14 ?_
    refine jr_istore (pc := 35) F [(5, iv x13), (0, .ref (xad X (4, 0, 0))), (1, iv v_y), (2, iv s1.1), (3, iv s1.2.1), (4, iv s1.2.2)] dX5_haltNear_35 (by decide) rfl ?_
    obtain ⟨c16, k⟩ := Ok_grd k
    refine jifP (P := fun v => Rg v → J X 60 [(5, iv x13), (0, .ref (xad X (4, 0, 0))), (1, iv v_y), (2, iv s1.1), (3, iv s1.2.1), (4, iv s1.2.2)] (iv v :: []) (gs g0 4 0 L0)) (c := ((L0 2 s1.2.2) = 4) ∧ (x13 < s1.2.1)) (s1.2.2) (s1.1) (fun Ht Hf => ?_) (fun r20 => ?_)
    · refine jr_aload_n (pc := 37) F 1 dX5_haltNear_37 rfl rfl ?_
      refine jr_getR (pc := 38) (b := (4, 0, 2)) F f_5_13 m4_0 rfl dX5_haltNear_38 ?_
      refine jr_iload (pc := 41) F 5 dX5_haltNear_41 rfl ?_
      refine jr_iald (pc := 43) F (L0 2 s1.2.2) m4_2 (by decide) c16 (gs_at' _ _ _ _ _ _) dX5_haltNear_43 (fun r17 => ?_)
      refine jr_iconst (pc := 44) F dX5_haltNear_44 ?_
      refine jr_icmp_ne (pc := 45) (tgt := 59) F r17 (show Rg 4 from ⟨by decide, by decide⟩) dX5_haltNear_45 (by decide) (fun h18 => ?_) (fun h18 => ?_)
      · refine jr_iload_n (pc := 59) F 3 dX5_haltNear_59 rfl rfl ?_
        exact Hf (fun q => h18 q.1) r6
      refine jr_iload (pc := 48) F 0 dX5_haltNear_48 rfl ?_
      refine jr_iload_n (pc := 50) F 4 dX5_haltNear_50 rfl rfl ?_
      refine jr_icmp_ge (pc := 51) (tgt := 59) F r15 r7 dX5_haltNear_51 (by decide) (fun h19 => ?_) (fun h19 => ?_)
      · refine jr_iload_n (pc := 59) F 3 dX5_haltNear_59 rfl rfl ?_
        exact Hf (fun q => (ng_lt h19) q.2) r6
      refine jr_iload (pc := 54) F 5 dX5_haltNear_54 rfl ?_
      refine jr_goto (pc := 56) (tgt := 60) F dX5_haltNear_56 (by decide) ?_
      exact Ht ⟨h18, h19⟩ r8
    obtain ⟨x21, e22, k⟩ := Ok_let k
    have r23 : Rg x21 := rg_of e22 r20
    refine jr_top e22 ?_
    refine jr_istore_n (pc := 60) F [(2, iv x21), (5, iv x13), (0, .ref (xad X (4, 0, 0))), (1, iv v_y), (3, iv s1.2.1), (4, iv s1.2.2)] dX5_haltNear_60 rfl (by decide) rfl ?_
    refine jifP (P := fun v => Rg v → J X 84 [(2, iv x21), (5, iv x13), (0, .ref (xad X (4, 0, 0))), (1, iv v_y), (3, iv s1.2.1), (4, iv s1.2.2)] (iv v :: []) (gs g0 4 0 L0)) (c := ((L0 2 s1.2.2) = 4) ∧ (x13 < s1.2.1)) (x13) (s1.2.1) (fun Ht Hf => ?_) (fun r27 => ?_)
    · refine jr_aload_n (pc := 61) F 2 dX5_haltNear_61 rfl rfl ?_
      refine jr_getR (pc := 62) (b := (4, 0, 2)) F f_5_13 m4_0 rfl dX5_haltNear_62 ?_
      refine jr_iload (pc := 65) F 5 dX5_haltNear_65 rfl ?_
      refine jr_iald (pc := 67) F (L0 2 s1.2.2) m4_2 (by decide) c16 (gs_at' _ _ _ _ _ _) dX5_haltNear_67 (fun r24 => ?_)
      refine jr_iconst (pc := 68) F dX5_haltNear_68 ?_
      refine jr_icmp_ne (pc := 69) (tgt := 83) F r24 (show Rg 4 from ⟨by decide, by decide⟩) dX5_haltNear_69 (by decide) (fun h25 => ?_) (fun h25 => ?_)
      · refine jr_iload_n (pc := 83) F 4 dX5_haltNear_83 rfl rfl ?_
        exact Hf (fun q => h25 q.1) r7
      refine jr_iload (pc := 72) F 1 dX5_haltNear_72 rfl ?_
      refine jr_iload_n (pc := 74) F 4 dX5_haltNear_74 rfl rfl ?_
      refine jr_icmp_ge (pc := 75) (tgt := 83) F r15 r7 dX5_haltNear_75 (by decide) (fun h26 => ?_) (fun h26 => ?_)
      · refine jr_iload_n (pc := 83) F 4 dX5_haltNear_83 rfl rfl ?_
        exact Hf (fun q => (ng_lt h26) q.2) r7
      refine jr_iload (pc := 78) F 1 dX5_haltNear_78 rfl ?_
      refine jr_goto (pc := 80) (tgt := 84) F dX5_haltNear_80 (by decide) ?_
      exact Ht ⟨h25, h26⟩ r15
    obtain ⟨x28, e29, k⟩ := Ok_let k
    have r30 : Rg x28 := rg_of e29 r27
    refine jr_top e29 ?_
    refine jr_istore_n (pc := 84) F [(3, iv x28), (2, iv x21), (5, iv x13), (0, .ref (xad X (4, 0, 0))), (1, iv v_y), (4, iv s1.2.2)] dX5_haltNear_84 rfl (by decide) rfl ?_
    refine jr_iinc (pc := 85) F [(4, iv (w32 (s1.2.2 + 1))), (3, iv x28), (2, iv x21), (5, iv x13), (0, .ref (xad X (4, 0, 0))), (1, iv v_y)] 5 dX5_haltNear_85 rfl (by decide) rfl ?_
    refine jr_goto (pc := 88) (tgt := 9) F dX5_haltNear_88 (by decide) ?_
    refine jr_sub F [4, 5, 2, 1, 0] [(0, .ref (xad X (4, 0, 0))), (1, iv v_y), (2, iv x21), (3, iv x28), (4, iv (w32 (s1.2.2 + 1)))] rfl ?_
    exact hC3 (x21, x28, w32 (s1.2.2 + 1)) (Ok_some k) r23 r30 (rg_w _)
  intro r31 r32 r33
  refine jr_iload_n (pc := 91) F 2 dX5_haltNear_91 rfl rfl ?_
  exact jr_iret (pc := 92) F hQ rfl dX5_haltNear_92 ⟨_, rfl, r31, rfl, (Ok_some k)⟩
set_option maxHeartbeats 4000000 in
set_option maxRecDepth 100000 in
theorem snd_X5_heaviest {L0 : LT} {v_t : Int} {v_what : Int} {g0 : GG} (rgp_t : Rg v_t) (rgp_what : Rg v_what) {Q : (Int × LT) → Prop} (k : Ok (X5_heaviest L0 v_t v_what) Q) : MetG SL yX5_heaviest cX5_heaviest 9 (some .int) 5 (fun ad => [.ref (ad (4, 0, 0)), iv v_t, iv v_what]) (gs g0 4 0 L0) (fun v g' => ∃ (x : Int) (L' : LT), v = some (iv x) ∧ Rg x ∧ g' = gs g0 4 0 L' ∧ Q (x, L')) := by
  refine met_intro SL_ok (by decide +kernel) (fun ad => Nat.le_of_ble_eq_true rfl) (fun X F hQ hR => ?_)
  replace F : FX X cX5_heaviest RX5 9 (some .int) SL 5 := F
  show J X 0 [(0, .ref (xad X (4, 0, 0))), (1, iv v_t), (2, iv v_what)] [] (gs g0 4 0 L0)
  refine jr_aload_n (pc := 0) F 0 dX5_heaviest_0 rfl rfl ?_
  refine jr_iconst (pc := 1) F dX5_heaviest_1 ?_
  obtain ⟨L1, e2, k⟩ := Ok_let k
  refine jr_putI (pc := 2) F (gs g0 4 0 L1) fw_5_92 m4_0 rfl (show Rg 0 from ⟨by decide, by decide⟩) (put1 e2) dX5_heaviest_2 ?_
  refine jr_aload_n (pc := 5) F 0 dX5_heaviest_5 rfl rfl ?_
  refine jr_iload_n (pc := 6) F 1 dX5_heaviest_6 rfl rfl ?_
  refine jr_iconst (pc := 7) F dX5_heaviest_7 ?_
  refine jr_iload_n (pc := 8) F 2 dX5_heaviest_8 rfl rfl ?_
  refine jr_iconst (pc := 9) F dX5_heaviest_9 ?_
  refine jr_callS (pc := 10) (st := [iv v_t, .ref (xad X (4, 0, 0))]) F [iv 0, iv v_what, iv 2] (snd_X5_wrongBit (g0 := gs g0 4 0 L1) (show Rg 0 from ⟨by decide, by decide⟩) rgp_what (show Rg 2 from ⟨by decide, by decide⟩) (X5_wrongBit_ok _ _ _ )) rfl ck_5_246 rfl rfl (by decide) (Nat.le_of_ble_eq_true rfl) dX5_heaviest_10 rfl (fun v g' hq => ?_)
  obtain ⟨x, rfl, r3, eg, hx⟩ := hq
  subst hx
  refine J_eq eg ?_
  show J X 13 [(0, .ref (xad X (4, 0, 0))), (1, iv v_t), (2, iv v_what)] [iv (X5_wrongBit_v 0 v_what 2), iv v_t, .ref (xad X (4, 0, 0))] (gs g0 4 0 L1)
  obtain ⟨c5, k⟩ := Ok_grd k
  refine jr_callV (pc := 13) (st := []) F [iv v_t, iv (X5_wrongBit_v 0 v_what 2)] (snd_X5_wrongAhead  (g0 := g0) rgp_t r3 (X5_wrongAhead_ok _ _ _ c5)) rfl ck_5_249 rfl m4_0 rfl rfl rfl (by decide) (Nat.le_of_ble_eq_true rfl) dX5_heaviest_13 rfl (fun v g' hq => ?_)
  obtain ⟨x, rfl, r4, eg, hx⟩ := hq
  subst hx
  refine J_eq eg ?_
  show J X 16 [(0, .ref (xad X (4, 0, 0))), (1, iv v_t), (2, iv v_what)] [iv (X5_wrongAhead_v L1 v_t (X5_wrongBit_v 0 v_what 2))] (gs g0 4 0 L1)
  obtain ⟨x6, e7, k⟩ := Ok_let k
  have r8 : Rg x6 := rg_of e7 r4
  refine jr_top e7 ?_
  refine jr_istore_n (pc := 16) F [(3, iv x6), (0, .ref (xad X (4, 0, 0))), (1, iv v_t), (2, iv v_what)] dX5_heaviest_16 rfl (by decide) rfl ?_
  refine jr_iload_n (pc := 17) F 0 dX5_heaviest_17 rfl rfl ?_
  refine jr_if_ge (pc := 18) (tgt := 27) F r8 dX5_heaviest_18 (by decide) (fun h9 => ?_) (fun h9 => ?_)
  · have k := Ok_f (ng_lt h9) k
    refine jr_bipush (pc := 27) F dX5_heaviest_27 (by decide) ?_
    refine jr_istore (pc := 29) F [(4, iv (-9)), (3, iv x6), (0, .ref (xad X (4, 0, 0))), (1, iv v_t), (2, iv v_what)] dX5_heaviest_29 (by decide) rfl ?_
    refine jr_bipush (pc := 31) F dX5_heaviest_31 (by decide) ?_
    refine jr_istore (pc := 33) F [(5, iv 99), (4, iv (-9)), (3, iv x6), (0, .ref (xad X (4, 0, 0))), (1, iv v_t), (2, iv v_what)] dX5_heaviest_33 (by decide) rfl ?_
    refine jifP (P := fun v => Rg v → J X 55 [(5, iv 99), (4, iv (-9)), (3, iv x6), (0, .ref (xad X (4, 0, 0))), (1, iv v_t), (2, iv v_what)] (iv v :: []) (gs g0 4 0 L1)) (c := v_what = 0) (60) (if v_what = 1 then 9 else 3) (fun Ht Hf => ?_) (fun r13 => ?_)
    · refine jr_iload_n (pc := 35) F 5 dX5_heaviest_35 rfl rfl ?_
      refine jr_if_ne (pc := 36) (tgt := 44) F rgp_what dX5_heaviest_36 (by decide) (fun h10 => ?_) (fun h10 => ?_)
      · refine jifP (P := fun v => Rg v → J X 55 [(5, iv 99), (4, iv (-9)), (3, iv x6), (0, .ref (xad X (4, 0, 0))), (1, iv v_t), (2, iv v_what)] (iv v :: []) (gs g0 4 0 L1)) (c := v_what = 1) (9) (3) (fun Ht Hf => ?_) (fun r12 => ?_)
        · refine jr_iload_n (pc := 44) F 5 dX5_heaviest_44 rfl rfl ?_
          refine jr_iconst (pc := 45) F dX5_heaviest_45 ?_
          refine jr_icmp_ne (pc := 46) (tgt := 54) F rgp_what (show Rg 1 from ⟨by decide, by decide⟩) dX5_heaviest_46 (by decide) (fun h11 => ?_) (fun h11 => ?_)
          · refine jr_iconst (pc := 54) F dX5_heaviest_54 ?_
            exact Hf h11 (show Rg 3 from ⟨by decide, by decide⟩)
          refine jr_bipush (pc := 49) F dX5_heaviest_49 (by decide) ?_
          refine jr_goto (pc := 51) (tgt := 55) F dX5_heaviest_51 (by decide) ?_
          exact Ht h11 (show Rg 9 from ⟨by decide, by decide⟩)
        exact Hf h10 r12
      refine jr_bipush (pc := 39) F dX5_heaviest_39 (by decide) ?_
      refine jr_goto (pc := 41) (tgt := 55) F dX5_heaviest_41 (by decide) ?_
      exact Ht h10 (show Rg 60 from ⟨by decide, by decide⟩)
    obtain ⟨x14, e15, k⟩ := Ok_let k
    have r16 : Rg x14 := rg_of e15 r13
    refine jr_top e15 ?_
    refine jr_istore (pc := 55) F [(6, iv x14), (5, iv 99), (4, iv (-9)), (3, iv x6), (0, .ref (xad X (4, 0, 0))), (1, iv v_t), (2, iv v_what)] dX5_heaviest_55 (by decide) rfl ?_
    refine jr_aload_n (pc := 57) F 4 dX5_heaviest_57 rfl rfl ?_
    have k := Ok_bind k
    refine jr_callV (pc := 58) (st := []) F [] (snd_X5_open  (g0 := g0)  k) rfl ck_5_203 rfl m4_0 rfl rfl rfl (by decide) (Nat.le_of_ble_eq_true rfl) dX5_heaviest_58 rfl (fun v g' hq => ?_)
    obtain ⟨z18, rfl, eg, k⟩ := hq
    refine J_eq eg ?_
    show J X 61 [(6, iv x14), (5, iv 99), (4, iv (-9)), (3, iv x6), (0, .ref (xad X (4, 0, 0))), (1, iv v_t), (2, iv v_what)] [] (gs g0 4 0 z18)
    refine jifP (P := fun v => Bz v → J X 71 [(6, iv x14), (5, iv 99), (4, iv (-9)), (3, iv x6), (0, .ref (xad X (4, 0, 0))), (1, iv v_t), (2, iv v_what)] (iv v :: []) (gs g0 4 0 z18)) (c := v_what = 1) (0) (1) (fun Ht Hf => ?_) (fun r20 => ?_)
    · refine jr_iload_n (pc := 61) F 6 dX5_heaviest_61 rfl rfl ?_
      refine jr_iconst (pc := 62) F dX5_heaviest_62 ?_
      refine jr_icmp_ne (pc := 63) (tgt := 70) F rgp_what (show Rg 1 from ⟨by decide, by decide⟩) dX5_heaviest_63 (by decide) (fun h19 => ?_) (fun h19 => ?_)
      · refine jr_iconst (pc := 70) F dX5_heaviest_70 ?_
        exact Hf h19 (Or.inr rfl)
      refine jr_iconst (pc := 66) F dX5_heaviest_66 ?_
      refine jr_goto (pc := 67) (tgt := 71) F dX5_heaviest_67 (by decide) ?_
      exact Ht h19 (Or.inl rfl)
    obtain ⟨x21, e22, k⟩ := Ok_let k
    have r23 : Bz x21 := bz_of e22 r20
    refine jr_top e22 ?_
    refine jr_istore (pc := 71) F [(7, iv x21), (6, iv x14), (5, iv 99), (4, iv (-9)), (3, iv x6), (0, .ref (xad X (4, 0, 0))), (1, iv v_t), (2, iv v_what)] dX5_heaviest_71 (by decide) rfl ?_
    refine jr_sub F [5, 6, 7, 4, 3, 2, 1, 0] [(0, .ref (xad X (4, 0, 0))), (1, iv v_t), (2, iv v_what), (3, iv x6), (4, iv (-9)), (5, iv 99), (6, iv x14), (7, iv x21)] rfl ?_
    refine lpj (P := fun s : Int × Int × Int × LT => Rg (s.1) → Rg (s.2.1) → Rg (s.2.2.1) → J X 73 [(0, .ref (xad X (4, 0, 0))), (1, iv v_t), (2, iv v_what), (3, iv x6), (4, iv s.1), (5, iv s.2.1), (6, iv x14), (7, iv s.2.2.1)] [] (gs g0 4 0 s.2.2.2)) (PE := fun r : Int × Int × Int × LT => Rg (r.1) → Rg (r.2.1) → Rg (r.2.2.1) → J X 212 [(0, .ref (xad X (4, 0, 0))), (1, iv v_t), (2, iv v_what), (3, iv x6), (4, iv r.1), (5, iv r.2.1), (6, iv x14), (7, iv r.2.2.1)] [] (gs g0 4 0 r.2.2.2)) k (fun s24 Q25 k hC26 hE27 r29 r30 r31 => ?_) (fun z28 k => ?_) (fun h => h (show Rg (-9) from ⟨by decide, by decide⟩) (show Rg 99 from ⟨by decide, by decide⟩) (rg_z r23))
    · refine jr_iload (pc := 73) F 7 dX5_heaviest_73 rfl ?_
      refine jr_iload (pc := 75) F 6 dX5_heaviest_75 rfl ?_
      refine jr_icmp_gt (pc := 77) (tgt := 212) F r31 r16 dX5_heaviest_77 (by decide) (fun h32 => ?_) (fun h32 => ?_)
      · have k := Ok_f (ng_le h32) k
        exact hE27 (s24.1, s24.2.1, s24.2.2.1, s24.2.2.2) (Ok_some k) r29 r30 r31
      have k := Ok_t h32 k
      refine jr_aload_n (pc := 80) F 0 dX5_heaviest_80 rfl rfl ?_
      refine jr_getR (pc := 81) (b := (4, 0, 9)) F f_5_29 m4_0 rfl dX5_heaviest_81 ?_
      refine jr_iload_n (pc := 84) F 1 dX5_heaviest_84 rfl rfl ?_
      obtain ⟨c33, k⟩ := Ok_grd k
      refine jifP (P := fun v => Rg v → J X 100 [(0, .ref (xad X (4, 0, 0))), (1, iv v_t), (2, iv v_what), (3, iv x6), (4, iv s24.1), (5, iv s24.2.1), (6, iv x14), (7, iv s24.2.2.1)] (iv v :: [iv v_t, .ref (xad X (4, 0, 9))]) (gs g0 4 0 s24.2.2.2)) (c := v_what = 0) (s24.2.2.1) (s24.2.2.2 9 v_t) (fun Ht Hf => ?_) (fun r36 => ?_)
      · refine jr_iload_n (pc := 85) F 2 dX5_heaviest_85 rfl rfl ?_
        refine jr_if_ne (pc := 86) (tgt := 94) F rgp_what dX5_heaviest_86 (by decide) (fun h34 => ?_) (fun h34 => ?_)
        · refine jr_aload_n (pc := 94) F 0 dX5_heaviest_94 rfl rfl ?_
          refine jr_getR (pc := 95) (b := (4, 0, 9)) F f_5_29 m4_0 rfl dX5_heaviest_95 ?_
          refine jr_iload_n (pc := 98) F 1 dX5_heaviest_98 rfl rfl ?_
          refine jr_iald (pc := 99) F (s24.2.2.2 9 v_t) m4_9 (by decide) (c33 h34) (gs_at' _ _ _ _ _ _) dX5_heaviest_99 (fun r35 => ?_)
          exact Hf h34 r35
        refine jr_iload (pc := 89) F 7 dX5_heaviest_89 rfl ?_
        refine jr_goto (pc := 91) (tgt := 100) F dX5_heaviest_91 (by decide) ?_
        exact Ht h34 r31
      obtain ⟨c37, k⟩ := Ok_grd k
      obtain ⟨L38, e39, k⟩ := Ok_let k
      refine jr_iast (pc := 100) F (gs g0 4 0 L38) m4_9 (by decide) c37 r36 (put1 e39) dX5_heaviest_100 ?_
      refine jr_aload_n (pc := 101) F 0 dX5_heaviest_101 rfl rfl ?_
      refine jr_getR (pc := 102) (b := (4, 0, 10)) F f_5_32 m4_0 rfl dX5_heaviest_102 ?_
      refine jr_iload_n (pc := 105) F 1 dX5_heaviest_105 rfl rfl ?_
      refine jifP (P := fun v => Rg v → J X 122 [(0, .ref (xad X (4, 0, 0))), (1, iv v_t), (2, iv v_what), (3, iv x6), (4, iv s24.1), (5, iv s24.2.1), (6, iv x14), (7, iv s24.2.2.1)] (iv v :: [iv v_t, .ref (xad X (4, 0, 10))]) (gs g0 4 0 L38)) (c := v_what = 1) (s24.2.2.1) (L38 10 v_t) (fun Ht Hf => ?_) (fun r42 => ?_)
      · refine jr_iload_n (pc := 106) F 2 dX5_heaviest_106 rfl rfl ?_
        refine jr_iconst (pc := 107) F dX5_heaviest_107 ?_
        refine jr_icmp_ne (pc := 108) (tgt := 116) F rgp_what (show Rg 1 from ⟨by decide, by decide⟩) dX5_heaviest_108 (by decide) (fun h40 => ?_) (fun h40 => ?_)
        · refine jr_aload_n (pc := 116) F 0 dX5_heaviest_116 rfl rfl ?_
          refine jr_getR (pc := 117) (b := (4, 0, 10)) F f_5_32 m4_0 rfl dX5_heaviest_117 ?_
          refine jr_iload_n (pc := 120) F 1 dX5_heaviest_120 rfl rfl ?_
          refine jr_iald (pc := 121) F (L38 10 v_t) m4_10 (by decide) c37 (gs_at' _ _ _ _ _ _) dX5_heaviest_121 (fun r41 => ?_)
          exact Hf h40 r41
        refine jr_iload (pc := 111) F 7 dX5_heaviest_111 rfl ?_
        refine jr_goto (pc := 113) (tgt := 122) F dX5_heaviest_113 (by decide) ?_
        exact Ht h40 r31
      obtain ⟨L43, e44, k⟩ := Ok_let k
      refine jr_iast (pc := 122) F (gs g0 4 0 L43) m4_10 (by decide) c37 r42 (put1 e44) dX5_heaviest_122 ?_
      refine jr_aload_n (pc := 123) F 0 dX5_heaviest_123 rfl rfl ?_
      refine jr_getR (pc := 124) (b := (4, 0, 11)) F f_5_35 m4_0 rfl dX5_heaviest_124 ?_
      refine jr_iload_n (pc := 127) F 1 dX5_heaviest_127 rfl rfl ?_
      refine jifP (P := fun v => Rg v → J X 144 [(0, .ref (xad X (4, 0, 0))), (1, iv v_t), (2, iv v_what), (3, iv x6), (4, iv s24.1), (5, iv s24.2.1), (6, iv x14), (7, iv s24.2.2.1)] (iv v :: [iv v_t, .ref (xad X (4, 0, 11))]) (gs g0 4 0 L43)) (c := v_what = 2) (s24.2.2.1) (L43 11 v_t) (fun Ht Hf => ?_) (fun r47 => ?_)
      · refine jr_iload_n (pc := 128) F 2 dX5_heaviest_128 rfl rfl ?_
        refine jr_iconst (pc := 129) F dX5_heaviest_129 ?_
        refine jr_icmp_ne (pc := 130) (tgt := 138) F rgp_what (show Rg 2 from ⟨by decide, by decide⟩) dX5_heaviest_130 (by decide) (fun h45 => ?_) (fun h45 => ?_)
        · refine jr_aload_n (pc := 138) F 0 dX5_heaviest_138 rfl rfl ?_
          refine jr_getR (pc := 139) (b := (4, 0, 11)) F f_5_35 m4_0 rfl dX5_heaviest_139 ?_
          refine jr_iload_n (pc := 142) F 1 dX5_heaviest_142 rfl rfl ?_
          refine jr_iald (pc := 143) F (L43 11 v_t) m4_11 (by decide) c37 (gs_at' _ _ _ _ _ _) dX5_heaviest_143 (fun r46 => ?_)
          exact Hf h45 r46
        refine jr_iload (pc := 133) F 7 dX5_heaviest_133 rfl ?_
        refine jr_goto (pc := 135) (tgt := 144) F dX5_heaviest_135 (by decide) ?_
        exact Ht h45 r31
      obtain ⟨L48, e49, k⟩ := Ok_let k
      refine jr_iast (pc := 144) F (gs g0 4 0 L48) m4_11 (by decide) c37 r47 (put1 e49) dX5_heaviest_144 ?_
      refine jr_aload_n (pc := 145) F 0 dX5_heaviest_145 rfl rfl ?_
      refine jr_iload_n (pc := 146) F 1 dX5_heaviest_146 rfl rfl ?_
      have k := Ok_bind k
      refine jr_callV (pc := 147) (st := []) F [iv v_t] (snd_X5_throughIn  (g0 := g0) rgp_t k) rfl ck_5_252 rfl m4_0 rfl rfl rfl (by decide) (Nat.le_of_ble_eq_true rfl) dX5_heaviest_147 rfl (fun v g' hq => ?_)
      obtain ⟨x, L', rfl, r50, eg, k⟩ := hq
      obtain ⟨z51, ez⟩ : ∃ z : Int × LT, z = (x, L') := ⟨_, rfl⟩
      obtain ⟨rfl, rfl⟩ : x = z51.1 ∧ L' = z51.2 := ⟨by rw [ez], by rw [ez]⟩
      clear ez
      refine J_eq eg ?_
      show J X 150 [(0, .ref (xad X (4, 0, 0))), (1, iv v_t), (2, iv v_what), (3, iv x6), (4, iv s24.1), (5, iv s24.2.1), (6, iv x14), (7, iv s24.2.2.1)] [iv z51.1] (gs g0 4 0 z51.2)
      refine jr_istore (pc := 150) F [(8, iv z51.1), (0, .ref (xad X (4, 0, 0))), (1, iv v_t), (2, iv v_what), (3, iv x6), (4, iv s24.1), (5, iv s24.2.1), (6, iv x14), (7, iv s24.2.2.1)] dX5_heaviest_150 (by decide) rfl ?_
      refine jifP (P := fun v => Rg v → J X 188 [(8, iv z51.1), (0, .ref (xad X (4, 0, 0))), (1, iv v_t), (2, iv v_what), (3, iv x6), (4, iv s24.1), (5, iv s24.2.1), (6, iv x14), (7, iv s24.2.2.1)] (iv v :: []) (gs g0 4 0 z51.2)) (c := v_what = 2) (if z51.1 < s24.2.1 then s24.2.2.1 else s24.1) (if z51.1 < 99 then s24.2.2.1 else s24.1) (fun Ht Hf => ?_) (fun r57 => ?_)
      · refine jr_iload_n (pc := 152) F 3 dX5_heaviest_152 rfl rfl ?_
        refine jr_iconst (pc := 153) F dX5_heaviest_153 ?_
        refine jr_icmp_ne (pc := 154) (tgt := 174) F rgp_what (show Rg 2 from ⟨by decide, by decide⟩) dX5_heaviest_154 (by decide) (fun h52 => ?_) (fun h52 => ?_)
        · refine jifP (P := fun v => Rg v → J X 188 [(8, iv z51.1), (0, .ref (xad X (4, 0, 0))), (1, iv v_t), (2, iv v_what), (3, iv x6), (4, iv s24.1), (5, iv s24.2.1), (6, iv x14), (7, iv s24.2.2.1)] (iv v :: []) (gs g0 4 0 z51.2)) (c := z51.1 < 99) (s24.2.2.1) (s24.1) (fun Ht Hf => ?_) (fun r54 => ?_)
          · refine jr_iload (pc := 174) F 0 dX5_heaviest_174 rfl ?_
            refine jr_bipush (pc := 176) F dX5_heaviest_176 (by decide) ?_
            refine jr_icmp_ge (pc := 178) (tgt := 186) F r50 (show Rg 99 from ⟨by decide, by decide⟩) dX5_heaviest_178 (by decide) (fun h53 => ?_) (fun h53 => ?_)
            · refine jr_iload (pc := 186) F 5 dX5_heaviest_186 rfl ?_
              exact Hf (ng_lt h53) r29
            refine jr_iload (pc := 181) F 8 dX5_heaviest_181 rfl ?_
            refine jr_goto (pc := 183) (tgt := 188) F dX5_heaviest_183 (by decide) ?_
            exact Ht h53 r31
          exact Hf h52 r54
        refine jifP (P := fun v => Rg v → J X 188 [(8, iv z51.1), (0, .ref (xad X (4, 0, 0))), (1, iv v_t), (2, iv v_what), (3, iv x6), (4, iv s24.1), (5, iv s24.2.1), (6, iv x14), (7, iv s24.2.2.1)] (iv v :: []) (gs g0 4 0 z51.2)) (c := z51.1 < s24.2.1) (s24.2.2.1) (s24.1) (fun Ht Hf => ?_) (fun r56 => ?_)
        · refine jr_iload (pc := 157) F 0 dX5_heaviest_157 rfl ?_
          refine jr_iload (pc := 159) F 6 dX5_heaviest_159 rfl ?_
          refine jr_icmp_ge (pc := 161) (tgt := 169) F r50 r30 dX5_heaviest_161 (by decide) (fun h55 => ?_) (fun h55 => ?_)
          · refine jr_iload (pc := 169) F 5 dX5_heaviest_169 rfl ?_
            refine jr_goto (pc := 171) (tgt := 188) F dX5_heaviest_171 (by decide) ?_
            exact Hf (ng_lt h55) r29
          refine jr_iload (pc := 164) F 8 dX5_heaviest_164 rfl ?_
          refine jr_goto (pc := 166) (tgt := 188) F dX5_heaviest_166 (by decide) ?_
          exact Ht h55 r31
        exact Ht h52 r56
      obtain ⟨x58, e59, k⟩ := Ok_let k
      have r60 : Rg x58 := rg_of e59 r57
      refine jr_top e59 ?_
      refine jr_istore (pc := 188) F [(4, iv x58), (8, iv z51.1), (0, .ref (xad X (4, 0, 0))), (1, iv v_t), (2, iv v_what), (3, iv x6), (5, iv s24.2.1), (6, iv x14), (7, iv s24.2.2.1)] dX5_heaviest_188 (by decide) rfl ?_
      refine jifP (P := fun v => Rg v → J X 204 [(4, iv x58), (8, iv z51.1), (0, .ref (xad X (4, 0, 0))), (1, iv v_t), (2, iv v_what), (3, iv x6), (5, iv s24.2.1), (6, iv x14), (7, iv s24.2.2.1)] (iv v :: []) (gs g0 4 0 z51.2)) (c := z51.1 < s24.2.1) (z51.1) (s24.2.1) (fun Ht Hf => ?_) (fun r62 => ?_)
      · refine jr_iload (pc := 190) F 1 dX5_heaviest_190 rfl ?_
        refine jr_iload (pc := 192) F 6 dX5_heaviest_192 rfl ?_
        refine jr_icmp_ge (pc := 194) (tgt := 202) F r50 r30 dX5_heaviest_194 (by decide) (fun h61 => ?_) (fun h61 => ?_)
        · refine jr_iload (pc := 202) F 6 dX5_heaviest_202 rfl ?_
          exact Hf (ng_lt h61) r30
        refine jr_iload (pc := 197) F 1 dX5_heaviest_197 rfl ?_
        refine jr_goto (pc := 199) (tgt := 204) F dX5_heaviest_199 (by decide) ?_
        exact Ht h61 r50
      obtain ⟨x63, e64, k⟩ := Ok_let k
      have r65 : Rg x63 := rg_of e64 r62
      refine jr_top e64 ?_
      refine jr_istore (pc := 204) F [(5, iv x63), (4, iv x58), (8, iv z51.1), (0, .ref (xad X (4, 0, 0))), (1, iv v_t), (2, iv v_what), (3, iv x6), (6, iv x14), (7, iv s24.2.2.1)] dX5_heaviest_204 (by decide) rfl ?_
      refine jr_iinc (pc := 206) F [(7, iv (w32 (s24.2.2.1 + 1))), (5, iv x63), (4, iv x58), (8, iv z51.1), (0, .ref (xad X (4, 0, 0))), (1, iv v_t), (2, iv v_what), (3, iv x6), (6, iv x14)] 8 dX5_heaviest_206 rfl (by decide) rfl ?_
      refine jr_goto (pc := 209) (tgt := 73) F dX5_heaviest_209 (by decide) ?_
      refine jr_sub F [4, 5, 6, 7, 2, 1, 8, 0] [(0, .ref (xad X (4, 0, 0))), (1, iv v_t), (2, iv v_what), (3, iv x6), (4, iv x58), (5, iv x63), (6, iv x14), (7, iv (w32 (s24.2.2.1 + 1)))] rfl ?_
      exact hC26 (x58, x63, w32 (s24.2.2.1 + 1), z51.2) (Ok_some k) r60 r65 (rg_w _)
    intro r66 r67 r68
    refine jr_iload (pc := 212) F 4 dX5_heaviest_212 rfl ?_
    exact jr_iret (pc := 214) F hQ rfl dX5_heaviest_214 ⟨_, _, rfl, r66, rfl, (Ok_some k)⟩
  have k := Ok_t h9 k
  refine jr_aload_n (pc := 21) F 1 dX5_heaviest_21 rfl rfl ?_
  refine jr_iload_n (pc := 22) F 0 dX5_heaviest_22 rfl rfl ?_
  have k := Ok_bind k
  refine jr_callV (pc := 23) (st := []) F [iv x6] (snd_X5_refuse  (g0 := g0) r8 k) rfl ck_5_139 rfl m4_0 rfl rfl rfl (by decide) (Nat.le_of_ble_eq_true rfl) dX5_heaviest_23 rfl (fun v g' hq => ?_)
  obtain ⟨x, L', rfl, r69, eg, k⟩ := hq
  obtain ⟨z70, ez⟩ : ∃ z : Int × LT, z = (x, L') := ⟨_, rfl⟩
  obtain ⟨rfl, rfl⟩ : x = z70.1 ∧ L' = z70.2 := ⟨by rw [ez], by rw [ez]⟩
  clear ez
  refine J_eq eg ?_
  show J X 26 [(3, iv x6), (0, .ref (xad X (4, 0, 0))), (1, iv v_t), (2, iv v_what)] [iv z70.1] (gs g0 4 0 z70.2)
  exact jr_iret (pc := 26) F hQ rfl dX5_heaviest_26 ⟨_, _, rfl, r69, rfl, (Ok_some k)⟩
set_option maxHeartbeats 4000000 in
set_option maxRecDepth 100000 in
theorem snd_X5_here {L0 : LT} {g0 : GG}  {Q : (Int) → Prop} (k : Ok (X5_here_f L0) Q) : MetG SL yX5_here cX5_here 1 (some .int) 0 (fun ad => [.ref (ad (4, 0, 0))]) (gs g0 4 0 L0) (fun v g' => ∃ x : Int, v = some (iv x) ∧ Rg x ∧ g' = gs g0 4 0 L0 ∧ Q x) := by
  refine met_intro SL_ok (by decide +kernel) (fun ad => Nat.le_of_ble_eq_true rfl) (fun X F hQ hR => ?_)
  replace F : FX X cX5_here RX5 1 (some .int) SL 0 := F
  show J X 0 [(0, .ref (xad X (4, 0, 0)))] [] (gs g0 4 0 L0)
  obtain ⟨c1, k⟩ := Ok_grd k
  refine jifP (P := fun v => Rg v → J X 24 [(0, .ref (xad X (4, 0, 0)))] (iv v :: []) (gs g0 4 0 L0)) (c := (L0 0 20) < (L0 0 19)) (L0 19 (L0 0 20)) ((-1)) (fun Ht Hf => ?_) (fun r7 => ?_)
  · refine jr_aload_n (pc := 0) F 0 dX5_here_0 rfl rfl ?_
    refine jr_getI (pc := 1) F (L0 0 20) f_5_145 m4_0 rfl (gs_at' _ _ _ _ _ _) dX5_here_1 (fun r2 => ?_)
    refine jr_aload_n (pc := 4) F 0 dX5_here_4 rfl rfl ?_
    refine jr_getI (pc := 5) F (L0 0 19) f_5_142 m4_0 rfl (gs_at' _ _ _ _ _ _) dX5_here_5 (fun r3 => ?_)
    refine jr_icmp_ge (pc := 8) (tgt := 23) F r2 r3 dX5_here_8 (by decide) (fun h4 => ?_) (fun h4 => ?_)
    · refine jr_iconst (pc := 23) F dX5_here_23 ?_
      exact Hf (ng_lt h4) (show Rg (-1) from ⟨by decide, by decide⟩)
    refine jr_aload_n (pc := 11) F 0 dX5_here_11 rfl rfl ?_
    refine jr_getR (pc := 12) (b := (4, 0, 19)) F f_5_56 m4_0 rfl dX5_here_12 ?_
    refine jr_aload_n (pc := 15) F 0 dX5_here_15 rfl rfl ?_
    refine jr_getI (pc := 16) F (L0 0 20) f_5_145 m4_0 rfl (gs_at' _ _ _ _ _ _) dX5_here_16 (fun r5 => ?_)
    refine jr_iald (pc := 19) F (L0 19 (L0 0 20)) m4_19 (by decide) (c1 h4) (gs_at' _ _ _ _ _ _) dX5_here_19 (fun r6 => ?_)
    refine jr_goto (pc := 20) (tgt := 24) F dX5_here_20 (by decide) ?_
    exact Ht h4 r6
  exact jr_iret (pc := 24) F hQ rfl dX5_here_24 ⟨_, rfl, r7, rfl, (Ok_some k)⟩
set_option maxHeartbeats 4000000 in
set_option maxRecDepth 100000 in
theorem snd_X5_hours {L0 : LT} {v_n : Int} {g0 : GG} (rgp_n : Rg v_n) {Q : (Int × LT) → Prop} (k : Ok (X5_hours L0 v_n) Q) : MetG SL yX5_hours cX5_hours 4 (some .int) 5 (fun ad => [.ref (ad (4, 0, 0)), iv v_n]) (gs g0 4 0 L0) (fun v g' => ∃ (x : Int) (L' : LT), v = some (iv x) ∧ Rg x ∧ g' = gs g0 4 0 L' ∧ Q (x, L')) := by
  refine met_intro SL_ok (by decide +kernel) (fun ad => Nat.le_of_ble_eq_true rfl) (fun X F hQ hR => ?_)
  replace F : FX X cX5_hours RX5 4 (some .int) SL 5 := F
  show J X 0 [(0, .ref (xad X (4, 0, 0))), (1, iv v_n)] [] (gs g0 4 0 L0)
  refine jr_aload_n (pc := 0) F 0 dX5_hours_0 rfl rfl ?_
  refine jr_iconst (pc := 1) F dX5_hours_1 ?_
  obtain ⟨L1, e2, k⟩ := Ok_let k
  refine jr_putI (pc := 2) F (gs g0 4 0 L1) fw_5_92 m4_0 rfl (show Rg 0 from ⟨by decide, by decide⟩) (put1 e2) dX5_hours_2 ?_
  refine jr_iload_n (pc := 5) F 1 dX5_hours_5 rfl rfl ?_
  refine jr_iconst (pc := 6) F dX5_hours_6 ?_
  refine jr_bipush (pc := 7) F dX5_hours_7 (by decide) ?_
  refine jr_callS (pc := 9) (st := []) F [iv v_n, iv 1, iv 72] (snd_X5_wrongNumber (g0 := gs g0 4 0 L1) rgp_n (show Rg 1 from ⟨by decide, by decide⟩) (show Rg 72 from ⟨by decide, by decide⟩) (X5_wrongNumber_ok _ _ _ )) rfl ck_5_236 rfl rfl (by decide) (Nat.le_of_ble_eq_true rfl) dX5_hours_9 rfl (fun v g' hq => ?_)
  obtain ⟨x, rfl, r3, eg, hx⟩ := hq
  subst hx
  refine J_eq eg ?_
  show J X 12 [(0, .ref (xad X (4, 0, 0))), (1, iv v_n)] [iv (X5_wrongNumber_v v_n 1 72)] (gs g0 4 0 L1)
  obtain ⟨x4, e5, k⟩ := Ok_let k
  have r6 : Rg x4 := rg_of e5 r3
  refine jr_top e5 ?_
  refine jr_istore_n (pc := 12) F [(2, iv x4), (0, .ref (xad X (4, 0, 0))), (1, iv v_n)] dX5_hours_12 rfl (by decide) rfl ?_
  refine jifP (P := fun v => Rg v → J X 35 [(2, iv x4), (0, .ref (xad X (4, 0, 0))), (1, iv v_n)] (iv v :: []) (gs g0 4 0 L1)) (c := (x4 = 0) ∧ (999 < (w32 ((L1 0 4) + v_n)))) ((-6)) (x4) (fun Ht Hf => ?_) (fun r10 => ?_)
  · refine jr_iload_n (pc := 13) F 0 dX5_hours_13 rfl rfl ?_
    refine jr_if_ne (pc := 14) (tgt := 34) F r6 dX5_hours_14 (by decide) (fun h7 => ?_) (fun h7 => ?_)
    · refine jr_iload_n (pc := 34) F 0 dX5_hours_34 rfl rfl ?_
      exact Hf (fun q => h7 q.1) r6
    refine jr_aload_n (pc := 17) F 1 dX5_hours_17 rfl rfl ?_
    refine jr_getI (pc := 18) F (L1 0 4) f_5_120 m4_0 rfl (gs_at' _ _ _ _ _ _) dX5_hours_18 (fun r8 => ?_)
    refine jr_iload_n (pc := 21) F 2 dX5_hours_21 rfl rfl ?_
    refine jr_iadd (pc := 22) F dX5_hours_22 ?_
    refine jr_sipush (pc := 23) F dX5_hours_23 (by decide) ?_
    refine jr_icmp_le (pc := 26) (tgt := 34) F (rg_w _) (show Rg 999 from ⟨by decide, by decide⟩) dX5_hours_26 (by decide) (fun h9 => ?_) (fun h9 => ?_)
    · refine jr_iload_n (pc := 34) F 0 dX5_hours_34 rfl rfl ?_
      exact Hf (fun q => (ng_lt h9) q.2) r6
    refine jr_bipush (pc := 29) F dX5_hours_29 (by decide) ?_
    refine jr_goto (pc := 31) (tgt := 35) F dX5_hours_31 (by decide) ?_
    exact Ht ⟨h7, h9⟩ (show Rg (-6) from ⟨by decide, by decide⟩)
  obtain ⟨x11, e12, k⟩ := Ok_let k
  have r13 : Rg x11 := rg_of e12 r10
  refine jr_top e12 ?_
  refine jr_istore_n (pc := 35) F [(2, iv x11), (0, .ref (xad X (4, 0, 0))), (1, iv v_n)] dX5_hours_35 rfl (by decide) rfl ?_
  refine jr_iload_n (pc := 36) F 0 dX5_hours_36 rfl rfl ?_
  refine jr_if_ge (pc := 37) (tgt := 46) F r13 dX5_hours_37 (by decide) (fun h14 => ?_) (fun h14 => ?_)
  · have k := Ok_f (ng_lt h14) k
    refine jr_aload_n (pc := 46) F 1 dX5_hours_46 rfl rfl ?_
    have k := Ok_bind k
    refine jr_callV (pc := 47) (st := []) F [] (snd_X5_keepTurn  (g0 := g0)  k) rfl ck_5_240 rfl m4_0 rfl rfl rfl (by decide) (Nat.le_of_ble_eq_true rfl) dX5_hours_47 rfl (fun v g' hq => ?_)
    obtain ⟨z16, rfl, eg, k⟩ := hq
    refine J_eq eg ?_
    show J X 50 [(2, iv x11), (0, .ref (xad X (4, 0, 0))), (1, iv v_n)] [] (gs g0 4 0 z16)
    refine jr_aload_n (pc := 50) F 1 dX5_hours_50 rfl rfl ?_
    refine jr_iconst (pc := 51) F dX5_hours_51 ?_
    have k := Ok_bind k
    refine jr_callV (pc := 52) (st := []) F [iv 1] (snd_X5_howMany  (g0 := g0) (show Rg 1 from ⟨by decide, by decide⟩) k) rfl ck_5_243 rfl m4_0 rfl rfl rfl (by decide) (Nat.le_of_ble_eq_true rfl) dX5_hours_52 rfl (fun v g' hq => ?_)
    obtain ⟨z18, rfl, r17, eg, k⟩ := hq
    refine J_eq eg ?_
    show J X 55 [(2, iv x11), (0, .ref (xad X (4, 0, 0))), (1, iv v_n)] [iv z18] (gs g0 4 0 z16)
    refine jr_istore_n (pc := 55) F [(3, iv z18), (2, iv x11), (0, .ref (xad X (4, 0, 0))), (1, iv v_n)] dX5_hours_55 rfl (by decide) rfl ?_
    refine jr_aload_n (pc := 56) F 2 dX5_hours_56 rfl rfl ?_
    refine jr_iload_n (pc := 57) F 3 dX5_hours_57 rfl rfl ?_
    have k := Ok_bind k
    refine jr_callV (pc := 58) (st := []) F [iv v_n] (snd_X5_goHours  (g0 := g0) rgp_n k) rfl ck_5_197 rfl m4_0 rfl rfl rfl (by decide) (Nat.le_of_ble_eq_true rfl) dX5_hours_58 rfl (fun v g' hq => ?_)
    obtain ⟨z20, rfl, eg, k⟩ := hq
    refine J_eq eg ?_
    show J X 61 [(3, iv z18), (2, iv x11), (0, .ref (xad X (4, 0, 0))), (1, iv v_n)] [] (gs g0 4 0 z20)
    refine jr_aload_n (pc := 61) F 2 dX5_hours_61 rfl rfl ?_
    refine jr_iconst (pc := 62) F dX5_hours_62 ?_
    have k := Ok_bind k
    refine jr_callV (pc := 63) (st := []) F [iv 1] (snd_X5_howMany  (g0 := g0) (show Rg 1 from ⟨by decide, by decide⟩) k) rfl ck_5_243 rfl m4_0 rfl rfl rfl (by decide) (Nat.le_of_ble_eq_true rfl) dX5_hours_63 rfl (fun v g' hq => ?_)
    obtain ⟨z22, rfl, r21, eg, k⟩ := hq
    refine J_eq eg ?_
    show J X 66 [(3, iv z18), (2, iv x11), (0, .ref (xad X (4, 0, 0))), (1, iv v_n)] [iv z22] (gs g0 4 0 z20)
    refine jr_iload_n (pc := 66) F 0 dX5_hours_66 rfl rfl ?_
    refine jr_isub (pc := 67) F dX5_hours_67 ?_
    exact jr_iret (pc := 68) F hQ rfl dX5_hours_68 ⟨_, _, rfl, (rg_w _), rfl, (Ok_some k)⟩
  have k := Ok_t h14 k
  refine jr_aload_n (pc := 40) F 1 dX5_hours_40 rfl rfl ?_
  refine jr_iload_n (pc := 41) F 0 dX5_hours_41 rfl rfl ?_
  have k := Ok_bind k
  refine jr_callV (pc := 42) (st := []) F [iv x11] (snd_X5_refuse  (g0 := g0) r13 k) rfl ck_5_139 rfl m4_0 rfl rfl rfl (by decide) (Nat.le_of_ble_eq_true rfl) dX5_hours_42 rfl (fun v g' hq => ?_)
  obtain ⟨x, L', rfl, r23, eg, k⟩ := hq
  obtain ⟨z24, ez⟩ : ∃ z : Int × LT, z = (x, L') := ⟨_, rfl⟩
  obtain ⟨rfl, rfl⟩ : x = z24.1 ∧ L' = z24.2 := ⟨by rw [ez], by rw [ez]⟩
  clear ez
  refine J_eq eg ?_
  show J X 45 [(2, iv x11), (0, .ref (xad X (4, 0, 0))), (1, iv v_n)] [iv z24.1] (gs g0 4 0 z24.2)
  exact jr_iret (pc := 45) F hQ rfl dX5_hours_45 ⟨_, _, rfl, r23, rfl, (Ok_some k)⟩
set_option maxHeartbeats 4000000 in
set_option maxRecDepth 100000 in
theorem snd_X5_image {L0 : LT} {g0 : GG}  {Q : (Int × LT) → Prop} (k : Ok (X5_image L0) Q) : MetG SL yX5_image cX5_image 1 (some .int) 2 (fun ad => [.ref (ad (4, 0, 0))]) (gs g0 4 0 L0) (fun v g' => ∃ (x : Int) (L' : LT), v = some (iv x) ∧ Rg x ∧ g' = gs g0 4 0 L' ∧ Q (x, L')) := by
  refine met_intro SL_ok (by decide +kernel) (fun ad => Nat.le_of_ble_eq_true rfl) (fun X F hQ hR => ?_)
  replace F : FX X cX5_image RX5 1 (some .int) SL 2 := F
  show J X 0 [(0, .ref (xad X (4, 0, 0)))] [] (gs g0 4 0 L0)
  refine jr_aload_n (pc := 0) F 0 dX5_image_0 rfl rfl ?_
  refine jr_iconst (pc := 1) F dX5_image_1 ?_
  obtain ⟨L1, e2, k⟩ := Ok_let k
  refine jr_putI (pc := 2) F (gs g0 4 0 L1) fw_5_92 m4_0 rfl (show Rg 0 from ⟨by decide, by decide⟩) (put1 e2) dX5_image_2 ?_
  refine jr_aload_n (pc := 5) F 0 dX5_image_5 rfl rfl ?_
  refine jr_iconst (pc := 6) F dX5_image_6 ?_
  obtain ⟨L3, e4, k⟩ := Ok_let k
  refine jr_putZ (pc := 7) F (gs g0 4 0 L3) fw_5_231 m4_0 rfl (Or.inr rfl) (put1 e4) dX5_image_7 ?_
  refine jr_aload_n (pc := 10) F 0 dX5_image_10 rfl rfl ?_
  refine jr_aload_n (pc := 11) F 0 dX5_image_11 rfl rfl ?_
  refine jr_getR (pc := 12) (b := (4, 0, 28)) F f_5_71 m4_0 rfl dX5_image_12 ?_
  refine jr_iconst (pc := 15) F dX5_image_15 ?_
  have k := Ok_bind k
  refine jr_callV (pc := 16) (st := []) F [.ref (xad X (4, 0, 28)), iv 1] (snd_X5_carryAll  (g0 := g0) (show Rg 1 from ⟨by decide, by decide⟩) k) rfl ck_5_227 rfl m4_0 rfl rfl rfl (by decide) (Nat.le_of_ble_eq_true rfl) dX5_image_16 rfl (fun v g' hq => ?_)
  obtain ⟨z6, rfl, eg, k⟩ := hq
  refine J_eq eg ?_
  show J X 19 [(0, .ref (xad X (4, 0, 0)))] [] (gs g0 4 0 z6)
  refine jr_aload_n (pc := 19) F 0 dX5_image_19 rfl rfl ?_
  refine jr_getI (pc := 20) F (z6 0 4) f_5_120 m4_0 rfl (gs_at' _ _ _ _ _ _) dX5_image_20 (fun r7 => ?_)
  exact jr_iret (pc := 23) F hQ rfl dX5_image_23 ⟨_, _, rfl, r7, rfl, (Ok_some k)⟩
set_option maxHeartbeats 4000000 in
set_option maxRecDepth 100000 in
theorem snd_X5_isLetter {v_c : Int} {g0 : GG} (rgp_c : Rg v_c) {Q : (Int) → Prop} (k : Ok (X5_isLetter_f v_c) Q) : MetG SL yX5_isLetter cX5_isLetter 1 (some .boolean) 0 (fun ad => [iv v_c]) (g0) (fun v g' => ∃ x : Int, v = some (iv x) ∧ Bz x ∧ g' = g0 ∧ Q x) := by
  refine met_intro SL_ok (by decide +kernel) (fun ad => Nat.le_of_ble_eq_true rfl) (fun X F hQ hR => ?_)
  replace F : FX X cX5_isLetter RX5 1 (some .boolean) SL 0 := F
  show J X 0 [(0, iv v_c)] [] (g0)
  refine jifP (P := fun v => Bz v → J X 41 [(0, iv v_c)] (iv v :: []) (g0)) (c := (((((v_c = 110) ∨ (v_c = 121)) ∨ (v_c = 116)) ∨ (v_c = 119)) ∨ (v_c = 99)) ∨ (v_c = 104)) (1) (0) (fun Ht Hf => ?_) (fun r7 => ?_)
  · refine jr_iload_n (pc := 0) F 0 dX5_isLetter_0 rfl rfl ?_
    refine jr_bipush (pc := 1) F dX5_isLetter_1 (by decide) ?_
    refine jr_icmp_eq (pc := 3) (tgt := 36) F rgp_c (show Rg 110 from ⟨by decide, by decide⟩) dX5_isLetter_3 (by decide) (fun h1 => ?_) (fun h1 => ?_)
    · refine jr_iconst (pc := 36) F dX5_isLetter_36 ?_
      refine jr_goto (pc := 37) (tgt := 41) F dX5_isLetter_37 (by decide) ?_
      exact Ht (Or.inl (Or.inl (Or.inl (Or.inl (Or.inl h1))))) (Or.inr rfl)
    refine jr_iload_n (pc := 6) F 0 dX5_isLetter_6 rfl rfl ?_
    refine jr_bipush (pc := 7) F dX5_isLetter_7 (by decide) ?_
    refine jr_icmp_eq (pc := 9) (tgt := 36) F rgp_c (show Rg 121 from ⟨by decide, by decide⟩) dX5_isLetter_9 (by decide) (fun h2 => ?_) (fun h2 => ?_)
    · refine jr_iconst (pc := 36) F dX5_isLetter_36 ?_
      refine jr_goto (pc := 37) (tgt := 41) F dX5_isLetter_37 (by decide) ?_
      exact Ht (Or.inl (Or.inl (Or.inl (Or.inl (Or.inr h2))))) (Or.inr rfl)
    refine jr_iload_n (pc := 12) F 0 dX5_isLetter_12 rfl rfl ?_
    refine jr_bipush (pc := 13) F dX5_isLetter_13 (by decide) ?_
    refine jr_icmp_eq (pc := 15) (tgt := 36) F rgp_c (show Rg 116 from ⟨by decide, by decide⟩) dX5_isLetter_15 (by decide) (fun h3 => ?_) (fun h3 => ?_)
    · refine jr_iconst (pc := 36) F dX5_isLetter_36 ?_
      refine jr_goto (pc := 37) (tgt := 41) F dX5_isLetter_37 (by decide) ?_
      exact Ht (Or.inl (Or.inl (Or.inl (Or.inr h3)))) (Or.inr rfl)
    refine jr_iload_n (pc := 18) F 0 dX5_isLetter_18 rfl rfl ?_
    refine jr_bipush (pc := 19) F dX5_isLetter_19 (by decide) ?_
    refine jr_icmp_eq (pc := 21) (tgt := 36) F rgp_c (show Rg 119 from ⟨by decide, by decide⟩) dX5_isLetter_21 (by decide) (fun h4 => ?_) (fun h4 => ?_)
    · refine jr_iconst (pc := 36) F dX5_isLetter_36 ?_
      refine jr_goto (pc := 37) (tgt := 41) F dX5_isLetter_37 (by decide) ?_
      exact Ht (Or.inl (Or.inl (Or.inr h4))) (Or.inr rfl)
    refine jr_iload_n (pc := 24) F 0 dX5_isLetter_24 rfl rfl ?_
    refine jr_bipush (pc := 25) F dX5_isLetter_25 (by decide) ?_
    refine jr_icmp_eq (pc := 27) (tgt := 36) F rgp_c (show Rg 99 from ⟨by decide, by decide⟩) dX5_isLetter_27 (by decide) (fun h5 => ?_) (fun h5 => ?_)
    · refine jr_iconst (pc := 36) F dX5_isLetter_36 ?_
      refine jr_goto (pc := 37) (tgt := 41) F dX5_isLetter_37 (by decide) ?_
      exact Ht (Or.inl (Or.inr h5)) (Or.inr rfl)
    refine jr_iload_n (pc := 30) F 0 dX5_isLetter_30 rfl rfl ?_
    refine jr_bipush (pc := 31) F dX5_isLetter_31 (by decide) ?_
    refine jr_icmp_ne (pc := 33) (tgt := 40) F rgp_c (show Rg 104 from ⟨by decide, by decide⟩) dX5_isLetter_33 (by decide) (fun h6 => ?_) (fun h6 => ?_)
    · refine jr_iconst (pc := 40) F dX5_isLetter_40 ?_
      exact Hf (fun q => q.elim (fun q => q.elim (fun q => q.elim (fun q => q.elim (fun q => q.elim h1 h2) h3) h4) h5) h6) (Or.inl rfl)
    refine jr_iconst (pc := 36) F dX5_isLetter_36 ?_
    refine jr_goto (pc := 37) (tgt := 41) F dX5_isLetter_37 (by decide) ?_
    exact Ht (Or.inr h6) (Or.inr rfl)
  exact jr_zret (pc := 41) F hQ rfl r7 dX5_isLetter_41 ⟨_, rfl, r7, rfl, (Ok_some k)⟩
set_option maxHeartbeats 4000000 in
set_option maxRecDepth 100000 in
theorem snd_X5_judge {L0 : LT} {v_n : Int} {g0 : GG} (rgp_n : Rg v_n) {Q : (Int × LT) → Prop} (k : Ok (X5_judge L0 v_n) Q) : MetG SL yX5_judge cX5_judge 5 (some .int) 5 (fun ad => [.ref (ad (4, 0, 0)), iv v_n]) (gs g0 4 0 L0) (fun v g' => ∃ (x : Int) (L' : LT), v = some (iv x) ∧ Rg x ∧ g' = gs g0 4 0 L' ∧ Q (x, L')) := by
  refine met_intro SL_ok (by decide +kernel) (fun ad => Nat.le_of_ble_eq_true rfl) (fun X F hQ hR => ?_)
  replace F : FX X cX5_judge RX5 5 (some .int) SL 5 := F
  show J X 0 [(0, .ref (xad X (4, 0, 0))), (1, iv v_n)] [] (gs g0 4 0 L0)
  refine jr_aload_n (pc := 0) F 0 dX5_judge_0 rfl rfl ?_
  refine jr_iconst (pc := 1) F dX5_judge_1 ?_
  obtain ⟨L1, e2, k⟩ := Ok_let k
  refine jr_putI (pc := 2) F (gs g0 4 0 L1) fw_5_92 m4_0 rfl (show Rg 0 from ⟨by decide, by decide⟩) (put1 e2) dX5_judge_2 ?_
  refine jr_iload_n (pc := 5) F 1 dX5_judge_5 rfl rfl ?_
  refine jr_iconst (pc := 6) F dX5_judge_6 ?_
  refine jr_bipush (pc := 7) F dX5_judge_7 (by decide) ?_
  refine jr_callS (pc := 9) (st := []) F [iv v_n, iv 0, iv 72] (snd_X5_wrongNumber (g0 := gs g0 4 0 L1) rgp_n (show Rg 0 from ⟨by decide, by decide⟩) (show Rg 72 from ⟨by decide, by decide⟩) (X5_wrongNumber_ok _ _ _ )) rfl ck_5_236 rfl rfl (by decide) (Nat.le_of_ble_eq_true rfl) dX5_judge_9 rfl (fun v g' hq => ?_)
  obtain ⟨x, rfl, r3, eg, hx⟩ := hq
  subst hx
  refine J_eq eg ?_
  show J X 12 [(0, .ref (xad X (4, 0, 0))), (1, iv v_n)] [iv (X5_wrongNumber_v v_n 0 72)] (gs g0 4 0 L1)
  refine jr_if_ge (pc := 12) (tgt := 27) F r3 dX5_judge_12 (by decide) (fun h4 => ?_) (fun h4 => ?_)
  · have k := Ok_f (ng_lt h4) k
    refine jr_aload_n (pc := 27) F 0 dX5_judge_27 rfl rfl ?_
    refine jr_getI (pc := 28) F (L1 0 39) f_5_276 m4_0 rfl (gs_at' _ _ _ _ _ _) dX5_judge_28 (fun r5 => ?_)
    obtain ⟨x6, e7, k⟩ := Ok_let k
    have r8 : Rg x6 := rg_of e7 r5
    refine jr_top e7 ?_
    refine jr_istore_n (pc := 31) F [(2, iv x6), (0, .ref (xad X (4, 0, 0))), (1, iv v_n)] dX5_judge_31 rfl (by decide) rfl ?_
    refine jr_aload_n (pc := 32) F 1 dX5_judge_32 rfl rfl ?_
    refine jr_iconst (pc := 33) F dX5_judge_33 ?_
    obtain ⟨L9, e10, k⟩ := Ok_let k
    refine jr_putI (pc := 34) F (gs g0 4 0 L9) fw_5_276 m4_0 rfl (show Rg 0 from ⟨by decide, by decide⟩) (put1 e10) dX5_judge_34 ?_
    refine jr_bipush (pc := 37) F dX5_judge_37 (by decide) ?_
    refine jr_istore_n (pc := 39) F [(3, iv (-9)), (2, iv x6), (0, .ref (xad X (4, 0, 0))), (1, iv v_n)] dX5_judge_39 rfl (by decide) rfl ?_
    refine jr_aload_n (pc := 40) F 2 dX5_judge_40 rfl rfl ?_
    have k := Ok_bind k
    refine jr_callV (pc := 41) (st := []) F [] (snd_X5_open  (g0 := g0)  k) rfl ck_5_203 rfl m4_0 rfl rfl rfl (by decide) (Nat.le_of_ble_eq_true rfl) dX5_judge_41 rfl (fun v g' hq => ?_)
    obtain ⟨z12, rfl, eg, k⟩ := hq
    refine J_eq eg ?_
    show J X 44 [(3, iv (-9)), (2, iv x6), (0, .ref (xad X (4, 0, 0))), (1, iv v_n)] [] (gs g0 4 0 z12)
    refine jr_aload_n (pc := 44) F 2 dX5_judge_44 rfl rfl ?_
    refine jr_iload_n (pc := 45) F 3 dX5_judge_45 rfl rfl ?_
    have k := Ok_bind k
    refine jr_callV (pc := 46) (st := []) F [iv v_n] (snd_X5_goHours  (g0 := g0) rgp_n k) rfl ck_5_197 rfl m4_0 rfl rfl rfl (by decide) (Nat.le_of_ble_eq_true rfl) dX5_judge_46 rfl (fun v g' hq => ?_)
    obtain ⟨z14, rfl, eg, k⟩ := hq
    refine J_eq eg ?_
    show J X 49 [(3, iv (-9)), (2, iv x6), (0, .ref (xad X (4, 0, 0))), (1, iv v_n)] [] (gs g0 4 0 z14)
    refine jr_iconst (pc := 49) F dX5_judge_49 ?_
    refine jr_istore (pc := 50) F [(4, iv 0), (3, iv (-9)), (2, iv x6), (0, .ref (xad X (4, 0, 0))), (1, iv v_n)] dX5_judge_50 (by decide) rfl ?_
    refine jr_sub F [3, 4, 2, 1, 0] [(0, .ref (xad X (4, 0, 0))), (1, iv v_n), (2, iv x6), (3, iv (-9)), (4, iv 0)] rfl ?_
    refine lpj (P := fun s : Int × Int => Rg (s.1) → Rg (s.2) → J X 52 [(0, .ref (xad X (4, 0, 0))), (1, iv v_n), (2, iv x6), (3, iv s.1), (4, iv s.2)] [] (gs g0 4 0 z14)) (PE := fun r : Int × Int => Rg (r.1) → Rg (r.2) → J X 102 [(0, .ref (xad X (4, 0, 0))), (1, iv v_n), (2, iv x6), (3, iv r.1), (4, iv r.2)] [] (gs g0 4 0 z14)) k (fun s15 Q16 k hC17 hE18 r20 r21 => ?_) (fun z19 k => ?_) (fun h => h (show Rg (-9) from ⟨by decide, by decide⟩) (show Rg 0 from ⟨by decide, by decide⟩))
    · refine cnd (c := (s15.2 < x6) ∧ (s15.1 < 0)) (GT := J X 62 [(0, .ref (xad X (4, 0, 0))), (1, iv v_n), (2, iv x6), (3, iv s15.1), (4, iv s15.2)] [] (gs g0 4 0 z14)) (GF := J X 102 [(0, .ref (xad X (4, 0, 0))), (1, iv v_n), (2, iv x6), (3, iv s15.1), (4, iv s15.2)] [] (gs g0 4 0 z14)) k (fun HT HF => ?_) (fun h24 k => ?_) (fun h24 k => ?_)
      · refine jr_iload (pc := 52) F 4 dX5_judge_52 rfl ?_
        refine jr_iload_n (pc := 54) F 2 dX5_judge_54 rfl rfl ?_
        refine jr_icmp_ge (pc := 55) (tgt := 102) F r21 r8 dX5_judge_55 (by decide) (fun h22 => ?_) (fun h22 => ?_)
        · exact HF (fun q => (ng_lt h22) q.1)
        refine jr_iload_n (pc := 58) F 3 dX5_judge_58 rfl rfl ?_
        refine jr_if_ge (pc := 59) (tgt := 102) F r20 dX5_judge_59 (by decide) (fun h23 => ?_) (fun h23 => ?_)
        · exact HF (fun q => (ng_lt h23) q.2)
        exact HT ⟨h22, h23⟩
      · obtain ⟨c25, k⟩ := Ok_grd k
        refine jifP (P := fun v => Rg v → J X 95 [(0, .ref (xad X (4, 0, 0))), (1, iv v_n), (2, iv x6), (3, iv s15.1), (4, iv s15.2)] (iv v :: []) (gs g0 4 0 z14)) (c := (s15.2 < (z14 0 0)) ∧ ((z14 4 s15.2) = (z14 39 s15.2))) ((-9)) (s15.2) (fun Ht Hf => ?_) (fun r31 => ?_)
        · refine jr_iload (pc := 62) F 4 dX5_judge_62 rfl ?_
          refine jr_aload_n (pc := 64) F 0 dX5_judge_64 rfl rfl ?_
          refine jr_getI (pc := 65) F (z14 0 0) f_5_7 m4_0 rfl (gs_at' _ _ _ _ _ _) dX5_judge_65 (fun r26 => ?_)
          refine jr_icmp_ge (pc := 68) (tgt := 93) F r21 r26 dX5_judge_68 (by decide) (fun h27 => ?_) (fun h27 => ?_)
          · refine jr_iload (pc := 93) F 4 dX5_judge_93 rfl ?_
            exact Hf (fun q => (ng_lt h27) q.1) r21
          refine jr_aload_n (pc := 71) F 0 dX5_judge_71 rfl rfl ?_
          refine jr_getR (pc := 72) (b := (4, 0, 4)) F f_5_20 m4_0 rfl dX5_judge_72 ?_
          refine jr_iload (pc := 75) F 4 dX5_judge_75 rfl ?_
          refine jr_iald (pc := 77) F (z14 4 s15.2) m4_4 (by decide) (c25 h27) (gs_at' _ _ _ _ _ _) dX5_judge_77 (fun r28 => ?_)
          refine jr_aload_n (pc := 78) F 0 dX5_judge_78 rfl rfl ?_
          refine jr_getR (pc := 79) (b := (4, 0, 39)) F f_5_89 m4_0 rfl dX5_judge_79 ?_
          refine jr_iload (pc := 82) F 4 dX5_judge_82 rfl ?_
          refine jr_iald (pc := 84) F (z14 39 s15.2) m4_39 (by decide) (c25 h27) (gs_at' _ _ _ _ _ _) dX5_judge_84 (fun r29 => ?_)
          refine jr_icmp_ne (pc := 85) (tgt := 93) F r28 r29 dX5_judge_85 (by decide) (fun h30 => ?_) (fun h30 => ?_)
          · refine jr_iload (pc := 93) F 4 dX5_judge_93 rfl ?_
            exact Hf (fun q => h30 q.2) r21
          refine jr_bipush (pc := 88) F dX5_judge_88 (by decide) ?_
          refine jr_goto (pc := 90) (tgt := 95) F dX5_judge_90 (by decide) ?_
          exact Ht ⟨h27, h30⟩ (show Rg (-9) from ⟨by decide, by decide⟩)
        obtain ⟨x32, e33, k⟩ := Ok_let k
        have r34 : Rg x32 := rg_of e33 r31
        refine jr_top e33 ?_
        refine jr_istore_n (pc := 95) F [(3, iv x32), (0, .ref (xad X (4, 0, 0))), (1, iv v_n), (2, iv x6), (4, iv s15.2)] dX5_judge_95 rfl (by decide) rfl ?_
        refine jr_iinc (pc := 96) F [(4, iv (w32 (s15.2 + 1))), (3, iv x32), (0, .ref (xad X (4, 0, 0))), (1, iv v_n), (2, iv x6)] 4 dX5_judge_96 rfl (by decide) rfl ?_
        refine jr_goto (pc := 99) (tgt := 52) F dX5_judge_99 (by decide) ?_
        refine jr_sub F [2, 3, 4, 1, 0] [(0, .ref (xad X (4, 0, 0))), (1, iv v_n), (2, iv x6), (3, iv x32), (4, iv (w32 (s15.2 + 1)))] rfl ?_
        exact hC17 (x32, w32 (s15.2 + 1)) (Ok_some k) r34 (rg_w _)
      exact hE18 (s15.1, s15.2) (Ok_some k) r20 r21
    intro r35 r36
    refine jr_aload_n (pc := 102) F 0 dX5_judge_102 rfl rfl ?_
    have k := Ok_bind k
    refine jr_callV (pc := 103) (st := []) F [] (snd_X5_close  (g0 := g0)  k) rfl ck_5_209 rfl m4_0 rfl rfl rfl (by decide) (Nat.le_of_ble_eq_true rfl) dX5_judge_103 rfl (fun v g' hq => ?_)
    obtain ⟨z38, rfl, eg, k⟩ := hq
    refine J_eq eg ?_
    show J X 106 [(0, .ref (xad X (4, 0, 0))), (1, iv v_n), (2, iv x6), (3, iv z19.1), (4, iv z19.2)] [] (gs g0 4 0 z38)
    refine jr_iload_n (pc := 106) F 3 dX5_judge_106 rfl rfl ?_
    exact jr_iret (pc := 107) F hQ rfl dX5_judge_107 ⟨_, _, rfl, r35, rfl, (Ok_some k)⟩
  have k := Ok_t h4 k
  refine jr_aload_n (pc := 15) F 0 dX5_judge_15 rfl rfl ?_
  refine jr_iload_n (pc := 16) F 1 dX5_judge_16 rfl rfl ?_
  refine jr_iconst (pc := 17) F dX5_judge_17 ?_
  refine jr_bipush (pc := 18) F dX5_judge_18 (by decide) ?_
  refine jr_callS (pc := 20) (st := [.ref (xad X (4, 0, 0))]) F [iv v_n, iv 0, iv 72] (snd_X5_wrongNumber (g0 := gs g0 4 0 L1) rgp_n (show Rg 0 from ⟨by decide, by decide⟩) (show Rg 72 from ⟨by decide, by decide⟩) (X5_wrongNumber_ok _ _ _ )) rfl ck_5_236 rfl rfl (by decide) (Nat.le_of_ble_eq_true rfl) dX5_judge_20 rfl (fun v g' hq => ?_)
  obtain ⟨x, rfl, r39, eg, hx⟩ := hq
  subst hx
  refine J_eq eg ?_
  show J X 23 [(0, .ref (xad X (4, 0, 0))), (1, iv v_n)] [iv (X5_wrongNumber_v v_n 0 72), .ref (xad X (4, 0, 0))] (gs g0 4 0 L1)
  have k := Ok_bind k
  refine jr_callV (pc := 23) (st := []) F [iv (X5_wrongNumber_v v_n 0 72)] (snd_X5_refuse  (g0 := g0) r39 k) rfl ck_5_139 rfl m4_0 rfl rfl rfl (by decide) (Nat.le_of_ble_eq_true rfl) dX5_judge_23 rfl (fun v g' hq => ?_)
  obtain ⟨x, L', rfl, r40, eg, k⟩ := hq
  obtain ⟨z41, ez⟩ : ∃ z : Int × LT, z = (x, L') := ⟨_, rfl⟩
  obtain ⟨rfl, rfl⟩ : x = z41.1 ∧ L' = z41.2 := ⟨by rw [ez], by rw [ez]⟩
  clear ez
  refine J_eq eg ?_
  show J X 26 [(0, .ref (xad X (4, 0, 0))), (1, iv v_n)] [iv z41.1] (gs g0 4 0 z41.2)
  exact jr_iret (pc := 26) F hQ rfl dX5_judge_26 ⟨_, _, rfl, r40, rfl, (Ok_some k)⟩
set_option maxHeartbeats 4000000 in
set_option maxRecDepth 100000 in
theorem snd_X5_throughBy72 {L0 : LT} {g0 : GG}  {Q : (Int × LT) → Prop} (k : Ok (X5_throughBy72 L0) Q) : MetG SL yX5_throughBy72 cX5_throughBy72 2 (some .int) 5 (fun ad => [.ref (ad (4, 0, 0))]) (gs g0 4 0 L0) (fun v g' => ∃ (x : Int) (L' : LT), v = some (iv x) ∧ Rg x ∧ g' = gs g0 4 0 L' ∧ Q (x, L')) := by
  refine met_intro SL_ok (by decide +kernel) (fun ad => Nat.le_of_ble_eq_true rfl) (fun X F hQ hR => ?_)
  replace F : FX X cX5_throughBy72 RX5 2 (some .int) SL 5 := F
  show J X 0 [(0, .ref (xad X (4, 0, 0)))] [] (gs g0 4 0 L0)
  refine jr_aload_n (pc := 0) F 0 dX5_throughBy72_0 rfl rfl ?_
  refine jr_bipush (pc := 1) F dX5_throughBy72_1 (by decide) ?_
  have k := Ok_bind k
  refine jr_callV (pc := 3) (st := []) F [iv 72] (snd_X5_goHours  (g0 := g0) (show Rg 72 from ⟨by decide, by decide⟩) k) rfl ck_5_197 rfl m4_0 rfl rfl rfl (by decide) (Nat.le_of_ble_eq_true rfl) dX5_throughBy72_3 rfl (fun v g' hq => ?_)
  obtain ⟨z2, rfl, eg, k⟩ := hq
  refine J_eq eg ?_
  show J X 6 [(0, .ref (xad X (4, 0, 0)))] [] (gs g0 4 0 z2)
  refine jr_aload_n (pc := 6) F 0 dX5_throughBy72_6 rfl rfl ?_
  refine jr_iconst (pc := 7) F dX5_throughBy72_7 ?_
  have k := Ok_bind k
  refine jr_callV (pc := 8) (st := []) F [iv 1] (snd_X5_howMany  (g0 := g0) (show Rg 1 from ⟨by decide, by decide⟩) k) rfl ck_5_243 rfl m4_0 rfl rfl rfl (by decide) (Nat.le_of_ble_eq_true rfl) dX5_throughBy72_8 rfl (fun v g' hq => ?_)
  obtain ⟨z4, rfl, r3, eg, k⟩ := hq
  refine J_eq eg ?_
  show J X 11 [(0, .ref (xad X (4, 0, 0)))] [iv z4] (gs g0 4 0 z2)
  refine jr_istore_n (pc := 11) F [(1, iv z4), (0, .ref (xad X (4, 0, 0)))] dX5_throughBy72_11 rfl (by decide) rfl ?_
  refine jr_aload_n (pc := 12) F 1 dX5_throughBy72_12 rfl rfl ?_
  have k := Ok_bind k
  refine jr_callV (pc := 13) (st := []) F [] (snd_X5_close  (g0 := g0)  k) rfl ck_5_209 rfl m4_0 rfl rfl rfl (by decide) (Nat.le_of_ble_eq_true rfl) dX5_throughBy72_13 rfl (fun v g' hq => ?_)
  obtain ⟨z6, rfl, eg, k⟩ := hq
  refine J_eq eg ?_
  show J X 16 [(1, iv z4), (0, .ref (xad X (4, 0, 0)))] [] (gs g0 4 0 z6)
  refine jr_iload_n (pc := 16) F 0 dX5_throughBy72_16 rfl rfl ?_
  exact jr_iret (pc := 17) F hQ rfl dX5_throughBy72_17 ⟨_, _, rfl, r3, rfl, (Ok_some k)⟩
set_option maxHeartbeats 4000000 in
set_option maxRecDepth 100000 in
theorem snd_X5_key {L0 : LT} {g0 : GG}  {Q : (Int × LT) → Prop} (k : Ok (X5_key L0) Q) : MetG SL yX5_key cX5_key 5 (some .int) 6 (fun ad => [.ref (ad (4, 0, 0))]) (gs g0 4 0 L0) (fun v g' => ∃ (x : Int) (L' : LT), v = some (iv x) ∧ Rg x ∧ g' = gs g0 4 0 L' ∧ Q (x, L')) := by
  refine met_intro SL_ok (by decide +kernel) (fun ad => Nat.le_of_ble_eq_true rfl) (fun X F hQ hR => ?_)
  replace F : FX X cX5_key RX5 5 (some .int) SL 6 := F
  show J X 0 [(0, .ref (xad X (4, 0, 0)))] [] (gs g0 4 0 L0)
  refine jr_aload_n (pc := 0) F 0 dX5_key_0 rfl rfl ?_
  refine jr_iconst (pc := 1) F dX5_key_1 ?_
  obtain ⟨L1, e2, k⟩ := Ok_let k
  refine jr_putI (pc := 2) F (gs g0 4 0 L1) fw_5_92 m4_0 rfl (show Rg 0 from ⟨by decide, by decide⟩) (put1 e2) dX5_key_2 ?_
  refine jr_aload_n (pc := 5) F 0 dX5_key_5 rfl rfl ?_
  have k := Ok_bind k
  refine jr_callV (pc := 6) (st := []) F [] (snd_X5_open  (g0 := g0)  k) rfl ck_5_203 rfl m4_0 rfl rfl rfl (by decide) (Nat.le_of_ble_eq_true rfl) dX5_key_6 rfl (fun v g' hq => ?_)
  obtain ⟨z4, rfl, eg, k⟩ := hq
  refine J_eq eg ?_
  show J X 9 [(0, .ref (xad X (4, 0, 0)))] [] (gs g0 4 0 z4)
  refine jr_aload_n (pc := 9) F 0 dX5_key_9 rfl rfl ?_
  have k := Ok_bind k
  refine jr_callV (pc := 10) (st := []) F [] (snd_X5_throughBy72  (g0 := g0)  k) rfl ck_5_255 rfl m4_0 rfl rfl rfl (by decide) (Nat.le_of_ble_eq_true rfl) dX5_key_10 rfl (fun v g' hq => ?_)
  obtain ⟨x, L', rfl, r5, eg, k⟩ := hq
  obtain ⟨z6, ez⟩ : ∃ z : Int × LT, z = (x, L') := ⟨_, rfl⟩
  obtain ⟨rfl, rfl⟩ : x = z6.1 ∧ L' = z6.2 := ⟨by rw [ez], by rw [ez]⟩
  clear ez
  refine J_eq eg ?_
  show J X 13 [(0, .ref (xad X (4, 0, 0)))] [iv z6.1] (gs g0 4 0 z6.2)
  refine jr_istore_n (pc := 13) F [(1, iv z6.1), (0, .ref (xad X (4, 0, 0)))] dX5_key_13 rfl (by decide) rfl ?_
  refine jr_bipush (pc := 14) F dX5_key_14 (by decide) ?_
  refine jr_istore_n (pc := 16) F [(2, iv (-9)), (1, iv z6.1), (0, .ref (xad X (4, 0, 0)))] dX5_key_16 rfl (by decide) rfl ?_
  refine jr_iconst (pc := 17) F dX5_key_17 ?_
  refine jr_istore_n (pc := 18) F [(3, iv 0), (2, iv (-9)), (1, iv z6.1), (0, .ref (xad X (4, 0, 0)))] dX5_key_18 rfl (by decide) rfl ?_
  refine jr_sub F [3, 2, 1, 0] [(0, .ref (xad X (4, 0, 0))), (1, iv z6.1), (2, iv (-9)), (3, iv 0)] rfl ?_
  refine lpj (P := fun s : Int × Int × Int × LT => Rg (s.1) → Rg (s.2.1) → Rg (s.2.2.1) → J X 19 [(0, .ref (xad X (4, 0, 0))), (1, iv s.1), (2, iv s.2.1), (3, iv s.2.2.1)] [] (gs g0 4 0 s.2.2.2)) (PE := fun r : Int × Int × Int × LT => Rg (r.1) → Rg (r.2.1) → Rg (r.2.2.1) → J X 78 [(0, .ref (xad X (4, 0, 0))), (1, iv r.1), (2, iv r.2.1), (3, iv r.2.2.1)] [] (gs g0 4 0 r.2.2.2)) k (fun s7 Q8 k hC9 hE10 r12 r13 r14 => ?_) (fun z11 k => ?_) (fun h => h r5 (show Rg (-9) from ⟨by decide, by decide⟩) (show Rg 0 from ⟨by decide, by decide⟩))
  · refine jr_iload_n (pc := 19) F 3 dX5_key_19 rfl rfl ?_
    refine jr_aload_n (pc := 20) F 0 dX5_key_20 rfl rfl ?_
    refine jr_getI (pc := 21) F (s7.2.2.2 0 0) f_5_7 m4_0 rfl (gs_at' _ _ _ _ _ _) dX5_key_21 (fun r15 => ?_)
    refine jr_icmp_ge (pc := 24) (tgt := 78) F r14 r15 dX5_key_24 (by decide) (fun h16 => ?_) (fun h16 => ?_)
    · have k := Ok_f (ng_lt h16) k
      exact hE10 (s7.1, s7.2.1, s7.2.2.1, s7.2.2.2) (Ok_some k) r12 r13 r14
    have k := Ok_t h16 k
    refine jr_aload_n (pc := 27) F 0 dX5_key_27 rfl rfl ?_
    refine jr_getR (pc := 28) (b := (4, 0, 2)) F f_5_13 m4_0 rfl dX5_key_28 ?_
    refine jr_iload_n (pc := 31) F 3 dX5_key_31 rfl rfl ?_
    refine jr_iconst (pc := 32) F dX5_key_32 ?_
    obtain ⟨c17, k⟩ := Ok_grd k
    obtain ⟨L18, e19, k⟩ := Ok_let k
    refine jr_iast (pc := 33) F (gs g0 4 0 L18) m4_2 (by decide) c17 (show Rg 0 from ⟨by decide, by decide⟩) (put1 e19) dX5_key_33 ?_
    refine jr_aload_n (pc := 34) F 0 dX5_key_34 rfl rfl ?_
    refine jr_getR (pc := 35) (b := (4, 0, 3)) F f_5_17 m4_0 rfl dX5_key_35 ?_
    refine jr_iload_n (pc := 38) F 3 dX5_key_38 rfl rfl ?_
    refine jr_iconst (pc := 39) F dX5_key_39 ?_
    obtain ⟨L20, e21, k⟩ := Ok_let k
    refine jr_iast (pc := 40) F (gs g0 4 0 L20) m4_3 (by decide) c17 (show Rg 0 from ⟨by decide, by decide⟩) (put1 e21) dX5_key_40 ?_
    refine jr_aload_n (pc := 41) F 0 dX5_key_41 rfl rfl ?_
    have k := Ok_bind k
    refine jr_callV (pc := 42) (st := []) F [] (snd_X5_throughBy72  (g0 := g0)  k) rfl ck_5_255 rfl m4_0 rfl rfl rfl (by decide) (Nat.le_of_ble_eq_true rfl) dX5_key_42 rfl (fun v g' hq => ?_)
    obtain ⟨x, L', rfl, r22, eg, k⟩ := hq
    obtain ⟨z23, ez⟩ : ∃ z : Int × LT, z = (x, L') := ⟨_, rfl⟩
    obtain ⟨rfl, rfl⟩ : x = z23.1 ∧ L' = z23.2 := ⟨by rw [ez], by rw [ez]⟩
    clear ez
    refine J_eq eg ?_
    show J X 45 [(0, .ref (xad X (4, 0, 0))), (1, iv s7.1), (2, iv s7.2.1), (3, iv s7.2.2.1)] [iv z23.1] (gs g0 4 0 z23.2)
    refine jr_istore (pc := 45) F [(4, iv z23.1), (0, .ref (xad X (4, 0, 0))), (1, iv s7.1), (2, iv s7.2.1), (3, iv s7.2.2.1)] dX5_key_45 (by decide) rfl ?_
    refine jifP (P := fun v => Rg v → J X 58 [(4, iv z23.1), (0, .ref (xad X (4, 0, 0))), (1, iv s7.1), (2, iv s7.2.1), (3, iv s7.2.2.1)] (iv v :: []) (gs g0 4 0 z23.2)) (c := s7.1 < z23.1) (s7.2.2.1) (s7.2.1) (fun Ht Hf => ?_) (fun r25 => ?_)
    · refine jr_iload (pc := 47) F 0 dX5_key_47 rfl ?_
      refine jr_iload_n (pc := 49) F 2 dX5_key_49 rfl rfl ?_
      refine jr_icmp_le (pc := 50) (tgt := 57) F r22 r12 dX5_key_50 (by decide) (fun h24 => ?_) (fun h24 => ?_)
      · refine jr_iload_n (pc := 57) F 3 dX5_key_57 rfl rfl ?_
        exact Hf (ng_lt h24) r13
      refine jr_iload_n (pc := 53) F 4 dX5_key_53 rfl rfl ?_
      refine jr_goto (pc := 54) (tgt := 58) F dX5_key_54 (by decide) ?_
      exact Ht h24 r14
    obtain ⟨x26, e27, k⟩ := Ok_let k
    have r28 : Rg x26 := rg_of e27 r25
    refine jr_top e27 ?_
    refine jr_istore_n (pc := 58) F [(2, iv x26), (4, iv z23.1), (0, .ref (xad X (4, 0, 0))), (1, iv s7.1), (3, iv s7.2.2.1)] dX5_key_58 rfl (by decide) rfl ?_
    refine jifP (P := fun v => Rg v → J X 71 [(2, iv x26), (4, iv z23.1), (0, .ref (xad X (4, 0, 0))), (1, iv s7.1), (3, iv s7.2.2.1)] (iv v :: []) (gs g0 4 0 z23.2)) (c := s7.1 < z23.1) (z23.1) (s7.1) (fun Ht Hf => ?_) (fun r30 => ?_)
    · refine jr_iload (pc := 59) F 1 dX5_key_59 rfl ?_
      refine jr_iload_n (pc := 61) F 3 dX5_key_61 rfl rfl ?_
      refine jr_icmp_le (pc := 62) (tgt := 70) F r22 r12 dX5_key_62 (by decide) (fun h29 => ?_) (fun h29 => ?_)
      · refine jr_iload_n (pc := 70) F 3 dX5_key_70 rfl rfl ?_
        exact Hf (ng_lt h29) r12
      refine jr_iload (pc := 65) F 1 dX5_key_65 rfl ?_
      refine jr_goto (pc := 67) (tgt := 71) F dX5_key_67 (by decide) ?_
      exact Ht h29 r22
    obtain ⟨x31, e32, k⟩ := Ok_let k
    have r33 : Rg x31 := rg_of e32 r30
    refine jr_top e32 ?_
    refine jr_istore_n (pc := 71) F [(1, iv x31), (2, iv x26), (4, iv z23.1), (0, .ref (xad X (4, 0, 0))), (3, iv s7.2.2.1)] dX5_key_71 rfl (by decide) rfl ?_
    refine jr_iinc (pc := 72) F [(3, iv (w32 (s7.2.2.1 + 1))), (1, iv x31), (2, iv x26), (4, iv z23.1), (0, .ref (xad X (4, 0, 0)))] 4 dX5_key_72 rfl (by decide) rfl ?_
    refine jr_goto (pc := 75) (tgt := 19) F dX5_key_75 (by decide) ?_
    refine jr_sub F [4, 1, 2, 0] [(0, .ref (xad X (4, 0, 0))), (1, iv x31), (2, iv x26), (3, iv (w32 (s7.2.2.1 + 1)))] rfl ?_
    exact hC9 (x31, x26, w32 (s7.2.2.1 + 1), z23.2) (Ok_some k) r33 r28 (rg_w _)
  intro r34 r35 r36
  refine jr_iload_n (pc := 78) F 2 dX5_key_78 rfl rfl ?_
  exact jr_iret (pc := 79) F hQ rfl dX5_key_79 ⟨_, _, rfl, r35, rfl, (Ok_some k)⟩
set_option maxHeartbeats 4000000 in
set_option maxRecDepth 100000 in
theorem snd_X5_last {L0 : LT} {v_t : Int} {g0 : GG} (rgp_t : Rg v_t) {Q : (Int × LT) → Prop} (k : Ok (X5_last L0 v_t) Q) : MetG SL yX5_last cX5_last 4 (some .int) 5 (fun ad => [.ref (ad (4, 0, 0)), iv v_t]) (gs g0 4 0 L0) (fun v g' => ∃ (x : Int) (L' : LT), v = some (iv x) ∧ Rg x ∧ g' = gs g0 4 0 L' ∧ Q (x, L')) := by
  refine met_intro SL_ok (by decide +kernel) (fun ad => Nat.le_of_ble_eq_true rfl) (fun X F hQ hR => ?_)
  replace F : FX X cX5_last RX5 4 (some .int) SL 5 := F
  show J X 0 [(0, .ref (xad X (4, 0, 0))), (1, iv v_t)] [] (gs g0 4 0 L0)
  refine jr_aload_n (pc := 0) F 0 dX5_last_0 rfl rfl ?_
  refine jr_iconst (pc := 1) F dX5_last_1 ?_
  obtain ⟨L1, e2, k⟩ := Ok_let k
  refine jr_putI (pc := 2) F (gs g0 4 0 L1) fw_5_92 m4_0 rfl (show Rg 0 from ⟨by decide, by decide⟩) (put1 e2) dX5_last_2 ?_
  refine jr_aload_n (pc := 5) F 0 dX5_last_5 rfl rfl ?_
  refine jr_iload_n (pc := 6) F 1 dX5_last_6 rfl rfl ?_
  refine jr_iconst (pc := 7) F dX5_last_7 ?_
  obtain ⟨c4, k⟩ := Ok_grd k
  refine jr_callV (pc := 8) (st := []) F [iv v_t, iv 0] (snd_X5_wrongAhead  (g0 := g0) rgp_t (show Rg 0 from ⟨by decide, by decide⟩) (X5_wrongAhead_ok _ _ _ c4)) rfl ck_5_249 rfl m4_0 rfl rfl rfl (by decide) (Nat.le_of_ble_eq_true rfl) dX5_last_8 rfl (fun v g' hq => ?_)
  obtain ⟨x, rfl, r3, eg, hx⟩ := hq
  subst hx
  refine J_eq eg ?_
  show J X 11 [(0, .ref (xad X (4, 0, 0))), (1, iv v_t)] [iv (X5_wrongAhead_v L1 v_t 0)] (gs g0 4 0 L1)
  refine jr_if_ge (pc := 11) (tgt := 25) F r3 dX5_last_11 (by decide) (fun h5 => ?_) (fun h5 => ?_)
  · have k := Ok_f (ng_lt h5) k
    refine jr_bipush (pc := 25) F dX5_last_25 (by decide) ?_
    refine jr_istore_n (pc := 27) F [(2, iv (-9)), (0, .ref (xad X (4, 0, 0))), (1, iv v_t)] dX5_last_27 rfl (by decide) rfl ?_
    refine jr_aload_n (pc := 28) F 1 dX5_last_28 rfl rfl ?_
    have k := Ok_bind k
    refine jr_callV (pc := 29) (st := []) F [] (snd_X5_open  (g0 := g0)  k) rfl ck_5_203 rfl m4_0 rfl rfl rfl (by decide) (Nat.le_of_ble_eq_true rfl) dX5_last_29 rfl (fun v g' hq => ?_)
    obtain ⟨z7, rfl, eg, k⟩ := hq
    refine J_eq eg ?_
    show J X 32 [(2, iv (-9)), (0, .ref (xad X (4, 0, 0))), (1, iv v_t)] [] (gs g0 4 0 z7)
    refine jr_iconst (pc := 32) F dX5_last_32 ?_
    refine jr_istore_n (pc := 33) F [(3, iv 0), (2, iv (-9)), (0, .ref (xad X (4, 0, 0))), (1, iv v_t)] dX5_last_33 rfl (by decide) rfl ?_
    refine jr_sub F [2, 3, 1, 0] [(0, .ref (xad X (4, 0, 0))), (1, iv v_t), (2, iv (-9)), (3, iv 0)] rfl ?_
    refine lpj (P := fun s : Int × Int × LT => Rg (s.1) → Rg (s.2.1) → J X 34 [(0, .ref (xad X (4, 0, 0))), (1, iv v_t), (2, iv s.1), (3, iv s.2.1)] [] (gs g0 4 0 s.2.2)) (PE := fun r : Int × Int × LT => Rg (r.1) → Rg (r.2.1) → J X 69 [(0, .ref (xad X (4, 0, 0))), (1, iv v_t), (2, iv r.1), (3, iv r.2.1)] [] (gs g0 4 0 r.2.2)) k (fun s8 Q9 k hC10 hE11 r13 r14 => ?_) (fun z12 k => ?_) (fun h => h (show Rg (-9) from ⟨by decide, by decide⟩) (show Rg 0 from ⟨by decide, by decide⟩))
    · refine jr_iload_n (pc := 34) F 3 dX5_last_34 rfl rfl ?_
      refine jr_bipush (pc := 35) F dX5_last_35 (by decide) ?_
      refine jr_icmp_gt (pc := 37) (tgt := 69) F r14 (show Rg 48 from ⟨by decide, by decide⟩) dX5_last_37 (by decide) (fun h15 => ?_) (fun h15 => ?_)
      · have k := Ok_f (ng_le h15) k
        exact hE11 (s8.1, s8.2.1, s8.2.2) (Ok_some k) r13 r14
      have k := Ok_t h15 k
      refine jr_aload_n (pc := 40) F 0 dX5_last_40 rfl rfl ?_
      refine jr_getR (pc := 41) (b := (4, 0, 13)) F f_5_41 m4_0 rfl dX5_last_41 ?_
      refine jr_iload_n (pc := 44) F 1 dX5_last_44 rfl rfl ?_
      refine jr_iload_n (pc := 45) F 3 dX5_last_45 rfl rfl ?_
      obtain ⟨c16, k⟩ := Ok_grd k
      obtain ⟨L17, e18, k⟩ := Ok_let k
      refine jr_iast (pc := 46) F (gs g0 4 0 L17) m4_13 (by decide) c16 r14 (put1 e18) dX5_last_46 ?_
      refine jn (P := fun v : Int × LT => Rg (v.1) → J X 62 [(0, .ref (xad X (4, 0, 0))), (1, iv v_t), (2, iv s8.1), (3, iv s8.2.1)] (iv (v.1) :: []) (gs g0 4 0 v.2)) k (fun Q20 k hJ21 => ?_) (fun z19 k r25 => ?_)
      · refine jr_aload_n (pc := 47) F 0 dX5_last_47 rfl rfl ?_
        refine jr_iload_n (pc := 48) F 1 dX5_last_48 rfl rfl ?_
        have k := Ok_bind k
        refine jr_callV (pc := 49) (st := []) F [iv v_t] (snd_X5_throughIn  (g0 := g0) rgp_t k) rfl ck_5_252 rfl m4_0 rfl rfl rfl (by decide) (Nat.le_of_ble_eq_true rfl) dX5_last_49 rfl (fun v g' hq => ?_)
        obtain ⟨x, L', rfl, r22, eg, k⟩ := hq
        obtain ⟨z23, ez⟩ : ∃ z : Int × LT, z = (x, L') := ⟨_, rfl⟩
        obtain ⟨rfl, rfl⟩ : x = z23.1 ∧ L' = z23.2 := ⟨by rw [ez], by rw [ez]⟩
        clear ez
        refine J_eq eg ?_
        show J X 52 [(0, .ref (xad X (4, 0, 0))), (1, iv v_t), (2, iv s8.1), (3, iv s8.2.1)] [iv z23.1] (gs g0 4 0 z23.2)
        refine jr_bipush (pc := 52) F dX5_last_52 (by decide) ?_
        refine jr_icmp_ge (pc := 54) (tgt := 61) F r22 (show Rg 99 from ⟨by decide, by decide⟩) dX5_last_54 (by decide) (fun h24 => ?_) (fun h24 => ?_)
        · have k := Ok_f (ng_lt h24) k
          refine jr_iload_n (pc := 61) F 2 dX5_last_61 rfl rfl ?_
          exact hJ21 (s8.1, z23.2) (Ok_some k) r13
        have k := Ok_t h24 k
        refine jr_iload_n (pc := 57) F 3 dX5_last_57 rfl rfl ?_
        refine jr_goto (pc := 58) (tgt := 62) F dX5_last_58 (by decide) ?_
        exact hJ21 (s8.2.1, z23.2) (Ok_some k) r14
      refine jr_istore_n (pc := 62) F [(2, iv z19.1), (0, .ref (xad X (4, 0, 0))), (1, iv v_t), (3, iv s8.2.1)] dX5_last_62 rfl (by decide) rfl ?_
      refine jr_iinc (pc := 63) F [(3, iv (w32 (s8.2.1 + 1))), (2, iv z19.1), (0, .ref (xad X (4, 0, 0))), (1, iv v_t)] 3 dX5_last_63 rfl (by decide) rfl ?_
      refine jr_goto (pc := 66) (tgt := 34) F dX5_last_66 (by decide) ?_
      refine jr_sub F [2, 3, 1, 0] [(0, .ref (xad X (4, 0, 0))), (1, iv v_t), (2, iv z19.1), (3, iv (w32 (s8.2.1 + 1)))] rfl ?_
      exact hC10 (z19.1, w32 (s8.2.1 + 1), z19.2) (Ok_some k) r25 (rg_w _)
    intro r26 r27
    refine jr_iload_n (pc := 69) F 2 dX5_last_69 rfl rfl ?_
    exact jr_iret (pc := 70) F hQ rfl dX5_last_70 ⟨_, _, rfl, r26, rfl, (Ok_some k)⟩
  have k := Ok_t h5 k
  refine jr_aload_n (pc := 14) F 0 dX5_last_14 rfl rfl ?_
  refine jr_aload_n (pc := 15) F 0 dX5_last_15 rfl rfl ?_
  refine jr_iload_n (pc := 16) F 1 dX5_last_16 rfl rfl ?_
  refine jr_iconst (pc := 17) F dX5_last_17 ?_
  refine jr_callV (pc := 18) (st := [.ref (xad X (4, 0, 0))]) F [iv v_t, iv 0] (snd_X5_wrongAhead  (g0 := g0) rgp_t (show Rg 0 from ⟨by decide, by decide⟩) (X5_wrongAhead_ok _ _ _ c4)) rfl ck_5_249 rfl m4_0 rfl rfl rfl (by decide) (Nat.le_of_ble_eq_true rfl) dX5_last_18 rfl (fun v g' hq => ?_)
  obtain ⟨x, rfl, r28, eg, hx⟩ := hq
  subst hx
  refine J_eq eg ?_
  show J X 21 [(0, .ref (xad X (4, 0, 0))), (1, iv v_t)] [iv (X5_wrongAhead_v L1 v_t 0), .ref (xad X (4, 0, 0))] (gs g0 4 0 L1)
  have k := Ok_bind k
  refine jr_callV (pc := 21) (st := []) F [iv (X5_wrongAhead_v L1 v_t 0)] (snd_X5_refuse  (g0 := g0) r28 k) rfl ck_5_139 rfl m4_0 rfl rfl rfl (by decide) (Nat.le_of_ble_eq_true rfl) dX5_last_21 rfl (fun v g' hq => ?_)
  obtain ⟨x, L', rfl, r29, eg, k⟩ := hq
  obtain ⟨z30, ez⟩ : ∃ z : Int × LT, z = (x, L') := ⟨_, rfl⟩
  obtain ⟨rfl, rfl⟩ : x = z30.1 ∧ L' = z30.2 := ⟨by rw [ez], by rw [ez]⟩
  clear ez
  refine J_eq eg ?_
  show J X 24 [(0, .ref (xad X (4, 0, 0))), (1, iv v_t)] [iv z30.1] (gs g0 4 0 z30.2)
  exact jr_iret (pc := 24) F hQ rfl dX5_last_24 ⟨_, _, rfl, r29, rfl, (Ok_some k)⟩
set_option maxHeartbeats 4000000 in
set_option maxRecDepth 100000 in
theorem snd_X5_lasts {L0 : LT} {v_y : Int} {v_weight : Int} {g0 : GG} (rgp_y : Rg v_y) (rgp_weight : Rg v_weight) {Q : (Int × LT) → Prop} (k : Ok (X5_lasts L0 v_y v_weight) Q) : MetG SL yX5_lasts cX5_lasts 6 (some .int) 4 (fun ad => [.ref (ad (4, 0, 0)), iv v_y, iv v_weight]) (gs g0 4 0 L0) (fun v g' => ∃ (x : Int) (L' : LT), v = some (iv x) ∧ Rg x ∧ g' = gs g0 4 0 L' ∧ Q (x, L')) := by
  refine met_intro SL_ok (by decide +kernel) (fun ad => Nat.le_of_ble_eq_true rfl) (fun X F hQ hR => ?_)
  replace F : FX X cX5_lasts RX5 6 (some .int) SL 4 := F
  show J X 0 [(0, .ref (xad X (4, 0, 0))), (1, iv v_y), (2, iv v_weight)] [] (gs g0 4 0 L0)
  refine jr_aload_n (pc := 0) F 0 dX5_lasts_0 rfl rfl ?_
  refine jr_iconst (pc := 1) F dX5_lasts_1 ?_
  obtain ⟨L1, e2, k⟩ := Ok_let k
  refine jr_putI (pc := 2) F (gs g0 4 0 L1) fw_5_92 m4_0 rfl (show Rg 0 from ⟨by decide, by decide⟩) (put1 e2) dX5_lasts_2 ?_
  refine jifP (P := fun v => Rg v → J X 24 [(0, .ref (xad X (4, 0, 0))), (1, iv v_y), (2, iv v_weight)] (iv v :: []) (gs g0 4 0 L1)) (c := ¬ (X5_isYard_v L1 v_y) = 0) (X5_wrongNumber_v v_weight 1 60) ((-1)) (fun Ht Hf => ?_) (fun r6 => ?_)
  · refine jr_aload_n (pc := 5) F 0 dX5_lasts_5 rfl rfl ?_
    refine jr_iload_n (pc := 6) F 1 dX5_lasts_6 rfl rfl ?_
    refine jr_callV (pc := 7) (st := []) F [iv v_y] (snd_X5_isYard  (g0 := g0) rgp_y (X5_isYard_ok _ _ )) rfl ck_5_181 rfl m4_0 rfl rfl rfl (by decide) (Nat.le_of_ble_eq_true rfl) dX5_lasts_7 rfl (fun v g' hq => ?_)
    obtain ⟨x, rfl, r3, eg, hx⟩ := hq
    subst hx
    refine J_eq eg ?_
    show J X 10 [(0, .ref (xad X (4, 0, 0))), (1, iv v_y), (2, iv v_weight)] [iv (X5_isYard_v L1 v_y)] (gs g0 4 0 L1)
    refine jr_if_eq (pc := 10) (tgt := 23) F (rg_z r3) dX5_lasts_10 (by decide) (fun h4 => ?_) (fun h4 => ?_)
    · refine jr_iconst (pc := 23) F dX5_lasts_23 ?_
      exact Hf (fun q => q h4) (show Rg (-1) from ⟨by decide, by decide⟩)
    refine jr_iload_n (pc := 13) F 2 dX5_lasts_13 rfl rfl ?_
    refine jr_iconst (pc := 14) F dX5_lasts_14 ?_
    refine jr_bipush (pc := 15) F dX5_lasts_15 (by decide) ?_
    refine jr_callS (pc := 17) (st := []) F [iv v_weight, iv 1, iv 60] (snd_X5_wrongNumber (g0 := gs g0 4 0 L1) rgp_weight (show Rg 1 from ⟨by decide, by decide⟩) (show Rg 60 from ⟨by decide, by decide⟩) (X5_wrongNumber_ok _ _ _ )) rfl ck_5_236 rfl rfl (by decide) (Nat.le_of_ble_eq_true rfl) dX5_lasts_17 rfl (fun v g' hq => ?_)
    obtain ⟨x, rfl, r5, eg, hx⟩ := hq
    subst hx
    refine J_eq eg ?_
    show J X 20 [(0, .ref (xad X (4, 0, 0))), (1, iv v_y), (2, iv v_weight)] [iv (X5_wrongNumber_v v_weight 1 60)] (gs g0 4 0 L1)
    refine jr_goto (pc := 20) (tgt := 24) F dX5_lasts_20 (by decide) ?_
    exact Ht h4 r5
  obtain ⟨x7, e8, k⟩ := Ok_let k
  have r9 : Rg x7 := rg_of e8 r6
  refine jr_top e8 ?_
  refine jr_istore_n (pc := 24) F [(3, iv x7), (0, .ref (xad X (4, 0, 0))), (1, iv v_y), (2, iv v_weight)] dX5_lasts_24 rfl (by decide) rfl ?_
  refine jr_iload_n (pc := 25) F 0 dX5_lasts_25 rfl rfl ?_
  refine jr_if_ge (pc := 26) (tgt := 35) F r9 dX5_lasts_26 (by decide) (fun h10 => ?_) (fun h10 => ?_)
  · have k := Ok_f (ng_lt h10) k
    refine jr_bipush (pc := 35) F dX5_lasts_35 (by decide) ?_
    refine jr_istore (pc := 37) F [(4, iv (-9)), (3, iv x7), (0, .ref (xad X (4, 0, 0))), (1, iv v_y), (2, iv v_weight)] dX5_lasts_37 (by decide) rfl ?_
    refine jr_aload_n (pc := 39) F 2 dX5_lasts_39 rfl rfl ?_
    have k := Ok_bind k
    refine jr_callV (pc := 40) (st := []) F [] (snd_X5_open  (g0 := g0)  k) rfl ck_5_203 rfl m4_0 rfl rfl rfl (by decide) (Nat.le_of_ble_eq_true rfl) dX5_lasts_40 rfl (fun v g' hq => ?_)
    obtain ⟨z12, rfl, eg, k⟩ := hq
    refine J_eq eg ?_
    show J X 43 [(4, iv (-9)), (3, iv x7), (0, .ref (xad X (4, 0, 0))), (1, iv v_y), (2, iv v_weight)] [] (gs g0 4 0 z12)
    refine jr_iconst (pc := 43) F dX5_lasts_43 ?_
    refine jr_istore (pc := 44) F [(5, iv 0), (4, iv (-9)), (3, iv x7), (0, .ref (xad X (4, 0, 0))), (1, iv v_y), (2, iv v_weight)] dX5_lasts_44 (by decide) rfl ?_
    refine jr_sub F [3, 4, 5, 2, 1, 0] [(0, .ref (xad X (4, 0, 0))), (1, iv v_y), (2, iv v_weight), (3, iv x7), (4, iv (-9)), (5, iv 0)] rfl ?_
    refine lpj (P := fun s : Int × Int × LT => Rg (s.1) → Rg (s.2.1) → J X 46 [(0, .ref (xad X (4, 0, 0))), (1, iv v_y), (2, iv v_weight), (3, iv x7), (4, iv s.1), (5, iv s.2.1)] [] (gs g0 4 0 s.2.2)) (PE := fun r : Int × Int × LT => Rg (r.1) → Rg (r.2.1) → J X 91 [(0, .ref (xad X (4, 0, 0))), (1, iv v_y), (2, iv v_weight), (3, iv x7), (4, iv r.1), (5, iv r.2.1)] [] (gs g0 4 0 r.2.2)) k (fun s13 Q14 k hC15 hE16 r18 r19 => ?_) (fun z17 k => ?_) (fun h => h (show Rg (-9) from ⟨by decide, by decide⟩) (show Rg 0 from ⟨by decide, by decide⟩))
    · refine cnd (c := (s13.2.1 ≤ 72) ∧ (s13.1 < 0)) (GT := J X 58 [(0, .ref (xad X (4, 0, 0))), (1, iv v_y), (2, iv v_weight), (3, iv x7), (4, iv s13.1), (5, iv s13.2.1)] [] (gs g0 4 0 s13.2.2)) (GF := J X 91 [(0, .ref (xad X (4, 0, 0))), (1, iv v_y), (2, iv v_weight), (3, iv x7), (4, iv s13.1), (5, iv s13.2.1)] [] (gs g0 4 0 s13.2.2)) k (fun HT HF => ?_) (fun h22 k => ?_) (fun h22 k => ?_)
      · refine jr_iload (pc := 46) F 5 dX5_lasts_46 rfl ?_
        refine jr_bipush (pc := 48) F dX5_lasts_48 (by decide) ?_
        refine jr_icmp_gt (pc := 50) (tgt := 91) F r19 (show Rg 72 from ⟨by decide, by decide⟩) dX5_lasts_50 (by decide) (fun h20 => ?_) (fun h20 => ?_)
        · exact HF (fun q => (ng_le h20) q.1)
        refine jr_iload (pc := 53) F 4 dX5_lasts_53 rfl ?_
        refine jr_if_ge (pc := 55) (tgt := 91) F r18 dX5_lasts_55 (by decide) (fun h21 => ?_) (fun h21 => ?_)
        · exact HF (fun q => (ng_lt h21) q.2)
        exact HT ⟨h20, h21⟩
      · refine jn (P := fun v : LT => J X 67 [(0, .ref (xad X (4, 0, 0))), (1, iv v_y), (2, iv v_weight), (3, iv x7), (4, iv s13.1), (5, iv s13.2.1)] [] (gs g0 4 0 v)) k (fun Q24 k hJ25 => ?_) (fun z23 k  => ?_)
        · refine jr_iload (pc := 58) F 5 dX5_lasts_58 rfl ?_
          refine jr_if_le (pc := 60) (tgt := 67) F r19 dX5_lasts_60 (by decide) (fun h27 => ?_) (fun h27 => ?_)
          · have k := Ok_f (ng_lt h27) k
            exact hJ25 s13.2.2 (Ok_some k) 
          have k := Ok_t h27 k
          refine jr_aload_n (pc := 63) F 0 dX5_lasts_63 rfl rfl ?_
          have k := Ok_bind k
          refine jr_callV (pc := 64) (st := []) F [] (snd_X5_hourOn  (g0 := g0)  k) rfl ck_5_133 rfl m4_0 rfl rfl rfl (by decide) (Nat.le_of_ble_eq_true rfl) dX5_lasts_64 rfl (fun v g' hq => ?_)
          obtain ⟨z29, rfl, eg, k⟩ := hq
          refine J_eq eg ?_
          show J X 67 [(0, .ref (xad X (4, 0, 0))), (1, iv v_y), (2, iv v_weight), (3, iv x7), (4, iv s13.1), (5, iv s13.2.1)] [] (gs g0 4 0 z29)
          exact hJ25 z29 (Ok_some k) 
        obtain ⟨c30, k⟩ := Ok_grd k
        refine jifP (P := fun v => Rg v → J X 83 [(0, .ref (xad X (4, 0, 0))), (1, iv v_y), (2, iv v_weight), (3, iv x7), (4, iv s13.1), (5, iv s13.2.1)] (iv v :: []) (gs g0 4 0 z23)) (c := ¬ (X5_bears_v z23 v_y v_weight) = 0) ((-9)) (s13.2.1) (fun Ht Hf => ?_) (fun r33 => ?_)
        · refine jr_aload_n (pc := 67) F 0 dX5_lasts_67 rfl rfl ?_
          refine jr_iload_n (pc := 68) F 1 dX5_lasts_68 rfl rfl ?_
          refine jr_iload_n (pc := 69) F 2 dX5_lasts_69 rfl rfl ?_
          refine jr_callV (pc := 70) (st := []) F [iv v_y, iv v_weight] (snd_X5_bears  (g0 := g0) rgp_y rgp_weight (X5_bears_ok _ _ _ c30)) rfl ck_5_110 rfl m4_0 rfl rfl rfl (by decide) (Nat.le_of_ble_eq_true rfl) dX5_lasts_70 rfl (fun v g' hq => ?_)
          obtain ⟨x, rfl, r31, eg, hx⟩ := hq
          subst hx
          refine J_eq eg ?_
          show J X 73 [(0, .ref (xad X (4, 0, 0))), (1, iv v_y), (2, iv v_weight), (3, iv x7), (4, iv s13.1), (5, iv s13.2.1)] [iv (X5_bears_v z23 v_y v_weight)] (gs g0 4 0 z23)
          refine jr_if_eq (pc := 73) (tgt := 81) F (rg_z r31) dX5_lasts_73 (by decide) (fun h32 => ?_) (fun h32 => ?_)
          · refine jr_iload (pc := 81) F 5 dX5_lasts_81 rfl ?_
            exact Hf (fun q => q h32) r19
          refine jr_bipush (pc := 76) F dX5_lasts_76 (by decide) ?_
          refine jr_goto (pc := 78) (tgt := 83) F dX5_lasts_78 (by decide) ?_
          exact Ht h32 (show Rg (-9) from ⟨by decide, by decide⟩)
        obtain ⟨x34, e35, k⟩ := Ok_let k
        have r36 : Rg x34 := rg_of e35 r33
        refine jr_top e35 ?_
        refine jr_istore (pc := 83) F [(4, iv x34), (0, .ref (xad X (4, 0, 0))), (1, iv v_y), (2, iv v_weight), (3, iv x7), (5, iv s13.2.1)] dX5_lasts_83 (by decide) rfl ?_
        refine jr_iinc (pc := 85) F [(5, iv (w32 (s13.2.1 + 1))), (4, iv x34), (0, .ref (xad X (4, 0, 0))), (1, iv v_y), (2, iv v_weight), (3, iv x7)] 5 dX5_lasts_85 rfl (by decide) rfl ?_
        refine jr_goto (pc := 88) (tgt := 46) F dX5_lasts_88 (by decide) ?_
        refine jr_sub F [2, 3, 4, 5, 1, 0] [(0, .ref (xad X (4, 0, 0))), (1, iv v_y), (2, iv v_weight), (3, iv x7), (4, iv x34), (5, iv (w32 (s13.2.1 + 1)))] rfl ?_
        exact hC15 (x34, w32 (s13.2.1 + 1), z23) (Ok_some k) r36 (rg_w _)
      exact hE16 (s13.1, s13.2.1, s13.2.2) (Ok_some k) r18 r19
    intro r37 r38
    refine jr_aload_n (pc := 91) F 0 dX5_lasts_91 rfl rfl ?_
    have k := Ok_bind k
    refine jr_callV (pc := 92) (st := []) F [] (snd_X5_close  (g0 := g0)  k) rfl ck_5_209 rfl m4_0 rfl rfl rfl (by decide) (Nat.le_of_ble_eq_true rfl) dX5_lasts_92 rfl (fun v g' hq => ?_)
    obtain ⟨z40, rfl, eg, k⟩ := hq
    refine J_eq eg ?_
    show J X 95 [(0, .ref (xad X (4, 0, 0))), (1, iv v_y), (2, iv v_weight), (3, iv x7), (4, iv z17.1), (5, iv z17.2.1)] [] (gs g0 4 0 z40)
    refine jr_iload (pc := 95) F 4 dX5_lasts_95 rfl ?_
    exact jr_iret (pc := 97) F hQ rfl dX5_lasts_97 ⟨_, _, rfl, r37, rfl, (Ok_some k)⟩
  have k := Ok_t h10 k
  refine jr_aload_n (pc := 29) F 1 dX5_lasts_29 rfl rfl ?_
  refine jr_iload_n (pc := 30) F 0 dX5_lasts_30 rfl rfl ?_
  have k := Ok_bind k
  refine jr_callV (pc := 31) (st := []) F [iv x7] (snd_X5_refuse  (g0 := g0) r9 k) rfl ck_5_139 rfl m4_0 rfl rfl rfl (by decide) (Nat.le_of_ble_eq_true rfl) dX5_lasts_31 rfl (fun v g' hq => ?_)
  obtain ⟨x, L', rfl, r41, eg, k⟩ := hq
  obtain ⟨z42, ez⟩ : ∃ z : Int × LT, z = (x, L') := ⟨_, rfl⟩
  obtain ⟨rfl, rfl⟩ : x = z42.1 ∧ L' = z42.2 := ⟨by rw [ez], by rw [ez]⟩
  clear ez
  refine J_eq eg ?_
  show J X 34 [(3, iv x7), (0, .ref (xad X (4, 0, 0))), (1, iv v_y), (2, iv v_weight)] [iv z42.1] (gs g0 4 0 z42.2)
  exact jr_iret (pc := 34) F hQ rfl dX5_lasts_34 ⟨_, _, rfl, r41, rfl, (Ok_some k)⟩
set_option maxHeartbeats 4000000 in
set_option maxRecDepth 100000 in
theorem snd_X5_ordersOf {v_n : Int} {g0 : GG} (rgp_n : Rg v_n) {Q : (Int) → Prop} (k : Ok (X5_ordersOf v_n) Q) : MetG SL yX5_ordersOf cX5_ordersOf 3 (some .int) 0 (fun ad => [iv v_n]) (g0) (fun v g' => ∃ x : Int, v = some (iv x) ∧ Rg x ∧ g' = g0 ∧ Q x) := by
  refine met_intro SL_ok (by decide +kernel) (fun ad => Nat.le_of_ble_eq_true rfl) (fun X F hQ hR => ?_)
  replace F : FX X cX5_ordersOf RX5 3 (some .int) SL 0 := F
  show J X 0 [(0, iv v_n)] [] (g0)
  refine jr_iconst (pc := 0) F dX5_ordersOf_0 ?_
  refine jr_istore_n (pc := 1) F [(1, iv 1), (0, iv v_n)] dX5_ordersOf_1 rfl (by decide) rfl ?_
  refine jr_iconst (pc := 2) F dX5_ordersOf_2 ?_
  refine jr_istore_n (pc := 3) F [(2, iv 2), (1, iv 1), (0, iv v_n)] dX5_ordersOf_3 rfl (by decide) rfl ?_
  refine jr_sub F [2, 1, 0] [(0, iv v_n), (1, iv 1), (2, iv 2)] rfl ?_
  refine lpj (P := fun s : Int × Int => Rg (s.1) → Rg (s.2) → J X 4 [(0, iv v_n), (1, iv s.1), (2, iv s.2)] [] (g0)) (PE := fun r : Int × Int => Rg (r.1) → Rg (r.2) → J X 19 [(0, iv v_n), (1, iv r.1), (2, iv r.2)] [] (g0)) k (fun s1 Q2 k hC3 hE4 r6 r7 => ?_) (fun z5 k => ?_) (fun h => h (show Rg 1 from ⟨by decide, by decide⟩) (show Rg 2 from ⟨by decide, by decide⟩))
  · refine jr_iload_n (pc := 4) F 2 dX5_ordersOf_4 rfl rfl ?_
    refine jr_iload_n (pc := 5) F 0 dX5_ordersOf_5 rfl rfl ?_
    refine jr_icmp_gt (pc := 6) (tgt := 19) F r7 rgp_n dX5_ordersOf_6 (by decide) (fun h8 => ?_) (fun h8 => ?_)
    · have k := Ok_f (ng_le h8) k
      exact hE4 (s1.1, s1.2) (Ok_some k) r6 r7
    have k := Ok_t h8 k
    refine jr_iload_n (pc := 9) F 1 dX5_ordersOf_9 rfl rfl ?_
    refine jr_iload_n (pc := 10) F 2 dX5_ordersOf_10 rfl rfl ?_
    refine jr_imul (pc := 11) F dX5_ordersOf_11 ?_
    obtain ⟨x9, e10, k⟩ := Ok_let k
    have r11 : Rg x9 := rg_of e10 (rg_w _)
    refine jr_top e10 ?_
    refine jr_istore_n (pc := 12) F [(1, iv x9), (0, iv v_n), (2, iv s1.2)] dX5_ordersOf_12 rfl (by decide) rfl ?_
    refine jr_iinc (pc := 13) F [(2, iv (w32 (s1.2 + 1))), (1, iv x9), (0, iv v_n)] 2 dX5_ordersOf_13 rfl (by decide) rfl ?_
    refine jr_goto (pc := 16) (tgt := 4) F dX5_ordersOf_16 (by decide) ?_
    refine jr_sub F [2, 1, 0] [(0, iv v_n), (1, iv x9), (2, iv (w32 (s1.2 + 1)))] rfl ?_
    exact hC3 (x9, w32 (s1.2 + 1)) (Ok_some k) r11 (rg_w _)
  intro r12 r13
  refine jr_iload_n (pc := 19) F 1 dX5_ordersOf_19 rfl rfl ?_
  exact jr_iret (pc := 20) F hQ rfl dX5_ordersOf_20 ⟨_, rfl, r12, rfl, (Ok_some k)⟩
set_option maxHeartbeats 4000000 in
set_option maxRecDepth 100000 in
theorem snd_X5_layOrder {L0 : LT} {v_k : Int} {v_n : Int} {g0 : GG} (rgp_k : Rg v_k) (rgp_n : Rg v_n) {Q : (LT) → Prop} (k : Ok (X5_layOrder L0 v_k v_n) Q) : MetG SL yX5_layOrder cX5_layOrder 9 none 1 (fun ad => [.ref (ad (4, 0, 0)), iv v_k, iv v_n]) (gs g0 4 0 L0) (fun v g' => ∃ L' : LT, v = none ∧ g' = gs g0 4 0 L' ∧ Q L') := by
  refine met_intro SL_ok (by decide +kernel) (fun ad => Nat.le_of_ble_eq_true rfl) (fun X F hQ hR => ?_)
  replace F : FX X cX5_layOrder RX5 9 none SL 1 := F
  show J X 0 [(0, .ref (xad X (4, 0, 0))), (1, iv v_k), (2, iv v_n)] [] (gs g0 4 0 L0)
  refine jr_iload_n (pc := 0) F 1 dX5_layOrder_0 rfl rfl ?_
  refine jr_istore_n (pc := 1) F [(3, iv v_k), (0, .ref (xad X (4, 0, 0))), (1, iv v_k), (2, iv v_n)] dX5_layOrder_1 rfl (by decide) rfl ?_
  refine jr_iconst (pc := 2) F dX5_layOrder_2 ?_
  refine jr_istore (pc := 3) F [(4, iv 0), (3, iv v_k), (0, .ref (xad X (4, 0, 0))), (1, iv v_k), (2, iv v_n)] dX5_layOrder_3 (by decide) rfl ?_
  refine jr_iconst (pc := 5) F dX5_layOrder_5 ?_
  refine jr_istore (pc := 6) F [(5, iv 0), (4, iv 0), (3, iv v_k), (0, .ref (xad X (4, 0, 0))), (1, iv v_k), (2, iv v_n)] dX5_layOrder_6 (by decide) rfl ?_
  refine jr_sub F [3, 4, 5, 2, 1, 0] [(0, .ref (xad X (4, 0, 0))), (1, iv v_k), (2, iv v_n), (3, iv v_k), (4, iv 0), (5, iv 0)] rfl ?_
  refine lpj (P := fun s : Int × Int × Int × LT => Rg (s.1) → Rg (s.2.1) → Rg (s.2.2.1) → J X 8 [(0, .ref (xad X (4, 0, 0))), (1, iv v_k), (2, iv v_n), (3, iv s.1), (4, iv s.2.1), (5, iv s.2.2.1)] [] (gs g0 4 0 s.2.2.2)) (PE := fun r : Int × Int × Int × LT => Rg (r.1) → Rg (r.2.1) → Rg (r.2.2.1) → J X 104 [(0, .ref (xad X (4, 0, 0))), (1, iv v_k), (2, iv v_n), (3, iv r.1), (4, iv r.2.1), (5, iv r.2.2.1)] [] (gs g0 4 0 r.2.2.2)) k (fun s1 Q2 k hC3 hE4 r6 r7 r8 => ?_) (fun z5 k => ?_) (fun h => h rgp_k (show Rg 0 from ⟨by decide, by decide⟩) (show Rg 0 from ⟨by decide, by decide⟩))
  · refine jr_iload (pc := 8) F 5 dX5_layOrder_8 rfl ?_
    refine jr_iload_n (pc := 10) F 2 dX5_layOrder_10 rfl rfl ?_
    refine jr_icmp_ge (pc := 11) (tgt := 104) F r8 rgp_n dX5_layOrder_11 (by decide) (fun h9 => ?_) (fun h9 => ?_)
    · have k := Ok_f (ng_lt h9) k
      exact hE4 (s1.1, s1.2.1, s1.2.2.1, s1.2.2.2) (Ok_some k) r6 r7 r8
    have k := Ok_t h9 k
    refine jr_iload_n (pc := 14) F 2 dX5_layOrder_14 rfl rfl ?_
    refine jr_iconst (pc := 15) F dX5_layOrder_15 ?_
    refine jr_isub (pc := 16) F dX5_layOrder_16 ?_
    refine jr_iload (pc := 17) F 5 dX5_layOrder_17 rfl ?_
    refine jr_isub (pc := 19) F dX5_layOrder_19 ?_
    have k := Ok_bind k
    refine jr_callS (pc := 20) (st := []) F [iv (w32 ((w32 (v_n - 1)) - s1.2.2.1))] (snd_X5_ordersOf (g0 := gs g0 4 0 s1.2.2.2) (rg_w _) k) rfl ck_5_270 rfl rfl (by decide) (Nat.le_of_ble_eq_true rfl) dX5_layOrder_20 rfl (fun v g' hq => ?_)
    obtain ⟨z11, rfl, r10, eg, k⟩ := hq
    refine J_eq eg ?_
    show J X 23 [(0, .ref (xad X (4, 0, 0))), (1, iv v_k), (2, iv v_n), (3, iv s1.1), (4, iv s1.2.1), (5, iv s1.2.2.1)] [iv z11] (gs g0 4 0 s1.2.2.2)
    refine jr_istore (pc := 23) F [(6, iv z11), (0, .ref (xad X (4, 0, 0))), (1, iv v_k), (2, iv v_n), (3, iv s1.1), (4, iv s1.2.1), (5, iv s1.2.2.1)] dX5_layOrder_23 (by decide) rfl ?_
    refine jr_iload_n (pc := 25) F 4 dX5_layOrder_25 rfl rfl ?_
    refine jr_iload (pc := 26) F 0 dX5_layOrder_26 rfl ?_
    obtain ⟨c12, k⟩ := Ok_grd k
    refine jr_idiv (pc := 28) F r6 r10 c12 dX5_layOrder_28 ?_
    obtain ⟨x13, e14, k⟩ := Ok_let k
    have r15 : Rg x13 := rg_of e14 (rg_div _ _)
    refine jr_top e14 ?_
    refine jr_istore (pc := 29) F [(7, iv x13), (6, iv z11), (0, .ref (xad X (4, 0, 0))), (1, iv v_k), (2, iv v_n), (3, iv s1.1), (4, iv s1.2.1), (5, iv s1.2.2.1)] dX5_layOrder_29 (by decide) rfl ?_
    refine jr_iload_n (pc := 31) F 5 dX5_layOrder_31 rfl rfl ?_
    refine jr_iload (pc := 32) F 1 dX5_layOrder_32 rfl ?_
    refine jr_irem (pc := 34) F r6 r10 c12 dX5_layOrder_34 ?_
    obtain ⟨x16, e17, k⟩ := Ok_let k
    have r18 : Rg x16 := rg_of e17 (rg_rem r6 r10)
    refine jr_top e17 ?_
    refine jr_istore_n (pc := 35) F [(3, iv x16), (7, iv x13), (6, iv z11), (0, .ref (xad X (4, 0, 0))), (1, iv v_k), (2, iv v_n), (4, iv s1.2.1), (5, iv s1.2.2.1)] dX5_layOrder_35 rfl (by decide) rfl ?_
    refine jr_iconst (pc := 36) F dX5_layOrder_36 ?_
    refine jr_istore (pc := 37) F [(8, iv 0), (3, iv x16), (7, iv x13), (6, iv z11), (0, .ref (xad X (4, 0, 0))), (1, iv v_k), (2, iv v_n), (4, iv s1.2.1), (5, iv s1.2.2.1)] dX5_layOrder_37 (by decide) rfl ?_
    refine jr_sub F [4, 5, 6, 1, 7, 8, 3, 2, 0] [(0, .ref (xad X (4, 0, 0))), (1, iv v_k), (2, iv v_n), (3, iv x16), (4, iv s1.2.1), (5, iv s1.2.2.1), (6, iv z11), (7, iv x13), (8, iv 0)] rfl ?_
    refine lpj (P := fun s : Int × Int => Rg (s.1) → Rg (s.2) → J X 39 [(0, .ref (xad X (4, 0, 0))), (1, iv v_k), (2, iv v_n), (3, iv x16), (4, iv s1.2.1), (5, iv s1.2.2.1), (6, iv z11), (7, iv s.1), (8, iv s.2)] [] (gs g0 4 0 s1.2.2.2)) (PE := fun r : Int × Int => Rg (r.1) → Rg (r.2) → J X 80 [(0, .ref (xad X (4, 0, 0))), (1, iv v_k), (2, iv v_n), (3, iv x16), (4, iv s1.2.1), (5, iv s1.2.2.1), (6, iv z11), (7, iv r.1), (8, iv r.2)] [] (gs g0 4 0 s1.2.2.2)) k (fun s19 Q20 k hC21 hE22 r24 r25 => ?_) (fun z23 k => ?_) (fun h => h r15 (show Rg 0 from ⟨by decide, by decide⟩))
    · refine cnd (c := (¬ (X5_hasBit_v s1.2.1 s19.2) = 0) ∨ (0 < s19.1)) (GT := J X 54 [(0, .ref (xad X (4, 0, 0))), (1, iv v_k), (2, iv v_n), (3, iv x16), (4, iv s1.2.1), (5, iv s1.2.2.1), (6, iv z11), (7, iv s19.1), (8, iv s19.2)] [] (gs g0 4 0 s1.2.2.2)) (GF := J X 80 [(0, .ref (xad X (4, 0, 0))), (1, iv v_k), (2, iv v_n), (3, iv x16), (4, iv s1.2.1), (5, iv s1.2.2.1), (6, iv z11), (7, iv s19.1), (8, iv s19.2)] [] (gs g0 4 0 s1.2.2.2)) k (fun HT HF => ?_) (fun h29 k => ?_) (fun h29 k => ?_)
      · refine jr_iload (pc := 39) F 4 dX5_layOrder_39 rfl ?_
        refine jr_iload (pc := 41) F 8 dX5_layOrder_41 rfl ?_
        refine jr_callS (pc := 43) (st := []) F [iv s1.2.1, iv s19.2] (snd_X5_hasBit (g0 := gs g0 4 0 s1.2.2.2) r7 r25 (X5_hasBit_ok _ _ )) rfl ck_5_136 rfl rfl (by decide) (Nat.le_of_ble_eq_true rfl) dX5_layOrder_43 rfl (fun v g' hq => ?_)
        obtain ⟨x, rfl, r26, eg, hx⟩ := hq
        subst hx
        refine J_eq eg ?_
        show J X 46 [(0, .ref (xad X (4, 0, 0))), (1, iv v_k), (2, iv v_n), (3, iv x16), (4, iv s1.2.1), (5, iv s1.2.2.1), (6, iv z11), (7, iv s19.1), (8, iv s19.2)] [iv (X5_hasBit_v s1.2.1 s19.2)] (gs g0 4 0 s1.2.2.2)
        refine jr_if_ne (pc := 46) (tgt := 54) F (rg_z r26) dX5_layOrder_46 (by decide) (fun h27 => ?_) (fun h27 => ?_)
        · exact HT (Or.inl h27)
        refine jr_iload (pc := 49) F 7 dX5_layOrder_49 rfl ?_
        refine jr_if_le (pc := 51) (tgt := 80) F r24 dX5_layOrder_51 (by decide) (fun h28 => ?_) (fun h28 => ?_)
        · exact HF (fun q => q.elim (fun q => q h27) (ng_lt h28))
        exact HT (Or.inr h28)
      · refine jr_iload (pc := 54) F 7 dX5_layOrder_54 rfl ?_
        refine jifP (P := fun v => Bz v → J X 71 [(0, .ref (xad X (4, 0, 0))), (1, iv v_k), (2, iv v_n), (3, iv x16), (4, iv s1.2.1), (5, iv s1.2.2.1), (6, iv z11), (7, iv s19.1), (8, iv s19.2)] (iv v :: [iv s19.1]) (gs g0 4 0 s1.2.2.2)) (c := ¬ (X5_hasBit_v s1.2.1 s19.2) = 0) (0) (1) (fun Ht Hf => ?_) (fun r32 => ?_)
        · refine jr_iload (pc := 56) F 4 dX5_layOrder_56 rfl ?_
          refine jr_iload (pc := 58) F 8 dX5_layOrder_58 rfl ?_
          refine jr_callS (pc := 60) (st := [iv s19.1]) F [iv s1.2.1, iv s19.2] (snd_X5_hasBit (g0 := gs g0 4 0 s1.2.2.2) r7 r25 (X5_hasBit_ok _ _ )) rfl ck_5_136 rfl rfl (by decide) (Nat.le_of_ble_eq_true rfl) dX5_layOrder_60 rfl (fun v g' hq => ?_)
          obtain ⟨x, rfl, r30, eg, hx⟩ := hq
          subst hx
          refine J_eq eg ?_
          show J X 63 [(0, .ref (xad X (4, 0, 0))), (1, iv v_k), (2, iv v_n), (3, iv x16), (4, iv s1.2.1), (5, iv s1.2.2.1), (6, iv z11), (7, iv s19.1), (8, iv s19.2)] [iv (X5_hasBit_v s1.2.1 s19.2), iv s19.1] (gs g0 4 0 s1.2.2.2)
          refine jr_if_eq (pc := 63) (tgt := 70) F (rg_z r30) dX5_layOrder_63 (by decide) (fun h31 => ?_) (fun h31 => ?_)
          · refine jr_iconst (pc := 70) F dX5_layOrder_70 ?_
            exact Hf (fun q => q h31) (Or.inr rfl)
          refine jr_iconst (pc := 66) F dX5_layOrder_66 ?_
          refine jr_goto (pc := 67) (tgt := 71) F dX5_layOrder_67 (by decide) ?_
          exact Ht h31 (Or.inl rfl)
        refine jr_isub (pc := 71) F dX5_layOrder_71 ?_
        obtain ⟨x33, e34, k⟩ := Ok_let k
        have r35 : Rg x33 := rg_of e34 (rg_w _)
        refine jr_top e34 ?_
        refine jr_istore (pc := 72) F [(7, iv x33), (0, .ref (xad X (4, 0, 0))), (1, iv v_k), (2, iv v_n), (3, iv x16), (4, iv s1.2.1), (5, iv s1.2.2.1), (6, iv z11), (8, iv s19.2)] dX5_layOrder_72 (by decide) rfl ?_
        refine jr_iinc (pc := 74) F [(8, iv (w32 (s19.2 + 1))), (7, iv x33), (0, .ref (xad X (4, 0, 0))), (1, iv v_k), (2, iv v_n), (3, iv x16), (4, iv s1.2.1), (5, iv s1.2.2.1), (6, iv z11)] 8 dX5_layOrder_74 rfl (by decide) rfl ?_
        refine jr_goto (pc := 77) (tgt := 39) F dX5_layOrder_77 (by decide) ?_
        refine jr_sub F [2, 3, 4, 5, 6, 7, 8, 1, 0] [(0, .ref (xad X (4, 0, 0))), (1, iv v_k), (2, iv v_n), (3, iv x16), (4, iv s1.2.1), (5, iv s1.2.2.1), (6, iv z11), (7, iv x33), (8, iv (w32 (s19.2 + 1)))] rfl ?_
        exact hC21 (x33, w32 (s19.2 + 1)) (Ok_some k) r35 (rg_w _)
      exact hE22 (s19.1, s19.2) (Ok_some k) r24 r25
    intro r36 r37
    refine jr_aload_n (pc := 80) F 0 dX5_layOrder_80 rfl rfl ?_
    refine jr_getR (pc := 81) (b := (4, 0, 38)) F f_5_86 m4_0 rfl dX5_layOrder_81 ?_
    refine jr_iload (pc := 84) F 5 dX5_layOrder_84 rfl ?_
    refine jr_iload (pc := 86) F 8 dX5_layOrder_86 rfl ?_
    obtain ⟨c38, k⟩ := Ok_grd k
    obtain ⟨L39, e40, k⟩ := Ok_let k
    refine jr_iast (pc := 88) F (gs g0 4 0 L39) m4_38 (by decide) c38 r37 (put1 e40) dX5_layOrder_88 ?_
    refine jr_iload (pc := 89) F 4 dX5_layOrder_89 rfl ?_
    refine jr_iconst (pc := 91) F dX5_layOrder_91 ?_
    refine jr_iload (pc := 92) F 8 dX5_layOrder_92 rfl ?_
    refine jr_ishl (pc := 94) F dX5_layOrder_94 ?_
    refine jr_ior (pc := 95) F dX5_layOrder_95 ?_
    obtain ⟨x41, e42, k⟩ := Ok_let k
    have r43 : Rg x41 := rg_of e42 (rg_or _ _)
    refine jr_top e42 ?_
    refine jr_istore (pc := 96) F [(4, iv x41), (0, .ref (xad X (4, 0, 0))), (1, iv v_k), (2, iv v_n), (3, iv x16), (5, iv s1.2.2.1), (6, iv z11), (7, iv z23.1), (8, iv z23.2)] dX5_layOrder_96 (by decide) rfl ?_
    refine jr_iinc (pc := 98) F [(5, iv (w32 (s1.2.2.1 + 1))), (4, iv x41), (0, .ref (xad X (4, 0, 0))), (1, iv v_k), (2, iv v_n), (3, iv x16), (6, iv z11), (7, iv z23.1), (8, iv z23.2)] 5 dX5_layOrder_98 rfl (by decide) rfl ?_
    refine jr_goto (pc := 101) (tgt := 8) F dX5_layOrder_101 (by decide) ?_
    refine jr_sub F [2, 3, 4, 5, 1, 0] [(0, .ref (xad X (4, 0, 0))), (1, iv v_k), (2, iv v_n), (3, iv x16), (4, iv x41), (5, iv (w32 (s1.2.2.1 + 1)))] rfl ?_
    exact hC3 (x16, x41, w32 (s1.2.2.1 + 1), L39) (Ok_some k) r18 r43 (rg_w _)
  intro r44 r45 r46
  exact jr_vret (pc := 104) F hQ rfl dX5_layOrder_104 ⟨_, rfl, rfl, (Ok_some k)⟩
set_option maxHeartbeats 4000000 in
set_option maxRecDepth 100000 in
theorem snd_X5_leastOfFew {L0 : LT} {v_poured : Int} {v_taken : Int} {v_few : Int} {g0 : GG} (rgp_poured : Rg v_poured) (rgp_taken : Rg v_taken) (rgp_few : Rg v_few) {Q : (Int) → Prop} (k : Ok (X5_leastOfFew L0 v_poured v_taken v_few) Q) : MetG SL yX5_leastOfFew cX5_leastOfFew 7 (some .int) 1 (fun ad => [.ref (ad (4, 0, 0)), iv v_poured, iv v_taken, iv v_few]) (gs g0 4 0 L0) (fun v g' => ∃ x : Int, v = some (iv x) ∧ Rg x ∧ g' = gs g0 4 0 L0 ∧ Q x) := by
  refine met_intro SL_ok (by decide +kernel) (fun ad => Nat.le_of_ble_eq_true rfl) (fun X F hQ hR => ?_)
  replace F : FX X cX5_leastOfFew RX5 7 (some .int) SL 1 := F
  show J X 0 [(0, .ref (xad X (4, 0, 0))), (1, iv v_poured), (2, iv v_taken), (3, iv v_few)] [] (gs g0 4 0 L0)
  refine jr_bipush (pc := 0) F dX5_leastOfFew_0 (by decide) ?_
  refine jr_istore (pc := 2) F [(4, iv 99), (0, .ref (xad X (4, 0, 0))), (1, iv v_poured), (2, iv v_taken), (3, iv v_few)] dX5_leastOfFew_2 (by decide) rfl ?_
  refine jr_iconst (pc := 4) F dX5_leastOfFew_4 ?_
  refine jr_istore (pc := 5) F [(5, iv 0), (4, iv 99), (0, .ref (xad X (4, 0, 0))), (1, iv v_poured), (2, iv v_taken), (3, iv v_few)] dX5_leastOfFew_5 (by decide) rfl ?_
  refine jr_sub F [2, 3, 4, 5, 1, 0] [(0, .ref (xad X (4, 0, 0))), (1, iv v_poured), (2, iv v_taken), (3, iv v_few), (4, iv 99), (5, iv 0)] rfl ?_
  refine lpj (P := fun s : Int × Int => Rg (s.1) → Rg (s.2) → J X 7 [(0, .ref (xad X (4, 0, 0))), (1, iv v_poured), (2, iv v_taken), (3, iv v_few), (4, iv s.1), (5, iv s.2)] [] (gs g0 4 0 L0)) (PE := fun r : Int × Int => Rg (r.1) → Rg (r.2) → J X 96 [(0, .ref (xad X (4, 0, 0))), (1, iv v_poured), (2, iv v_taken), (3, iv v_few), (4, iv r.1), (5, iv r.2)] [] (gs g0 4 0 L0)) k (fun s1 Q2 k hC3 hE4 r6 r7 => ?_) (fun z5 k => ?_) (fun h => h (show Rg 99 from ⟨by decide, by decide⟩) (show Rg 0 from ⟨by decide, by decide⟩))
  · refine jr_iload (pc := 7) F 5 dX5_leastOfFew_7 rfl ?_
    refine jr_iload_n (pc := 9) F 3 dX5_leastOfFew_9 rfl rfl ?_
    refine jr_icmp_ge (pc := 10) (tgt := 96) F r7 rgp_few dX5_leastOfFew_10 (by decide) (fun h8 => ?_) (fun h8 => ?_)
    · have k := Ok_f (ng_lt h8) k
      exact hE4 (s1.1, s1.2) (Ok_some k) r6 r7
    have k := Ok_t h8 k
    refine jr_aload_n (pc := 13) F 0 dX5_leastOfFew_13 rfl rfl ?_
    refine jr_getR (pc := 14) (b := (4, 0, 4)) F f_5_20 m4_0 rfl dX5_leastOfFew_14 ?_
    refine jr_iload (pc := 17) F 5 dX5_leastOfFew_17 rfl ?_
    obtain ⟨c9, k⟩ := Ok_grd k
    refine jr_iald (pc := 19) F (L0 4 s1.2) m4_4 (by decide) c9 (gs_at' _ _ _ _ _ _) dX5_leastOfFew_19 (fun r10 => ?_)
    obtain ⟨x11, e12, k⟩ := Ok_let k
    have r13 : Rg x11 := rg_of e12 r10
    refine jr_top e12 ?_
    refine jr_istore (pc := 20) F [(6, iv x11), (0, .ref (xad X (4, 0, 0))), (1, iv v_poured), (2, iv v_taken), (3, iv v_few), (4, iv s1.1), (5, iv s1.2)] dX5_leastOfFew_20 (by decide) rfl ?_
    refine jifP (P := fun v => Rg v → J X 46 [(6, iv x11), (0, .ref (xad X (4, 0, 0))), (1, iv v_poured), (2, iv v_taken), (3, iv v_few), (4, iv s1.1), (5, iv s1.2)] (iv v :: []) (gs g0 4 0 L0)) (c := (¬ v_poured = v_taken) ∧ (s1.2 = v_poured)) (X5_held_v (w32 (x11 + 10))) (x11) (fun Ht Hf => ?_) (fun r17 => ?_)
    · refine jr_iload_n (pc := 22) F 2 dX5_leastOfFew_22 rfl rfl ?_
      refine jr_iload_n (pc := 23) F 3 dX5_leastOfFew_23 rfl rfl ?_
      refine jr_icmp_eq (pc := 24) (tgt := 44) F rgp_poured rgp_taken dX5_leastOfFew_24 (by decide) (fun h14 => ?_) (fun h14 => ?_)
      · refine jr_iload (pc := 44) F 0 dX5_leastOfFew_44 rfl ?_
        exact Hf (fun q => (fun q => q h14) q.1) r13
      refine jr_iload (pc := 27) F 6 dX5_leastOfFew_27 rfl ?_
      refine jr_iload_n (pc := 29) F 2 dX5_leastOfFew_29 rfl rfl ?_
      refine jr_icmp_ne (pc := 30) (tgt := 44) F r7 rgp_poured dX5_leastOfFew_30 (by decide) (fun h15 => ?_) (fun h15 => ?_)
      · refine jr_iload (pc := 44) F 0 dX5_leastOfFew_44 rfl ?_
        exact Hf (fun q => h15 q.2) r13
      refine jr_iload (pc := 33) F 0 dX5_leastOfFew_33 rfl ?_
      refine jr_bipush (pc := 35) F dX5_leastOfFew_35 (by decide) ?_
      refine jr_iadd (pc := 37) F dX5_leastOfFew_37 ?_
      refine jr_callS (pc := 38) (st := []) F [iv (w32 (x11 + 10))] (snd_X5_held (g0 := gs g0 4 0 L0) (rg_w _) (X5_held_ok _ )) rfl ck_5_117 rfl rfl (by decide) (Nat.le_of_ble_eq_true rfl) dX5_leastOfFew_38 rfl (fun v g' hq => ?_)
      obtain ⟨x, rfl, r16, eg, hx⟩ := hq
      subst hx
      refine J_eq eg ?_
      show J X 41 [(6, iv x11), (0, .ref (xad X (4, 0, 0))), (1, iv v_poured), (2, iv v_taken), (3, iv v_few), (4, iv s1.1), (5, iv s1.2)] [iv (X5_held_v (w32 (x11 + 10)))] (gs g0 4 0 L0)
      refine jr_goto (pc := 41) (tgt := 46) F dX5_leastOfFew_41 (by decide) ?_
      exact Ht ⟨h14, h15⟩ r16
    obtain ⟨x18, e19, k⟩ := Ok_let k
    have r20 : Rg x18 := rg_of e19 r17
    refine jr_top e19 ?_
    refine jr_istore (pc := 46) F [(6, iv x18), (0, .ref (xad X (4, 0, 0))), (1, iv v_poured), (2, iv v_taken), (3, iv v_few), (4, iv s1.1), (5, iv s1.2)] dX5_leastOfFew_46 (by decide) rfl ?_
    refine jifP (P := fun v => Rg v → J X 72 [(6, iv x18), (0, .ref (xad X (4, 0, 0))), (1, iv v_poured), (2, iv v_taken), (3, iv v_few), (4, iv s1.1), (5, iv s1.2)] (iv v :: []) (gs g0 4 0 L0)) (c := (¬ v_poured = v_taken) ∧ (s1.2 = v_taken)) (X5_held_v (w32 (x18 - 10))) (x18) (fun Ht Hf => ?_) (fun r24 => ?_)
    · refine jr_iload_n (pc := 48) F 2 dX5_leastOfFew_48 rfl rfl ?_
      refine jr_iload_n (pc := 49) F 3 dX5_leastOfFew_49 rfl rfl ?_
      refine jr_icmp_eq (pc := 50) (tgt := 70) F rgp_poured rgp_taken dX5_leastOfFew_50 (by decide) (fun h21 => ?_) (fun h21 => ?_)
      · refine jr_iload (pc := 70) F 0 dX5_leastOfFew_70 rfl ?_
        exact Hf (fun q => (fun q => q h21) q.1) r20
      refine jr_iload (pc := 53) F 6 dX5_leastOfFew_53 rfl ?_
      refine jr_iload_n (pc := 55) F 3 dX5_leastOfFew_55 rfl rfl ?_
      refine jr_icmp_ne (pc := 56) (tgt := 70) F r7 rgp_taken dX5_leastOfFew_56 (by decide) (fun h22 => ?_) (fun h22 => ?_)
      · refine jr_iload (pc := 70) F 0 dX5_leastOfFew_70 rfl ?_
        exact Hf (fun q => h22 q.2) r20
      refine jr_iload (pc := 59) F 0 dX5_leastOfFew_59 rfl ?_
      refine jr_bipush (pc := 61) F dX5_leastOfFew_61 (by decide) ?_
      refine jr_isub (pc := 63) F dX5_leastOfFew_63 ?_
      refine jr_callS (pc := 64) (st := []) F [iv (w32 (x18 - 10))] (snd_X5_held (g0 := gs g0 4 0 L0) (rg_w _) (X5_held_ok _ )) rfl ck_5_117 rfl rfl (by decide) (Nat.le_of_ble_eq_true rfl) dX5_leastOfFew_64 rfl (fun v g' hq => ?_)
      obtain ⟨x, rfl, r23, eg, hx⟩ := hq
      subst hx
      refine J_eq eg ?_
      show J X 67 [(6, iv x18), (0, .ref (xad X (4, 0, 0))), (1, iv v_poured), (2, iv v_taken), (3, iv v_few), (4, iv s1.1), (5, iv s1.2)] [iv (X5_held_v (w32 (x18 - 10)))] (gs g0 4 0 L0)
      refine jr_goto (pc := 67) (tgt := 72) F dX5_leastOfFew_67 (by decide) ?_
      exact Ht ⟨h21, h22⟩ r23
    obtain ⟨x25, e26, k⟩ := Ok_let k
    have r27 : Rg x25 := rg_of e26 r24
    refine jr_top e26 ?_
    refine jr_istore (pc := 72) F [(6, iv x25), (0, .ref (xad X (4, 0, 0))), (1, iv v_poured), (2, iv v_taken), (3, iv v_few), (4, iv s1.1), (5, iv s1.2)] dX5_leastOfFew_72 (by decide) rfl ?_
    refine jifP (P := fun v => Rg v → J X 88 [(6, iv x25), (0, .ref (xad X (4, 0, 0))), (1, iv v_poured), (2, iv v_taken), (3, iv v_few), (4, iv s1.1), (5, iv s1.2)] (iv v :: []) (gs g0 4 0 L0)) (c := x25 < s1.1) (x25) (s1.1) (fun Ht Hf => ?_) (fun r29 => ?_)
    · refine jr_iload (pc := 74) F 0 dX5_leastOfFew_74 rfl ?_
      refine jr_iload (pc := 76) F 5 dX5_leastOfFew_76 rfl ?_
      refine jr_icmp_ge (pc := 78) (tgt := 86) F r27 r6 dX5_leastOfFew_78 (by decide) (fun h28 => ?_) (fun h28 => ?_)
      · refine jr_iload (pc := 86) F 5 dX5_leastOfFew_86 rfl ?_
        exact Hf (ng_lt h28) r6
      refine jr_iload (pc := 81) F 0 dX5_leastOfFew_81 rfl ?_
      refine jr_goto (pc := 83) (tgt := 88) F dX5_leastOfFew_83 (by decide) ?_
      exact Ht h28 r27
    obtain ⟨x30, e31, k⟩ := Ok_let k
    have r32 : Rg x30 := rg_of e31 r29
    refine jr_top e31 ?_
    refine jr_istore (pc := 88) F [(4, iv x30), (6, iv x25), (0, .ref (xad X (4, 0, 0))), (1, iv v_poured), (2, iv v_taken), (3, iv v_few), (5, iv s1.2)] dX5_leastOfFew_88 (by decide) rfl ?_
    refine jr_iinc (pc := 90) F [(5, iv (w32 (s1.2 + 1))), (4, iv x30), (6, iv x25), (0, .ref (xad X (4, 0, 0))), (1, iv v_poured), (2, iv v_taken), (3, iv v_few)] 6 dX5_leastOfFew_90 rfl (by decide) rfl ?_
    refine jr_goto (pc := 93) (tgt := 7) F dX5_leastOfFew_93 (by decide) ?_
    refine jr_sub F [3, 4, 5, 6, 1, 0] [(0, .ref (xad X (4, 0, 0))), (1, iv v_poured), (2, iv v_taken), (3, iv v_few), (4, iv x30), (5, iv (w32 (s1.2 + 1)))] rfl ?_
    exact hC3 (x30, w32 (s1.2 + 1)) (Ok_some k) r32 (rg_w _)
  intro r33 r34
  refine jr_iload (pc := 96) F 4 dX5_leastOfFew_96 rfl ?_
  exact jr_iret (pc := 98) F hQ rfl dX5_leastOfFew_98 ⟨_, rfl, r33, rfl, (Ok_some k)⟩
set_option maxHeartbeats 4000000 in
set_option maxRecDepth 100000 in
theorem snd_X5_lies {L0 : LT} {g0 : GG}  {Q : (Int × LT) → Prop} (k : Ok (X5_lies L0) Q) : MetG SL yX5_lies cX5_lies 3 (some .int) 0 (fun ad => [.ref (ad (4, 0, 0))]) (gs g0 4 0 L0) (fun v g' => ∃ (x : Int) (L' : LT), v = some (iv x) ∧ Rg x ∧ g' = gs g0 4 0 L' ∧ Q (x, L')) := by
  refine met_intro SL_ok (by decide +kernel) (fun ad => Nat.le_of_ble_eq_true rfl) (fun X F hQ hR => ?_)
  replace F : FX X cX5_lies RX5 3 (some .int) SL 0 := F
  show J X 0 [(0, .ref (xad X (4, 0, 0)))] [] (gs g0 4 0 L0)
  refine jr_aload_n (pc := 0) F 0 dX5_lies_0 rfl rfl ?_
  refine jr_iconst (pc := 1) F dX5_lies_1 ?_
  obtain ⟨L1, e2, k⟩ := Ok_let k
  refine jr_putI (pc := 2) F (gs g0 4 0 L1) fw_5_92 m4_0 rfl (show Rg 0 from ⟨by decide, by decide⟩) (put1 e2) dX5_lies_2 ?_
  refine jr_bipush (pc := 5) F dX5_lies_5 (by decide) ?_
  refine jr_istore_n (pc := 7) F [(1, iv 99), (0, .ref (xad X (4, 0, 0)))] dX5_lies_7 rfl (by decide) rfl ?_
  refine jr_iconst (pc := 8) F dX5_lies_8 ?_
  refine jr_istore_n (pc := 9) F [(2, iv 0), (1, iv 99), (0, .ref (xad X (4, 0, 0)))] dX5_lies_9 rfl (by decide) rfl ?_
  refine jr_sub F [2, 1, 0] [(0, .ref (xad X (4, 0, 0))), (1, iv 99), (2, iv 0)] rfl ?_
  refine lpj (P := fun s : Int × Int => Rg (s.1) → Rg (s.2) → J X 10 [(0, .ref (xad X (4, 0, 0))), (1, iv s.1), (2, iv s.2)] [] (gs g0 4 0 L1)) (PE := fun o : ((Int × Int) ⊕ (Int × LT)) => match o with | .inl r => Rg (r.1) → Rg (r.2) → J X 64 [(0, .ref (xad X (4, 0, 0))), (1, iv r.1), (2, iv r.2)] [] (gs g0 4 0 L1) | .inr y => Q (y)) k (fun s3 Q4 k hC5 hE6 r8 r9 => ?_) (fun o k => ?_) (fun h => h (show Rg 99 from ⟨by decide, by decide⟩) (show Rg 0 from ⟨by decide, by decide⟩))
  · refine jr_iload_n (pc := 10) F 2 dX5_lies_10 rfl rfl ?_
    refine jr_aload_n (pc := 11) F 0 dX5_lies_11 rfl rfl ?_
    refine jr_getI (pc := 12) F (L1 0 39) f_5_276 m4_0 rfl (gs_at' _ _ _ _ _ _) dX5_lies_12 (fun r10 => ?_)
    refine jr_icmp_ge (pc := 15) (tgt := 64) F r9 r10 dX5_lies_15 (by decide) (fun h11 => ?_) (fun h11 => ?_)
    · have k := Ok_f (ng_lt h11) k
      exact hE6 (Sum.inl (s3.1, s3.2)) (Ok_some k) r8 r9
    have k := Ok_t h11 k
    obtain ⟨c12, k⟩ := Ok_grd k
    refine jifP (P := fun v => Rg v → J X 34 [(0, .ref (xad X (4, 0, 0))), (1, iv s3.1), (2, iv s3.2)] (iv v :: []) (gs g0 4 0 L1)) (c := s3.1 = 99) (L1 39 s3.2) (s3.1) (fun Ht Hf => ?_) (fun r15 => ?_)
    · refine jr_iload_n (pc := 18) F 1 dX5_lies_18 rfl rfl ?_
      refine jr_bipush (pc := 19) F dX5_lies_19 (by decide) ?_
      refine jr_icmp_ne (pc := 21) (tgt := 33) F r8 (show Rg 99 from ⟨by decide, by decide⟩) dX5_lies_21 (by decide) (fun h13 => ?_) (fun h13 => ?_)
      · refine jr_iload_n (pc := 33) F 1 dX5_lies_33 rfl rfl ?_
        exact Hf h13 r8
      refine jr_aload_n (pc := 24) F 0 dX5_lies_24 rfl rfl ?_
      refine jr_getR (pc := 25) (b := (4, 0, 39)) F f_5_89 m4_0 rfl dX5_lies_25 ?_
      refine jr_iload_n (pc := 28) F 2 dX5_lies_28 rfl rfl ?_
      refine jr_iald (pc := 29) F (L1 39 s3.2) m4_39 (by decide) (c12 h13) (gs_at' _ _ _ _ _ _) dX5_lies_29 (fun r14 => ?_)
      refine jr_goto (pc := 30) (tgt := 34) F dX5_lies_30 (by decide) ?_
      exact Ht h13 r14
    obtain ⟨x16, e17, k⟩ := Ok_let k
    have r18 : Rg x16 := rg_of e17 r15
    refine jr_top e17 ?_
    refine jr_istore_n (pc := 34) F [(1, iv x16), (0, .ref (xad X (4, 0, 0))), (2, iv s3.2)] dX5_lies_34 rfl (by decide) rfl ?_
    obtain ⟨c19, k⟩ := Ok_grd k
    refine cnd (c := (¬ (L1 39 s3.2) = 99) ∧ (¬ (L1 39 s3.2) = x16)) (GT := J X 56 [(1, iv x16), (0, .ref (xad X (4, 0, 0))), (2, iv s3.2)] [] (gs g0 4 0 L1)) (GF := J X 58 [(1, iv x16), (0, .ref (xad X (4, 0, 0))), (2, iv s3.2)] [] (gs g0 4 0 L1)) k (fun HT HF => ?_) (fun h24 k => ?_) (fun h24 k => ?_)
    · refine jr_aload_n (pc := 35) F 1 dX5_lies_35 rfl rfl ?_
      refine jr_getR (pc := 36) (b := (4, 0, 39)) F f_5_89 m4_0 rfl dX5_lies_36 ?_
      refine jr_iload_n (pc := 39) F 2 dX5_lies_39 rfl rfl ?_
      refine jr_iald (pc := 40) F (L1 39 s3.2) m4_39 (by decide) c19 (gs_at' _ _ _ _ _ _) dX5_lies_40 (fun r20 => ?_)
      refine jr_bipush (pc := 41) F dX5_lies_41 (by decide) ?_
      refine jr_icmp_eq (pc := 43) (tgt := 58) F r20 (show Rg 99 from ⟨by decide, by decide⟩) dX5_lies_43 (by decide) (fun h21 => ?_) (fun h21 => ?_)
      · exact HF (fun q => (fun q => q h21) q.1)
      refine jr_aload_n (pc := 46) F 1 dX5_lies_46 rfl rfl ?_
      refine jr_getR (pc := 47) (b := (4, 0, 39)) F f_5_89 m4_0 rfl dX5_lies_47 ?_
      refine jr_iload_n (pc := 50) F 2 dX5_lies_50 rfl rfl ?_
      refine jr_iald (pc := 51) F (L1 39 s3.2) m4_39 (by decide) c19 (gs_at' _ _ _ _ _ _) dX5_lies_51 (fun r22 => ?_)
      refine jr_iload_n (pc := 52) F 0 dX5_lies_52 rfl rfl ?_
      refine jr_icmp_eq (pc := 53) (tgt := 58) F r22 r18 dX5_lies_53 (by decide) (fun h23 => ?_) (fun h23 => ?_)
      · exact HF (fun q => (fun q => q h23) q.2)
      exact HT ⟨h21, h23⟩
    · refine jr_iload_n (pc := 56) F 2 dX5_lies_56 rfl rfl ?_
      exact jr_iret (pc := 57) F hQ rfl dX5_lies_57 ⟨_, _, rfl, r9, rfl, (hE6 (Sum.inr _) (Ok_some k))⟩
    refine jr_iinc (pc := 58) F [(2, iv (w32 (s3.2 + 1))), (1, iv x16), (0, .ref (xad X (4, 0, 0)))] 2 dX5_lies_58 rfl (by decide) rfl ?_
    refine jr_goto (pc := 61) (tgt := 10) F dX5_lies_61 (by decide) ?_
    refine jr_sub F [2, 1, 0] [(0, .ref (xad X (4, 0, 0))), (1, iv x16), (2, iv (w32 (s3.2 + 1)))] rfl ?_
    exact hC5 (x16, w32 (s3.2 + 1)) (Ok_some k) r18 (rg_w _)
  rcases o with z7 | y
  rotate_left
  · show Q (y)
    exact Ok_some k
  intro r25 r26
  refine jr_bipush (pc := 64) F dX5_lies_64 (by decide) ?_
  exact jr_iret (pc := 66) F hQ rfl dX5_lies_66 ⟨_, _, rfl, (show Rg (-9) from ⟨by decide, by decide⟩), rfl, (Ok_some k)⟩
set_option maxHeartbeats 4000000 in
set_option maxRecDepth 100000 in
theorem snd_X5_readDigits {L0 : LT} {v_digits : Int} {g0 : GG} (rgp_digits : Rg v_digits) {Q : (Int × LT) → Prop} (k : Ok (X5_readDigits L0 v_digits) Q) : MetG SL yX5_readDigits cX5_readDigits 4 (some .int) 1 (fun ad => [.ref (ad (4, 0, 0)), iv v_digits]) (gs g0 4 0 L0) (fun v g' => ∃ (x : Int) (L' : LT), v = some (iv x) ∧ Rg x ∧ g' = gs g0 4 0 L' ∧ Q (x, L')) := by
  refine met_intro SL_ok (by decide +kernel) (fun ad => Nat.le_of_ble_eq_true rfl) (fun X F hQ hR => ?_)
  replace F : FX X cX5_readDigits RX5 4 (some .int) SL 1 := F
  show J X 0 [(0, .ref (xad X (4, 0, 0))), (1, iv v_digits)] [] (gs g0 4 0 L0)
  refine jr_iconst (pc := 0) F dX5_readDigits_0 ?_
  refine jr_istore_n (pc := 1) F [(2, iv 0), (0, .ref (xad X (4, 0, 0))), (1, iv v_digits)] dX5_readDigits_1 rfl (by decide) rfl ?_
  refine jr_iconst (pc := 2) F dX5_readDigits_2 ?_
  refine jr_istore_n (pc := 3) F [(3, iv 0), (2, iv 0), (0, .ref (xad X (4, 0, 0))), (1, iv v_digits)] dX5_readDigits_3 rfl (by decide) rfl ?_
  refine jr_sub F [2, 3, 1, 0] [(0, .ref (xad X (4, 0, 0))), (1, iv v_digits), (2, iv 0), (3, iv 0)] rfl ?_
  refine lpj (P := fun s : Int × Int × LT => Rg (s.1) → Rg (s.2.1) → J X 4 [(0, .ref (xad X (4, 0, 0))), (1, iv v_digits), (2, iv s.1), (3, iv s.2.1)] [] (gs g0 4 0 s.2.2)) (PE := fun r : Int × Int × LT => Rg (r.1) → Rg (r.2.1) → J X 98 [(0, .ref (xad X (4, 0, 0))), (1, iv v_digits), (2, iv r.1), (3, iv r.2.1)] [] (gs g0 4 0 r.2.2)) k (fun s1 Q2 k hC3 hE4 r6 r7 => ?_) (fun z5 k => ?_) (fun h => h (show Rg 0 from ⟨by decide, by decide⟩) (show Rg 0 from ⟨by decide, by decide⟩))
  · refine jr_iload_n (pc := 4) F 3 dX5_readDigits_4 rfl rfl ?_
    refine jr_iload_n (pc := 5) F 1 dX5_readDigits_5 rfl rfl ?_
    refine jr_icmp_ge (pc := 6) (tgt := 98) F r7 rgp_digits dX5_readDigits_6 (by decide) (fun h8 => ?_) (fun h8 => ?_)
    · have k := Ok_f (ng_lt h8) k
      exact hE4 (s1.1, s1.2.1, s1.2.2) (Ok_some k) r6 r7
    have k := Ok_t h8 k
    refine jr_aload_n (pc := 9) F 0 dX5_readDigits_9 rfl rfl ?_
    obtain ⟨c9, k⟩ := Ok_grd k
    refine jifP (P := fun v => Bz v → J X 39 [(0, .ref (xad X (4, 0, 0))), (1, iv v_digits), (2, iv s1.1), (3, iv s1.2.1)] (iv v :: [.ref (xad X (4, 0, 0))]) (gs g0 4 0 s1.2.2)) (c := (¬ (s1.2.2 0 21) = 0) ∨ ((X5_in_v (X5_here_v s1.2.2) 48 57) = 0)) (1) (0) (fun Ht Hf => ?_) (fun r15 => ?_)
    · refine jr_aload_n (pc := 10) F 0 dX5_readDigits_10 rfl rfl ?_
      refine jr_getI (pc := 11) F (s1.2.2 0 21) f_5_148 m4_0 rfl (gs_at' _ _ _ _ _ _) dX5_readDigits_11 (fun r10 => ?_)
      refine jr_if_ne (pc := 14) (tgt := 34) F r10 dX5_readDigits_14 (by decide) (fun h11 => ?_) (fun h11 => ?_)
      · refine jr_iconst (pc := 34) F dX5_readDigits_34 ?_
        refine jr_goto (pc := 35) (tgt := 39) F dX5_readDigits_35 (by decide) ?_
        exact Ht (Or.inl h11) (Or.inr rfl)
      refine jr_aload_n (pc := 17) F 0 dX5_readDigits_17 rfl rfl ?_
      refine jr_callV (pc := 18) (st := [.ref (xad X (4, 0, 0))]) F [] (snd_X5_here  (g0 := g0)  (X5_here_ok _ (c9 (fun q => q h11)))) rfl ck_5_152 rfl m4_0 rfl rfl rfl (by decide) (Nat.le_of_ble_eq_true rfl) dX5_readDigits_18 rfl (fun v g' hq => ?_)
      obtain ⟨x, rfl, r12, eg, hx⟩ := hq
      subst hx
      refine J_eq eg ?_
      show J X 21 [(0, .ref (xad X (4, 0, 0))), (1, iv v_digits), (2, iv s1.1), (3, iv s1.2.1)] [iv (X5_here_v s1.2.2), .ref (xad X (4, 0, 0))] (gs g0 4 0 s1.2.2)
      refine jr_i2l (pc := 21) F r12 dX5_readDigits_21 ?_
      refine jr_ldc2 (pc := 22) F kc_5_156 dX5_readDigits_22 ?_
      refine jr_ldc2 (pc := 25) F kc_5_158 dX5_readDigits_25 ?_
      refine jr_callS (pc := 28) (st := [.ref (xad X (4, 0, 0))]) F [lgv (X5_here_v s1.2.2), lgv 48, lgv 57] (snd_X5_in (g0 := gs g0 4 0 s1.2.2) (rl_rg r12) (show Rl 48 from ⟨by decide, by decide⟩) (show Rl 57 from ⟨by decide, by decide⟩) (X5_in_ok _ _ _ )) rfl ck_5_95 rfl rfl (by decide) (Nat.le_of_ble_eq_true rfl) dX5_readDigits_28 rfl (fun v g' hq => ?_)
      obtain ⟨x, rfl, r13, eg, hx⟩ := hq
      subst hx
      refine J_eq eg ?_
      show J X 31 [(0, .ref (xad X (4, 0, 0))), (1, iv v_digits), (2, iv s1.1), (3, iv s1.2.1)] [iv (X5_in_v (X5_here_v s1.2.2) 48 57), .ref (xad X (4, 0, 0))] (gs g0 4 0 s1.2.2)
      refine jr_if_ne (pc := 31) (tgt := 38) F (rg_z r13) dX5_readDigits_31 (by decide) (fun h14 => ?_) (fun h14 => ?_)
      · refine jr_iconst (pc := 38) F dX5_readDigits_38 ?_
        exact Hf (fun q => q.elim (fun q => q h11) h14) (Or.inl rfl)
      refine jr_iconst (pc := 34) F dX5_readDigits_34 ?_
      refine jr_goto (pc := 35) (tgt := 39) F dX5_readDigits_35 (by decide) ?_
      exact Ht (Or.inr h14) (Or.inr rfl)
    obtain ⟨L16, e17, k⟩ := Ok_let k
    refine jr_putZ (pc := 39) F (gs g0 4 0 L16) fw_5_148 m4_0 rfl r15 (put1 e17) dX5_readDigits_39 ?_
    obtain ⟨c18, k⟩ := Ok_grd k
    refine jifP (P := fun v => Rg v → J X 70 [(0, .ref (xad X (4, 0, 0))), (1, iv v_digits), (2, iv s1.1), (3, iv s1.2.1)] (iv v :: []) (gs g0 4 0 L16)) (c := ¬ (L16 0 21) = 0) (0) (w32 ((w32 ((w32 (10 * s1.1)) + (L16 19 (L16 0 20)))) - 48)) (fun Ht Hf => ?_) (fun r23 => ?_)
    · refine jr_aload_n (pc := 42) F 0 dX5_readDigits_42 rfl rfl ?_
      refine jr_getI (pc := 43) F (L16 0 21) f_5_148 m4_0 rfl (gs_at' _ _ _ _ _ _) dX5_readDigits_43 (fun r19 => ?_)
      refine jr_if_eq (pc := 46) (tgt := 53) F r19 dX5_readDigits_46 (by decide) (fun h20 => ?_) (fun h20 => ?_)
      · refine jr_bipush (pc := 53) F dX5_readDigits_53 (by decide) ?_
        refine jr_iload_n (pc := 55) F 2 dX5_readDigits_55 rfl rfl ?_
        refine jr_imul (pc := 56) F dX5_readDigits_56 ?_
        refine jr_aload_n (pc := 57) F 0 dX5_readDigits_57 rfl rfl ?_
        refine jr_getR (pc := 58) (b := (4, 0, 19)) F f_5_56 m4_0 rfl dX5_readDigits_58 ?_
        refine jr_aload_n (pc := 61) F 0 dX5_readDigits_61 rfl rfl ?_
        refine jr_getI (pc := 62) F (L16 0 20) f_5_145 m4_0 rfl (gs_at' _ _ _ _ _ _) dX5_readDigits_62 (fun r21 => ?_)
        refine jr_iald (pc := 65) F (L16 19 (L16 0 20)) m4_19 (by decide) (c18 (fun q => q h20)) (gs_at' _ _ _ _ _ _) dX5_readDigits_65 (fun r22 => ?_)
        refine jr_iadd (pc := 66) F dX5_readDigits_66 ?_
        refine jr_bipush (pc := 67) F dX5_readDigits_67 (by decide) ?_
        refine jr_isub (pc := 69) F dX5_readDigits_69 ?_
        exact Hf (fun q => q h20) (rg_w _)
      refine jr_iconst (pc := 49) F dX5_readDigits_49 ?_
      refine jr_goto (pc := 50) (tgt := 70) F dX5_readDigits_50 (by decide) ?_
      exact Ht h20 (show Rg 0 from ⟨by decide, by decide⟩)
    obtain ⟨x24, e25, k⟩ := Ok_let k
    have r26 : Rg x24 := rg_of e25 r23
    refine jr_top e25 ?_
    refine jr_istore_n (pc := 70) F [(2, iv x24), (0, .ref (xad X (4, 0, 0))), (1, iv v_digits), (3, iv s1.2.1)] dX5_readDigits_70 rfl (by decide) rfl ?_
    refine jr_aload_n (pc := 71) F 1 dX5_readDigits_71 rfl rfl ?_
    refine jr_dup (pc := 72) F dX5_readDigits_72 rfl ?_
    refine jr_getI (pc := 73) F (L16 0 20) f_5_145 m4_0 rfl (gs_at' _ _ _ _ _ _) dX5_readDigits_73 (fun r27 => ?_)
    refine jifP (P := fun v => Bz v → J X 88 [(2, iv x24), (0, .ref (xad X (4, 0, 0))), (1, iv v_digits), (3, iv s1.2.1)] (iv v :: [iv (L16 0 20), .ref (xad X (4, 0, 0))]) (gs g0 4 0 L16)) (c := ¬ (L16 0 21) = 0) (0) (1) (fun Ht Hf => ?_) (fun r30 => ?_)
    · refine jr_aload_n (pc := 76) F 1 dX5_readDigits_76 rfl rfl ?_
      refine jr_getI (pc := 77) F (L16 0 21) f_5_148 m4_0 rfl (gs_at' _ _ _ _ _ _) dX5_readDigits_77 (fun r28 => ?_)
      refine jr_if_eq (pc := 80) (tgt := 87) F r28 dX5_readDigits_80 (by decide) (fun h29 => ?_) (fun h29 => ?_)
      · refine jr_iconst (pc := 87) F dX5_readDigits_87 ?_
        exact Hf (fun q => q h29) (Or.inr rfl)
      refine jr_iconst (pc := 83) F dX5_readDigits_83 ?_
      refine jr_goto (pc := 84) (tgt := 88) F dX5_readDigits_84 (by decide) ?_
      exact Ht h29 (Or.inl rfl)
    refine jr_iadd (pc := 88) F dX5_readDigits_88 ?_
    obtain ⟨L31, e32, k⟩ := Ok_let k
    refine jr_putI (pc := 89) F (gs g0 4 0 L31) fw_5_145 m4_0 rfl (rg_w _) (put1 e32) dX5_readDigits_89 ?_
    refine jr_iinc (pc := 92) F [(3, iv (w32 (s1.2.1 + 1))), (2, iv x24), (0, .ref (xad X (4, 0, 0))), (1, iv v_digits)] 3 dX5_readDigits_92 rfl (by decide) rfl ?_
    refine jr_goto (pc := 95) (tgt := 4) F dX5_readDigits_95 (by decide) ?_
    refine jr_sub F [2, 3, 1, 0] [(0, .ref (xad X (4, 0, 0))), (1, iv v_digits), (2, iv x24), (3, iv (w32 (s1.2.1 + 1)))] rfl ?_
    exact hC3 (x24, w32 (s1.2.1 + 1), L31) (Ok_some k) r26 (rg_w _)
  intro r33 r34
  refine jr_iload_n (pc := 98) F 2 dX5_readDigits_98 rfl rfl ?_
  exact jr_iret (pc := 99) F hQ rfl dX5_readDigits_99 ⟨_, _, rfl, r33, rfl, (Ok_some k)⟩
set_option maxHeartbeats 4000000 in
set_option maxRecDepth 100000 in
theorem snd_X5_readNumbers {L0 : LT} {v_c : Int} {v_i : Int} {g0 : GG} (rgp_c : Rg v_c) (rgp_i : Rg v_i) {Q : (LT) → Prop} (k : Ok (X5_readNumbers L0 v_c v_i) Q) : MetG SL yX5_readNumbers cX5_readNumbers 3 none 2 (fun ad => [.ref (ad (4, 0, 0)), iv v_c, iv v_i]) (gs g0 4 0 L0) (fun v g' => ∃ L' : LT, v = none ∧ g' = gs g0 4 0 L' ∧ Q L') := by
  refine met_intro SL_ok (by decide +kernel) (fun ad => Nat.le_of_ble_eq_true rfl) (fun X F hQ hR => ?_)
  replace F : FX X cX5_readNumbers RX5 3 none SL 2 := F
  show J X 0 [(0, .ref (xad X (4, 0, 0))), (1, iv v_c), (2, iv v_i)] [] (gs g0 4 0 L0)
  refine jr_iload_n (pc := 0) F 1 dX5_readNumbers_0 rfl rfl ?_
  by_cases h1 : v_c = 121
  · have k := Ok_t h1 k
    refine jr_lsw (pc := 1) (tgt := 44) (off := 43) F rgp_c (by decide) (by rw [h1]; decide) (by decide) dX5_readNumbers_1 ?_
    refine jr_aload_n (pc := 44) F 0 dX5_readNumbers_44 rfl rfl ?_
    refine jr_getR (pc := 45) (b := (4, 0, 26)) F f_5_65 m4_0 rfl dX5_readNumbers_45 ?_
    refine jr_iload_n (pc := 48) F 2 dX5_readNumbers_48 rfl rfl ?_
    refine jr_aload_n (pc := 49) F 0 dX5_readNumbers_49 rfl rfl ?_
    refine jr_iconst (pc := 50) F dX5_readNumbers_50 ?_
    have k := Ok_bind k
    refine jr_callV (pc := 51) (st := [iv v_i, .ref (xad X (4, 0, 26))]) F [iv 2] (snd_X5_readDigits  (g0 := g0) (show Rg 2 from ⟨by decide, by decide⟩) k) rfl ck_5_160 rfl m4_0 rfl rfl rfl (by decide) (Nat.le_of_ble_eq_true rfl) dX5_readNumbers_51 rfl (fun v g' hq => ?_)
    obtain ⟨x, L', rfl, r2, eg, k⟩ := hq
    obtain ⟨z3, ez⟩ : ∃ z : Int × LT, z = (x, L') := ⟨_, rfl⟩
    obtain ⟨rfl, rfl⟩ : x = z3.1 ∧ L' = z3.2 := ⟨by rw [ez], by rw [ez]⟩
    clear ez
    refine J_eq eg ?_
    show J X 54 [(0, .ref (xad X (4, 0, 0))), (1, iv v_c), (2, iv v_i)] [iv z3.1, iv v_i, .ref (xad X (4, 0, 26))] (gs g0 4 0 z3.2)
    obtain ⟨c4, k⟩ := Ok_grd k
    obtain ⟨L5, e6, k⟩ := Ok_let k
    refine jr_iast (pc := 54) F (gs g0 4 0 L5) m4_26 (by decide) c4 r2 (put1 e6) dX5_readNumbers_54 ?_
    refine jr_aload_n (pc := 55) F 0 dX5_readNumbers_55 rfl rfl ?_
    refine jr_getR (pc := 56) (b := (4, 0, 26)) F f_5_65 m4_0 rfl dX5_readNumbers_56 ?_
    refine jr_iload_n (pc := 59) F 2 dX5_readNumbers_59 rfl rfl ?_
    refine jr_iconst (pc := 60) F dX5_readNumbers_60 ?_
    refine jr_iadd (pc := 61) F dX5_readNumbers_61 ?_
    refine jr_aload_n (pc := 62) F 0 dX5_readNumbers_62 rfl rfl ?_
    refine jr_iconst (pc := 63) F dX5_readNumbers_63 ?_
    have k := Ok_bind k
    refine jr_callV (pc := 64) (st := [iv (w32 (v_i + 1)), .ref (xad X (4, 0, 26))]) F [iv 1] (snd_X5_readDigits  (g0 := g0) (show Rg 1 from ⟨by decide, by decide⟩) k) rfl ck_5_160 rfl m4_0 rfl rfl rfl (by decide) (Nat.le_of_ble_eq_true rfl) dX5_readNumbers_64 rfl (fun v g' hq => ?_)
    obtain ⟨x, L', rfl, r7, eg, k⟩ := hq
    obtain ⟨z8, ez⟩ : ∃ z : Int × LT, z = (x, L') := ⟨_, rfl⟩
    obtain ⟨rfl, rfl⟩ : x = z8.1 ∧ L' = z8.2 := ⟨by rw [ez], by rw [ez]⟩
    clear ez
    refine J_eq eg ?_
    show J X 67 [(0, .ref (xad X (4, 0, 0))), (1, iv v_c), (2, iv v_i)] [iv z8.1, iv (w32 (v_i + 1)), .ref (xad X (4, 0, 26))] (gs g0 4 0 z8.2)
    obtain ⟨c9, k⟩ := Ok_grd k
    obtain ⟨L10, e11, k⟩ := Ok_let k
    refine jr_iast (pc := 67) F (gs g0 4 0 L10) m4_26 (by decide) c9 r7 (put1 e11) dX5_readNumbers_67 ?_
    refine jr_aload_n (pc := 68) F 0 dX5_readNumbers_68 rfl rfl ?_
    refine jr_getR (pc := 69) (b := (4, 0, 26)) F f_5_65 m4_0 rfl dX5_readNumbers_69 ?_
    refine jr_iload_n (pc := 72) F 2 dX5_readNumbers_72 rfl rfl ?_
    refine jr_iconst (pc := 73) F dX5_readNumbers_73 ?_
    refine jr_iadd (pc := 74) F dX5_readNumbers_74 ?_
    refine jr_aload_n (pc := 75) F 0 dX5_readNumbers_75 rfl rfl ?_
    refine jr_iconst (pc := 76) F dX5_readNumbers_76 ?_
    have k := Ok_bind k
    refine jr_callV (pc := 77) (st := [iv (w32 (v_i + 2)), .ref (xad X (4, 0, 26))]) F [iv 1] (snd_X5_readDigits  (g0 := g0) (show Rg 1 from ⟨by decide, by decide⟩) k) rfl ck_5_160 rfl m4_0 rfl rfl rfl (by decide) (Nat.le_of_ble_eq_true rfl) dX5_readNumbers_77 rfl (fun v g' hq => ?_)
    obtain ⟨x, L', rfl, r12, eg, k⟩ := hq
    obtain ⟨z13, ez⟩ : ∃ z : Int × LT, z = (x, L') := ⟨_, rfl⟩
    obtain ⟨rfl, rfl⟩ : x = z13.1 ∧ L' = z13.2 := ⟨by rw [ez], by rw [ez]⟩
    clear ez
    refine J_eq eg ?_
    show J X 80 [(0, .ref (xad X (4, 0, 0))), (1, iv v_c), (2, iv v_i)] [iv z13.1, iv (w32 (v_i + 2)), .ref (xad X (4, 0, 26))] (gs g0 4 0 z13.2)
    obtain ⟨c14, k⟩ := Ok_grd k
    obtain ⟨L15, e16, k⟩ := Ok_let k
    refine jr_iast (pc := 80) F (gs g0 4 0 L15) m4_26 (by decide) c14 r12 (put1 e16) dX5_readNumbers_80 ?_
    refine jr_aload_n (pc := 81) F 0 dX5_readNumbers_81 rfl rfl ?_
    refine jr_getR (pc := 82) (b := (4, 0, 26)) F f_5_65 m4_0 rfl dX5_readNumbers_82 ?_
    refine jr_iload_n (pc := 85) F 2 dX5_readNumbers_85 rfl rfl ?_
    refine jr_iconst (pc := 86) F dX5_readNumbers_86 ?_
    refine jr_iadd (pc := 87) F dX5_readNumbers_87 ?_
    refine jr_aload_n (pc := 88) F 0 dX5_readNumbers_88 rfl rfl ?_
    refine jr_iconst (pc := 89) F dX5_readNumbers_89 ?_
    have k := Ok_bind k
    refine jr_callV (pc := 90) (st := [iv (w32 (v_i + 3)), .ref (xad X (4, 0, 26))]) F [iv 2] (snd_X5_readDigits  (g0 := g0) (show Rg 2 from ⟨by decide, by decide⟩) k) rfl ck_5_160 rfl m4_0 rfl rfl rfl (by decide) (Nat.le_of_ble_eq_true rfl) dX5_readNumbers_90 rfl (fun v g' hq => ?_)
    obtain ⟨x, L', rfl, r17, eg, k⟩ := hq
    obtain ⟨z18, ez⟩ : ∃ z : Int × LT, z = (x, L') := ⟨_, rfl⟩
    obtain ⟨rfl, rfl⟩ : x = z18.1 ∧ L' = z18.2 := ⟨by rw [ez], by rw [ez]⟩
    clear ez
    refine J_eq eg ?_
    show J X 93 [(0, .ref (xad X (4, 0, 0))), (1, iv v_c), (2, iv v_i)] [iv z18.1, iv (w32 (v_i + 3)), .ref (xad X (4, 0, 26))] (gs g0 4 0 z18.2)
    obtain ⟨c19, k⟩ := Ok_grd k
    obtain ⟨L20, e21, k⟩ := Ok_let k
    refine jr_iast (pc := 93) F (gs g0 4 0 L20) m4_26 (by decide) c19 r17 (put1 e21) dX5_readNumbers_93 ?_
    refine jr_goto (pc := 94) (tgt := 202) F dX5_readNumbers_94 (by decide) ?_
    exact jr_vret (pc := 202) F hQ rfl dX5_readNumbers_202 ⟨_, rfl, rfl, (Ok_some k)⟩
  have k := Ok_f h1 k
  by_cases h22 : v_c = 116
  · have k := Ok_t h22 k
    refine jr_lsw (pc := 1) (tgt := 97) (off := 96) F rgp_c (by decide) (by rw [h22]; decide) (by decide) dX5_readNumbers_1 ?_
    refine jr_aload_n (pc := 97) F 0 dX5_readNumbers_97 rfl rfl ?_
    refine jr_getR (pc := 98) (b := (4, 0, 26)) F f_5_65 m4_0 rfl dX5_readNumbers_98 ?_
    refine jr_iload_n (pc := 101) F 2 dX5_readNumbers_101 rfl rfl ?_
    refine jr_aload_n (pc := 102) F 0 dX5_readNumbers_102 rfl rfl ?_
    refine jr_iconst (pc := 103) F dX5_readNumbers_103 ?_
    have k := Ok_bind k
    refine jr_callV (pc := 104) (st := [iv v_i, .ref (xad X (4, 0, 26))]) F [iv 2] (snd_X5_readDigits  (g0 := g0) (show Rg 2 from ⟨by decide, by decide⟩) k) rfl ck_5_160 rfl m4_0 rfl rfl rfl (by decide) (Nat.le_of_ble_eq_true rfl) dX5_readNumbers_104 rfl (fun v g' hq => ?_)
    obtain ⟨x, L', rfl, r23, eg, k⟩ := hq
    obtain ⟨z24, ez⟩ : ∃ z : Int × LT, z = (x, L') := ⟨_, rfl⟩
    obtain ⟨rfl, rfl⟩ : x = z24.1 ∧ L' = z24.2 := ⟨by rw [ez], by rw [ez]⟩
    clear ez
    refine J_eq eg ?_
    show J X 107 [(0, .ref (xad X (4, 0, 0))), (1, iv v_c), (2, iv v_i)] [iv z24.1, iv v_i, .ref (xad X (4, 0, 26))] (gs g0 4 0 z24.2)
    obtain ⟨c25, k⟩ := Ok_grd k
    obtain ⟨L26, e27, k⟩ := Ok_let k
    refine jr_iast (pc := 107) F (gs g0 4 0 L26) m4_26 (by decide) c25 r23 (put1 e27) dX5_readNumbers_107 ?_
    refine jr_aload_n (pc := 108) F 0 dX5_readNumbers_108 rfl rfl ?_
    refine jr_getR (pc := 109) (b := (4, 0, 26)) F f_5_65 m4_0 rfl dX5_readNumbers_109 ?_
    refine jr_iload_n (pc := 112) F 2 dX5_readNumbers_112 rfl rfl ?_
    refine jr_iconst (pc := 113) F dX5_readNumbers_113 ?_
    refine jr_iadd (pc := 114) F dX5_readNumbers_114 ?_
    refine jr_aload_n (pc := 115) F 0 dX5_readNumbers_115 rfl rfl ?_
    refine jr_iconst (pc := 116) F dX5_readNumbers_116 ?_
    have k := Ok_bind k
    refine jr_callV (pc := 117) (st := [iv (w32 (v_i + 1)), .ref (xad X (4, 0, 26))]) F [iv 1] (snd_X5_readDigits  (g0 := g0) (show Rg 1 from ⟨by decide, by decide⟩) k) rfl ck_5_160 rfl m4_0 rfl rfl rfl (by decide) (Nat.le_of_ble_eq_true rfl) dX5_readNumbers_117 rfl (fun v g' hq => ?_)
    obtain ⟨x, L', rfl, r28, eg, k⟩ := hq
    obtain ⟨z29, ez⟩ : ∃ z : Int × LT, z = (x, L') := ⟨_, rfl⟩
    obtain ⟨rfl, rfl⟩ : x = z29.1 ∧ L' = z29.2 := ⟨by rw [ez], by rw [ez]⟩
    clear ez
    refine J_eq eg ?_
    show J X 120 [(0, .ref (xad X (4, 0, 0))), (1, iv v_c), (2, iv v_i)] [iv z29.1, iv (w32 (v_i + 1)), .ref (xad X (4, 0, 26))] (gs g0 4 0 z29.2)
    obtain ⟨c30, k⟩ := Ok_grd k
    obtain ⟨L31, e32, k⟩ := Ok_let k
    refine jr_iast (pc := 120) F (gs g0 4 0 L31) m4_26 (by decide) c30 r28 (put1 e32) dX5_readNumbers_120 ?_
    refine jr_aload_n (pc := 121) F 0 dX5_readNumbers_121 rfl rfl ?_
    refine jr_getR (pc := 122) (b := (4, 0, 26)) F f_5_65 m4_0 rfl dX5_readNumbers_122 ?_
    refine jr_iload_n (pc := 125) F 2 dX5_readNumbers_125 rfl rfl ?_
    refine jr_iconst (pc := 126) F dX5_readNumbers_126 ?_
    refine jr_iadd (pc := 127) F dX5_readNumbers_127 ?_
    refine jr_aload_n (pc := 128) F 0 dX5_readNumbers_128 rfl rfl ?_
    refine jr_iconst (pc := 129) F dX5_readNumbers_129 ?_
    have k := Ok_bind k
    refine jr_callV (pc := 130) (st := [iv (w32 (v_i + 2)), .ref (xad X (4, 0, 26))]) F [iv 1] (snd_X5_readDigits  (g0 := g0) (show Rg 1 from ⟨by decide, by decide⟩) k) rfl ck_5_160 rfl m4_0 rfl rfl rfl (by decide) (Nat.le_of_ble_eq_true rfl) dX5_readNumbers_130 rfl (fun v g' hq => ?_)
    obtain ⟨x, L', rfl, r33, eg, k⟩ := hq
    obtain ⟨z34, ez⟩ : ∃ z : Int × LT, z = (x, L') := ⟨_, rfl⟩
    obtain ⟨rfl, rfl⟩ : x = z34.1 ∧ L' = z34.2 := ⟨by rw [ez], by rw [ez]⟩
    clear ez
    refine J_eq eg ?_
    show J X 133 [(0, .ref (xad X (4, 0, 0))), (1, iv v_c), (2, iv v_i)] [iv z34.1, iv (w32 (v_i + 2)), .ref (xad X (4, 0, 26))] (gs g0 4 0 z34.2)
    obtain ⟨c35, k⟩ := Ok_grd k
    obtain ⟨L36, e37, k⟩ := Ok_let k
    refine jr_iast (pc := 133) F (gs g0 4 0 L36) m4_26 (by decide) c35 r33 (put1 e37) dX5_readNumbers_133 ?_
    refine jr_goto (pc := 134) (tgt := 202) F dX5_readNumbers_134 (by decide) ?_
    exact jr_vret (pc := 202) F hQ rfl dX5_readNumbers_202 ⟨_, rfl, rfl, (Ok_some k)⟩
  have k := Ok_f h22 k
  by_cases h38 : v_c = 119
  · have k := Ok_t h38 k
    refine jr_lsw (pc := 1) (tgt := 137) (off := 136) F rgp_c (by decide) (by rw [h38]; decide) (by decide) dX5_readNumbers_1 ?_
    refine jr_aload_n (pc := 137) F 0 dX5_readNumbers_137 rfl rfl ?_
    refine jr_getR (pc := 138) (b := (4, 0, 26)) F f_5_65 m4_0 rfl dX5_readNumbers_138 ?_
    refine jr_iload_n (pc := 141) F 2 dX5_readNumbers_141 rfl rfl ?_
    refine jr_aload_n (pc := 142) F 0 dX5_readNumbers_142 rfl rfl ?_
    refine jr_iconst (pc := 143) F dX5_readNumbers_143 ?_
    have k := Ok_bind k
    refine jr_callV (pc := 144) (st := [iv v_i, .ref (xad X (4, 0, 26))]) F [iv 1] (snd_X5_readDigits  (g0 := g0) (show Rg 1 from ⟨by decide, by decide⟩) k) rfl ck_5_160 rfl m4_0 rfl rfl rfl (by decide) (Nat.le_of_ble_eq_true rfl) dX5_readNumbers_144 rfl (fun v g' hq => ?_)
    obtain ⟨x, L', rfl, r39, eg, k⟩ := hq
    obtain ⟨z40, ez⟩ : ∃ z : Int × LT, z = (x, L') := ⟨_, rfl⟩
    obtain ⟨rfl, rfl⟩ : x = z40.1 ∧ L' = z40.2 := ⟨by rw [ez], by rw [ez]⟩
    clear ez
    refine J_eq eg ?_
    show J X 147 [(0, .ref (xad X (4, 0, 0))), (1, iv v_c), (2, iv v_i)] [iv z40.1, iv v_i, .ref (xad X (4, 0, 26))] (gs g0 4 0 z40.2)
    obtain ⟨c41, k⟩ := Ok_grd k
    obtain ⟨L42, e43, k⟩ := Ok_let k
    refine jr_iast (pc := 147) F (gs g0 4 0 L42) m4_26 (by decide) c41 r39 (put1 e43) dX5_readNumbers_147 ?_
    refine jr_aload_n (pc := 148) F 0 dX5_readNumbers_148 rfl rfl ?_
    refine jr_getR (pc := 149) (b := (4, 0, 26)) F f_5_65 m4_0 rfl dX5_readNumbers_149 ?_
    refine jr_iload_n (pc := 152) F 2 dX5_readNumbers_152 rfl rfl ?_
    refine jr_iconst (pc := 153) F dX5_readNumbers_153 ?_
    refine jr_iadd (pc := 154) F dX5_readNumbers_154 ?_
    refine jr_aload_n (pc := 155) F 0 dX5_readNumbers_155 rfl rfl ?_
    refine jr_iconst (pc := 156) F dX5_readNumbers_156 ?_
    have k := Ok_bind k
    refine jr_callV (pc := 157) (st := [iv (w32 (v_i + 1)), .ref (xad X (4, 0, 26))]) F [iv 2] (snd_X5_readDigits  (g0 := g0) (show Rg 2 from ⟨by decide, by decide⟩) k) rfl ck_5_160 rfl m4_0 rfl rfl rfl (by decide) (Nat.le_of_ble_eq_true rfl) dX5_readNumbers_157 rfl (fun v g' hq => ?_)
    obtain ⟨x, L', rfl, r44, eg, k⟩ := hq
    obtain ⟨z45, ez⟩ : ∃ z : Int × LT, z = (x, L') := ⟨_, rfl⟩
    obtain ⟨rfl, rfl⟩ : x = z45.1 ∧ L' = z45.2 := ⟨by rw [ez], by rw [ez]⟩
    clear ez
    refine J_eq eg ?_
    show J X 160 [(0, .ref (xad X (4, 0, 0))), (1, iv v_c), (2, iv v_i)] [iv z45.1, iv (w32 (v_i + 1)), .ref (xad X (4, 0, 26))] (gs g0 4 0 z45.2)
    obtain ⟨c46, k⟩ := Ok_grd k
    obtain ⟨L47, e48, k⟩ := Ok_let k
    refine jr_iast (pc := 160) F (gs g0 4 0 L47) m4_26 (by decide) c46 r44 (put1 e48) dX5_readNumbers_160 ?_
    refine jr_goto (pc := 161) (tgt := 202) F dX5_readNumbers_161 (by decide) ?_
    exact jr_vret (pc := 202) F hQ rfl dX5_readNumbers_202 ⟨_, rfl, rfl, (Ok_some k)⟩
  have k := Ok_f h38 k
  by_cases h49 : v_c = 99
  · have k := Ok_t h49 k
    refine jr_lsw (pc := 1) (tgt := 164) (off := 163) F rgp_c (by decide) (by rw [h49]; decide) (by decide) dX5_readNumbers_1 ?_
    refine jr_aload_n (pc := 164) F 0 dX5_readNumbers_164 rfl rfl ?_
    refine jr_getR (pc := 165) (b := (4, 0, 26)) F f_5_65 m4_0 rfl dX5_readNumbers_165 ?_
    refine jr_iload_n (pc := 168) F 2 dX5_readNumbers_168 rfl rfl ?_
    refine jr_aload_n (pc := 169) F 0 dX5_readNumbers_169 rfl rfl ?_
    refine jr_iconst (pc := 170) F dX5_readNumbers_170 ?_
    have k := Ok_bind k
    refine jr_callV (pc := 171) (st := [iv v_i, .ref (xad X (4, 0, 26))]) F [iv 1] (snd_X5_readDigits  (g0 := g0) (show Rg 1 from ⟨by decide, by decide⟩) k) rfl ck_5_160 rfl m4_0 rfl rfl rfl (by decide) (Nat.le_of_ble_eq_true rfl) dX5_readNumbers_171 rfl (fun v g' hq => ?_)
    obtain ⟨x, L', rfl, r50, eg, k⟩ := hq
    obtain ⟨z51, ez⟩ : ∃ z : Int × LT, z = (x, L') := ⟨_, rfl⟩
    obtain ⟨rfl, rfl⟩ : x = z51.1 ∧ L' = z51.2 := ⟨by rw [ez], by rw [ez]⟩
    clear ez
    refine J_eq eg ?_
    show J X 174 [(0, .ref (xad X (4, 0, 0))), (1, iv v_c), (2, iv v_i)] [iv z51.1, iv v_i, .ref (xad X (4, 0, 26))] (gs g0 4 0 z51.2)
    obtain ⟨c52, k⟩ := Ok_grd k
    obtain ⟨L53, e54, k⟩ := Ok_let k
    refine jr_iast (pc := 174) F (gs g0 4 0 L53) m4_26 (by decide) c52 r50 (put1 e54) dX5_readNumbers_174 ?_
    refine jr_aload_n (pc := 175) F 0 dX5_readNumbers_175 rfl rfl ?_
    refine jr_getR (pc := 176) (b := (4, 0, 26)) F f_5_65 m4_0 rfl dX5_readNumbers_176 ?_
    refine jr_iload_n (pc := 179) F 2 dX5_readNumbers_179 rfl rfl ?_
    refine jr_iconst (pc := 180) F dX5_readNumbers_180 ?_
    refine jr_iadd (pc := 181) F dX5_readNumbers_181 ?_
    refine jr_aload_n (pc := 182) F 0 dX5_readNumbers_182 rfl rfl ?_
    refine jr_iconst (pc := 183) F dX5_readNumbers_183 ?_
    have k := Ok_bind k
    refine jr_callV (pc := 184) (st := [iv (w32 (v_i + 1)), .ref (xad X (4, 0, 26))]) F [iv 1] (snd_X5_readDigits  (g0 := g0) (show Rg 1 from ⟨by decide, by decide⟩) k) rfl ck_5_160 rfl m4_0 rfl rfl rfl (by decide) (Nat.le_of_ble_eq_true rfl) dX5_readNumbers_184 rfl (fun v g' hq => ?_)
    obtain ⟨x, L', rfl, r55, eg, k⟩ := hq
    obtain ⟨z56, ez⟩ : ∃ z : Int × LT, z = (x, L') := ⟨_, rfl⟩
    obtain ⟨rfl, rfl⟩ : x = z56.1 ∧ L' = z56.2 := ⟨by rw [ez], by rw [ez]⟩
    clear ez
    refine J_eq eg ?_
    show J X 187 [(0, .ref (xad X (4, 0, 0))), (1, iv v_c), (2, iv v_i)] [iv z56.1, iv (w32 (v_i + 1)), .ref (xad X (4, 0, 26))] (gs g0 4 0 z56.2)
    obtain ⟨c57, k⟩ := Ok_grd k
    obtain ⟨L58, e59, k⟩ := Ok_let k
    refine jr_iast (pc := 187) F (gs g0 4 0 L58) m4_26 (by decide) c57 r55 (put1 e59) dX5_readNumbers_187 ?_
    refine jr_goto (pc := 188) (tgt := 202) F dX5_readNumbers_188 (by decide) ?_
    exact jr_vret (pc := 202) F hQ rfl dX5_readNumbers_202 ⟨_, rfl, rfl, (Ok_some k)⟩
  have k := Ok_f h49 k
  refine jr_lsw (pc := 1) (tgt := 191) (off := 190) F rgp_c (by decide) (by simp [Op.lookupswitch.offset, lsw_n2 h1, lsw_n2 h22, lsw_n2 h38, lsw_n2 h49]) (by decide) dX5_readNumbers_1 ?_
  refine jr_aload_n (pc := 191) F 0 dX5_readNumbers_191 rfl rfl ?_
  refine jr_getR (pc := 192) (b := (4, 0, 26)) F f_5_65 m4_0 rfl dX5_readNumbers_192 ?_
  refine jr_iload_n (pc := 195) F 2 dX5_readNumbers_195 rfl rfl ?_
  refine jr_aload_n (pc := 196) F 0 dX5_readNumbers_196 rfl rfl ?_
  refine jr_iconst (pc := 197) F dX5_readNumbers_197 ?_
  have k := Ok_bind k
  refine jr_callV (pc := 198) (st := [iv v_i, .ref (xad X (4, 0, 26))]) F [iv 2] (snd_X5_readDigits  (g0 := g0) (show Rg 2 from ⟨by decide, by decide⟩) k) rfl ck_5_160 rfl m4_0 rfl rfl rfl (by decide) (Nat.le_of_ble_eq_true rfl) dX5_readNumbers_198 rfl (fun v g' hq => ?_)
  obtain ⟨x, L', rfl, r60, eg, k⟩ := hq
  obtain ⟨z61, ez⟩ : ∃ z : Int × LT, z = (x, L') := ⟨_, rfl⟩
  obtain ⟨rfl, rfl⟩ : x = z61.1 ∧ L' = z61.2 := ⟨by rw [ez], by rw [ez]⟩
  clear ez
  refine J_eq eg ?_
  show J X 201 [(0, .ref (xad X (4, 0, 0))), (1, iv v_c), (2, iv v_i)] [iv z61.1, iv v_i, .ref (xad X (4, 0, 26))] (gs g0 4 0 z61.2)
  obtain ⟨c62, k⟩ := Ok_grd k
  obtain ⟨L63, e64, k⟩ := Ok_let k
  refine jr_iast (pc := 201) F (gs g0 4 0 L63) m4_26 (by decide) c62 r60 (put1 e64) dX5_readNumbers_201 ?_
  exact jr_vret (pc := 202) F hQ rfl dX5_readNumbers_202 ⟨_, rfl, rfl, (Ok_some k)⟩
