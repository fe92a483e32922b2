set_option maxHeartbeats 4000000 in
set_option maxRecDepth 100000 in
theorem snd_X4_trainIn {C0 : GG} {v_train : Int} {v_n : Int} {v_what : Int} {M : LT} (rgp_train : Rg v_train) (rgp_n : Rg v_n) (rgp_what : Rg v_what) {Q : (Int × GG) → Prop} (k : Ok (X4_trainIn C0 v_train v_n v_what) Q) : MetG SL yX4_trainIn cX4_trainIn 5 (some .int) 5 (fun ad => [.ref (ad (0, 0, 0)), iv v_train, iv v_n, iv v_what]) (gs C0 4 0 M) (fun v g' => ∃ (x : Int) (L' : GG), v = some (iv x) ∧ Rg x ∧ g' = gs L' 4 0 M ∧ Q (x, L')) := by
  refine met_intro SL_ok (by decide +kernel) (fun ad => Nat.le_of_ble_eq_true rfl) (fun X F hQ hR => ?_)
  replace F : FX X cX4_trainIn RX4 5 (some .int) SL 5 := F
  show J X 0 [(0, .ref (xad X (0, 0, 0))), (1, iv v_train), (2, iv v_n), (3, iv v_what)] [] (gs C0 4 0 M)
  refine jr_aload_n (pc := 0) F 0 dX4_trainIn_0 rfl rfl ?_
  refine jr_iload_n (pc := 1) F 1 dX4_trainIn_1 rfl rfl ?_
  refine jr_callV (pc := 2) (st := []) F [iv v_train] (snd_X4_noTrain (M := M) rgp_train (X4_noTrain_ok _ _ )) rfl ck_4_162 rfl m0_0 rfl rfl rfl (by decide) (Nat.le_of_ble_eq_true rfl) dX4_trainIn_2 rfl (fun v g' hq => ?_)
  obtain ⟨x, rfl, r1, eg, hx⟩ := hq
  subst hx
  refine J_eq eg ?_
  show J X 5 [(0, .ref (xad X (0, 0, 0))), (1, iv v_train), (2, iv v_n), (3, iv v_what)] [iv (X4_noTrain_v C0 v_train)] (gs C0 4 0 M)
  refine jr_if_eq (pc := 5) (tgt := 14) F (rg_z r1) dX4_trainIn_5 (by decide) (fun h2 => ?_) (fun h2 => ?_)
  · have k := Ok_f (fun q => q h2) k
    refine jr_iload_n (pc := 14) F 2 dX4_trainIn_14 rfl rfl ?_
    refine jr_iconst (pc := 15) F dX4_trainIn_15 ?_
    refine jr_bipush (pc := 16) F dX4_trainIn_16 (by decide) ?_
    refine jr_callS (pc := 18) (st := []) F [iv v_n, iv 0, iv 72] (snd_X4_outside (g0 := gs C0 4 0 M) rgp_n (show Rg 0 from ⟨by decide, by decide⟩) (show Rg 72 from ⟨by decide, by decide⟩) (X4_outside_ok _ _ _ )) rfl ck_4_57 rfl rfl (by decide) (Nat.le_of_ble_eq_true rfl) dX4_trainIn_18 rfl (fun v g' hq => ?_)
    obtain ⟨x, rfl, r3, eg, hx⟩ := hq
    subst hx
    refine J_eq eg ?_
    show J X 21 [(0, .ref (xad X (0, 0, 0))), (1, iv v_train), (2, iv v_n), (3, iv v_what)] [iv (X4_outside_v v_n 0 72)] (gs C0 4 0 M)
    obtain ⟨x4, e5, k⟩ := Ok_let k
    have r6 : Rg x4 := rg_of e5 r3
    refine jr_top e5 ?_
    refine jr_istore (pc := 21) F [(4, iv x4), (0, .ref (xad X (0, 0, 0))), (1, iv v_train), (2, iv v_n), (3, iv v_what)] dX4_trainIn_21 (by decide) rfl ?_
    refine jr_iload (pc := 23) F 0 dX4_trainIn_23 rfl ?_
    refine jr_if_eq (pc := 25) (tgt := 35) F r6 dX4_trainIn_25 (by decide) (fun h7 => ?_) (fun h7 => ?_)
    · have k := Ok_f (fun q => q h7) k
      refine cnd (c := (v_what < 0) ∨ (2 < v_what)) (GT := J X 44 [(4, iv x4), (0, .ref (xad X (0, 0, 0))), (1, iv v_train), (2, iv v_n), (3, iv v_what)] [] (gs C0 4 0 M)) (GF := J X 51 [(4, iv x4), (0, .ref (xad X (0, 0, 0))), (1, iv v_train), (2, iv v_n), (3, iv v_what)] [] (gs C0 4 0 M)) k (fun HT HF => ?_) (fun h10 k => ?_) (fun h10 k => ?_)
      · refine jr_iload_n (pc := 35) F 4 dX4_trainIn_35 rfl rfl ?_
        refine jr_if_lt (pc := 36) (tgt := 44) F rgp_what dX4_trainIn_36 (by decide) (fun h8 => ?_) (fun h8 => ?_)
        · exact HT (Or.inl h8)
        refine jr_iload_n (pc := 39) F 4 dX4_trainIn_39 rfl rfl ?_
        refine jr_iconst (pc := 40) F dX4_trainIn_40 ?_
        refine jr_icmp_le (pc := 41) (tgt := 51) F rgp_what (show Rg 2 from ⟨by decide, by decide⟩) dX4_trainIn_41 (by decide) (fun h9 => ?_) (fun h9 => ?_)
        · exact HF (fun q => q.elim (ng_lt h8) (ng_lt h9))
        exact HT (Or.inr h9)
      · refine jr_aload_n (pc := 44) F 1 dX4_trainIn_44 rfl rfl ?_
        refine jr_bipush (pc := 45) F dX4_trainIn_45 (by decide) ?_
        have k := Ok_bind k
        refine jr_callV (pc := 47) (st := []) F [iv (-2)] (snd_X4_refuse (M := M) (show Rg (-2) from ⟨by decide, by decide⟩) k) rfl ck_4_61 rfl m0_0 rfl rfl rfl (by decide) (Nat.le_of_ble_eq_true rfl) dX4_trainIn_47 rfl (fun v g' hq => ?_)
        obtain ⟨x, L', rfl, r11, eg, k⟩ := hq
        obtain ⟨z12, ez⟩ : ∃ z : Int × GG, z = (x, L') := ⟨_, rfl⟩
        obtain ⟨rfl, rfl⟩ : x = z12.1 ∧ L' = z12.2 := ⟨by rw [ez], by rw [ez]⟩
        clear ez
        refine J_eq eg ?_
        show J X 50 [(4, iv x4), (0, .ref (xad X (0, 0, 0))), (1, iv v_train), (2, iv v_n), (3, iv v_what)] [iv z12.1] (gs z12.2 4 0 M)
        exact jr_iret (pc := 50) F hQ rfl dX4_trainIn_50 ⟨_, _, rfl, r11, rfl, (Ok_some k)⟩
      refine jr_aload_n (pc := 51) F 1 dX4_trainIn_51 rfl rfl ?_
      refine jr_iload_n (pc := 52) F 3 dX4_trainIn_52 rfl rfl ?_
      have k := Ok_bind k
      refine jr_callV (pc := 53) (st := []) F [iv v_n] (snd_X4_goInMind (M := M) rgp_n k) rfl ck_4_190 rfl m0_0 rfl rfl rfl (by decide) (Nat.le_of_ble_eq_true rfl) dX4_trainIn_53 rfl (fun v g' hq => ?_)
      obtain ⟨z14, rfl, eg, k⟩ := hq
      refine J_eq eg ?_
      show J X 56 [(4, iv x4), (0, .ref (xad X (0, 0, 0))), (1, iv v_train), (2, iv v_n), (3, iv v_what)] [] (gs z14 4 0 M)
      refine jr_iload_n (pc := 56) F 4 dX4_trainIn_56 rfl rfl ?_
      refine jr_if_ne (pc := 57) (tgt := 70) F rgp_what dX4_trainIn_57 (by decide) (fun h15 => ?_) (fun h15 => ?_)
      · have k := Ok_f h15 k
        obtain ⟨c16, k⟩ := Ok_grd k
        obtain ⟨c17, k⟩ := Ok_grd k
        refine jifP (P := fun v => Rg v → J X 96 [(4, iv x4), (0, .ref (xad X (0, 0, 0))), (1, iv v_train), (2, iv v_n), (3, iv v_what)] (iv v :: []) (gs z14 4 0 M)) (c := v_what = 1) (z14 1 1 12 v_train) (z14 1 1 16 v_train) (fun Ht Hf => ?_) (fun r21 => ?_)
        · refine jr_iload_n (pc := 70) F 4 dX4_trainIn_70 rfl rfl ?_
          refine jr_iconst (pc := 71) F dX4_trainIn_71 ?_
          refine jr_icmp_ne (pc := 72) (tgt := 87) F rgp_what (show Rg 1 from ⟨by decide, by decide⟩) dX4_trainIn_72 (by decide) (fun h18 => ?_) (fun h18 => ?_)
          · refine jr_aload_n (pc := 87) F 1 dX4_trainIn_87 rfl rfl ?_
            refine jr_getR (pc := 88) (b := (1, 1, 0)) F f_4_16 m0_0 rfl dX4_trainIn_88 ?_
            refine jr_getR (pc := 91) (b := (1, 1, 16)) F f_4_193 (mL_0 h11_1) rfl dX4_trainIn_91 ?_
            refine jr_iload_n (pc := 94) F 2 dX4_trainIn_94 rfl rfl ?_
            refine jr_iald (pc := 95) F (z14 1 1 16 v_train) (mL_16 h11_1) (by decide) (c17 h18) rfl dX4_trainIn_95 (fun r19 => ?_)
            exact Hf h18 r19
          refine jr_aload_n (pc := 75) F 1 dX4_trainIn_75 rfl rfl ?_
          refine jr_getR (pc := 76) (b := (1, 1, 0)) F f_4_16 m0_0 rfl dX4_trainIn_76 ?_
          refine jr_getR (pc := 79) (b := (1, 1, 12)) F f_4_174 (mL_0 h11_1) rfl dX4_trainIn_79 ?_
          refine jr_iload_n (pc := 82) F 2 dX4_trainIn_82 rfl rfl ?_
          refine jr_iald (pc := 83) F (z14 1 1 12 v_train) (mL_12 h11_1) (by decide) (c16 h18) rfl dX4_trainIn_83 (fun r20 => ?_)
          refine jr_goto (pc := 84) (tgt := 96) F dX4_trainIn_84 (by decide) ?_
          exact Ht h18 r20
        exact jr_iret (pc := 96) F hQ rfl dX4_trainIn_96 ⟨_, _, rfl, r21, rfl, (Ok_some k)⟩
      have k := Ok_t h15 k
      refine jr_aload_n (pc := 60) F 1 dX4_trainIn_60 rfl rfl ?_
      refine jr_getR (pc := 61) (b := (1, 1, 0)) F f_4_16 m0_0 rfl dX4_trainIn_61 ?_
      refine jr_getR (pc := 64) (b := (1, 1, 14)) F f_4_180 (mL_0 h11_1) rfl dX4_trainIn_64 ?_
      refine jr_iload_n (pc := 67) F 2 dX4_trainIn_67 rfl rfl ?_
      obtain ⟨c22, k⟩ := Ok_grd k
      refine jr_iald (pc := 68) F (z14 1 1 14 v_train) (mL_14 h11_1) (by decide) c22 rfl dX4_trainIn_68 (fun r23 => ?_)
      exact jr_iret (pc := 69) F hQ rfl dX4_trainIn_69 ⟨_, _, rfl, r23, rfl, (Ok_some k)⟩
    have k := Ok_t h7 k
    refine jr_aload_n (pc := 28) F 1 dX4_trainIn_28 rfl rfl ?_
    refine jr_iload (pc := 29) F 0 dX4_trainIn_29 rfl ?_
    have k := Ok_bind k
    refine jr_callV (pc := 31) (st := []) F [iv x4] (snd_X4_refuse (M := M) r6 k) rfl ck_4_61 rfl m0_0 rfl rfl rfl (by decide) (Nat.le_of_ble_eq_true rfl) dX4_trainIn_31 rfl (fun v g' hq => ?_)
    obtain ⟨x, L', rfl, r24, eg, k⟩ := hq
    obtain ⟨z25, ez⟩ : ∃ z : Int × GG, z = (x, L') := ⟨_, rfl⟩
    obtain ⟨rfl, rfl⟩ : x = z25.1 ∧ L' = z25.2 := ⟨by rw [ez], by rw [ez]⟩
    clear ez
    refine J_eq eg ?_
    show J X 34 [(4, iv x4), (0, .ref (xad X (0, 0, 0))), (1, iv v_train), (2, iv v_n), (3, iv v_what)] [iv z25.1] (gs z25.2 4 0 M)
    exact jr_iret (pc := 34) F hQ rfl dX4_trainIn_34 ⟨_, _, rfl, r24, rfl, (Ok_some k)⟩
  have k := Ok_t h2 k
  refine jr_aload_n (pc := 8) F 0 dX4_trainIn_8 rfl rfl ?_
  refine jr_iconst (pc := 9) F dX4_trainIn_9 ?_
  have k := Ok_bind k
  refine jr_callV (pc := 10) (st := []) F [iv (-1)] (snd_X4_refuse (M := M) (show Rg (-1) from ⟨by decide, by decide⟩) k) rfl ck_4_61 rfl m0_0 rfl rfl rfl (by decide) (Nat.le_of_ble_eq_true rfl) dX4_trainIn_10 rfl (fun v g' hq => ?_)
  obtain ⟨x, L', rfl, r26, eg, k⟩ := hq
  obtain ⟨z27, ez⟩ : ∃ z : Int × GG, z = (x, L') := ⟨_, rfl⟩
  obtain ⟨rfl, rfl⟩ : x = z27.1 ∧ L' = z27.2 := ⟨by rw [ez], by rw [ez]⟩
  clear ez
  refine J_eq eg ?_
  show J X 13 [(0, .ref (xad X (0, 0, 0))), (1, iv v_train), (2, iv v_n), (3, iv v_what)] [iv z27.1] (gs z27.2 4 0 M)
  exact jr_iret (pc := 13) F hQ rfl dX4_trainIn_13 ⟨_, _, rfl, r26, rfl, (Ok_some k)⟩
set_option maxHeartbeats 4000000 in
set_option maxRecDepth 100000 in
theorem snd_X4_turn {C0 : GG} {v_yard : Int} {v_kind : Int} {v_figure : Int} {M : LT} (rgp_yard : Rg v_yard) (rgp_kind : Rg v_kind) (rgp_figure : Rg v_figure) {Q : (Int × GG) → Prop} (k : Ok (X4_turn C0 v_yard v_kind v_figure) Q) : MetG SL yX4_turn cX4_turn 6 (some .int) 3 (fun ad => [.ref (ad (0, 0, 0)), iv v_yard, iv v_kind, iv v_figure]) (gs C0 4 0 M) (fun v g' => ∃ (x : Int) (L' : GG), v = some (iv x) ∧ Rg x ∧ g' = gs L' 4 0 M ∧ Q (x, L')) := by
  refine met_intro SL_ok (by decide +kernel) (fun ad => Nat.le_of_ble_eq_true rfl) (fun X F hQ hR => ?_)
  replace F : FX X cX4_turn RX4 6 (some .int) SL 3 := F
  show J X 0 [(0, .ref (xad X (0, 0, 0))), (1, iv v_yard), (2, iv v_kind), (3, iv v_figure)] [] (gs C0 4 0 M)
  refine jr_aload_n (pc := 0) F 0 dX4_turn_0 rfl rfl ?_
  refine jr_iload_n (pc := 1) F 1 dX4_turn_1 rfl rfl ?_
  refine jr_callV (pc := 2) (st := []) F [iv v_yard] (snd_X4_noYard (M := M) rgp_yard (X4_noYard_ok _ _ )) rfl ck_4_127 rfl m0_0 rfl rfl rfl (by decide) (Nat.le_of_ble_eq_true rfl) dX4_turn_2 rfl (fun v g' hq => ?_)
  obtain ⟨x, rfl, r1, eg, hx⟩ := hq
  subst hx
  refine J_eq eg ?_
  show J X 5 [(0, .ref (xad X (0, 0, 0))), (1, iv v_yard), (2, iv v_kind), (3, iv v_figure)] [iv (X4_noYard_v C0 v_yard)] (gs C0 4 0 M)
  refine jr_if_eq (pc := 5) (tgt := 14) F (rg_z r1) dX4_turn_5 (by decide) (fun h2 => ?_) (fun h2 => ?_)
  · have k := Ok_f (fun q => q h2) k
    refine cnd (c := (v_kind < 0) ∨ (5 < v_kind)) (GT := J X 23 [(0, .ref (xad X (0, 0, 0))), (1, iv v_yard), (2, iv v_kind), (3, iv v_figure)] [] (gs C0 4 0 M)) (GF := J X 30 [(0, .ref (xad X (0, 0, 0))), (1, iv v_yard), (2, iv v_kind), (3, iv v_figure)] [] (gs C0 4 0 M)) k (fun HT HF => ?_) (fun h5 k => ?_) (fun h5 k => ?_)
    · refine jr_iload_n (pc := 14) F 2 dX4_turn_14 rfl rfl ?_
      refine jr_if_lt (pc := 15) (tgt := 23) F rgp_kind dX4_turn_15 (by decide) (fun h3 => ?_) (fun h3 => ?_)
      · exact HT (Or.inl h3)
      refine jr_iload_n (pc := 18) F 2 dX4_turn_18 rfl rfl ?_
      refine jr_iconst (pc := 19) F dX4_turn_19 ?_
      refine jr_icmp_le (pc := 20) (tgt := 30) F rgp_kind (show Rg 5 from ⟨by decide, by decide⟩) dX4_turn_20 (by decide) (fun h4 => ?_) (fun h4 => ?_)
      · exact HF (fun q => q.elim (ng_lt h3) (ng_lt h4))
      exact HT (Or.inr h4)
    · refine jr_aload_n (pc := 23) F 0 dX4_turn_23 rfl rfl ?_
      refine jr_bipush (pc := 24) F dX4_turn_24 (by decide) ?_
      have k := Ok_bind k
      refine jr_callV (pc := 26) (st := []) F [iv (-2)] (snd_X4_refuse (M := M) (show Rg (-2) from ⟨by decide, by decide⟩) k) rfl ck_4_61 rfl m0_0 rfl rfl rfl (by decide) (Nat.le_of_ble_eq_true rfl) dX4_turn_26 rfl (fun v g' hq => ?_)
      obtain ⟨x, L', rfl, r6, eg, k⟩ := hq
      obtain ⟨z7, ez⟩ : ∃ z : Int × GG, z = (x, L') := ⟨_, rfl⟩
      obtain ⟨rfl, rfl⟩ : x = z7.1 ∧ L' = z7.2 := ⟨by rw [ez], by rw [ez]⟩
      clear ez
      refine J_eq eg ?_
      show J X 29 [(0, .ref (xad X (0, 0, 0))), (1, iv v_yard), (2, iv v_kind), (3, iv v_figure)] [iv z7.1] (gs z7.2 4 0 M)
      exact jr_iret (pc := 29) F hQ rfl dX4_turn_29 ⟨_, _, rfl, r6, rfl, (Ok_some k)⟩
    refine jr_iload_n (pc := 30) F 3 dX4_turn_30 rfl rfl ?_
    refine jr_iconst (pc := 31) F dX4_turn_31 ?_
    refine jr_bipush (pc := 32) F dX4_turn_32 (by decide) ?_
    refine jr_callS (pc := 34) (st := []) F [iv v_figure, iv 0, iv 9] (snd_X4_outside (g0 := gs C0 4 0 M) rgp_figure (show Rg 0 from ⟨by decide, by decide⟩) (show Rg 9 from ⟨by decide, by decide⟩) (X4_outside_ok _ _ _ )) rfl ck_4_57 rfl rfl (by decide) (Nat.le_of_ble_eq_true rfl) dX4_turn_34 rfl (fun v g' hq => ?_)
    obtain ⟨x, rfl, r8, eg, hx⟩ := hq
    subst hx
    refine J_eq eg ?_
    show J X 37 [(0, .ref (xad X (0, 0, 0))), (1, iv v_yard), (2, iv v_kind), (3, iv v_figure)] [iv (X4_outside_v v_figure 0 9)] (gs C0 4 0 M)
    obtain ⟨x9, e10, k⟩ := Ok_let k
    have r11 : Rg x9 := rg_of e10 r8
    refine jr_top e10 ?_
    refine jr_istore (pc := 37) F [(4, iv x9), (0, .ref (xad X (0, 0, 0))), (1, iv v_yard), (2, iv v_kind), (3, iv v_figure)] dX4_turn_37 (by decide) rfl ?_
    refine jr_iload (pc := 39) F 0 dX4_turn_39 rfl ?_
    refine jr_if_eq (pc := 41) (tgt := 51) F r11 dX4_turn_41 (by decide) (fun h12 => ?_) (fun h12 => ?_)
    · have k := Ok_f (fun q => q h12) k
      refine jr_aload_n (pc := 51) F 1 dX4_turn_51 rfl rfl ?_
      refine jr_getR (pc := 52) (b := (3, 0, 0)) F f_4_29 m0_0 rfl dX4_turn_52 ?_
      refine jr_aload_n (pc := 55) F 1 dX4_turn_55 rfl rfl ?_
      refine jr_getR (pc := 56) (b := (1, 0, 0)) F f_4_12 m0_0 rfl dX4_turn_56 ?_
      have k := Ok_bind k
      refine jr_callV (pc := 59) (st := []) F [.ref (xad X (1, 0, 0))] (snd_X3_keep (M := M) h11_0  k) rfl ck_4_150 rfl m3_0 rfl rfl rfl (by decide) (Nat.le_of_ble_eq_true rfl) dX4_turn_59 rfl (fun v g' hq => ?_)
      obtain ⟨z14, rfl, eg, k⟩ := hq
      refine J_eq eg ?_
      show J X 62 [(4, iv x9), (0, .ref (xad X (0, 0, 0))), (1, iv v_yard), (2, iv v_kind), (3, iv v_figure)] [] (gs z14 4 0 M)
      refine jr_bipush (pc := 62) F dX4_turn_62 (by decide) ?_
      refine jr_aload_n (pc := 64) F 1 dX4_turn_64 rfl rfl ?_
      refine jr_getR (pc := 65) (b := (1, 0, 0)) F f_4_12 m0_0 rfl dX4_turn_65 ?_
      refine jr_getR (pc := 68) (b := (1, 0, 6)) F f_4_130 (mL_0 h11_0) rfl dX4_turn_68 ?_
      refine jr_iload_n (pc := 71) F 2 dX4_turn_71 rfl rfl ?_
      obtain ⟨c15, k⟩ := Ok_grd k
      refine jr_iald (pc := 72) F (z14 1 0 6 v_yard) (mL_6 h11_0) (by decide) c15 rfl dX4_turn_72 (fun r16 => ?_)
      refine jr_imul (pc := 73) F dX4_turn_73 ?_
      refine jr_aload_n (pc := 74) F 1 dX4_turn_74 rfl rfl ?_
      refine jr_getR (pc := 75) (b := (1, 0, 0)) F f_4_12 m0_0 rfl dX4_turn_75 ?_
      refine jr_getR (pc := 78) (b := (1, 0, 7)) F f_4_133 (mL_0 h11_0) rfl dX4_turn_78 ?_
      refine jr_iload_n (pc := 81) F 2 dX4_turn_81 rfl rfl ?_
      refine jr_iald (pc := 82) F (z14 1 0 7 v_yard) (mL_7 h11_0) (by decide) c15 rfl dX4_turn_82 (fun r17 => ?_)
      refine jr_iadd (pc := 83) F dX4_turn_83 ?_
      obtain ⟨x18, e19, k⟩ := Ok_let k
      have r20 : Rg x18 := rg_of e19 (rg_w _)
      refine jr_top e19 ?_
      refine jr_istore (pc := 84) F [(5, iv x18), (4, iv x9), (0, .ref (xad X (0, 0, 0))), (1, iv v_yard), (2, iv v_kind), (3, iv v_figure)] dX4_turn_84 (by decide) rfl ?_
      refine jr_aload_n (pc := 86) F 2 dX4_turn_86 rfl rfl ?_
      refine jr_getR (pc := 87) (b := (1, 0, 0)) F f_4_12 m0_0 rfl dX4_turn_87 ?_
      refine jr_getR (pc := 90) (b := (1, 0, 6)) F f_4_130 (mL_0 h11_0) rfl dX4_turn_90 ?_
      refine jr_iload_n (pc := 93) F 3 dX4_turn_93 rfl rfl ?_
      refine jr_iload_n (pc := 94) F 4 dX4_turn_94 rfl rfl ?_
      obtain ⟨C21, e22, k⟩ := Ok_let k
      refine jr_iast (pc := 95) F (gs C21 4 0 M) (mL_6 h11_0) (by decide) c15 rgp_kind (put2 e22 (by decide)) dX4_turn_95 ?_
      refine jr_aload_n (pc := 96) F 2 dX4_turn_96 rfl rfl ?_
      refine jr_getR (pc := 97) (b := (1, 0, 0)) F f_4_12 m0_0 rfl dX4_turn_97 ?_
      refine jr_getR (pc := 100) (b := (1, 0, 7)) F f_4_133 (mL_0 h11_0) rfl dX4_turn_100 ?_
      refine jr_iload_n (pc := 103) F 3 dX4_turn_103 rfl rfl ?_
      refine jr_iload_n (pc := 104) F 5 dX4_turn_104 rfl rfl ?_
      obtain ⟨C23, e24, k⟩ := Ok_let k
      refine jr_iast (pc := 105) F (gs C23 4 0 M) (mL_7 h11_0) (by decide) c15 rgp_figure (put2 e24 (by decide)) dX4_turn_105 ?_
      refine jr_iload (pc := 106) F 0 dX4_turn_106 rfl ?_
      exact jr_iret (pc := 108) F hQ rfl dX4_turn_108 ⟨_, _, rfl, r20, rfl, (Ok_some k)⟩
    have k := Ok_t h12 k
    refine jr_aload_n (pc := 44) F 1 dX4_turn_44 rfl rfl ?_
    refine jr_iload (pc := 45) F 0 dX4_turn_45 rfl ?_
    have k := Ok_bind k
    refine jr_callV (pc := 47) (st := []) F [iv x9] (snd_X4_refuse (M := M) r11 k) rfl ck_4_61 rfl m0_0 rfl rfl rfl (by decide) (Nat.le_of_ble_eq_true rfl) dX4_turn_47 rfl (fun v g' hq => ?_)
    obtain ⟨x, L', rfl, r25, eg, k⟩ := hq
    obtain ⟨z26, ez⟩ : ∃ z : Int × GG, z = (x, L') := ⟨_, rfl⟩
    obtain ⟨rfl, rfl⟩ : x = z26.1 ∧ L' = z26.2 := ⟨by rw [ez], by rw [ez]⟩
    clear ez
    refine J_eq eg ?_
    show J X 50 [(4, iv x9), (0, .ref (xad X (0, 0, 0))), (1, iv v_yard), (2, iv v_kind), (3, iv v_figure)] [iv z26.1] (gs z26.2 4 0 M)
    exact jr_iret (pc := 50) F hQ rfl dX4_turn_50 ⟨_, _, rfl, r25, rfl, (Ok_some k)⟩
  have k := Ok_t h2 k
  refine jr_aload_n (pc := 8) F 0 dX4_turn_8 rfl rfl ?_
  refine jr_iconst (pc := 9) F dX4_turn_9 ?_
  have k := Ok_bind k
  refine jr_callV (pc := 10) (st := []) F [iv (-1)] (snd_X4_refuse (M := M) (show Rg (-1) from ⟨by decide, by decide⟩) k) rfl ck_4_61 rfl m0_0 rfl rfl rfl (by decide) (Nat.le_of_ble_eq_true rfl) dX4_turn_10 rfl (fun v g' hq => ?_)
  obtain ⟨x, L', rfl, r27, eg, k⟩ := hq
  obtain ⟨z28, ez⟩ : ∃ z : Int × GG, z = (x, L') := ⟨_, rfl⟩
  obtain ⟨rfl, rfl⟩ : x = z28.1 ∧ L' = z28.2 := ⟨by rw [ez], by rw [ez]⟩
  clear ez
  refine J_eq eg ?_
  show J X 13 [(0, .ref (xad X (0, 0, 0))), (1, iv v_yard), (2, iv v_kind), (3, iv v_figure)] [iv z28.1] (gs z28.2 4 0 M)
  exact jr_iret (pc := 13) F hQ rfl dX4_turn_13 ⟨_, _, rfl, r27, rfl, (Ok_some k)⟩
set_option maxHeartbeats 4000000 in
set_option maxRecDepth 100000 in
theorem snd_X4_waits {C0 : GG} {v_train : Int} {v_v : Int} {M : LT} (rgp_train : Rg v_train) (rgp_v : Rg v_v) {Q : (Int × GG) → Prop} (k : Ok (X4_waits C0 v_train v_v) Q) : MetG SL yX4_waits cX4_waits 5 (some .int) 3 (fun ad => [.ref (ad (0, 0, 0)), iv v_train, iv v_v]) (gs C0 4 0 M) (fun v g' => ∃ (x : Int) (L' : GG), v = some (iv x) ∧ Rg x ∧ g' = gs L' 4 0 M ∧ Q (x, L')) := by
  refine met_intro SL_ok (by decide +kernel) (fun ad => Nat.le_of_ble_eq_true rfl) (fun X F hQ hR => ?_)
  replace F : FX X cX4_waits RX4 5 (some .int) SL 3 := F
  show J X 0 [(0, .ref (xad X (0, 0, 0))), (1, iv v_train), (2, iv v_v)] [] (gs C0 4 0 M)
  refine jr_aload_n (pc := 0) F 0 dX4_waits_0 rfl rfl ?_
  refine jr_iload_n (pc := 1) F 1 dX4_waits_1 rfl rfl ?_
  refine jr_callV (pc := 2) (st := []) F [iv v_train] (snd_X4_noTrain (M := M) rgp_train (X4_noTrain_ok _ _ )) rfl ck_4_162 rfl m0_0 rfl rfl rfl (by decide) (Nat.le_of_ble_eq_true rfl) dX4_waits_2 rfl (fun v g' hq => ?_)
  obtain ⟨x, rfl, r1, eg, hx⟩ := hq
  subst hx
  refine J_eq eg ?_
  show J X 5 [(0, .ref (xad X (0, 0, 0))), (1, iv v_train), (2, iv v_v)] [iv (X4_noTrain_v C0 v_train)] (gs C0 4 0 M)
  refine jr_if_eq (pc := 5) (tgt := 14) F (rg_z r1) dX4_waits_5 (by decide) (fun h2 => ?_) (fun h2 => ?_)
  · have k := Ok_f (fun q => q h2) k
    refine jr_iload_n (pc := 14) F 2 dX4_waits_14 rfl rfl ?_
    refine jr_iconst (pc := 15) F dX4_waits_15 ?_
    refine jr_bipush (pc := 16) F dX4_waits_16 (by decide) ?_
    refine jr_callS (pc := 18) (st := []) F [iv v_v, iv 0, iv 48] (snd_X4_outside (g0 := gs C0 4 0 M) rgp_v (show Rg 0 from ⟨by decide, by decide⟩) (show Rg 48 from ⟨by decide, by decide⟩) (X4_outside_ok _ _ _ )) rfl ck_4_57 rfl rfl (by decide) (Nat.le_of_ble_eq_true rfl) dX4_waits_18 rfl (fun v g' hq => ?_)
    obtain ⟨x, rfl, r3, eg, hx⟩ := hq
    subst hx
    refine J_eq eg ?_
    show J X 21 [(0, .ref (xad X (0, 0, 0))), (1, iv v_train), (2, iv v_v)] [iv (X4_outside_v v_v 0 48)] (gs C0 4 0 M)
    obtain ⟨x4, e5, k⟩ := Ok_let k
    have r6 : Rg x4 := rg_of e5 r3
    refine jr_top e5 ?_
    refine jr_istore_n (pc := 21) F [(3, iv x4), (0, .ref (xad X (0, 0, 0))), (1, iv v_train), (2, iv v_v)] dX4_waits_21 rfl (by decide) rfl ?_
    refine jr_iload_n (pc := 22) F 0 dX4_waits_22 rfl rfl ?_
    refine jr_if_eq (pc := 23) (tgt := 32) F r6 dX4_waits_23 (by decide) (fun h7 => ?_) (fun h7 => ?_)
    · have k := Ok_f (fun q => q h7) k
      refine jr_aload_n (pc := 32) F 1 dX4_waits_32 rfl rfl ?_
      refine jr_getR (pc := 33) (b := (1, 0, 0)) F f_4_12 m0_0 rfl dX4_waits_33 ?_
      refine jr_getR (pc := 36) (b := (1, 0, 14)) F f_4_180 (mL_0 h11_0) rfl dX4_waits_36 ?_
      refine jr_iload_n (pc := 39) F 2 dX4_waits_39 rfl rfl ?_
      obtain ⟨c8, k⟩ := Ok_grd k
      refine jr_iald (pc := 40) F (C0 1 0 14 v_train) (mL_14 h11_0) (by decide) c8 rfl dX4_waits_40 (fun r9 => ?_)
      refine jr_if_eq (pc := 41) (tgt := 51) F r9 dX4_waits_41 (by decide) (fun h10 => ?_) (fun h10 => ?_)
      · have k := Ok_f (fun q => q h10) k
        refine jr_aload_n (pc := 51) F 1 dX4_waits_51 rfl rfl ?_
        refine jr_getR (pc := 52) (b := (3, 0, 0)) F f_4_29 m0_0 rfl dX4_waits_52 ?_
        refine jr_aload_n (pc := 55) F 1 dX4_waits_55 rfl rfl ?_
        refine jr_getR (pc := 56) (b := (1, 0, 0)) F f_4_12 m0_0 rfl dX4_waits_56 ?_
        have k := Ok_bind k
        refine jr_callV (pc := 59) (st := []) F [.ref (xad X (1, 0, 0))] (snd_X3_keep (M := M) h11_0  k) rfl ck_4_150 rfl m3_0 rfl rfl rfl (by decide) (Nat.le_of_ble_eq_true rfl) dX4_waits_59 rfl (fun v g' hq => ?_)
        obtain ⟨z12, rfl, eg, k⟩ := hq
        refine J_eq eg ?_
        show J X 62 [(3, iv x4), (0, .ref (xad X (0, 0, 0))), (1, iv v_train), (2, iv v_v)] [] (gs z12 4 0 M)
        refine jr_aload_n (pc := 62) F 1 dX4_waits_62 rfl rfl ?_
        refine jr_getR (pc := 63) (b := (1, 0, 0)) F f_4_12 m0_0 rfl dX4_waits_63 ?_
        refine jr_getR (pc := 66) (b := (1, 0, 13)) F f_4_177 (mL_0 h11_0) rfl dX4_waits_66 ?_
        refine jr_iload_n (pc := 69) F 2 dX4_waits_69 rfl rfl ?_
        refine jr_iald (pc := 70) F (z12 1 0 13 v_train) (mL_13 h11_0) (by decide) c8 rfl dX4_waits_70 (fun r13 => ?_)
        obtain ⟨x14, e15, k⟩ := Ok_let k
        have r16 : Rg x14 := rg_of e15 r13
        refine jr_top e15 ?_
        refine jr_istore (pc := 71) F [(4, iv x14), (3, iv x4), (0, .ref (xad X (0, 0, 0))), (1, iv v_train), (2, iv v_v)] dX4_waits_71 (by decide) rfl ?_
        refine jr_aload_n (pc := 73) F 2 dX4_waits_73 rfl rfl ?_
        refine jr_getR (pc := 74) (b := (1, 0, 0)) F f_4_12 m0_0 rfl dX4_waits_74 ?_
        refine jr_getR (pc := 77) (b := (1, 0, 13)) F f_4_177 (mL_0 h11_0) rfl dX4_waits_77 ?_
        refine jr_iload_n (pc := 80) F 3 dX4_waits_80 rfl rfl ?_
        refine jr_iload_n (pc := 81) F 4 dX4_waits_81 rfl rfl ?_
        obtain ⟨C17, e18, k⟩ := Ok_let k
        refine jr_iast (pc := 82) F (gs C17 4 0 M) (mL_13 h11_0) (by decide) c8 rgp_v (put2 e18 (by decide)) dX4_waits_82 ?_
        refine jr_iload (pc := 83) F 0 dX4_waits_83 rfl ?_
        exact jr_iret (pc := 85) F hQ rfl dX4_waits_85 ⟨_, _, rfl, r16, rfl, (Ok_some k)⟩
      have k := Ok_t h10 k
      refine jr_aload_n (pc := 44) F 1 dX4_waits_44 rfl rfl ?_
      refine jr_bipush (pc := 45) F dX4_waits_45 (by decide) ?_
      have k := Ok_bind k
      refine jr_callV (pc := 47) (st := []) F [iv (-3)] (snd_X4_refuse (M := M) (show Rg (-3) from ⟨by decide, by decide⟩) k) rfl ck_4_61 rfl m0_0 rfl rfl rfl (by decide) (Nat.le_of_ble_eq_true rfl) dX4_waits_47 rfl (fun v g' hq => ?_)
      obtain ⟨x, L', rfl, r19, eg, k⟩ := hq
      obtain ⟨z20, ez⟩ : ∃ z : Int × GG, z = (x, L') := ⟨_, rfl⟩
      obtain ⟨rfl, rfl⟩ : x = z20.1 ∧ L' = z20.2 := ⟨by rw [ez], by rw [ez]⟩
      clear ez
      refine J_eq eg ?_
      show J X 50 [(3, iv x4), (0, .ref (xad X (0, 0, 0))), (1, iv v_train), (2, iv v_v)] [iv z20.1] (gs z20.2 4 0 M)
      exact jr_iret (pc := 50) F hQ rfl dX4_waits_50 ⟨_, _, rfl, r19, rfl, (Ok_some k)⟩
    have k := Ok_t h7 k
    refine jr_aload_n (pc := 26) F 1 dX4_waits_26 rfl rfl ?_
    refine jr_iload_n (pc := 27) F 0 dX4_waits_27 rfl rfl ?_
    have k := Ok_bind k
    refine jr_callV (pc := 28) (st := []) F [iv x4] (snd_X4_refuse (M := M) r6 k) rfl ck_4_61 rfl m0_0 rfl rfl rfl (by decide) (Nat.le_of_ble_eq_true rfl) dX4_waits_28 rfl (fun v g' hq => ?_)
    obtain ⟨x, L', rfl, r21, eg, k⟩ := hq
    obtain ⟨z22, ez⟩ : ∃ z : Int × GG, z = (x, L') := ⟨_, rfl⟩
    obtain ⟨rfl, rfl⟩ : x = z22.1 ∧ L' = z22.2 := ⟨by rw [ez], by rw [ez]⟩
    clear ez
    refine J_eq eg ?_
    show J X 31 [(3, iv x4), (0, .ref (xad X (0, 0, 0))), (1, iv v_train), (2, iv v_v)] [iv z22.1] (gs z22.2 4 0 M)
    exact jr_iret (pc := 31) F hQ rfl dX4_waits_31 ⟨_, _, rfl, r21, rfl, (Ok_some k)⟩
  have k := Ok_t h2 k
  refine jr_aload_n (pc := 8) F 0 dX4_waits_8 rfl rfl ?_
  refine jr_iconst (pc := 9) F dX4_waits_9 ?_
  have k := Ok_bind k
  refine jr_callV (pc := 10) (st := []) F [iv (-1)] (snd_X4_refuse (M := M) (show Rg (-1) from ⟨by decide, by decide⟩) k) rfl ck_4_61 rfl m0_0 rfl rfl rfl (by decide) (Nat.le_of_ble_eq_true rfl) dX4_waits_10 rfl (fun v g' hq => ?_)
  obtain ⟨x, L', rfl, r23, eg, k⟩ := hq
  obtain ⟨z24, ez⟩ : ∃ z : Int × GG, z = (x, L') := ⟨_, rfl⟩
  obtain ⟨rfl, rfl⟩ : x = z24.1 ∧ L' = z24.2 := ⟨by rw [ez], by rw [ez]⟩
  clear ez
  refine J_eq eg ?_
  show J X 13 [(0, .ref (xad X (0, 0, 0))), (1, iv v_train), (2, iv v_v)] [iv z24.1] (gs z24.2 4 0 M)
  exact jr_iret (pc := 13) F hQ rfl dX4_waits_13 ⟨_, _, rfl, r23, rfl, (Ok_some k)⟩
set_option maxHeartbeats 4000000 in
set_option maxRecDepth 100000 in
theorem snd_X4_weather {C0 : GG} {v_what : Int} {v_v : Int} {M : LT} (rgp_what : Rg v_what) (rgp_v : Rg v_v) {Q : (Int × GG) → Prop} (k : Ok (X4_weather C0 v_what v_v) Q) : MetG SL yX4_weather cX4_weather 5 (some .int) 3 (fun ad => [.ref (ad (0, 0, 0)), iv v_what, iv v_v]) (gs C0 4 0 M) (fun v g' => ∃ (x : Int) (L' : GG), v = some (iv x) ∧ Rg x ∧ g' = gs L' 4 0 M ∧ Q (x, L')) := by
  refine met_intro SL_ok (by decide +kernel) (fun ad => Nat.le_of_ble_eq_true rfl) (fun X F hQ hR => ?_)
  replace F : FX X cX4_weather RX4 5 (some .int) SL 3 := F
  show J X 0 [(0, .ref (xad X (0, 0, 0))), (1, iv v_what), (2, iv v_v)] [] (gs C0 4 0 M)
  refine jr_iload_n (pc := 0) F 1 dX4_weather_0 rfl rfl ?_
  refine jr_callS (pc := 1) (st := []) F [iv v_what] (snd_X4_neither (g0 := gs C0 4 0 M) rgp_what (X4_neither_ok _ )) rfl ck_4_153 rfl rfl (by decide) (Nat.le_of_ble_eq_true rfl) dX4_weather_1 rfl (fun v g' hq => ?_)
  obtain ⟨x, rfl, r1, eg, hx⟩ := hq
  subst hx
  refine J_eq eg ?_
  show J X 4 [(0, .ref (xad X (0, 0, 0))), (1, iv v_what), (2, iv v_v)] [iv (X4_neither_v v_what)] (gs C0 4 0 M)
  refine jr_if_eq (pc := 4) (tgt := 14) F (rg_z r1) dX4_weather_4 (by decide) (fun h2 => ?_) (fun h2 => ?_)
  · have k := Ok_f (fun q => q h2) k
    refine jr_iload_n (pc := 14) F 2 dX4_weather_14 rfl rfl ?_
    refine jr_iconst (pc := 15) F dX4_weather_15 ?_
    refine jr_bipush (pc := 16) F dX4_weather_16 (by decide) ?_
    refine jr_callS (pc := 18) (st := []) F [iv v_v, iv 0, iv 9] (snd_X4_outside (g0 := gs C0 4 0 M) rgp_v (show Rg 0 from ⟨by decide, by decide⟩) (show Rg 9 from ⟨by decide, by decide⟩) (X4_outside_ok _ _ _ )) rfl ck_4_57 rfl rfl (by decide) (Nat.le_of_ble_eq_true rfl) dX4_weather_18 rfl (fun v g' hq => ?_)
    obtain ⟨x, rfl, r3, eg, hx⟩ := hq
    subst hx
    refine J_eq eg ?_
    show J X 21 [(0, .ref (xad X (0, 0, 0))), (1, iv v_what), (2, iv v_v)] [iv (X4_outside_v v_v 0 9)] (gs C0 4 0 M)
    obtain ⟨x4, e5, k⟩ := Ok_let k
    have r6 : Rg x4 := rg_of e5 r3
    refine jr_top e5 ?_
    refine jr_istore_n (pc := 21) F [(3, iv x4), (0, .ref (xad X (0, 0, 0))), (1, iv v_what), (2, iv v_v)] dX4_weather_21 rfl (by decide) rfl ?_
    refine jr_iload_n (pc := 22) F 0 dX4_weather_22 rfl rfl ?_
    refine jr_if_eq (pc := 23) (tgt := 32) F r6 dX4_weather_23 (by decide) (fun h7 => ?_) (fun h7 => ?_)
    · have k := Ok_f (fun q => q h7) k
      refine jr_aload_n (pc := 32) F 1 dX4_weather_32 rfl rfl ?_
      refine jr_getR (pc := 33) (b := (3, 0, 0)) F f_4_29 m0_0 rfl dX4_weather_33 ?_
      refine jr_aload_n (pc := 36) F 1 dX4_weather_36 rfl rfl ?_
      refine jr_getR (pc := 37) (b := (1, 0, 0)) F f_4_12 m0_0 rfl dX4_weather_37 ?_
      have k := Ok_bind k
      refine jr_callV (pc := 40) (st := []) F [.ref (xad X (1, 0, 0))] (snd_X3_keep (M := M) h11_0  k) rfl ck_4_150 rfl m3_0 rfl rfl rfl (by decide) (Nat.le_of_ble_eq_true rfl) dX4_weather_40 rfl (fun v g' hq => ?_)
      obtain ⟨z9, rfl, eg, k⟩ := hq
      refine J_eq eg ?_
      show J X 43 [(3, iv x4), (0, .ref (xad X (0, 0, 0))), (1, iv v_what), (2, iv v_v)] [] (gs z9 4 0 M)
      refine jifP (P := fun v => Rg v → J X 64 [(3, iv x4), (0, .ref (xad X (0, 0, 0))), (1, iv v_what), (2, iv v_v)] (iv v :: []) (gs z9 4 0 M)) (c := v_what = 0) (z9 1 0 0 2) (z9 1 0 0 3) (fun Ht Hf => ?_) (fun r13 => ?_)
      · refine jr_iload_n (pc := 43) F 2 dX4_weather_43 rfl rfl ?_
        refine jr_if_ne (pc := 44) (tgt := 57) F rgp_what dX4_weather_44 (by decide) (fun h10 => ?_) (fun h10 => ?_)
        · refine jr_aload_n (pc := 57) F 1 dX4_weather_57 rfl rfl ?_
          refine jr_getR (pc := 58) (b := (1, 0, 0)) F f_4_12 m0_0 rfl dX4_weather_58 ?_
          refine jr_getI (pc := 61) F (z9 1 0 0 3) f_4_118 (mL_0 h11_0) rfl rfl dX4_weather_61 (fun r11 => ?_)
          exact Hf h10 r11
        refine jr_aload_n (pc := 47) F 1 dX4_weather_47 rfl rfl ?_
        refine jr_getR (pc := 48) (b := (1, 0, 0)) F f_4_12 m0_0 rfl dX4_weather_48 ?_
        refine jr_getI (pc := 51) F (z9 1 0 0 2) f_4_115 (mL_0 h11_0) rfl rfl dX4_weather_51 (fun r12 => ?_)
        refine jr_goto (pc := 54) (tgt := 64) F dX4_weather_54 (by decide) ?_
        exact Ht h10 r12
      obtain ⟨x14, e15, k⟩ := Ok_let k
      have r16 : Rg x14 := rg_of e15 r13
      refine jr_top e15 ?_
      refine jr_istore (pc := 64) F [(4, iv x14), (3, iv x4), (0, .ref (xad X (0, 0, 0))), (1, iv v_what), (2, iv v_v)] dX4_weather_64 (by decide) rfl ?_
      refine jr_iload_n (pc := 66) F 3 dX4_weather_66 rfl rfl ?_
      refine jr_if_ne (pc := 67) (tgt := 81) F rgp_what dX4_weather_67 (by decide) (fun h17 => ?_) (fun h17 => ?_)
      · have k := Ok_f h17 k
        refine jr_aload_n (pc := 81) F 2 dX4_weather_81 rfl rfl ?_
        refine jr_getR (pc := 82) (b := (1, 0, 0)) F f_4_12 m0_0 rfl dX4_weather_82 ?_
        refine jr_iload_n (pc := 85) F 4 dX4_weather_85 rfl rfl ?_
        obtain ⟨C18, e19, k⟩ := Ok_let k
        refine jr_putI (pc := 86) F (gs C18 4 0 M) fw_4_118 (mL_0 h11_0) rfl rgp_v (put2 e19 (by decide)) dX4_weather_86 ?_
        refine jr_iload (pc := 89) F 0 dX4_weather_89 rfl ?_
        exact jr_iret (pc := 91) F hQ rfl dX4_weather_91 ⟨_, _, rfl, r16, rfl, (Ok_some k)⟩
      have k := Ok_t h17 k
      refine jr_aload_n (pc := 70) F 2 dX4_weather_70 rfl rfl ?_
      refine jr_getR (pc := 71) (b := (1, 0, 0)) F f_4_12 m0_0 rfl dX4_weather_71 ?_
      refine jr_iload_n (pc := 74) F 4 dX4_weather_74 rfl rfl ?_
      obtain ⟨C20, e21, k⟩ := Ok_let k
      refine jr_putI (pc := 75) F (gs C20 4 0 M) fw_4_115 (mL_0 h11_0) rfl rgp_v (put2 e21 (by decide)) dX4_weather_75 ?_
      refine jr_goto (pc := 78) (tgt := 89) F dX4_weather_78 (by decide) ?_
      refine jr_iload (pc := 89) F 0 dX4_weather_89 rfl ?_
      exact jr_iret (pc := 91) F hQ rfl dX4_weather_91 ⟨_, _, rfl, r16, rfl, (Ok_some k)⟩
    have k := Ok_t h7 k
    refine jr_aload_n (pc := 26) F 1 dX4_weather_26 rfl rfl ?_
    refine jr_iload_n (pc := 27) F 0 dX4_weather_27 rfl rfl ?_
    have k := Ok_bind k
    refine jr_callV (pc := 28) (st := []) F [iv x4] (snd_X4_refuse (M := M) r6 k) rfl ck_4_61 rfl m0_0 rfl rfl rfl (by decide) (Nat.le_of_ble_eq_true rfl) dX4_weather_28 rfl (fun v g' hq => ?_)
    obtain ⟨x, L', rfl, r22, eg, k⟩ := hq
    obtain ⟨z23, ez⟩ : ∃ z : Int × GG, z = (x, L') := ⟨_, rfl⟩
    obtain ⟨rfl, rfl⟩ : x = z23.1 ∧ L' = z23.2 := ⟨by rw [ez], by rw [ez]⟩
    clear ez
    refine J_eq eg ?_
    show J X 31 [(3, iv x4), (0, .ref (xad X (0, 0, 0))), (1, iv v_what), (2, iv v_v)] [iv z23.1] (gs z23.2 4 0 M)
    exact jr_iret (pc := 31) F hQ rfl dX4_weather_31 ⟨_, _, rfl, r22, rfl, (Ok_some k)⟩
  have k := Ok_t h2 k
  refine jr_aload_n (pc := 7) F 0 dX4_weather_7 rfl rfl ?_
  refine jr_bipush (pc := 8) F dX4_weather_8 (by decide) ?_
  have k := Ok_bind k
  refine jr_callV (pc := 10) (st := []) F [iv (-2)] (snd_X4_refuse (M := M) (show Rg (-2) from ⟨by decide, by decide⟩) k) rfl ck_4_61 rfl m0_0 rfl rfl rfl (by decide) (Nat.le_of_ble_eq_true rfl) dX4_weather_10 rfl (fun v g' hq => ?_)
  obtain ⟨x, L', rfl, r24, eg, k⟩ := hq
  obtain ⟨z25, ez⟩ : ∃ z : Int × GG, z = (x, L') := ⟨_, rfl⟩
  obtain ⟨rfl, rfl⟩ : x = z25.1 ∧ L' = z25.2 := ⟨by rw [ez], by rw [ez]⟩
  clear ez
  refine J_eq eg ?_
  show J X 13 [(0, .ref (xad X (0, 0, 0))), (1, iv v_what), (2, iv v_v)] [iv z25.1] (gs z25.2 4 0 M)
  exact jr_iret (pc := 13) F hQ rfl dX4_weather_13 ⟨_, _, rfl, r24, rfl, (Ok_some k)⟩
set_option maxHeartbeats 4000000 in
set_option maxRecDepth 100000 in
theorem snd_X4_yard {C0 : GG} {v_yard : Int} {v_what : Int} {M : LT} (rgp_yard : Rg v_yard) (rgp_what : Rg v_what) {Q : (Int × GG) → Prop} (k : Ok (X4_yard C0 v_yard v_what) Q) : MetG SL yX4_yard cX4_yard 3 (some .int) 2 (fun ad => [.ref (ad (0, 0, 0)), iv v_yard, iv v_what]) (gs C0 4 0 M) (fun v g' => ∃ (x : Int) (L' : GG), v = some (iv x) ∧ Rg x ∧ g' = gs L' 4 0 M ∧ Q (x, L')) := by
  refine met_intro SL_ok (by decide +kernel) (fun ad => Nat.le_of_ble_eq_true rfl) (fun X F hQ hR => ?_)
  replace F : FX X cX4_yard RX4 3 (some .int) SL 2 := F
  show J X 0 [(0, .ref (xad X (0, 0, 0))), (1, iv v_yard), (2, iv v_what)] [] (gs C0 4 0 M)
  refine jr_aload_n (pc := 0) F 0 dX4_yard_0 rfl rfl ?_
  refine jr_iload_n (pc := 1) F 1 dX4_yard_1 rfl rfl ?_
  refine jr_callV (pc := 2) (st := []) F [iv v_yard] (snd_X4_noYard (M := M) rgp_yard (X4_noYard_ok _ _ )) rfl ck_4_127 rfl m0_0 rfl rfl rfl (by decide) (Nat.le_of_ble_eq_true rfl) dX4_yard_2 rfl (fun v g' hq => ?_)
  obtain ⟨x, rfl, r1, eg, hx⟩ := hq
  subst hx
  refine J_eq eg ?_
  show J X 5 [(0, .ref (xad X (0, 0, 0))), (1, iv v_yard), (2, iv v_what)] [iv (X4_noYard_v C0 v_yard)] (gs C0 4 0 M)
  refine jr_if_eq (pc := 5) (tgt := 14) F (rg_z r1) dX4_yard_5 (by decide) (fun h2 => ?_) (fun h2 => ?_)
  · have k := Ok_f (fun q => q h2) k
    refine jr_iload_n (pc := 14) F 2 dX4_yard_14 rfl rfl ?_
    by_cases h3 : v_what = 0
    · have k := Ok_t h3 k
      refine jr_tsin (pc := 15) (tgt := 52) (off := 37) F h3 ⟨by decide, by decide⟩ ⟨by decide, by decide⟩ rfl (by decide) dX4_yard_15 ?_
      refine jr_aload_n (pc := 52) F 0 dX4_yard_52 rfl rfl ?_
      refine jr_getR (pc := 53) (b := (1, 0, 0)) F f_4_12 m0_0 rfl dX4_yard_53 ?_
      refine jr_getR (pc := 56) (b := (1, 0, 6)) F f_4_130 (mL_0 h11_0) rfl dX4_yard_56 ?_
      refine jr_iload_n (pc := 59) F 1 dX4_yard_59 rfl rfl ?_
      obtain ⟨c4, k⟩ := Ok_grd k
      refine jr_iald (pc := 60) F (C0 1 0 6 v_yard) (mL_6 h11_0) (by decide) c4 rfl dX4_yard_60 (fun r5 => ?_)
      exact jr_iret (pc := 61) F hQ rfl dX4_yard_61 ⟨_, _, rfl, r5, rfl, (Ok_some k)⟩
    have k := Ok_f h3 k
    by_cases h6 : v_what = 1
    · have k := Ok_t h6 k
      refine jr_tsin (pc := 15) (tgt := 62) (off := 47) F h6 ⟨by decide, by decide⟩ ⟨by decide, by decide⟩ rfl (by decide) dX4_yard_15 ?_
      refine jr_aload_n (pc := 62) F 0 dX4_yard_62 rfl rfl ?_
      refine jr_getR (pc := 63) (b := (1, 0, 0)) F f_4_12 m0_0 rfl dX4_yard_63 ?_
      refine jr_getR (pc := 66) (b := (1, 0, 7)) F f_4_133 (mL_0 h11_0) rfl dX4_yard_66 ?_
      refine jr_iload_n (pc := 69) F 1 dX4_yard_69 rfl rfl ?_
      obtain ⟨c7, k⟩ := Ok_grd k
      refine jr_iald (pc := 70) F (C0 1 0 7 v_yard) (mL_7 h11_0) (by decide) c7 rfl dX4_yard_70 (fun r8 => ?_)
      exact jr_iret (pc := 71) F hQ rfl dX4_yard_71 ⟨_, _, rfl, r8, rfl, (Ok_some k)⟩
    have k := Ok_f h6 k
    by_cases h9 : v_what = 2
    · have k := Ok_t h9 k
      refine jr_tsin (pc := 15) (tgt := 72) (off := 57) F h9 ⟨by decide, by decide⟩ ⟨by decide, by decide⟩ rfl (by decide) dX4_yard_15 ?_
      refine jr_aload_n (pc := 72) F 0 dX4_yard_72 rfl rfl ?_
      refine jr_getR (pc := 73) (b := (1, 0, 0)) F f_4_12 m0_0 rfl dX4_yard_73 ?_
      refine jr_getR (pc := 76) (b := (1, 0, 8)) F f_4_136 (mL_0 h11_0) rfl dX4_yard_76 ?_
      refine jr_iload_n (pc := 79) F 1 dX4_yard_79 rfl rfl ?_
      obtain ⟨c10, k⟩ := Ok_grd k
      refine jr_iald (pc := 80) F (C0 1 0 8 v_yard) (mL_8 h11_0) (by decide) c10 rfl dX4_yard_80 (fun r11 => ?_)
      exact jr_iret (pc := 81) F hQ rfl dX4_yard_81 ⟨_, _, rfl, r11, rfl, (Ok_some k)⟩
    have k := Ok_f h9 k
    by_cases h12 : v_what = 3
    · have k := Ok_t h12 k
      refine jr_tsin (pc := 15) (tgt := 82) (off := 67) F h12 ⟨by decide, by decide⟩ ⟨by decide, by decide⟩ rfl (by decide) dX4_yard_15 ?_
      refine jr_aload_n (pc := 82) F 0 dX4_yard_82 rfl rfl ?_
      refine jr_getR (pc := 83) (b := (1, 0, 0)) F f_4_12 m0_0 rfl dX4_yard_83 ?_
      refine jr_getR (pc := 86) (b := (1, 0, 6)) F f_4_130 (mL_0 h11_0) rfl dX4_yard_86 ?_
      refine jr_iload_n (pc := 89) F 1 dX4_yard_89 rfl rfl ?_
      obtain ⟨c13, k⟩ := Ok_grd k
      refine jr_iald (pc := 90) F (C0 1 0 6 v_yard) (mL_6 h11_0) (by decide) c13 rfl dX4_yard_90 (fun r14 => ?_)
      refine jr_aload_n (pc := 91) F 0 dX4_yard_91 rfl rfl ?_
      refine jr_getR (pc := 92) (b := (1, 0, 0)) F f_4_12 m0_0 rfl dX4_yard_92 ?_
      refine jr_getR (pc := 95) (b := (1, 0, 7)) F f_4_133 (mL_0 h11_0) rfl dX4_yard_95 ?_
      refine jr_iload_n (pc := 98) F 1 dX4_yard_98 rfl rfl ?_
      refine jr_iald (pc := 99) F (C0 1 0 7 v_yard) (mL_7 h11_0) (by decide) c13 rfl dX4_yard_99 (fun r15 => ?_)
      refine jr_aload_n (pc := 100) F 0 dX4_yard_100 rfl rfl ?_
      refine jr_getR (pc := 101) (b := (1, 0, 0)) F f_4_12 m0_0 rfl dX4_yard_101 ?_
      refine jr_getI (pc := 104) F (C0 1 0 0 2) f_4_115 (mL_0 h11_0) rfl rfl dX4_yard_104 (fun r16 => ?_)
      refine jr_callS (pc := 107) (st := []) F [iv (C0 1 0 6 v_yard), iv (C0 1 0 7 v_yard), iv (C0 1 0 0 2)] (snd_X0_freezes (g0 := gs C0 4 0 M) r14 r15 r16 (X0_freezes_ok _ _ _ )) rfl ck_4_139 rfl rfl (by decide) (Nat.le_of_ble_eq_true rfl) dX4_yard_107 rfl (fun v g' hq => ?_)
      obtain ⟨x, rfl, r17, eg, hx⟩ := hq
      subst hx
      refine J_eq eg ?_
      show J X 110 [(0, .ref (xad X (0, 0, 0))), (1, iv v_yard), (2, iv v_what)] [iv (X0_freezes_v (C0 1 0 6 v_yard) (C0 1 0 7 v_yard) (C0 1 0 0 2))] (gs C0 4 0 M)
      exact jr_iret (pc := 110) F hQ rfl dX4_yard_110 ⟨_, _, rfl, r17, rfl, (Ok_some k)⟩
    have k := Ok_f h12 k
    by_cases h18 : v_what = 4
    · have k := Ok_t h18 k
      refine jr_tsin (pc := 15) (tgt := 111) (off := 96) F h18 ⟨by decide, by decide⟩ ⟨by decide, by decide⟩ rfl (by decide) dX4_yard_15 ?_
      refine jr_aload_n (pc := 111) F 0 dX4_yard_111 rfl rfl ?_
      refine jr_getR (pc := 112) (b := (1, 0, 0)) F f_4_12 m0_0 rfl dX4_yard_112 ?_
      refine jr_getR (pc := 115) (b := (1, 0, 6)) F f_4_130 (mL_0 h11_0) rfl dX4_yard_115 ?_
      refine jr_iload_n (pc := 118) F 1 dX4_yard_118 rfl rfl ?_
      obtain ⟨c19, k⟩ := Ok_grd k
      refine jr_iald (pc := 119) F (C0 1 0 6 v_yard) (mL_6 h11_0) (by decide) c19 rfl dX4_yard_119 (fun r20 => ?_)
      refine jr_aload_n (pc := 120) F 0 dX4_yard_120 rfl rfl ?_
      refine jr_getR (pc := 121) (b := (1, 0, 0)) F f_4_12 m0_0 rfl dX4_yard_121 ?_
      refine jr_getR (pc := 124) (b := (1, 0, 7)) F f_4_133 (mL_0 h11_0) rfl dX4_yard_124 ?_
      refine jr_iload_n (pc := 127) F 1 dX4_yard_127 rfl rfl ?_
      refine jr_iald (pc := 128) F (C0 1 0 7 v_yard) (mL_7 h11_0) (by decide) c19 rfl dX4_yard_128 (fun r21 => ?_)
      refine jr_aload_n (pc := 129) F 0 dX4_yard_129 rfl rfl ?_
      refine jr_getR (pc := 130) (b := (1, 0, 0)) F f_4_12 m0_0 rfl dX4_yard_130 ?_
      refine jr_getI (pc := 133) F (C0 1 0 0 3) f_4_118 (mL_0 h11_0) rfl rfl dX4_yard_133 (fun r22 => ?_)
      refine jr_callS (pc := 136) (st := []) F [iv (C0 1 0 6 v_yard), iv (C0 1 0 7 v_yard), iv (C0 1 0 0 3)] (snd_X0_melts (g0 := gs C0 4 0 M) r20 r21 r22 (X0_melts_ok _ _ _ )) rfl ck_4_144 rfl rfl (by decide) (Nat.le_of_ble_eq_true rfl) dX4_yard_136 rfl (fun v g' hq => ?_)
      obtain ⟨x, rfl, r23, eg, hx⟩ := hq
      subst hx
      refine J_eq eg ?_
      show J X 139 [(0, .ref (xad X (0, 0, 0))), (1, iv v_yard), (2, iv v_what)] [iv (X0_melts_v (C0 1 0 6 v_yard) (C0 1 0 7 v_yard) (C0 1 0 0 3))] (gs C0 4 0 M)
      exact jr_iret (pc := 139) F hQ rfl dX4_yard_139 ⟨_, _, rfl, r23, rfl, (Ok_some k)⟩
    have k := Ok_f h18 k
    by_cases h24 : v_what = 5
    · have k := Ok_t h24 k
      refine jr_tsin (pc := 15) (tgt := 140) (off := 125) F h24 ⟨by decide, by decide⟩ ⟨by decide, by decide⟩ rfl (by decide) dX4_yard_15 ?_
      refine jr_aload_n (pc := 140) F 0 dX4_yard_140 rfl rfl ?_
      refine jr_getR (pc := 141) (b := (1, 0, 0)) F f_4_12 m0_0 rfl dX4_yard_141 ?_
      refine jr_getR (pc := 144) (b := (1, 0, 6)) F f_4_130 (mL_0 h11_0) rfl dX4_yard_144 ?_
      refine jr_iload_n (pc := 147) F 1 dX4_yard_147 rfl rfl ?_
      obtain ⟨c25, k⟩ := Ok_grd k
      refine jr_iald (pc := 148) F (C0 1 0 6 v_yard) (mL_6 h11_0) (by decide) c25 rfl dX4_yard_148 (fun r26 => ?_)
      refine jr_aload_n (pc := 149) F 0 dX4_yard_149 rfl rfl ?_
      refine jr_getR (pc := 150) (b := (1, 0, 0)) F f_4_12 m0_0 rfl dX4_yard_150 ?_
      refine jr_getR (pc := 153) (b := (1, 0, 7)) F f_4_133 (mL_0 h11_0) rfl dX4_yard_153 ?_
      refine jr_iload_n (pc := 156) F 1 dX4_yard_156 rfl rfl ?_
      refine jr_iald (pc := 157) F (C0 1 0 7 v_yard) (mL_7 h11_0) (by decide) c25 rfl dX4_yard_157 (fun r27 => ?_)
      refine jr_bipush (pc := 158) F dX4_yard_158 (by decide) ?_
      refine jr_callS (pc := 160) (st := []) F [iv (C0 1 0 6 v_yard), iv (C0 1 0 7 v_yard), iv 20] (snd_X0_wants (g0 := gs C0 4 0 M) r26 r27 (show Rg 20 from ⟨by decide, by decide⟩) (X0_wants_ok _ _ _ )) rfl ck_4_147 rfl rfl (by decide) (Nat.le_of_ble_eq_true rfl) dX4_yard_160 rfl (fun v g' hq => ?_)
      obtain ⟨x, rfl, r28, eg, hx⟩ := hq
      subst hx
      refine J_eq eg ?_
      show J X 163 [(0, .ref (xad X (0, 0, 0))), (1, iv v_yard), (2, iv v_what)] [iv (X0_wants_v (C0 1 0 6 v_yard) (C0 1 0 7 v_yard) 20)] (gs C0 4 0 M)
      exact jr_iret (pc := 163) F hQ rfl dX4_yard_163 ⟨_, _, rfl, r28, rfl, (Ok_some k)⟩
    have k := Ok_f h24 k
    refine jr_tsout (pc := 15) (tgt := 164) F rgp_what (by omega) (by decide) dX4_yard_15 ?_
    refine jr_aload_n (pc := 164) F 0 dX4_yard_164 rfl rfl ?_
    refine jr_bipush (pc := 165) F dX4_yard_165 (by decide) ?_
    have k := Ok_bind k
    refine jr_callV (pc := 167) (st := []) F [iv (-2)] (snd_X4_refuse (M := M) (show Rg (-2) from ⟨by decide, by decide⟩) k) rfl ck_4_61 rfl m0_0 rfl rfl rfl (by decide) (Nat.le_of_ble_eq_true rfl) dX4_yard_167 rfl (fun v g' hq => ?_)
    obtain ⟨x, L', rfl, r29, eg, k⟩ := hq
    obtain ⟨z30, ez⟩ : ∃ z : Int × GG, z = (x, L') := ⟨_, rfl⟩
    obtain ⟨rfl, rfl⟩ : x = z30.1 ∧ L' = z30.2 := ⟨by rw [ez], by rw [ez]⟩
    clear ez
    refine J_eq eg ?_
    show J X 170 [(0, .ref (xad X (0, 0, 0))), (1, iv v_yard), (2, iv v_what)] [iv z30.1] (gs z30.2 4 0 M)
    exact jr_iret (pc := 170) F hQ rfl dX4_yard_170 ⟨_, _, rfl, r29, rfl, (Ok_some k)⟩
  have k := Ok_t h2 k
  refine jr_aload_n (pc := 8) F 0 dX4_yard_8 rfl rfl ?_
  refine jr_iconst (pc := 9) F dX4_yard_9 ?_
  have k := Ok_bind k
  refine jr_callV (pc := 10) (st := []) F [iv (-1)] (snd_X4_refuse (M := M) (show Rg (-1) from ⟨by decide, by decide⟩) k) rfl ck_4_61 rfl m0_0 rfl rfl rfl (by decide) (Nat.le_of_ble_eq_true rfl) dX4_yard_10 rfl (fun v g' hq => ?_)
  obtain ⟨x, L', rfl, r31, eg, k⟩ := hq
  obtain ⟨z32, ez⟩ : ∃ z : Int × GG, z = (x, L') := ⟨_, rfl⟩
  obtain ⟨rfl, rfl⟩ : x = z32.1 ∧ L' = z32.2 := ⟨by rw [ez], by rw [ez]⟩
  clear ez
  refine J_eq eg ?_
  show J X 13 [(0, .ref (xad X (0, 0, 0))), (1, iv v_yard), (2, iv v_what)] [iv z32.1] (gs z32.2 4 0 M)
  exact jr_iret (pc := 13) F hQ rfl dX4_yard_13 ⟨_, _, rfl, r31, rfl, (Ok_some k)⟩
set_option maxHeartbeats 4000000 in
set_option maxRecDepth 100000 in
theorem snd_X5_wants {L0 : LT} {v_y : Int} {v_weight : Int} {g0 : GG} (rgp_y : Rg v_y) (rgp_weight : Rg v_weight) {Q : (Int) → Prop} (k : Ok (X5_wants_f L0 v_y v_weight) Q) : MetG SL yX5_wants cX5_wants 3 (some .int) 0 (fun ad => [.ref (ad (4, 0, 0)), iv v_y, iv v_weight]) (gs g0 4 0 L0) (fun v g' => ∃ x : Int, v = some (iv x) ∧ Rg x ∧ g' = gs g0 4 0 L0 ∧ Q x) := by
  refine met_intro SL_ok (by decide +kernel) (fun ad => Nat.le_of_ble_eq_true rfl) (fun X F hQ hR => ?_)
  replace F : FX X cX5_wants RX5 3 (some .int) SL 0 := F
  show J X 0 [(0, .ref (xad X (4, 0, 0))), (1, iv v_y), (2, iv v_weight)] [] (gs g0 4 0 L0)
  refine jr_aload_n (pc := 0) F 0 dX5_wants_0 rfl rfl ?_
  refine jr_getR (pc := 1) (b := (4, 0, 2)) F f_5_13 m4_0 rfl dX5_wants_1 ?_
  refine jr_iload_n (pc := 4) F 1 dX5_wants_4 rfl rfl ?_
  obtain ⟨c1, k⟩ := Ok_grd k
  refine jr_iald (pc := 5) F (L0 2 v_y) m4_2 (by decide) c1 (gs_at' _ _ _ _ _ _) dX5_wants_5 (fun r2 => ?_)
  by_cases h3 : L0 2 v_y = 1
  · have k := Ok_t h3 k
    refine jr_tsin (pc := 6) (tgt := 40) (off := 34) F h3 ⟨by decide, by decide⟩ ⟨by decide, by decide⟩ rfl (by decide) dX5_wants_6 ?_
    refine jr_iload_n (pc := 40) F 2 dX5_wants_40 rfl rfl ?_
    refine jr_iload_n (pc := 41) F 2 dX5_wants_41 rfl rfl ?_
    refine jr_iconst (pc := 42) F dX5_wants_42 ?_
    refine jr_idiv (pc := 43) F rgp_weight (show Rg 2 from ⟨by decide, by decide⟩) (by decide) dX5_wants_43 ?_
    refine jr_iadd (pc := 44) F dX5_wants_44 ?_
    exact jr_iret (pc := 45) F hQ rfl dX5_wants_45 ⟨_, rfl, (rg_w _), rfl, (Ok_some k)⟩
  have k := Ok_f h3 k
  by_cases h4 : L0 2 v_y = 2
  · have k := Ok_t h4 k
    refine jr_tsin (pc := 6) (tgt := 46) (off := 40) F h4 ⟨by decide, by decide⟩ ⟨by decide, by decide⟩ rfl (by decide) dX5_wants_6 ?_
    refine jr_iload_n (pc := 46) F 2 dX5_wants_46 rfl rfl ?_
    refine jr_aload_n (pc := 47) F 0 dX5_wants_47 rfl rfl ?_
    refine jr_getR (pc := 48) (b := (4, 0, 3)) F f_5_17 m4_0 rfl dX5_wants_48 ?_
    refine jr_iload_n (pc := 51) F 1 dX5_wants_51 rfl rfl ?_
    refine jr_iald (pc := 52) F (L0 3 v_y) m4_3 (by decide) c1 (gs_at' _ _ _ _ _ _) dX5_wants_52 (fun r5 => ?_)
    refine jr_iadd (pc := 53) F dX5_wants_53 ?_
    exact jr_iret (pc := 54) F hQ rfl dX5_wants_54 ⟨_, rfl, (rg_w _), rfl, (Ok_some k)⟩
  have k := Ok_f h4 k
  by_cases h6 : L0 2 v_y = 5
  · have k := Ok_t h6 k
    refine jr_tsin (pc := 6) (tgt := 46) (off := 40) F h6 ⟨by decide, by decide⟩ ⟨by decide, by decide⟩ rfl (by decide) dX5_wants_6 ?_
    refine jr_iload_n (pc := 46) F 2 dX5_wants_46 rfl rfl ?_
    refine jr_aload_n (pc := 47) F 0 dX5_wants_47 rfl rfl ?_
    refine jr_getR (pc := 48) (b := (4, 0, 3)) F f_5_17 m4_0 rfl dX5_wants_48 ?_
    refine jr_iload_n (pc := 51) F 1 dX5_wants_51 rfl rfl ?_
    refine jr_iald (pc := 52) F (L0 3 v_y) m4_3 (by decide) c1 (gs_at' _ _ _ _ _ _) dX5_wants_52 (fun r7 => ?_)
    refine jr_iadd (pc := 53) F dX5_wants_53 ?_
    exact jr_iret (pc := 54) F hQ rfl dX5_wants_54 ⟨_, rfl, (rg_w _), rfl, (Ok_some k)⟩
  have k := Ok_f h6 k
  by_cases h8 : L0 2 v_y = 3
  · have k := Ok_t h8 k
    refine jr_tsin (pc := 6) (tgt := 55) (off := 49) F h8 ⟨by decide, by decide⟩ ⟨by decide, by decide⟩ rfl (by decide) dX5_wants_6 ?_
    refine jr_iload_n (pc := 55) F 2 dX5_wants_55 rfl rfl ?_
    refine jr_iconst (pc := 56) F dX5_wants_56 ?_
    refine jr_idiv (pc := 57) F rgp_weight (show Rg 2 from ⟨by decide, by decide⟩) (by decide) dX5_wants_57 ?_
    exact jr_iret (pc := 58) F hQ rfl dX5_wants_58 ⟨_, rfl, (rg_div _ _), rfl, (Ok_some k)⟩
  have k := Ok_f h8 k
  by_cases h9 : L0 2 v_y = 4
  · have k := Ok_t h9 k
    refine jr_tsin (pc := 6) (tgt := 55) (off := 49) F h9 ⟨by decide, by decide⟩ ⟨by decide, by decide⟩ rfl (by decide) dX5_wants_6 ?_
    refine jr_iload_n (pc := 55) F 2 dX5_wants_55 rfl rfl ?_
    refine jr_iconst (pc := 56) F dX5_wants_56 ?_
    refine jr_idiv (pc := 57) F rgp_weight (show Rg 2 from ⟨by decide, by decide⟩) (by decide) dX5_wants_57 ?_
    exact jr_iret (pc := 58) F hQ rfl dX5_wants_58 ⟨_, rfl, (rg_div _ _), rfl, (Ok_some k)⟩
  have k := Ok_f h9 k
  refine jr_tsout (pc := 6) (tgt := 59) F r2 (by omega) (by decide) dX5_wants_6 ?_
  refine jr_iload_n (pc := 59) F 2 dX5_wants_59 rfl rfl ?_
  exact jr_iret (pc := 60) F hQ rfl dX5_wants_60 ⟨_, rfl, rgp_weight, rfl, (Ok_some k)⟩
set_option maxHeartbeats 4000000 in
set_option maxRecDepth 100000 in
theorem snd_X5_bears {L0 : LT} {v_y : Int} {v_weight : Int} {g0 : GG} (rgp_y : Rg v_y) (rgp_weight : Rg v_weight) {Q : (Int) → Prop} (k : Ok (X5_bears_f L0 v_y v_weight) Q) : MetG SL yX5_bears cX5_bears 3 (some .boolean) 1 (fun ad => [.ref (ad (4, 0, 0)), iv v_y, iv v_weight]) (gs g0 4 0 L0) (fun v g' => ∃ x : Int, v = some (iv x) ∧ Bz x ∧ g' = gs g0 4 0 L0 ∧ Q x) := by
  refine met_intro SL_ok (by decide +kernel) (fun ad => Nat.le_of_ble_eq_true rfl) (fun X F hQ hR => ?_)
  replace F : FX X cX5_bears RX5 3 (some .boolean) SL 1 := F
  show J X 0 [(0, .ref (xad X (4, 0, 0))), (1, iv v_y), (2, iv v_weight)] [] (gs g0 4 0 L0)
  obtain ⟨c1, k⟩ := Ok_grd k
  obtain ⟨c2, k⟩ := Ok_grd k
  refine jifP (P := fun v => Bz v → J X 20 [(0, .ref (xad X (4, 0, 0))), (1, iv v_y), (2, iv v_weight)] (iv v :: []) (gs g0 4 0 L0)) (c := (X5_wants_v L0 v_y v_weight) ≤ (L0 4 v_y)) (1) (0) (fun Ht Hf => ?_) (fun r6 => ?_)
  · refine jr_aload_n (pc := 0) F 0 dX5_bears_0 rfl rfl ?_
    refine jr_getR (pc := 1) (b := (4, 0, 4)) F f_5_20 m4_0 rfl dX5_bears_1 ?_
    refine jr_iload_n (pc := 4) F 1 dX5_bears_4 rfl rfl ?_
    refine jr_iald (pc := 5) F (L0 4 v_y) m4_4 (by decide) c1 (gs_at' _ _ _ _ _ _) dX5_bears_5 (fun r3 => ?_)
    refine jr_aload_n (pc := 6) F 0 dX5_bears_6 rfl rfl ?_
    refine jr_iload_n (pc := 7) F 1 dX5_bears_7 rfl rfl ?_
    refine jr_iload_n (pc := 8) F 2 dX5_bears_8 rfl rfl ?_
    refine jr_callV (pc := 9) (st := [iv (L0 4 v_y)]) F [iv v_y, iv v_weight] (snd_X5_wants  (g0 := g0) rgp_y rgp_weight (X5_wants_ok _ _ _ c2)) rfl ck_5_106 rfl m4_0 rfl rfl rfl (by decide) (Nat.le_of_ble_eq_true rfl) dX5_bears_9 rfl (fun v g' hq => ?_)
    obtain ⟨x, rfl, r4, eg, hx⟩ := hq
    subst hx
    refine J_eq eg ?_
    show J X 12 [(0, .ref (xad X (4, 0, 0))), (1, iv v_y), (2, iv v_weight)] [iv (X5_wants_v L0 v_y v_weight), iv (L0 4 v_y)] (gs g0 4 0 L0)
    refine jr_icmp_lt (pc := 12) (tgt := 19) F r3 r4 dX5_bears_12 (by decide) (fun h5 => ?_) (fun h5 => ?_)
    · refine jr_iconst (pc := 19) F dX5_bears_19 ?_
      exact Hf (ng_le h5) (Or.inl rfl)
    refine jr_iconst (pc := 15) F dX5_bears_15 ?_
    refine jr_goto (pc := 16) (tgt := 20) F dX5_bears_16 (by decide) ?_
    exact Ht h5 (Or.inr rfl)
  exact jr_zret (pc := 20) F hQ rfl r6 dX5_bears_20 ⟨_, rfl, r6, rfl, (Ok_some k)⟩
set_option maxHeartbeats 4000000 in
set_option maxRecDepth 100000 in
theorem snd_X5_allBear {L0 : LT} {v_weight : Int} {g0 : GG} (rgp_weight : Rg v_weight) {Q : (Int) → Prop} (k : Ok (X5_allBear L0 v_weight) Q) : MetG SL yX5_allBear cX5_allBear 4 (some .boolean) 2 (fun ad => [.ref (ad (4, 0, 0)), iv v_weight]) (gs g0 4 0 L0) (fun v g' => ∃ x : Int, v = some (iv x) ∧ Bz x ∧ g' = gs g0 4 0 L0 ∧ Q x) := by
  refine met_intro SL_ok (by decide +kernel) (fun ad => Nat.le_of_ble_eq_true rfl) (fun X F hQ hR => ?_)
  replace F : FX X cX5_allBear RX5 4 (some .boolean) SL 2 := F
  show J X 0 [(0, .ref (xad X (4, 0, 0))), (1, iv v_weight)] [] (gs g0 4 0 L0)
  refine jr_iconst (pc := 0) F dX5_allBear_0 ?_
  refine jr_istore_n (pc := 1) F [(2, iv 1), (0, .ref (xad X (4, 0, 0))), (1, iv v_weight)] dX5_allBear_1 rfl (by decide) rfl ?_
  refine jr_iconst (pc := 2) F dX5_allBear_2 ?_
  refine jr_istore_n (pc := 3) F [(3, iv 0), (2, iv 1), (0, .ref (xad X (4, 0, 0))), (1, iv v_weight)] dX5_allBear_3 rfl (by decide) rfl ?_
  refine jr_sub F [2, 3, 1, 0] [(0, .ref (xad X (4, 0, 0))), (1, iv v_weight), (2, iv 1), (3, iv 0)] rfl ?_
  refine lpj (P := fun s : Int × Int => Bz (s.1) → Rg (s.2) → J X 4 [(0, .ref (xad X (4, 0, 0))), (1, iv v_weight), (2, iv s.1), (3, iv s.2)] [] (gs g0 4 0 L0)) (PE := fun r : Int × Int => Bz (r.1) → Rg (r.2) → J X 37 [(0, .ref (xad X (4, 0, 0))), (1, iv v_weight), (2, iv r.1), (3, iv r.2)] [] (gs g0 4 0 L0)) k (fun s1 Q2 k hC3 hE4 r6 r7 => ?_) (fun z5 k => ?_) (fun h => h (Or.inr rfl) (show Rg 0 from ⟨by decide, by decide⟩))
  · refine jr_iload_n (pc := 4) F 3 dX5_allBear_4 rfl rfl ?_
    refine jr_aload_n (pc := 5) F 0 dX5_allBear_5 rfl rfl ?_
    refine jr_getI (pc := 6) F (L0 0 0) f_5_7 m4_0 rfl (gs_at' _ _ _ _ _ _) dX5_allBear_6 (fun r8 => ?_)
    refine jr_icmp_ge (pc := 9) (tgt := 37) F r7 r8 dX5_allBear_9 (by decide) (fun h9 => ?_) (fun h9 => ?_)
    · have k := Ok_f (ng_lt h9) k
      exact hE4 (s1.1, s1.2) (Ok_some k) r6 r7
    have k := Ok_t h9 k
    obtain ⟨c10, k⟩ := Ok_grd k
    refine jifP (P := fun v => Bz v → J X 30 [(0, .ref (xad X (4, 0, 0))), (1, iv v_weight), (2, iv s1.1), (3, iv s1.2)] (iv v :: []) (gs g0 4 0 L0)) (c := (¬ s1.1 = 0) ∧ (¬ (X5_bears_v L0 s1.2 v_weight) = 0)) (1) (0) (fun Ht Hf => ?_) (fun r14 => ?_)
    · refine jr_iload_n (pc := 12) F 2 dX5_allBear_12 rfl rfl ?_
      refine jr_if_eq (pc := 13) (tgt := 29) F (rg_z r6) dX5_allBear_13 (by decide) (fun h11 => ?_) (fun h11 => ?_)
      · refine jr_iconst (pc := 29) F dX5_allBear_29 ?_
        exact Hf (fun q => (fun q => q h11) q.1) (Or.inl rfl)
      refine jr_aload_n (pc := 16) F 0 dX5_allBear_16 rfl rfl ?_
      refine jr_iload_n (pc := 17) F 3 dX5_allBear_17 rfl rfl ?_
      refine jr_iload_n (pc := 18) F 1 dX5_allBear_18 rfl rfl ?_
      refine jr_callV (pc := 19) (st := []) F [iv s1.2, iv v_weight] (snd_X5_bears  (g0 := g0) r7 rgp_weight (X5_bears_ok _ _ _ (c10 h11))) rfl ck_5_110 rfl m4_0 rfl rfl rfl (by decide) (Nat.le_of_ble_eq_true rfl) dX5_allBear_19 rfl (fun v g' hq => ?_)
      obtain ⟨x, rfl, r12, eg, hx⟩ := hq
      subst hx
      refine J_eq eg ?_
      show J X 22 [(0, .ref (xad X (4, 0, 0))), (1, iv v_weight), (2, iv s1.1), (3, iv s1.2)] [iv (X5_bears_v L0 s1.2 v_weight)] (gs g0 4 0 L0)
      refine jr_if_eq (pc := 22) (tgt := 29) F (rg_z r12) dX5_allBear_22 (by decide) (fun h13 => ?_) (fun h13 => ?_)
      · refine jr_iconst (pc := 29) F dX5_allBear_29 ?_
        exact Hf (fun q => (fun q => q h13) q.2) (Or.inl rfl)
      refine jr_iconst (pc := 25) F dX5_allBear_25 ?_
      refine jr_goto (pc := 26) (tgt := 30) F dX5_allBear_26 (by decide) ?_
      exact Ht ⟨h11, h13⟩ (Or.inr rfl)
    obtain ⟨x15, e16, k⟩ := Ok_let k
    have r17 : Bz x15 := bz_of e16 r14
    refine jr_top e16 ?_
    refine jr_istore_n (pc := 30) F [(2, iv x15), (0, .ref (xad X (4, 0, 0))), (1, iv v_weight), (3, iv s1.2)] dX5_allBear_30 rfl (by decide) rfl ?_
    refine jr_iinc (pc := 31) F [(3, iv (w32 (s1.2 + 1))), (2, iv x15), (0, .ref (xad X (4, 0, 0))), (1, iv v_weight)] 3 dX5_allBear_31 rfl (by decide) rfl ?_
    refine jr_goto (pc := 34) (tgt := 4) F dX5_allBear_34 (by decide) ?_
    refine jr_sub F [2, 3, 1, 0] [(0, .ref (xad X (4, 0, 0))), (1, iv v_weight), (2, iv x15), (3, iv (w32 (s1.2 + 1)))] rfl ?_
    exact hC3 (x15, w32 (s1.2 + 1)) (Ok_some k) r17 (rg_w _)
  intro r18 r19
  refine jr_iload_n (pc := 37) F 2 dX5_allBear_37 rfl rfl ?_
  exact jr_zret (pc := 38) F hQ rfl r18 dX5_allBear_38 ⟨_, rfl, r18, rfl, (Ok_some k)⟩
set_option maxHeartbeats 4000000 in
set_option maxRecDepth 100000 in
theorem snd_X5_allFrost {L0 : LT} {g0 : GG}  {Q : (Int) → Prop} (k : Ok (X5_allFrost L0) Q) : MetG SL yX5_allFrost cX5_allFrost 3 (some .int) 0 (fun ad => [.ref (ad (4, 0, 0))]) (gs g0 4 0 L0) (fun v g' => ∃ x : Int, v = some (iv x) ∧ Rg x ∧ g' = gs g0 4 0 L0 ∧ Q x) := by
  refine met_intro SL_ok (by decide +kernel) (fun ad => Nat.le_of_ble_eq_true rfl) (fun X F hQ hR => ?_)
  replace F : FX X cX5_allFrost RX5 3 (some .int) SL 0 := F
  show J X 0 [(0, .ref (xad X (4, 0, 0)))] [] (gs g0 4 0 L0)
  refine jr_iconst (pc := 0) F dX5_allFrost_0 ?_
  refine jr_istore_n (pc := 1) F [(1, iv 0), (0, .ref (xad X (4, 0, 0)))] dX5_allFrost_1 rfl (by decide) rfl ?_
  refine jr_iconst (pc := 2) F dX5_allFrost_2 ?_
  refine jr_istore_n (pc := 3) F [(2, iv 0), (1, iv 0), (0, .ref (xad X (4, 0, 0)))] dX5_allFrost_3 rfl (by decide) rfl ?_
  refine jr_sub F [2, 1, 0] [(0, .ref (xad X (4, 0, 0))), (1, iv 0), (2, iv 0)] rfl ?_
  refine lpj (P := fun s : Int × Int => Rg (s.1) → Rg (s.2) → J X 4 [(0, .ref (xad X (4, 0, 0))), (1, iv s.1), (2, iv s.2)] [] (gs g0 4 0 L0)) (PE := fun r : Int × Int => Rg (r.1) → Rg (r.2) → J X 27 [(0, .ref (xad X (4, 0, 0))), (1, iv r.1), (2, iv r.2)] [] (gs g0 4 0 L0)) k (fun s1 Q2 k hC3 hE4 r6 r7 => ?_) (fun z5 k => ?_) (fun h => h (show Rg 0 from ⟨by decide, by decide⟩) (show Rg 0 from ⟨by decide, by decide⟩))
  · refine jr_iload_n (pc := 4) F 2 dX5_allFrost_4 rfl rfl ?_
    refine jr_aload_n (pc := 5) F 0 dX5_allFrost_5 rfl rfl ?_
    refine jr_getI (pc := 6) F (L0 0 0) f_5_7 m4_0 rfl (gs_at' _ _ _ _ _ _) dX5_allFrost_6 (fun r8 => ?_)
    refine jr_icmp_ge (pc := 9) (tgt := 27) F r7 r8 dX5_allFrost_9 (by decide) (fun h9 => ?_) (fun h9 => ?_)
    · have k := Ok_f (ng_lt h9) k
      exact hE4 (s1.1, s1.2) (Ok_some k) r6 r7
    have k := Ok_t h9 k
    refine jr_iload_n (pc := 12) F 1 dX5_allFrost_12 rfl rfl ?_
    refine jr_aload_n (pc := 13) F 0 dX5_allFrost_13 rfl rfl ?_
    refine jr_getR (pc := 14) (b := (4, 0, 4)) F f_5_20 m4_0 rfl dX5_allFrost_14 ?_
    refine jr_iload_n (pc := 17) F 2 dX5_allFrost_17 rfl rfl ?_
    obtain ⟨c10, k⟩ := Ok_grd k
    refine jr_iald (pc := 18) F (L0 4 s1.2) m4_4 (by decide) c10 (gs_at' _ _ _ _ _ _) dX5_allFrost_18 (fun r11 => ?_)
    refine jr_iadd (pc := 19) F dX5_allFrost_19 ?_
    obtain ⟨x12, e13, k⟩ := Ok_let k
    have r14 : Rg x12 := rg_of e13 (rg_w _)
    refine jr_top e13 ?_
    refine jr_istore_n (pc := 20) F [(1, iv x12), (0, .ref (xad X (4, 0, 0))), (2, iv s1.2)] dX5_allFrost_20 rfl (by decide) rfl ?_
    refine jr_iinc (pc := 21) F [(2, iv (w32 (s1.2 + 1))), (1, iv x12), (0, .ref (xad X (4, 0, 0)))] 2 dX5_allFrost_21 rfl (by decide) rfl ?_
    refine jr_goto (pc := 24) (tgt := 4) F dX5_allFrost_24 (by decide) ?_
    refine jr_sub F [2, 1, 0] [(0, .ref (xad X (4, 0, 0))), (1, iv x12), (2, iv (w32 (s1.2 + 1)))] rfl ?_
    exact hC3 (x12, w32 (s1.2 + 1)) (Ok_some k) r14 (rg_w _)
  intro r15 r16
  refine jr_iload_n (pc := 27) F 1 dX5_allFrost_27 rfl rfl ?_
  exact jr_iret (pc := 28) F hQ rfl dX5_allFrost_28 ⟨_, rfl, r15, rfl, (Ok_some k)⟩
set_option maxHeartbeats 4000000 in
set_option maxRecDepth 100000 in
theorem snd_X5_atLeast {v_v : Int} {g0 : GG} (rgp_v : Rg v_v) {Q : (Int) → Prop} (k : Ok (X5_atLeast_f v_v) Q) : MetG SL yX5_atLeast cX5_atLeast 1 (some .int) 0 (fun ad => [iv v_v]) (g0) (fun v g' => ∃ x : Int, v = some (iv x) ∧ Rg x ∧ g' = g0 ∧ Q x) := by
  refine met_intro SL_ok (by decide +kernel) (fun ad => Nat.le_of_ble_eq_true rfl) (fun X F hQ hR => ?_)
  replace F : FX X cX5_atLeast RX5 1 (some .int) SL 0 := F
  show J X 0 [(0, iv v_v)] [] (g0)
  refine jifP (P := fun v => Rg v → J X 9 [(0, iv v_v)] (iv v :: []) (g0)) (c := v_v < 0) (0) (v_v) (fun Ht Hf => ?_) (fun r2 => ?_)
  · refine jr_iload_n (pc := 0) F 0 dX5_atLeast_0 rfl rfl ?_
    refine jr_if_ge (pc := 1) (tgt := 8) F rgp_v dX5_atLeast_1 (by decide) (fun h1 => ?_) (fun h1 => ?_)
    · refine jr_iload_n (pc := 8) F 0 dX5_atLeast_8 rfl rfl ?_
      exact Hf (ng_lt h1) rgp_v
    refine jr_iconst (pc := 4) F dX5_atLeast_4 ?_
    refine jr_goto (pc := 5) (tgt := 9) F dX5_atLeast_5 (by decide) ?_
    exact Ht h1 (show Rg 0 from ⟨by decide, by decide⟩)
  exact jr_iret (pc := 9) F hQ rfl dX5_atLeast_9 ⟨_, rfl, r2, rfl, (Ok_some k)⟩
set_option maxHeartbeats 4000000 in
set_option maxRecDepth 100000 in
theorem snd_X5_carry {L0 : LT} {v_v : Int} {g0 : GG} (rgp_v : Rg v_v) {Q : (Int × LT) → Prop} (k : Ok (X5_carry L0 v_v) Q) : MetG SL yX5_carry cX5_carry 2 (some .int) 0 (fun ad => [.ref (ad (4, 0, 0)), iv v_v]) (gs g0 4 0 L0) (fun v g' => ∃ (x : Int) (L' : LT), v = some (iv x) ∧ Rg x ∧ g' = gs g0 4 0 L' ∧ Q (x, L')) := by
  refine met_intro SL_ok (by decide +kernel) (fun ad => Nat.le_of_ble_eq_true rfl) (fun X F hQ hR => ?_)
  replace F : FX X cX5_carry RX5 2 (some .int) SL 0 := F
  show J X 0 [(0, .ref (xad X (4, 0, 0))), (1, iv v_v)] [] (gs g0 4 0 L0)
  refine jr_aload_n (pc := 0) F 0 dX5_carry_0 rfl rfl ?_
  refine jr_getI (pc := 1) F (L0 0 30) f_5_215 m4_0 rfl (gs_at' _ _ _ _ _ _) dX5_carry_1 (fun r1 => ?_)
  refine jr_if_eq (pc := 4) (tgt := 17) F r1 dX5_carry_4 (by decide) (fun h2 => ?_) (fun h2 => ?_)
  · have k := Ok_f (fun q => q h2) k
    refine jr_aload_n (pc := 17) F 0 dX5_carry_17 rfl rfl ?_
    refine jr_dup (pc := 18) F dX5_carry_18 rfl ?_
    refine jr_getI (pc := 19) F (L0 0 29) f_5_221 m4_0 rfl (gs_at' _ _ _ _ _ _) dX5_carry_19 (fun r3 => ?_)
    refine jr_iconst (pc := 22) F dX5_carry_22 ?_
    refine jr_iadd (pc := 23) F dX5_carry_23 ?_
    obtain ⟨L4, e5, k⟩ := Ok_let k
    refine jr_putI (pc := 24) F (gs g0 4 0 L4) fw_5_221 m4_0 rfl (rg_w _) (put1 e5) dX5_carry_24 ?_
    refine jr_aload_n (pc := 27) F 0 dX5_carry_27 rfl rfl ?_
    obtain ⟨c6, k⟩ := Ok_grd k
    refine jr_getD (pc := 28) (b := (4, 0, (L4 0 31).toNat)) F f_5_218 m4_0 rfl (drK c6) dX5_carry_28 ?_
    refine jr_aload_n (pc := 31) F 0 dX5_carry_31 rfl rfl ?_
    refine jr_getI (pc := 32) F (L4 0 29) f_5_221 m4_0 rfl (gs_at' _ _ _ _ _ _) dX5_carry_32 (fun r7 => ?_)
    refine jr_iconst (pc := 35) F dX5_carry_35 ?_
    refine jr_isub (pc := 36) F dX5_carry_36 ?_
    obtain ⟨c8, k⟩ := Ok_grd k
    refine jr_iald (pc := 37) F (L4 ((L4 0 31).toNat) (w32 ((L4 0 29) - 1))) (mK c6) (by decide) c8 (gs_at' _ _ _ _ _ _) dX5_carry_37 (fun r9 => ?_)
    exact jr_iret (pc := 38) F hQ rfl dX5_carry_38 ⟨_, _, rfl, r9, rfl, (Ok_some k)⟩
  have k := Ok_t h2 k
  refine jr_aload_n (pc := 7) F 0 dX5_carry_7 rfl rfl ?_
  obtain ⟨c10, k⟩ := Ok_grd k
  refine jr_getD (pc := 8) (b := (4, 0, (L0 0 31).toNat)) F f_5_218 m4_0 rfl (drK c10) dX5_carry_8 ?_
  refine jr_aload_n (pc := 11) F 0 dX5_carry_11 rfl rfl ?_
  refine jr_getI (pc := 12) F (L0 0 29) f_5_221 m4_0 rfl (gs_at' _ _ _ _ _ _) dX5_carry_12 (fun r11 => ?_)
  refine jr_iload_n (pc := 15) F 1 dX5_carry_15 rfl rfl ?_
  obtain ⟨c12, k⟩ := Ok_grd k
  obtain ⟨L13, e14, k⟩ := Ok_let k
  refine jr_iast (pc := 16) F (gs g0 4 0 L13) (mK c10) (by decide) c12 rgp_v (put1 e14) dX5_carry_16 ?_
  refine jr_aload_n (pc := 17) F 0 dX5_carry_17 rfl rfl ?_
  refine jr_dup (pc := 18) F dX5_carry_18 rfl ?_
  refine jr_getI (pc := 19) F (L13 0 29) f_5_221 m4_0 rfl (gs_at' _ _ _ _ _ _) dX5_carry_19 (fun r15 => ?_)
  refine jr_iconst (pc := 22) F dX5_carry_22 ?_
  refine jr_iadd (pc := 23) F dX5_carry_23 ?_
  obtain ⟨L16, e17, k⟩ := Ok_let k
  refine jr_putI (pc := 24) F (gs g0 4 0 L16) fw_5_221 m4_0 rfl (rg_w _) (put1 e17) dX5_carry_24 ?_
  refine jr_aload_n (pc := 27) F 0 dX5_carry_27 rfl rfl ?_
  obtain ⟨c18, k⟩ := Ok_grd k
  refine jr_getD (pc := 28) (b := (4, 0, (L16 0 31).toNat)) F f_5_218 m4_0 rfl (drK c18) dX5_carry_28 ?_
  refine jr_aload_n (pc := 31) F 0 dX5_carry_31 rfl rfl ?_
  refine jr_getI (pc := 32) F (L16 0 29) f_5_221 m4_0 rfl (gs_at' _ _ _ _ _ _) dX5_carry_32 (fun r19 => ?_)
  refine jr_iconst (pc := 35) F dX5_carry_35 ?_
  refine jr_isub (pc := 36) F dX5_carry_36 ?_
  obtain ⟨c20, k⟩ := Ok_grd k
  refine jr_iald (pc := 37) F (L16 ((L16 0 31).toNat) (w32 ((L16 0 29) - 1))) (mK c18) (by decide) c20 (gs_at' _ _ _ _ _ _) dX5_carry_37 (fun r21 => ?_)
  exact jr_iret (pc := 38) F hQ rfl dX5_carry_38 ⟨_, _, rfl, r21, rfl, (Ok_some k)⟩
set_option maxHeartbeats 4000000 in
set_option maxRecDepth 100000 in
theorem snd_X5_carryAll {L0 : LT} {v_to : Int} {v_takes : Int} {g0 : GG} (rgp_takes : Rg v_takes) {Q : (LT) → Prop} (k : Ok (X5_carryAll L0 v_to v_takes) Q) : MetG SL yX5_carryAll cX5_carryAll 4 none 1 (fun ad => [.ref (ad (4, 0, 0)), .ref (ad (4, 0, (v_to).toNat)), iv v_takes]) (gs g0 4 0 L0) (fun v g' => ∃ L' : LT, v = none ∧ g' = gs g0 4 0 L' ∧ Q L') := by
  refine met_intro SL_ok (by decide +kernel) (fun ad => Nat.le_of_ble_eq_true rfl) (fun X F hQ hR => ?_)
  replace F : FX X cX5_carryAll RX5 4 none SL 1 := F
  show J X 0 [(0, .ref (xad X (4, 0, 0))), (1, .ref (xad X (4, 0, (v_to).toNat))), (2, iv v_takes)] [] (gs g0 4 0 L0)
  obtain ⟨c1, k⟩ := Ok_grd k
  refine jr_aload_n (pc := 0) F 0 dX5_carryAll_0 rfl rfl ?_
  refine jr_aload_n (pc := 1) F 1 dX5_carryAll_1 rfl rfl ?_
  obtain ⟨L2, e3, k⟩ := Ok_let k
  refine jr_putD (pc := 2) (q := 1) F (v_to) (gs g0 4 0 L2) rfl fw_5_218 m4_0 rfl (rgK c1) (drK c1) (put1 e3) dX5_carryAll_2 ?_
  refine jr_aload_n (pc := 5) F 0 dX5_carryAll_5 rfl rfl ?_
  refine jr_iload_n (pc := 6) F 2 dX5_carryAll_6 rfl rfl ?_
  obtain ⟨c4, k⟩ := Ok_grd k
  obtain ⟨L5, e6, k⟩ := Ok_let k
  refine jr_putZ (pc := 7) F (gs g0 4 0 L5) fw_5_215 m4_0 rfl c4 (put1 e6) dX5_carryAll_7 ?_
  refine jr_aload_n (pc := 10) F 0 dX5_carryAll_10 rfl rfl ?_
  refine jr_iconst (pc := 11) F dX5_carryAll_11 ?_
  obtain ⟨L7, e8, k⟩ := Ok_let k
  refine jr_putI (pc := 12) F (gs g0 4 0 L7) fw_5_221 m4_0 rfl (show Rg 0 from ⟨by decide, by decide⟩) (put1 e8) dX5_carryAll_12 ?_
  refine jr_aload_n (pc := 15) F 0 dX5_carryAll_15 rfl rfl ?_
  refine jr_aload_n (pc := 16) F 0 dX5_carryAll_16 rfl rfl ?_
  refine jr_aload_n (pc := 17) F 0 dX5_carryAll_17 rfl rfl ?_
  refine jr_getI (pc := 18) F (L7 0 0) f_5_7 m4_0 rfl (gs_at' _ _ _ _ _ _) dX5_carryAll_18 (fun r9 => ?_)
  have k := Ok_bind k
  refine jr_callV (pc := 21) (st := [.ref (xad X (4, 0, 0))]) F [iv (L7 0 0)] (snd_X5_carry  (g0 := g0) r9 k) rfl ck_5_224 rfl m4_0 rfl rfl rfl (by decide) (Nat.le_of_ble_eq_true rfl) dX5_carryAll_21 rfl (fun v g' hq => ?_)
  obtain ⟨x, L', rfl, r10, eg, k⟩ := hq
  obtain ⟨z11, ez⟩ : ∃ z : Int × LT, z = (x, L') := ⟨_, rfl⟩
  obtain ⟨rfl, rfl⟩ : x = z11.1 ∧ L' = z11.2 := ⟨by rw [ez], by rw [ez]⟩
  clear ez
  refine J_eq eg ?_
  show J X 24 [(0, .ref (xad X (4, 0, 0))), (1, .ref (xad X (4, 0, (v_to).toNat))), (2, iv v_takes)] [iv z11.1, .ref (xad X (4, 0, 0))] (gs g0 4 0 z11.2)
  obtain ⟨L12, e13, k⟩ := Ok_let k
  refine jr_putI (pc := 24) F (gs g0 4 0 L12) fw_5_7 m4_0 rfl r10 (put1 e13) dX5_carryAll_24 ?_
  refine jr_aload_n (pc := 27) F 0 dX5_carryAll_27 rfl rfl ?_
  refine jr_aload_n (pc := 28) F 0 dX5_carryAll_28 rfl rfl ?_
  refine jr_aload_n (pc := 29) F 0 dX5_carryAll_29 rfl rfl ?_
  refine jr_getI (pc := 30) F (L12 0 4) f_5_120 m4_0 rfl (gs_at' _ _ _ _ _ _) dX5_carryAll_30 (fun r14 => ?_)
  have k := Ok_bind k
  refine jr_callV (pc := 33) (st := [.ref (xad X (4, 0, 0))]) F [iv (L12 0 4)] (snd_X5_carry  (g0 := g0) r14 k) rfl ck_5_224 rfl m4_0 rfl rfl rfl (by decide) (Nat.le_of_ble_eq_true rfl) dX5_carryAll_33 rfl (fun v g' hq => ?_)
  obtain ⟨x, L', rfl, r15, eg, k⟩ := hq
  obtain ⟨z16, ez⟩ : ∃ z : Int × LT, z = (x, L') := ⟨_, rfl⟩
  obtain ⟨rfl, rfl⟩ : x = z16.1 ∧ L' = z16.2 := ⟨by rw [ez], by rw [ez]⟩
  clear ez
  refine J_eq eg ?_
  show J X 36 [(0, .ref (xad X (4, 0, 0))), (1, .ref (xad X (4, 0, (v_to).toNat))), (2, iv v_takes)] [iv z16.1, .ref (xad X (4, 0, 0))] (gs g0 4 0 z16.2)
  obtain ⟨L17, e18, k⟩ := Ok_let k
  refine jr_putI (pc := 36) F (gs g0 4 0 L17) fw_5_120 m4_0 rfl r15 (put1 e18) dX5_carryAll_36 ?_
  refine jr_aload_n (pc := 39) F 0 dX5_carryAll_39 rfl rfl ?_
  refine jr_aload_n (pc := 40) F 0 dX5_carryAll_40 rfl rfl ?_
  refine jr_aload_n (pc := 41) F 0 dX5_carryAll_41 rfl rfl ?_
  refine jr_getI (pc := 42) F (L17 0 5) f_5_23 m4_0 rfl (gs_at' _ _ _ _ _ _) dX5_carryAll_42 (fun r19 => ?_)
  have k := Ok_bind k
  refine jr_callV (pc := 45) (st := [.ref (xad X (4, 0, 0))]) F [iv (L17 0 5)] (snd_X5_carry  (g0 := g0) r19 k) rfl ck_5_224 rfl m4_0 rfl rfl rfl (by decide) (Nat.le_of_ble_eq_true rfl) dX5_carryAll_45 rfl (fun v g' hq => ?_)
  obtain ⟨x, L', rfl, r20, eg, k⟩ := hq
  obtain ⟨z21, ez⟩ : ∃ z : Int × LT, z = (x, L') := ⟨_, rfl⟩
  obtain ⟨rfl, rfl⟩ : x = z21.1 ∧ L' = z21.2 := ⟨by rw [ez], by rw [ez]⟩
  clear ez
  refine J_eq eg ?_
  show J X 48 [(0, .ref (xad X (4, 0, 0))), (1, .ref (xad X (4, 0, (v_to).toNat))), (2, iv v_takes)] [iv z21.1, .ref (xad X (4, 0, 0))] (gs g0 4 0 z21.2)
  obtain ⟨L22, e23, k⟩ := Ok_let k
  refine jr_putI (pc := 48) F (gs g0 4 0 L22) fw_5_23 m4_0 rfl r20 (put1 e23) dX5_carryAll_48 ?_
  refine jr_aload_n (pc := 51) F 0 dX5_carryAll_51 rfl rfl ?_
  refine jr_aload_n (pc := 52) F 0 dX5_carryAll_52 rfl rfl ?_
  refine jr_aload_n (pc := 53) F 0 dX5_carryAll_53 rfl rfl ?_
  refine jr_getI (pc := 54) F (L22 0 6) f_5_26 m4_0 rfl (gs_at' _ _ _ _ _ _) dX5_carryAll_54 (fun r24 => ?_)
  have k := Ok_bind k
  refine jr_callV (pc := 57) (st := [.ref (xad X (4, 0, 0))]) F [iv (L22 0 6)] (snd_X5_carry  (g0 := g0) r24 k) rfl ck_5_224 rfl m4_0 rfl rfl rfl (by decide) (Nat.le_of_ble_eq_true rfl) dX5_carryAll_57 rfl (fun v g' hq => ?_)
  obtain ⟨x, L', rfl, r25, eg, k⟩ := hq
  obtain ⟨z26, ez⟩ : ∃ z : Int × LT, z = (x, L') := ⟨_, rfl⟩
  obtain ⟨rfl, rfl⟩ : x = z26.1 ∧ L' = z26.2 := ⟨by rw [ez], by rw [ez]⟩
  clear ez
  refine J_eq eg ?_
  show J X 60 [(0, .ref (xad X (4, 0, 0))), (1, .ref (xad X (4, 0, (v_to).toNat))), (2, iv v_takes)] [iv z26.1, .ref (xad X (4, 0, 0))] (gs g0 4 0 z26.2)
  obtain ⟨L27, e28, k⟩ := Ok_let k
  refine jr_putI (pc := 60) F (gs g0 4 0 L27) fw_5_26 m4_0 rfl r25 (put1 e28) dX5_carryAll_60 ?_
  refine jr_aload_n (pc := 63) F 0 dX5_carryAll_63 rfl rfl ?_
  refine jr_aload_n (pc := 64) F 0 dX5_carryAll_64 rfl rfl ?_
  refine jr_aload_n (pc := 65) F 0 dX5_carryAll_65 rfl rfl ?_
  refine jr_getI (pc := 66) F (L27 0 7) f_5_99 m4_0 rfl (gs_at' _ _ _ _ _ _) dX5_carryAll_66 (fun r29 => ?_)
  have k := Ok_bind k
  refine jr_callV (pc := 69) (st := [.ref (xad X (4, 0, 0))]) F [iv (L27 0 7)] (snd_X5_carry  (g0 := g0) r29 k) rfl ck_5_224 rfl m4_0 rfl rfl rfl (by decide) (Nat.le_of_ble_eq_true rfl) dX5_carryAll_69 rfl (fun v g' hq => ?_)
  obtain ⟨x, L', rfl, r30, eg, k⟩ := hq
  obtain ⟨z31, ez⟩ : ∃ z : Int × LT, z = (x, L') := ⟨_, rfl⟩
  obtain ⟨rfl, rfl⟩ : x = z31.1 ∧ L' = z31.2 := ⟨by rw [ez], by rw [ez]⟩
  clear ez
  refine J_eq eg ?_
  show J X 72 [(0, .ref (xad X (4, 0, 0))), (1, .ref (xad X (4, 0, (v_to).toNat))), (2, iv v_takes)] [iv z31.1, .ref (xad X (4, 0, 0))] (gs g0 4 0 z31.2)
  obtain ⟨L32, e33, k⟩ := Ok_let k
  refine jr_putI (pc := 72) F (gs g0 4 0 L32) fw_5_99 m4_0 rfl r30 (put1 e33) dX5_carryAll_72 ?_
  refine jr_iconst (pc := 75) F dX5_carryAll_75 ?_
  refine jr_istore_n (pc := 76) F [(3, iv 0), (0, .ref (xad X (4, 0, 0))), (1, .ref (xad X (4, 0, (v_to).toNat))), (2, iv v_takes)] dX5_carryAll_76 rfl (by decide) rfl ?_
  refine jr_sub F [1, 2, 3, 0] [(0, .ref (xad X (4, 0, 0))), (1, .ref (xad X (4, 0, (v_to).toNat))), (2, iv v_takes), (3, iv 0)] rfl ?_
  refine lpj (P := fun s : Int × LT => Rg (s.1) → J X 77 [(0, .ref (xad X (4, 0, 0))), (1, .ref (xad X (4, 0, (v_to).toNat))), (2, iv v_takes), (3, iv s.1)] [] (gs g0 4 0 s.2)) (PE := fun r : Int × LT => Rg (r.1) → J X 137 [(0, .ref (xad X (4, 0, 0))), (1, .ref (xad X (4, 0, (v_to).toNat))), (2, iv v_takes), (3, iv r.1)] [] (gs g0 4 0 r.2)) k (fun s34 Q35 k hC36 hE37 r39 => ?_) (fun z38 k => ?_) (fun h => h (show Rg 0 from ⟨by decide, by decide⟩))
  · refine jr_iload_n (pc := 77) F 3 dX5_carryAll_77 rfl rfl ?_
    refine jr_bipush (pc := 78) F dX5_carryAll_78 (by decide) ?_
    refine jr_icmp_ge (pc := 80) (tgt := 137) F r39 (show Rg 16 from ⟨by decide, by decide⟩) dX5_carryAll_80 (by decide) (fun h40 => ?_) (fun h40 => ?_)
    · have k := Ok_f (ng_lt h40) k
      exact hE37 (s34.1, s34.2) (Ok_some k) r39
    have k := Ok_t h40 k
    refine jr_aload_n (pc := 83) F 0 dX5_carryAll_83 rfl rfl ?_
    refine jr_getR (pc := 84) (b := (4, 0, 2)) F f_5_13 m4_0 rfl dX5_carryAll_84 ?_
    refine jr_iload_n (pc := 87) F 3 dX5_carryAll_87 rfl rfl ?_
    refine jr_aload_n (pc := 88) F 0 dX5_carryAll_88 rfl rfl ?_
    refine jr_aload_n (pc := 89) F 0 dX5_carryAll_89 rfl rfl ?_
    refine jr_getR (pc := 90) (b := (4, 0, 2)) F f_5_13 m4_0 rfl dX5_carryAll_90 ?_
    refine jr_iload_n (pc := 93) F 3 dX5_carryAll_93 rfl rfl ?_
    obtain ⟨c41, k⟩ := Ok_grd k
    refine jr_iald (pc := 94) F (s34.2 2 s34.1) m4_2 (by decide) c41 (gs_at' _ _ _ _ _ _) dX5_carryAll_94 (fun r42 => ?_)
    have k := Ok_bind k
    refine jr_callV (pc := 95) (st := [iv s34.1, .ref (xad X (4, 0, 2))]) F [iv (s34.2 2 s34.1)] (snd_X5_carry  (g0 := g0) r42 k) rfl ck_5_224 rfl m4_0 rfl rfl rfl (by decide) (Nat.le_of_ble_eq_true rfl) dX5_carryAll_95 rfl (fun v g' hq => ?_)
    obtain ⟨x, L', rfl, r43, eg, k⟩ := hq
    obtain ⟨z44, ez⟩ : ∃ z : Int × LT, z = (x, L') := ⟨_, rfl⟩
    obtain ⟨rfl, rfl⟩ : x = z44.1 ∧ L' = z44.2 := ⟨by rw [ez], by rw [ez]⟩
    clear ez
    refine J_eq eg ?_
    show J X 98 [(0, .ref (xad X (4, 0, 0))), (1, .ref (xad X (4, 0, (v_to).toNat))), (2, iv v_takes), (3, iv s34.1)] [iv z44.1, iv s34.1, .ref (xad X (4, 0, 2))] (gs g0 4 0 z44.2)
    obtain ⟨L45, e46, k⟩ := Ok_let k
    refine jr_iast (pc := 98) F (gs g0 4 0 L45) m4_2 (by decide) c41 r43 (put1 e46) dX5_carryAll_98 ?_
    refine jr_aload_n (pc := 99) F 0 dX5_carryAll_99 rfl rfl ?_
    refine jr_getR (pc := 100) (b := (4, 0, 3)) F f_5_17 m4_0 rfl dX5_carryAll_100 ?_
    refine jr_iload_n (pc := 103) F 3 dX5_carryAll_103 rfl rfl ?_
    refine jr_aload_n (pc := 104) F 0 dX5_carryAll_104 rfl rfl ?_
    refine jr_aload_n (pc := 105) F 0 dX5_carryAll_105 rfl rfl ?_
    refine jr_getR (pc := 106) (b := (4, 0, 3)) F f_5_17 m4_0 rfl dX5_carryAll_106 ?_
    refine jr_iload_n (pc := 109) F 3 dX5_carryAll_109 rfl rfl ?_
    refine jr_iald (pc := 110) F (L45 3 s34.1) m4_3 (by decide) c41 (gs_at' _ _ _ _ _ _) dX5_carryAll_110 (fun r47 => ?_)
    have k := Ok_bind k
    refine jr_callV (pc := 111) (st := [iv s34.1, .ref (xad X (4, 0, 3))]) F [iv (L45 3 s34.1)] (snd_X5_carry  (g0 := g0) r47 k) rfl ck_5_224 rfl m4_0 rfl rfl rfl (by decide) (Nat.le_of_ble_eq_true rfl) dX5_carryAll_111 rfl (fun v g' hq => ?_)
    obtain ⟨x, L', rfl, r48, eg, k⟩ := hq
    obtain ⟨z49, ez⟩ : ∃ z : Int × LT, z = (x, L') := ⟨_, rfl⟩
    obtain ⟨rfl, rfl⟩ : x = z49.1 ∧ L' = z49.2 := ⟨by rw [ez], by rw [ez]⟩
    clear ez
    refine J_eq eg ?_
    show J X 114 [(0, .ref (xad X (4, 0, 0))), (1, .ref (xad X (4, 0, (v_to).toNat))), (2, iv v_takes), (3, iv s34.1)] [iv z49.1, iv s34.1, .ref (xad X (4, 0, 3))] (gs g0 4 0 z49.2)
    obtain ⟨L50, e51, k⟩ := Ok_let k
    refine jr_iast (pc := 114) F (gs g0 4 0 L50) m4_3 (by decide) c41 r48 (put1 e51) dX5_carryAll_114 ?_
    refine jr_aload_n (pc := 115) F 0 dX5_carryAll_115 rfl rfl ?_
    refine jr_getR (pc := 116) (b := (4, 0, 4)) F f_5_20 m4_0 rfl dX5_carryAll_116 ?_
    refine jr_iload_n (pc := 119) F 3 dX5_carryAll_119 rfl rfl ?_
    refine jr_aload_n (pc := 120) F 0 dX5_carryAll_120 rfl rfl ?_
    refine jr_aload_n (pc := 121) F 0 dX5_carryAll_121 rfl rfl ?_
    refine jr_getR (pc := 122) (b := (4, 0, 4)) F f_5_20 m4_0 rfl dX5_carryAll_122 ?_
    refine jr_iload_n (pc := 125) F 3 dX5_carryAll_125 rfl rfl ?_
    refine jr_iald (pc := 126) F (L50 4 s34.1) m4_4 (by decide) c41 (gs_at' _ _ _ _ _ _) dX5_carryAll_126 (fun r52 => ?_)
    have k := Ok_bind k
    refine jr_callV (pc := 127) (st := [iv s34.1, .ref (xad X (4, 0, 4))]) F [iv (L50 4 s34.1)] (snd_X5_carry  (g0 := g0) r52 k) rfl ck_5_224 rfl m4_0 rfl rfl rfl (by decide) (Nat.le_of_ble_eq_true rfl) dX5_carryAll_127 rfl (fun v g' hq => ?_)
    obtain ⟨x, L', rfl, r53, eg, k⟩ := hq
    obtain ⟨z54, ez⟩ : ∃ z : Int × LT, z = (x, L') := ⟨_, rfl⟩
    obtain ⟨rfl, rfl⟩ : x = z54.1 ∧ L' = z54.2 := ⟨by rw [ez], by rw [ez]⟩
    clear ez
    refine J_eq eg ?_
    show J X 130 [(0, .ref (xad X (4, 0, 0))), (1, .ref (xad X (4, 0, (v_to).toNat))), (2, iv v_takes), (3, iv s34.1)] [iv z54.1, iv s34.1, .ref (xad X (4, 0, 4))] (gs g0 4 0 z54.2)
    obtain ⟨L55, e56, k⟩ := Ok_let k
    refine jr_iast (pc := 130) F (gs g0 4 0 L55) m4_4 (by decide) c41 r53 (put1 e56) dX5_carryAll_130 ?_
    refine jr_iinc (pc := 131) F [(3, iv (w32 (s34.1 + 1))), (0, .ref (xad X (4, 0, 0))), (1, .ref (xad X (4, 0, (v_to).toNat))), (2, iv v_takes)] 3 dX5_carryAll_131 rfl (by decide) rfl ?_
    refine jr_goto (pc := 134) (tgt := 77) F dX5_carryAll_134 (by decide) ?_
    refine jr_sub F [1, 2, 3, 0] [(0, .ref (xad X (4, 0, 0))), (1, .ref (xad X (4, 0, (v_to).toNat))), (2, iv v_takes), (3, iv (w32 (s34.1 + 1)))] rfl ?_
    exact hC36 (w32 (s34.1 + 1), L55) (Ok_some k) (rg_w _)
  intro r57
  refine jr_iconst (pc := 137) F dX5_carryAll_137 ?_
  refine jr_istore_n (pc := 138) F [(3, iv 0), (0, .ref (xad X (4, 0, 0))), (1, .ref (xad X (4, 0, (v_to).toNat))), (2, iv v_takes)] dX5_carryAll_138 rfl (by decide) rfl ?_
  refine jr_sub F [1, 2, 3, 0] [(0, .ref (xad X (4, 0, 0))), (1, .ref (xad X (4, 0, (v_to).toNat))), (2, iv v_takes), (3, iv 0)] rfl ?_
  refine lpj (P := fun s : Int × LT => Rg (s.1) → J X 139 [(0, .ref (xad X (4, 0, 0))), (1, .ref (xad X (4, 0, (v_to).toNat))), (2, iv v_takes), (3, iv s.1)] [] (gs g0 4 0 s.2)) (PE := fun r : Int × LT => Rg (r.1) → J X 246 [(0, .ref (xad X (4, 0, 0))), (1, .ref (xad X (4, 0, (v_to).toNat))), (2, iv v_takes), (3, iv r.1)] [] (gs g0 4 0 r.2)) k (fun s58 Q59 k hC60 hE61 r63 => ?_) (fun z62 k => ?_) (fun h => h (show Rg 0 from ⟨by decide, by decide⟩))
  · refine jr_iload_n (pc := 139) F 3 dX5_carryAll_139 rfl rfl ?_
    refine jr_iconst (pc := 140) F dX5_carryAll_140 ?_
    refine jr_icmp_ge (pc := 141) (tgt := 246) F r63 (show Rg 5 from ⟨by decide, by decide⟩) dX5_carryAll_141 (by decide) (fun h64 => ?_) (fun h64 => ?_)
    · have k := Ok_f (ng_lt h64) k
      exact hE61 (s58.1, s58.2) (Ok_some k) r63
    have k := Ok_t h64 k
    refine jr_aload_n (pc := 144) F 0 dX5_carryAll_144 rfl rfl ?_
    refine jr_getR (pc := 145) (b := (4, 0, 9)) F f_5_29 m4_0 rfl dX5_carryAll_145 ?_
    refine jr_iload_n (pc := 148) F 3 dX5_carryAll_148 rfl rfl ?_
    refine jr_aload_n (pc := 149) F 0 dX5_carryAll_149 rfl rfl ?_
    refine jr_aload_n (pc := 150) F 0 dX5_carryAll_150 rfl rfl ?_
    refine jr_getR (pc := 151) (b := (4, 0, 9)) F f_5_29 m4_0 rfl dX5_carryAll_151 ?_
    refine jr_iload_n (pc := 154) F 3 dX5_carryAll_154 rfl rfl ?_
    obtain ⟨c65, k⟩ := Ok_grd k
    refine jr_iald (pc := 155) F (s58.2 9 s58.1) m4_9 (by decide) c65 (gs_at' _ _ _ _ _ _) dX5_carryAll_155 (fun r66 => ?_)
    have k := Ok_bind k
    refine jr_callV (pc := 156) (st := [iv s58.1, .ref (xad X (4, 0, 9))]) F [iv (s58.2 9 s58.1)] (snd_X5_carry  (g0 := g0) r66 k) rfl ck_5_224 rfl m4_0 rfl rfl rfl (by decide) (Nat.le_of_ble_eq_true rfl) dX5_carryAll_156 rfl (fun v g' hq => ?_)
    obtain ⟨x, L', rfl, r67, eg, k⟩ := hq
    obtain ⟨z68, ez⟩ : ∃ z : Int × LT, z = (x, L') := ⟨_, rfl⟩
    obtain ⟨rfl, rfl⟩ : x = z68.1 ∧ L' = z68.2 := ⟨by rw [ez], by rw [ez]⟩
    clear ez
    refine J_eq eg ?_
    show J X 159 [(0, .ref (xad X (4, 0, 0))), (1, .ref (xad X (4, 0, (v_to).toNat))), (2, iv v_takes), (3, iv s58.1)] [iv z68.1, iv s58.1, .ref (xad X (4, 0, 9))] (gs g0 4 0 z68.2)
    obtain ⟨L69, e70, k⟩ := Ok_let k
    refine jr_iast (pc := 159) F (gs g0 4 0 L69) m4_9 (by decide) c65 r67 (put1 e70) dX5_carryAll_159 ?_
    refine jr_aload_n (pc := 160) F 0 dX5_carryAll_160 rfl rfl ?_
    refine jr_getR (pc := 161) (b := (4, 0, 10)) F f_5_32 m4_0 rfl dX5_carryAll_161 ?_
    refine jr_iload_n (pc := 164) F 3 dX5_carryAll_164 rfl rfl ?_
    refine jr_aload_n (pc := 165) F 0 dX5_carryAll_165 rfl rfl ?_
    refine jr_aload_n (pc := 166) F 0 dX5_carryAll_166 rfl rfl ?_
    refine jr_getR (pc := 167) (b := (4, 0, 10)) F f_5_32 m4_0 rfl dX5_carryAll_167 ?_
    refine jr_iload_n (pc := 170) F 3 dX5_carryAll_170 rfl rfl ?_
    refine jr_iald (pc := 171) F (L69 10 s58.1) m4_10 (by decide) c65 (gs_at' _ _ _ _ _ _) dX5_carryAll_171 (fun r71 => ?_)
    have k := Ok_bind k
    refine jr_callV (pc := 172) (st := [iv s58.1, .ref (xad X (4, 0, 10))]) F [iv (L69 10 s58.1)] (snd_X5_carry  (g0 := g0) r71 k) rfl ck_5_224 rfl m4_0 rfl rfl rfl (by decide) (Nat.le_of_ble_eq_true rfl) dX5_carryAll_172 rfl (fun v g' hq => ?_)
    obtain ⟨x, L', rfl, r72, eg, k⟩ := hq
    obtain ⟨z73, ez⟩ : ∃ z : Int × LT, z = (x, L') := ⟨_, rfl⟩
    obtain ⟨rfl, rfl⟩ : x = z73.1 ∧ L' = z73.2 := ⟨by rw [ez], by rw [ez]⟩
    clear ez
    refine J_eq eg ?_
    show J X 175 [(0, .ref (xad X (4, 0, 0))), (1, .ref (xad X (4, 0, (v_to).toNat))), (2, iv v_takes), (3, iv s58.1)] [iv z73.1, iv s58.1, .ref (xad X (4, 0, 10))] (gs g0 4 0 z73.2)
    obtain ⟨L74, e75, k⟩ := Ok_let k
    refine jr_iast (pc := 175) F (gs g0 4 0 L74) m4_10 (by decide) c65 r72 (put1 e75) dX5_carryAll_175 ?_
    refine jr_aload_n (pc := 176) F 0 dX5_carryAll_176 rfl rfl ?_
    refine jr_getR (pc := 177) (b := (4, 0, 11)) F f_5_35 m4_0 rfl dX5_carryAll_177 ?_
    refine jr_iload_n (pc := 180) F 3 dX5_carryAll_180 rfl rfl ?_
    refine jr_aload_n (pc := 181) F 0 dX5_carryAll_181 rfl rfl ?_
    refine jr_aload_n (pc := 182) F 0 dX5_carryAll_182 rfl rfl ?_
    refine jr_getR (pc := 183) (b := (4, 0, 11)) F f_5_35 m4_0 rfl dX5_carryAll_183 ?_
    refine jr_iload_n (pc := 186) F 3 dX5_carryAll_186 rfl rfl ?_
    refine jr_iald (pc := 187) F (L74 11 s58.1) m4_11 (by decide) c65 (gs_at' _ _ _ _ _ _) dX5_carryAll_187 (fun r76 => ?_)
    have k := Ok_bind k
    refine jr_callV (pc := 188) (st := [iv s58.1, .ref (xad X (4, 0, 11))]) F [iv (L74 11 s58.1)] (snd_X5_carry  (g0 := g0) r76 k) rfl ck_5_224 rfl m4_0 rfl rfl rfl (by decide) (Nat.le_of_ble_eq_true rfl) dX5_carryAll_188 rfl (fun v g' hq => ?_)
    obtain ⟨x, L', rfl, r77, eg, k⟩ := hq
    obtain ⟨z78, ez⟩ : ∃ z : Int × LT, z = (x, L') := ⟨_, rfl⟩
    obtain ⟨rfl, rfl⟩ : x = z78.1 ∧ L' = z78.2 := ⟨by rw [ez], by rw [ez]⟩
    clear ez
    refine J_eq eg ?_
    show J X 191 [(0, .ref (xad X (4, 0, 0))), (1, .ref (xad X (4, 0, (v_to).toNat))), (2, iv v_takes), (3, iv s58.1)] [iv z78.1, iv s58.1, .ref (xad X (4, 0, 11))] (gs g0 4 0 z78.2)
    obtain ⟨L79, e80, k⟩ := Ok_let k
    refine jr_iast (pc := 191) F (gs g0 4 0 L79) m4_11 (by decide) c65 r77 (put1 e80) dX5_carryAll_191 ?_
    refine jr_aload_n (pc := 192) F 0 dX5_carryAll_192 rfl rfl ?_
    refine jr_getR (pc := 193) (b := (4, 0, 12)) F f_5_38 m4_0 rfl dX5_carryAll_193 ?_
    refine jr_iload_n (pc := 196) F 3 dX5_carryAll_196 rfl rfl ?_
    refine jr_aload_n (pc := 197) F 0 dX5_carryAll_197 rfl rfl ?_
    refine jr_aload_n (pc := 198) F 0 dX5_carryAll_198 rfl rfl ?_
    refine jr_getR (pc := 199) (b := (4, 0, 12)) F f_5_38 m4_0 rfl dX5_carryAll_199 ?_
    refine jr_iload_n (pc := 202) F 3 dX5_carryAll_202 rfl rfl ?_
    refine jr_iald (pc := 203) F (L79 12 s58.1) m4_12 (by decide) c65 (gs_at' _ _ _ _ _ _) dX5_carryAll_203 (fun r81 => ?_)
    have k := Ok_bind k
    refine jr_callV (pc := 204) (st := [iv s58.1, .ref (xad X (4, 0, 12))]) F [iv (L79 12 s58.1)] (snd_X5_carry  (g0 := g0) r81 k) rfl ck_5_224 rfl m4_0 rfl rfl rfl (by decide) (Nat.le_of_ble_eq_true rfl) dX5_carryAll_204 rfl (fun v g' hq => ?_)
    obtain ⟨x, L', rfl, r82, eg, k⟩ := hq
    obtain ⟨z83, ez⟩ : ∃ z : Int × LT, z = (x, L') := ⟨_, rfl⟩
    obtain ⟨rfl, rfl⟩ : x = z83.1 ∧ L' = z83.2 := ⟨by rw [ez], by rw [ez]⟩
    clear ez
    refine J_eq eg ?_
    show J X 207 [(0, .ref (xad X (4, 0, 0))), (1, .ref (xad X (4, 0, (v_to).toNat))), (2, iv v_takes), (3, iv s58.1)] [iv z83.1, iv s58.1, .ref (xad X (4, 0, 12))] (gs g0 4 0 z83.2)
    obtain ⟨L84, e85, k⟩ := Ok_let k
    refine jr_iast (pc := 207) F (gs g0 4 0 L84) m4_12 (by decide) c65 r82 (put1 e85) dX5_carryAll_207 ?_
    refine jr_aload_n (pc := 208) F 0 dX5_carryAll_208 rfl rfl ?_
    refine jr_getR (pc := 209) (b := (4, 0, 13)) F f_5_41 m4_0 rfl dX5_carryAll_209 ?_
    refine jr_iload_n (pc := 212) F 3 dX5_carryAll_212 rfl rfl ?_
    refine jr_aload_n (pc := 213) F 0 dX5_carryAll_213 rfl rfl ?_
    refine jr_aload_n (pc := 214) F 0 dX5_carryAll_214 rfl rfl ?_
    refine jr_getR (pc := 215) (b := (4, 0, 13)) F f_5_41 m4_0 rfl dX5_carryAll_215 ?_
    refine jr_iload_n (pc := 218) F 3 dX5_carryAll_218 rfl rfl ?_
    refine jr_iald (pc := 219) F (L84 13 s58.1) m4_13 (by decide) c65 (gs_at' _ _ _ _ _ _) dX5_carryAll_219 (fun r86 => ?_)
    have k := Ok_bind k
    refine jr_callV (pc := 220) (st := [iv s58.1, .ref (xad X (4, 0, 13))]) F [iv (L84 13 s58.1)] (snd_X5_carry  (g0 := g0) r86 k) rfl ck_5_224 rfl m4_0 rfl rfl rfl (by decide) (Nat.le_of_ble_eq_true rfl) dX5_carryAll_220 rfl (fun v g' hq => ?_)
    obtain ⟨x, L', rfl, r87, eg, k⟩ := hq
    obtain ⟨z88, ez⟩ : ∃ z : Int × LT, z = (x, L') := ⟨_, rfl⟩
    obtain ⟨rfl, rfl⟩ : x = z88.1 ∧ L' = z88.2 := ⟨by rw [ez], by rw [ez]⟩
    clear ez
    refine J_eq eg ?_
    show J X 223 [(0, .ref (xad X (4, 0, 0))), (1, .ref (xad X (4, 0, (v_to).toNat))), (2, iv v_takes), (3, iv s58.1)] [iv z88.1, iv s58.1, .ref (xad X (4, 0, 13))] (gs g0 4 0 z88.2)
    obtain ⟨L89, e90, k⟩ := Ok_let k
    refine jr_iast (pc := 223) F (gs g0 4 0 L89) m4_13 (by decide) c65 r87 (put1 e90) dX5_carryAll_223 ?_
    refine jr_aload_n (pc := 224) F 0 dX5_carryAll_224 rfl rfl ?_
    refine jr_getR (pc := 225) (b := (4, 0, 14)) F f_5_44 m4_0 rfl dX5_carryAll_225 ?_
    refine jr_iload_n (pc := 228) F 3 dX5_carryAll_228 rfl rfl ?_
    refine jr_aload_n (pc := 229) F 0 dX5_carryAll_229 rfl rfl ?_
    refine jr_aload_n (pc := 230) F 0 dX5_carryAll_230 rfl rfl ?_
    refine jr_getR (pc := 231) (b := (4, 0, 14)) F f_5_44 m4_0 rfl dX5_carryAll_231 ?_
    refine jr_iload_n (pc := 234) F 3 dX5_carryAll_234 rfl rfl ?_
    refine jr_iald (pc := 235) F (L89 14 s58.1) m4_14 (by decide) c65 (gs_at' _ _ _ _ _ _) dX5_carryAll_235 (fun r91 => ?_)
    have k := Ok_bind k
    refine jr_callV (pc := 236) (st := [iv s58.1, .ref (xad X (4, 0, 14))]) F [iv (L89 14 s58.1)] (snd_X5_carry  (g0 := g0) r91 k) rfl ck_5_224 rfl m4_0 rfl rfl rfl (by decide) (Nat.le_of_ble_eq_true rfl) dX5_carryAll_236 rfl (fun v g' hq => ?_)
    obtain ⟨x, L', rfl, r92, eg, k⟩ := hq
    obtain ⟨z93, ez⟩ : ∃ z : Int × LT, z = (x, L') := ⟨_, rfl⟩
    obtain ⟨rfl, rfl⟩ : x = z93.1 ∧ L' = z93.2 := ⟨by rw [ez], by rw [ez]⟩
    clear ez
    refine J_eq eg ?_
    show J X 239 [(0, .ref (xad X (4, 0, 0))), (1, .ref (xad X (4, 0, (v_to).toNat))), (2, iv v_takes), (3, iv s58.1)] [iv z93.1, iv s58.1, .ref (xad X (4, 0, 14))] (gs g0 4 0 z93.2)
    obtain ⟨L94, e95, k⟩ := Ok_let k
    refine jr_iast (pc := 239) F (gs g0 4 0 L94) m4_14 (by decide) c65 r92 (put1 e95) dX5_carryAll_239 ?_
    refine jr_iinc (pc := 240) F [(3, iv (w32 (s58.1 + 1))), (0, .ref (xad X (4, 0, 0))), (1, .ref (xad X (4, 0, (v_to).toNat))), (2, iv v_takes)] 3 dX5_carryAll_240 rfl (by decide) rfl ?_
    refine jr_goto (pc := 243) (tgt := 139) F dX5_carryAll_243 (by decide) ?_
    refine jr_sub F [1, 2, 3, 0] [(0, .ref (xad X (4, 0, 0))), (1, .ref (xad X (4, 0, (v_to).toNat))), (2, iv v_takes), (3, iv (w32 (s58.1 + 1)))] rfl ?_
    exact hC60 (w32 (s58.1 + 1), L94) (Ok_some k) (rg_w _)
  intro r96
  exact jr_vret (pc := 246) F hQ rfl dX5_carryAll_246 ⟨_, rfl, rfl, (Ok_some k)⟩
set_option maxHeartbeats 4000000 in
set_option maxRecDepth 100000 in
theorem snd_X5_refuse {L0 : LT} {v_number : Int} {g0 : GG} (rgp_number : Rg v_number) {Q : (Int × LT) → Prop} (k : Ok (X5_refuse L0 v_number) Q) : MetG SL yX5_refuse cX5_refuse 2 (some .int) 0 (fun ad => [.ref (ad (4, 0, 0)), iv v_number]) (gs g0 4 0 L0) (fun v g' => ∃ (x : Int) (L' : LT), v = some (iv x) ∧ Rg x ∧ g' = gs g0 4 0 L' ∧ Q (x, L')) := by
  refine met_intro SL_ok (by decide +kernel) (fun ad => Nat.le_of_ble_eq_true rfl) (fun X F hQ hR => ?_)
  replace F : FX X cX5_refuse RX5 2 (some .int) SL 0 := F
  show J X 0 [(0, .ref (xad X (4, 0, 0))), (1, iv v_number)] [] (gs g0 4 0 L0)
  refine jr_aload_n (pc := 0) F 0 dX5_refuse_0 rfl rfl ?_
  refine jr_getR (pc := 1) (b := (4, 0, 16)) F f_5_47 m4_0 rfl dX5_refuse_1 ?_
  refine jr_iload_n (pc := 4) F 1 dX5_refuse_4 rfl rfl ?_
  refine jr_ineg (pc := 5) F dX5_refuse_5 ?_
  refine jr_dup2 (pc := 6) F dX5_refuse_6 rfl rfl ?_
  obtain ⟨c1, k⟩ := Ok_grd k
  refine jr_iald (pc := 7) F (L0 16 (w32 (-v_number))) m4_16 (by decide) c1 (gs_at' _ _ _ _ _ _) dX5_refuse_7 (fun r2 => ?_)
  refine jr_iconst (pc := 8) F dX5_refuse_8 ?_
  refine jr_iadd (pc := 9) F dX5_refuse_9 ?_
  obtain ⟨L3, e4, k⟩ := Ok_let k
  refine jr_iast (pc := 10) F (gs g0 4 0 L3) m4_16 (by decide) c1 (rg_w _) (put1 e4) dX5_refuse_10 ?_
  refine jr_iload_n (pc := 11) F 1 dX5_refuse_11 rfl rfl ?_
  exact jr_iret (pc := 12) F hQ rfl dX5_refuse_12 ⟨_, _, rfl, rgp_number, rfl, (Ok_some k)⟩
set_option maxHeartbeats 4000000 in
set_option maxRecDepth 100000 in
theorem snd_X5_back {L0 : LT} {g0 : GG}  {Q : (Int × LT) → Prop} (k : Ok (X5_back L0) Q) : MetG SL yX5_back cX5_back 2 (some .int) 2 (fun ad => [.ref (ad (4, 0, 0))]) (gs g0 4 0 L0) (fun v g' => ∃ (x : Int) (L' : LT), v = some (iv x) ∧ Rg x ∧ g' = gs g0 4 0 L' ∧ Q (x, L')) := by
  refine met_intro SL_ok (by decide +kernel) (fun ad => Nat.le_of_ble_eq_true rfl) (fun X F hQ hR => ?_)
  replace F : FX X cX5_back RX5 2 (some .int) SL 2 := F
  show J X 0 [(0, .ref (xad X (4, 0, 0)))] [] (gs g0 4 0 L0)
  refine jr_aload_n (pc := 0) F 0 dX5_back_0 rfl rfl ?_
  refine jr_iconst (pc := 1) F dX5_back_1 ?_
  obtain ⟨L1, e2, k⟩ := Ok_let k
  refine jr_putI (pc := 2) F (gs g0 4 0 L1) fw_5_92 m4_0 rfl (show Rg 0 from ⟨by decide, by decide⟩) (put1 e2) dX5_back_2 ?_
  refine jr_aload_n (pc := 5) F 0 dX5_back_5 rfl rfl ?_
  refine jr_getI (pc := 6) F (L1 0 34) f_5_212 m4_0 rfl (gs_at' _ _ _ _ _ _) dX5_back_6 (fun r3 => ?_)
  refine jr_if_ne (pc := 9) (tgt := 19) F r3 dX5_back_9 (by decide) (fun h4 => ?_) (fun h4 => ?_)
  · have k := Ok_f h4 k
    refine jr_aload_n (pc := 19) F 0 dX5_back_19 rfl rfl ?_
    refine jr_dup (pc := 20) F dX5_back_20 rfl ?_
    refine jr_getI (pc := 21) F (L1 0 34) f_5_212 m4_0 rfl (gs_at' _ _ _ _ _ _) dX5_back_21 (fun r5 => ?_)
    refine jr_iconst (pc := 24) F dX5_back_24 ?_
    refine jr_isub (pc := 25) F dX5_back_25 ?_
    obtain ⟨L6, e7, k⟩ := Ok_let k
    refine jr_putI (pc := 26) F (gs g0 4 0 L6) fw_5_212 m4_0 rfl (rg_w _) (put1 e7) dX5_back_26 ?_
    refine jr_iconst (pc := 29) F dX5_back_29 ?_
    refine jr_istore_n (pc := 30) F [(1, iv 0), (0, .ref (xad X (4, 0, 0)))] dX5_back_30 rfl (by decide) rfl ?_
    refine jr_sub F [1, 0] [(0, .ref (xad X (4, 0, 0))), (1, iv 0)] rfl ?_
    refine lpj (P := fun s : Int × LT => Rg (s.1) → J X 31 [(0, .ref (xad X (4, 0, 0))), (1, iv s.1)] [] (gs g0 4 0 s.2)) (PE := fun r : Int × LT => Rg (r.1) → J X 63 [(0, .ref (xad X (4, 0, 0))), (1, iv r.1)] [] (gs g0 4 0 r.2)) k (fun s8 Q9 k hC10 hE11 r13 => ?_) (fun z12 k => ?_) (fun h => h (show Rg 0 from ⟨by decide, by decide⟩))
    · refine jr_iload_n (pc := 31) F 1 dX5_back_31 rfl rfl ?_
      refine jr_bipush (pc := 32) F dX5_back_32 (by decide) ?_
      refine jr_icmp_ge (pc := 34) (tgt := 63) F r13 (show Rg 83 from ⟨by decide, by decide⟩) dX5_back_34 (by decide) (fun h14 => ?_) (fun h14 => ?_)
      · have k := Ok_f (ng_lt h14) k
        exact hE11 (s8.1, s8.2) (Ok_some k) r13
      have k := Ok_t h14 k
      refine jr_aload_n (pc := 37) F 0 dX5_back_37 rfl rfl ?_
      refine jr_getR (pc := 38) (b := (4, 0, 34)) F f_5_77 m4_0 rfl dX5_back_38 ?_
      refine jr_iload_n (pc := 41) F 1 dX5_back_41 rfl rfl ?_
      refine jr_aload_n (pc := 42) F 0 dX5_back_42 rfl rfl ?_
      refine jr_getR (pc := 43) (b := (4, 0, 33)) F f_5_74 m4_0 rfl dX5_back_43 ?_
      refine jr_bipush (pc := 46) F dX5_back_46 (by decide) ?_
      refine jr_aload_n (pc := 48) F 0 dX5_back_48 rfl rfl ?_
      refine jr_getI (pc := 49) F (s8.2 0 34) f_5_212 m4_0 rfl (gs_at' _ _ _ _ _ _) dX5_back_49 (fun r15 => ?_)
      refine jr_imul (pc := 52) F dX5_back_52 ?_
      refine jr_iload_n (pc := 53) F 1 dX5_back_53 rfl rfl ?_
      refine jr_iadd (pc := 54) F dX5_back_54 ?_
      obtain ⟨c16, k⟩ := Ok_grd k
      refine jr_iald (pc := 55) F (s8.2 33 (w32 ((w32 (83 * (s8.2 0 34))) + s8.1))) m4_33 (by decide) c16 (gs_at' _ _ _ _ _ _) dX5_back_55 (fun r17 => ?_)
      obtain ⟨c18, k⟩ := Ok_grd k
      obtain ⟨L19, e20, k⟩ := Ok_let k
      refine jr_iast (pc := 56) F (gs g0 4 0 L19) m4_34 (by decide) c18 r17 (put1 e20) dX5_back_56 ?_
      refine jr_iinc (pc := 57) F [(1, iv (w32 (s8.1 + 1))), (0, .ref (xad X (4, 0, 0)))] 1 dX5_back_57 rfl (by decide) rfl ?_
      refine jr_goto (pc := 60) (tgt := 31) F dX5_back_60 (by decide) ?_
      refine jr_sub F [1, 0] [(0, .ref (xad X (4, 0, 0))), (1, iv (w32 (s8.1 + 1)))] rfl ?_
      exact hC10 (w32 (s8.1 + 1), L19) (Ok_some k) (rg_w _)
    intro r21
    refine jr_aload_n (pc := 63) F 0 dX5_back_63 rfl rfl ?_
    refine jr_aload_n (pc := 64) F 0 dX5_back_64 rfl rfl ?_
    refine jr_getR (pc := 65) (b := (4, 0, 34)) F f_5_77 m4_0 rfl dX5_back_65 ?_
    refine jr_iconst (pc := 68) F dX5_back_68 ?_
    have k := Ok_bind k
    refine jr_callV (pc := 69) (st := []) F [.ref (xad X (4, 0, 34)), iv 0] (snd_X5_carryAll  (g0 := g0) (show Rg 0 from ⟨by decide, by decide⟩) k) rfl ck_5_227 rfl m4_0 rfl rfl rfl (by decide) (Nat.le_of_ble_eq_true rfl) dX5_back_69 rfl (fun v g' hq => ?_)
    obtain ⟨z23, rfl, eg, k⟩ := hq
    refine J_eq eg ?_
    show J X 72 [(0, .ref (xad X (4, 0, 0))), (1, iv z12.1)] [] (gs g0 4 0 z23)
    refine jr_aload_n (pc := 72) F 0 dX5_back_72 rfl rfl ?_
    refine jr_getI (pc := 73) F (z23 0 34) f_5_212 m4_0 rfl (gs_at' _ _ _ _ _ _) dX5_back_73 (fun r24 => ?_)
    exact jr_iret (pc := 76) F hQ rfl dX5_back_76 ⟨_, _, rfl, r24, rfl, (Ok_some k)⟩
  have k := Ok_t h4 k
  refine jr_aload_n (pc := 12) F 0 dX5_back_12 rfl rfl ?_
  refine jr_bipush (pc := 13) F dX5_back_13 (by decide) ?_
  have k := Ok_bind k
  refine jr_callV (pc := 15) (st := []) F [iv (-3)] (snd_X5_refuse  (g0 := g0) (show Rg (-3) from ⟨by decide, by decide⟩) k) rfl ck_5_139 rfl m4_0 rfl rfl rfl (by decide) (Nat.le_of_ble_eq_true rfl) dX5_back_15 rfl (fun v g' hq => ?_)
  obtain ⟨x, L', rfl, r25, eg, k⟩ := hq
  obtain ⟨z26, ez⟩ : ∃ z : Int × LT, z = (x, L') := ⟨_, rfl⟩
  obtain ⟨rfl, rfl⟩ : x = z26.1 ∧ L' = z26.2 := ⟨by rw [ez], by rw [ez]⟩
  clear ez
  refine J_eq eg ?_
  show J X 18 [(0, .ref (xad X (4, 0, 0)))] [iv z26.1] (gs g0 4 0 z26.2)
  exact jr_iret (pc := 18) F hQ rfl dX5_back_18 ⟨_, _, rfl, r25, rfl, (Ok_some k)⟩
set_option maxHeartbeats 4000000 in
set_option maxRecDepth 100000 in
theorem snd_X5_besideMean {L0 : LT} {v_y : Int} {g0 : GG} (rgp_y : Rg v_y) {Q : (Int) → Prop} (k : Ok (X5_besideMean_f L0 v_y) Q) : MetG SL yX5_besideMean cX5_besideMean 3 (some .int) 0 (fun ad => [.ref (ad (4, 0, 0)), iv v_y]) (gs g0 4 0 L0) (fun v g' => ∃ x : Int, v = some (iv x) ∧ Rg x ∧ g' = gs g0 4 0 L0 ∧ Q x) := by
  refine met_intro SL_ok (by decide +kernel) (fun ad => Nat.le_of_ble_eq_true rfl) (fun X F hQ hR => ?_)
  replace F : FX X cX5_besideMean RX5 3 (some .int) SL 0 := F
  show J X 0 [(0, .ref (xad X (4, 0, 0))), (1, iv v_y)] [] (gs g0 4 0 L0)
  obtain ⟨c1, k⟩ := Ok_grd k
  obtain ⟨c2, k⟩ := Ok_grd k
  obtain ⟨c3, k⟩ := Ok_grd k
  obtain ⟨c4, k⟩ := Ok_grd k
  refine jifP (P := fun v => Rg v → J X 53 [(0, .ref (xad X (4, 0, 0))), (1, iv v_y)] (iv v :: []) (gs g0 4 0 L0)) (c := v_y = 0) (L0 4 1) (if v_y = (w32 ((L0 0 0) - 1)) then L0 4 (w32 (v_y - 1)) else jdiv (w32 ((L0 4 (w32 (v_y - 1))) + (L0 4 (w32 (v_y + 1))))) 2) (fun Ht Hf => ?_) (fun r13 => ?_)
  · refine jr_iload_n (pc := 0) F 1 dX5_besideMean_0 rfl rfl ?_
    refine jr_if_ne (pc := 1) (tgt := 13) F rgp_y dX5_besideMean_1 (by decide) (fun h5 => ?_) (fun h5 => ?_)
    · refine jifP (P := fun v => Rg v → J X 53 [(0, .ref (xad X (4, 0, 0))), (1, iv v_y)] (iv v :: []) (gs g0 4 0 L0)) (c := v_y = (w32 ((L0 0 0) - 1))) (L0 4 (w32 (v_y - 1))) (jdiv (w32 ((L0 4 (w32 (v_y - 1))) + (L0 4 (w32 (v_y + 1))))) 2) (fun Ht Hf => ?_) (fun r11 => ?_)
      · refine jr_iload_n (pc := 13) F 1 dX5_besideMean_13 rfl rfl ?_
        refine jr_aload_n (pc := 14) F 0 dX5_besideMean_14 rfl rfl ?_
        refine jr_getI (pc := 15) F (L0 0 0) f_5_7 m4_0 rfl (gs_at' _ _ _ _ _ _) dX5_besideMean_15 (fun r6 => ?_)
        refine jr_iconst (pc := 18) F dX5_besideMean_18 ?_
        refine jr_isub (pc := 19) F dX5_besideMean_19 ?_
        refine jr_icmp_ne (pc := 20) (tgt := 34) F rgp_y (rg_w _) dX5_besideMean_20 (by decide) (fun h7 => ?_) (fun h7 => ?_)
        · refine jr_aload_n (pc := 34) F 0 dX5_besideMean_34 rfl rfl ?_
          refine jr_getR (pc := 35) (b := (4, 0, 4)) F f_5_20 m4_0 rfl dX5_besideMean_35 ?_
          refine jr_iload_n (pc := 38) F 1 dX5_besideMean_38 rfl rfl ?_
          refine jr_iconst (pc := 39) F dX5_besideMean_39 ?_
          refine jr_isub (pc := 40) F dX5_besideMean_40 ?_
          refine jr_iald (pc := 41) F (L0 4 (w32 (v_y - 1))) m4_4 (by decide) (c3 h5 h7) (gs_at' _ _ _ _ _ _) dX5_besideMean_41 (fun r8 => ?_)
          refine jr_aload_n (pc := 42) F 0 dX5_besideMean_42 rfl rfl ?_
          refine jr_getR (pc := 43) (b := (4, 0, 4)) F f_5_20 m4_0 rfl dX5_besideMean_43 ?_
          refine jr_iload_n (pc := 46) F 1 dX5_besideMean_46 rfl rfl ?_
          refine jr_iconst (pc := 47) F dX5_besideMean_47 ?_
          refine jr_iadd (pc := 48) F dX5_besideMean_48 ?_
          refine jr_iald (pc := 49) F (L0 4 (w32 (v_y + 1))) m4_4 (by decide) (c4 h5 h7) (gs_at' _ _ _ _ _ _) dX5_besideMean_49 (fun r9 => ?_)
          refine jr_iadd (pc := 50) F dX5_besideMean_50 ?_
          refine jr_iconst (pc := 51) F dX5_besideMean_51 ?_
          refine jr_idiv (pc := 52) F (rg_w _) (show Rg 2 from ⟨by decide, by decide⟩) (by decide) dX5_besideMean_52 ?_
          exact Hf h7 (rg_div _ _)
        refine jr_aload_n (pc := 23) F 0 dX5_besideMean_23 rfl rfl ?_
        refine jr_getR (pc := 24) (b := (4, 0, 4)) F f_5_20 m4_0 rfl dX5_besideMean_24 ?_
        refine jr_iload_n (pc := 27) F 1 dX5_besideMean_27 rfl rfl ?_
        refine jr_iconst (pc := 28) F dX5_besideMean_28 ?_
        refine jr_isub (pc := 29) F dX5_besideMean_29 ?_
        refine jr_iald (pc := 30) F (L0 4 (w32 (v_y - 1))) m4_4 (by decide) (c2 h5 h7) (gs_at' _ _ _ _ _ _) dX5_besideMean_30 (fun r10 => ?_)
        refine jr_goto (pc := 31) (tgt := 53) F dX5_besideMean_31 (by decide) ?_
        exact Ht h7 r10
      exact Hf h5 r11
    refine jr_aload_n (pc := 4) F 0 dX5_besideMean_4 rfl rfl ?_
    refine jr_getR (pc := 5) (b := (4, 0, 4)) F f_5_20 m4_0 rfl dX5_besideMean_5 ?_
    refine jr_iconst (pc := 8) F dX5_besideMean_8 ?_
    refine jr_iald (pc := 9) F (L0 4 1) m4_4 (by decide) (c1 h5) (gs_at' _ _ _ _ _ _) dX5_besideMean_9 (fun r12 => ?_)
    refine jr_goto (pc := 10) (tgt := 53) F dX5_besideMean_10 (by decide) ?_
    exact Ht h5 r12
  obtain ⟨x14, e15, k⟩ := Ok_let k
  have r16 : Rg x14 := rg_of e15 r13
  refine jr_top e15 ?_
  refine jr_istore_n (pc := 53) F [(2, iv x14), (0, .ref (xad X (4, 0, 0))), (1, iv v_y)] dX5_besideMean_53 rfl (by decide) rfl ?_
  refine jr_aload_n (pc := 54) F 1 dX5_besideMean_54 rfl rfl ?_
  refine jr_getR (pc := 55) (b := (4, 0, 4)) F f_5_20 m4_0 rfl dX5_besideMean_55 ?_
  refine jr_iload_n (pc := 58) F 2 dX5_besideMean_58 rfl rfl ?_
  obtain ⟨c17, k⟩ := Ok_grd k
  refine jr_iald (pc := 59) F (L0 4 v_y) m4_4 (by decide) c17 (gs_at' _ _ _ _ _ _) dX5_besideMean_59 (fun r18 => ?_)
  refine jr_iload_n (pc := 60) F 0 dX5_besideMean_60 rfl rfl ?_
  refine jr_isub (pc := 61) F dX5_besideMean_61 ?_
  exact jr_iret (pc := 62) F hQ rfl dX5_besideMean_62 ⟨_, rfl, (rg_w _), rfl, (Ok_some k)⟩
set_option maxHeartbeats 4000000 in
set_option maxRecDepth 100000 in
theorem snd_X5_open {L0 : LT} {g0 : GG}  {Q : (LT) → Prop} (k : Ok (X5_open L0) Q) : MetG SL yX5_open cX5_open 1 none 2 (fun ad => [.ref (ad (4, 0, 0))]) (gs g0 4 0 L0) (fun v g' => ∃ L' : LT, v = none ∧ g' = gs g0 4 0 L' ∧ Q L') := by
  refine met_intro SL_ok (by decide +kernel) (fun ad => Nat.le_of_ble_eq_true rfl) (fun X F hQ hR => ?_)
  replace F : FX X cX5_open RX5 1 none SL 2 := F
  show J X 0 [(0, .ref (xad X (4, 0, 0)))] [] (gs g0 4 0 L0)
  refine jr_aload_n (pc := 0) F 0 dX5_open_0 rfl rfl ?_
  refine jr_aload_n (pc := 1) F 0 dX5_open_1 rfl rfl ?_
  refine jr_getR (pc := 2) (b := (4, 0, 27)) F f_5_68 m4_0 rfl dX5_open_2 ?_
  refine jr_iconst (pc := 5) F dX5_open_5 ?_
  have k := Ok_bind k
  refine jr_callV (pc := 6) (st := []) F [.ref (xad X (4, 0, 27)), iv 1] (snd_X5_carryAll  (g0 := g0) (show Rg 1 from ⟨by decide, by decide⟩) k) rfl ck_5_227 rfl m4_0 rfl rfl rfl (by decide) (Nat.le_of_ble_eq_true rfl) dX5_open_6 rfl (fun v g' hq => ?_)
  obtain ⟨z2, rfl, eg, k⟩ := hq
  refine J_eq eg ?_
  show J X 9 [(0, .ref (xad X (4, 0, 0)))] [] (gs g0 4 0 z2)
  exact jr_vret (pc := 9) F hQ rfl dX5_open_9 ⟨_, rfl, rfl, (Ok_some k)⟩
set_option maxHeartbeats 4000000 in
set_option maxRecDepth 100000 in
theorem snd_X5_close {L0 : LT} {g0 : GG}  {Q : (LT) → Prop} (k : Ok (X5_close L0) Q) : MetG SL yX5_close cX5_close 1 none 2 (fun ad => [.ref (ad (4, 0, 0))]) (gs g0 4 0 L0) (fun v g' => ∃ L' : LT, v = none ∧ g' = gs g0 4 0 L' ∧ Q L') := by
  refine met_intro SL_ok (by decide +kernel) (fun ad => Nat.le_of_ble_eq_true rfl) (fun X F hQ hR => ?_)
  replace F : FX X cX5_close RX5 1 none SL 2 := F
  show J X 0 [(0, .ref (xad X (4, 0, 0)))] [] (gs g0 4 0 L0)
  refine jr_aload_n (pc := 0) F 0 dX5_close_0 rfl rfl ?_
  refine jr_aload_n (pc := 1) F 0 dX5_close_1 rfl rfl ?_
  refine jr_getR (pc := 2) (b := (4, 0, 27)) F f_5_68 m4_0 rfl dX5_close_2 ?_
  refine jr_iconst (pc := 5) F dX5_close_5 ?_
  have k := Ok_bind k
  refine jr_callV (pc := 6) (st := []) F [.ref (xad X (4, 0, 27)), iv 0] (snd_X5_carryAll  (g0 := g0) (show Rg 0 from ⟨by decide, by decide⟩) k) rfl ck_5_227 rfl m4_0 rfl rfl rfl (by decide) (Nat.le_of_ble_eq_true rfl) dX5_close_6 rfl (fun v g' hq => ?_)
  obtain ⟨z2, rfl, eg, k⟩ := hq
  refine J_eq eg ?_
  show J X 9 [(0, .ref (xad X (4, 0, 0)))] [] (gs g0 4 0 z2)
  exact jr_vret (pc := 9) F hQ rfl dX5_close_9 ⟨_, rfl, rfl, (Ok_some k)⟩
set_option maxHeartbeats 4000000 in
set_option maxRecDepth 100000 in
theorem snd_X5_freezes {L0 : LT} {v_y : Int} {g0 : GG} (rgp_y : Rg v_y) {Q : (Int) → Prop} (k : Ok (X5_freezes_f L0 v_y) Q) : MetG SL yX5_freezes cX5_freezes 2 (some .int) 1 (fun ad => [.ref (ad (4, 0, 0)), iv v_y]) (gs g0 4 0 L0) (fun v g' => ∃ x : Int, v = some (iv x) ∧ Rg x ∧ g' = gs g0 4 0 L0 ∧ Q x) := by
  refine met_intro SL_ok (by decide +kernel) (fun ad => Nat.le_of_ble_eq_true rfl) (fun X F hQ hR => ?_)
  replace F : FX X cX5_freezes RX5 2 (some .int) SL 1 := F
  show J X 0 [(0, .ref (xad X (4, 0, 0))), (1, iv v_y)] [] (gs g0 4 0 L0)
  refine jr_aload_n (pc := 0) F 0 dX5_freezes_0 rfl rfl ?_
  refine jr_getR (pc := 1) (b := (4, 0, 2)) F f_5_13 m4_0 rfl dX5_freezes_1 ?_
  refine jr_iload_n (pc := 4) F 1 dX5_freezes_4 rfl rfl ?_
  obtain ⟨c1, k⟩ := Ok_grd k
  refine jr_iald (pc := 5) F (L0 2 v_y) m4_2 (by decide) c1 (gs_at' _ _ _ _ _ _) dX5_freezes_5 (fun r2 => ?_)
  by_cases h3 : L0 2 v_y = 1
  · have k := Ok_t h3 k
    refine jr_tsin (pc := 6) (tgt := 36) (off := 30) F h3 ⟨by decide, by decide⟩ ⟨by decide, by decide⟩ rfl (by decide) dX5_freezes_6 ?_
    refine jr_aload_n (pc := 36) F 0 dX5_freezes_36 rfl rfl ?_
    refine jr_getI (pc := 37) F (L0 0 5) f_5_23 m4_0 rfl (gs_at' _ _ _ _ _ _) dX5_freezes_37 (fun r4 => ?_)
    refine jr_iconst (pc := 40) F dX5_freezes_40 ?_
    refine jr_idiv (pc := 41) F r4 (show Rg 2 from ⟨by decide, by decide⟩) (by decide) dX5_freezes_41 ?_
    exact jr_iret (pc := 42) F hQ rfl dX5_freezes_42 ⟨_, rfl, (rg_div _ _), rfl, (Ok_some k)⟩
  have k := Ok_f h3 k
  by_cases h5 : L0 2 v_y = 3
  · have k := Ok_t h5 k
    refine jr_tsin (pc := 6) (tgt := 43) (off := 37) F h5 ⟨by decide, by decide⟩ ⟨by decide, by decide⟩ rfl (by decide) dX5_freezes_6 ?_
    refine jr_aload_n (pc := 43) F 0 dX5_freezes_43 rfl rfl ?_
    refine jr_getI (pc := 44) F (L0 0 5) f_5_23 m4_0 rfl (gs_at' _ _ _ _ _ _) dX5_freezes_44 (fun r6 => ?_)
    refine jr_aload_n (pc := 47) F 0 dX5_freezes_47 rfl rfl ?_
    refine jr_getR (pc := 48) (b := (4, 0, 3)) F f_5_17 m4_0 rfl dX5_freezes_48 ?_
    refine jr_iload_n (pc := 51) F 1 dX5_freezes_51 rfl rfl ?_
    refine jr_iald (pc := 52) F (L0 3 v_y) m4_3 (by decide) c1 (gs_at' _ _ _ _ _ _) dX5_freezes_52 (fun r7 => ?_)
    refine jr_iadd (pc := 53) F dX5_freezes_53 ?_
    exact jr_iret (pc := 54) F hQ rfl dX5_freezes_54 ⟨_, rfl, (rg_w _), rfl, (Ok_some k)⟩
  have k := Ok_f h5 k
  by_cases h8 : L0 2 v_y = 4
  · have k := Ok_t h8 k
    refine jr_tsin (pc := 6) (tgt := 55) (off := 49) F h8 ⟨by decide, by decide⟩ ⟨by decide, by decide⟩ rfl (by decide) dX5_freezes_6 ?_
    refine jr_aload_n (pc := 55) F 0 dX5_freezes_55 rfl rfl ?_
    refine jr_getI (pc := 56) F (L0 0 5) f_5_23 m4_0 rfl (gs_at' _ _ _ _ _ _) dX5_freezes_56 (fun r9 => ?_)
    refine jr_aload_n (pc := 59) F 0 dX5_freezes_59 rfl rfl ?_
    refine jr_getR (pc := 60) (b := (4, 0, 3)) F f_5_17 m4_0 rfl dX5_freezes_60 ?_
    refine jr_iload_n (pc := 63) F 1 dX5_freezes_63 rfl rfl ?_
    refine jr_iald (pc := 64) F (L0 3 v_y) m4_3 (by decide) c1 (gs_at' _ _ _ _ _ _) dX5_freezes_64 (fun r10 => ?_)
    refine jr_iadd (pc := 65) F dX5_freezes_65 ?_
    refine jr_iconst (pc := 66) F dX5_freezes_66 ?_
    refine jr_isub (pc := 67) F dX5_freezes_67 ?_
    refine jr_callS (pc := 68) (st := []) F [iv (w32 ((w32 ((L0 0 5) + (L0 3 v_y))) - 2))] (snd_X5_atLeast (g0 := gs g0 4 0 L0) (rg_w _) (X5_atLeast_ok _ )) rfl ck_5_102 rfl rfl (by decide) (Nat.le_of_ble_eq_true rfl) dX5_freezes_68 rfl (fun v g' hq => ?_)
    obtain ⟨x, rfl, r11, eg, hx⟩ := hq
    subst hx
    refine J_eq eg ?_
    show J X 71 [(0, .ref (xad X (4, 0, 0))), (1, iv v_y)] [iv (X5_atLeast_v (w32 ((w32 ((L0 0 5) + (L0 3 v_y))) - 2)))] (gs g0 4 0 L0)
    exact jr_iret (pc := 71) F hQ rfl dX5_freezes_71 ⟨_, rfl, r11, rfl, (Ok_some k)⟩
  have k := Ok_f h8 k
  refine jr_tsd (pc := 6) (tgt := 72) F r2 (by rcases (show (L0 2 v_y) < 1 ∨ 4 < (L0 2 v_y) ∨ (L0 2 v_y) = 2 by omega) with h | h | h <;> first | exact Or.inl h | exact Or.inr (Or.inl h) | (rw [h]; exact Or.inr (Or.inr ⟨by decide, by decide, rfl⟩))) (by decide) dX5_freezes_6 ?_
  refine jr_aload_n (pc := 72) F 0 dX5_freezes_72 rfl rfl ?_
  refine jr_getI (pc := 73) F (L0 0 5) f_5_23 m4_0 rfl (gs_at' _ _ _ _ _ _) dX5_freezes_73 (fun r12 => ?_)
  exact jr_iret (pc := 76) F hQ rfl dX5_freezes_76 ⟨_, rfl, r12, rfl, (Ok_some k)⟩
set_option maxHeartbeats 4000000 in
set_option maxRecDepth 100000 in
theorem snd_X5_held {v_v : Int} {g0 : GG} (rgp_v : Rg v_v) {Q : (Int) → Prop} (k : Ok (X5_held_f v_v) Q) : MetG SL yX5_held cX5_held 1 (some .int) 0 (fun ad => [iv v_v]) (g0) (fun v g' => ∃ x : Int, v = some (iv x) ∧ Rg x ∧ g' = g0 ∧ Q x) := by
  refine met_intro SL_ok (by decide +kernel) (fun ad => Nat.le_of_ble_eq_true rfl) (fun X F hQ hR => ?_)
  replace F : FX X cX5_held RX5 1 (some .int) SL 0 := F
  show J X 0 [(0, iv v_v)] [] (g0)
  refine jifP (P := fun v => Rg v → J X 20 [(0, iv v_v)] (iv v :: []) (g0)) (c := v_v < 0) (0) (if 99 < v_v then 99 else v_v) (fun Ht Hf => ?_) (fun r4 => ?_)
  · refine jr_iload_n (pc := 0) F 0 dX5_held_0 rfl rfl ?_
    refine jr_if_ge (pc := 1) (tgt := 8) F rgp_v dX5_held_1 (by decide) (fun h1 => ?_) (fun h1 => ?_)
    · refine jifP (P := fun v => Rg v → J X 20 [(0, iv v_v)] (iv v :: []) (g0)) (c := 99 < v_v) (99) (v_v) (fun Ht Hf => ?_) (fun r3 => ?_)
      · refine jr_iload_n (pc := 8) F 0 dX5_held_8 rfl rfl ?_
        refine jr_bipush (pc := 9) F dX5_held_9 (by decide) ?_
        refine jr_icmp_le (pc := 11) (tgt := 19) F rgp_v (show Rg 99 from ⟨by decide, by decide⟩) dX5_held_11 (by decide) (fun h2 => ?_) (fun h2 => ?_)
        · refine jr_iload_n (pc := 19) F 0 dX5_held_19 rfl rfl ?_
          exact Hf (ng_lt h2) rgp_v
        refine jr_bipush (pc := 14) F dX5_held_14 (by decide) ?_
        refine jr_goto (pc := 16) (tgt := 20) F dX5_held_16 (by decide) ?_
        exact Ht h2 (show Rg 99 from ⟨by decide, by decide⟩)
      exact Hf (ng_lt h1) r3
    refine jr_iconst (pc := 4) F dX5_held_4 ?_
    refine jr_goto (pc := 5) (tgt := 20) F dX5_held_5 (by decide) ?_
    exact Ht h1 (show Rg 0 from ⟨by decide, by decide⟩)
  exact jr_iret (pc := 20) F hQ rfl dX5_held_20 ⟨_, rfl, r4, rfl, (Ok_some k)⟩
set_option maxHeartbeats 4000000 in
set_option maxRecDepth 100000 in
theorem snd_X5_melts {L0 : LT} {v_y : Int} {g0 : GG} (rgp_y : Rg v_y) {Q : (Int) → Prop} (k : Ok (X5_melts_f L0 v_y) Q) : MetG SL yX5_melts cX5_melts 2 (some .int) 1 (fun ad => [.ref (ad (4, 0, 0)), iv v_y]) (gs g0 4 0 L0) (fun v g' => ∃ x : Int, v = some (iv x) ∧ Rg x ∧ g' = gs g0 4 0 L0 ∧ Q x) := by
  refine met_intro SL_ok (by decide +kernel) (fun ad => Nat.le_of_ble_eq_true rfl) (fun X F hQ hR => ?_)
  replace F : FX X cX5_melts RX5 2 (some .int) SL 1 := F
  show J X 0 [(0, .ref (xad X (4, 0, 0))), (1, iv v_y)] [] (gs g0 4 0 L0)
  refine jr_aload_n (pc := 0) F 0 dX5_melts_0 rfl rfl ?_
  refine jr_getR (pc := 1) (b := (4, 0, 2)) F f_5_13 m4_0 rfl dX5_melts_1 ?_
  refine jr_iload_n (pc := 4) F 1 dX5_melts_4 rfl rfl ?_
  obtain ⟨c1, k⟩ := Ok_grd k
  refine jr_iald (pc := 5) F (L0 2 v_y) m4_2 (by decide) c1 (gs_at' _ _ _ _ _ _) dX5_melts_5 (fun r2 => ?_)
  by_cases h3 : L0 2 v_y = 1
  · have k := Ok_t h3 k
    refine jr_tsin (pc := 6) (tgt := 40) (off := 34) F h3 ⟨by decide, by decide⟩ ⟨by decide, by decide⟩ rfl (by decide) dX5_melts_6 ?_
    refine jr_iconst (pc := 40) F dX5_melts_40 ?_
    refine jr_aload_n (pc := 41) F 0 dX5_melts_41 rfl rfl ?_
    refine jr_getI (pc := 42) F (L0 0 6) f_5_26 m4_0 rfl (gs_at' _ _ _ _ _ _) dX5_melts_42 (fun r4 => ?_)
    refine jr_imul (pc := 45) F dX5_melts_45 ?_
    exact jr_iret (pc := 46) F hQ rfl dX5_melts_46 ⟨_, rfl, (rg_w _), rfl, (Ok_some k)⟩
  have k := Ok_f h3 k
  by_cases h5 : L0 2 v_y = 2
  · have k := Ok_t h5 k
    refine jr_tsin (pc := 6) (tgt := 47) (off := 41) F h5 ⟨by decide, by decide⟩ ⟨by decide, by decide⟩ rfl (by decide) dX5_melts_6 ?_
    refine jr_aload_n (pc := 47) F 0 dX5_melts_47 rfl rfl ?_
    refine jr_getI (pc := 48) F (L0 0 6) f_5_26 m4_0 rfl (gs_at' _ _ _ _ _ _) dX5_melts_48 (fun r6 => ?_)
    refine jr_aload_n (pc := 51) F 0 dX5_melts_51 rfl rfl ?_
    refine jr_getR (pc := 52) (b := (4, 0, 3)) F f_5_17 m4_0 rfl dX5_melts_52 ?_
    refine jr_iload_n (pc := 55) F 1 dX5_melts_55 rfl rfl ?_
    refine jr_iald (pc := 56) F (L0 3 v_y) m4_3 (by decide) c1 (gs_at' _ _ _ _ _ _) dX5_melts_56 (fun r7 => ?_)
    refine jr_iconst (pc := 57) F dX5_melts_57 ?_
    refine jr_idiv (pc := 58) F r7 (show Rg 2 from ⟨by decide, by decide⟩) (by decide) dX5_melts_58 ?_
    refine jr_isub (pc := 59) F dX5_melts_59 ?_
    refine jr_callS (pc := 60) (st := []) F [iv (w32 ((L0 0 6) - (jdiv (L0 3 v_y) 2)))] (snd_X5_atLeast (g0 := gs g0 4 0 L0) (rg_w _) (X5_atLeast_ok _ )) rfl ck_5_102 rfl rfl (by decide) (Nat.le_of_ble_eq_true rfl) dX5_melts_60 rfl (fun v g' hq => ?_)
    obtain ⟨x, rfl, r8, eg, hx⟩ := hq
    subst hx
    refine J_eq eg ?_
    show J X 63 [(0, .ref (xad X (4, 0, 0))), (1, iv v_y)] [iv (X5_atLeast_v (w32 ((L0 0 6) - (jdiv (L0 3 v_y) 2))))] (gs g0 4 0 L0)
    exact jr_iret (pc := 63) F hQ rfl dX5_melts_63 ⟨_, rfl, r8, rfl, (Ok_some k)⟩
  have k := Ok_f h5 k
  by_cases h9 : L0 2 v_y = 4
  · have k := Ok_t h9 k
    refine jr_tsin (pc := 6) (tgt := 64) (off := 58) F h9 ⟨by decide, by decide⟩ ⟨by decide, by decide⟩ rfl (by decide) dX5_melts_6 ?_
    refine jr_aload_n (pc := 64) F 0 dX5_melts_64 rfl rfl ?_
    refine jr_getI (pc := 65) F (L0 0 6) f_5_26 m4_0 rfl (gs_at' _ _ _ _ _ _) dX5_melts_65 (fun r10 => ?_)
    refine jr_iconst (pc := 68) F dX5_melts_68 ?_
    refine jr_iadd (pc := 69) F dX5_melts_69 ?_
    exact jr_iret (pc := 70) F hQ rfl dX5_melts_70 ⟨_, rfl, (rg_w _), rfl, (Ok_some k)⟩
  have k := Ok_f h9 k
  by_cases h11 : L0 2 v_y = 5
  · have k := Ok_t h11 k
    refine jr_tsin (pc := 6) (tgt := 71) (off := 65) F h11 ⟨by decide, by decide⟩ ⟨by decide, by decide⟩ rfl (by decide) dX5_melts_6 ?_
    refine jr_aload_n (pc := 71) F 0 dX5_melts_71 rfl rfl ?_
    refine jr_getI (pc := 72) F (L0 0 6) f_5_26 m4_0 rfl (gs_at' _ _ _ _ _ _) dX5_melts_72 (fun r12 => ?_)
    refine jr_aload_n (pc := 75) F 0 dX5_melts_75 rfl rfl ?_
    refine jr_getR (pc := 76) (b := (4, 0, 3)) F f_5_17 m4_0 rfl dX5_melts_76 ?_
    refine jr_iload_n (pc := 79) F 1 dX5_melts_79 rfl rfl ?_
    refine jr_iald (pc := 80) F (L0 3 v_y) m4_3 (by decide) c1 (gs_at' _ _ _ _ _ _) dX5_melts_80 (fun r13 => ?_)
    refine jr_iconst (pc := 81) F dX5_melts_81 ?_
    refine jr_idiv (pc := 82) F r13 (show Rg 2 from ⟨by decide, by decide⟩) (by decide) dX5_melts_82 ?_
    refine jr_isub (pc := 83) F dX5_melts_83 ?_
    refine jr_callS (pc := 84) (st := []) F [iv (w32 ((L0 0 6) - (jdiv (L0 3 v_y) 2)))] (snd_X5_atLeast (g0 := gs g0 4 0 L0) (rg_w _) (X5_atLeast_ok _ )) rfl ck_5_102 rfl rfl (by decide) (Nat.le_of_ble_eq_true rfl) dX5_melts_84 rfl (fun v g' hq => ?_)
    obtain ⟨x, rfl, r14, eg, hx⟩ := hq
    subst hx
    refine J_eq eg ?_
    show J X 87 [(0, .ref (xad X (4, 0, 0))), (1, iv v_y)] [iv (X5_atLeast_v (w32 ((L0 0 6) - (jdiv (L0 3 v_y) 2))))] (gs g0 4 0 L0)
    refine jr_iconst (pc := 87) F dX5_melts_87 ?_
    refine jr_idiv (pc := 88) F r14 (show Rg 2 from ⟨by decide, by decide⟩) (by decide) dX5_melts_88 ?_
    exact jr_iret (pc := 89) F hQ rfl dX5_melts_89 ⟨_, rfl, (rg_div _ _), rfl, (Ok_some k)⟩
  have k := Ok_f h11 k
  refine jr_tsd (pc := 6) (tgt := 90) F r2 (by rcases (show (L0 2 v_y) < 1 ∨ 5 < (L0 2 v_y) ∨ (L0 2 v_y) = 3 by omega) with h | h | h <;> first | exact Or.inl h | exact Or.inr (Or.inl h) | (rw [h]; exact Or.inr (Or.inr ⟨by decide, by decide, rfl⟩))) (by decide) dX5_melts_6 ?_
  refine jr_aload_n (pc := 90) F 0 dX5_melts_90 rfl rfl ?_
  refine jr_getI (pc := 91) F (L0 0 6) f_5_26 m4_0 rfl (gs_at' _ _ _ _ _ _) dX5_melts_91 (fun r15 => ?_)
  exact jr_iret (pc := 94) F hQ rfl dX5_melts_94 ⟨_, rfl, r15, rfl, (Ok_some k)⟩
set_option maxHeartbeats 4000000 in
set_option maxRecDepth 100000 in
theorem snd_X5_isFree {L0 : LT} {v_y : Int} {v_t : Int} {g0 : GG} (rgp_y : Rg v_y) (rgp_t : Rg v_t) {Q : (Int) → Prop} (k : Ok (X5_isFree L0 v_y v_t) Q) : MetG SL yX5_isFree cX5_isFree 5 (some .boolean) 0 (fun ad => [.ref (ad (4, 0, 0)), iv v_y, iv v_t]) (gs g0 4 0 L0) (fun v g' => ∃ x : Int, v = some (iv x) ∧ Bz x ∧ g' = gs g0 4 0 L0 ∧ Q x) := by
  refine met_intro SL_ok (by decide +kernel) (fun ad => Nat.le_of_ble_eq_true rfl) (fun X F hQ hR => ?_)
  replace F : FX X cX5_isFree RX5 5 (some .boolean) SL 0 := F
  show J X 0 [(0, .ref (xad X (4, 0, 0))), (1, iv v_y), (2, iv v_t)] [] (gs g0 4 0 L0)
  refine jr_iconst (pc := 0) F dX5_isFree_0 ?_
  refine jr_istore_n (pc := 1) F [(3, iv 1), (0, .ref (xad X (4, 0, 0))), (1, iv v_y), (2, iv v_t)] dX5_isFree_1 rfl (by decide) rfl ?_
  refine jr_iconst (pc := 2) F dX5_isFree_2 ?_
  refine jr_istore (pc := 3) F [(4, iv 0), (3, iv 1), (0, .ref (xad X (4, 0, 0))), (1, iv v_y), (2, iv v_t)] dX5_isFree_3 (by decide) rfl ?_
  refine jr_sub F [2, 3, 4, 1, 0] [(0, .ref (xad X (4, 0, 0))), (1, iv v_y), (2, iv v_t), (3, iv 1), (4, iv 0)] rfl ?_
  refine lpj (P := fun s : Int × Int => Bz (s.1) → Rg (s.2) → J X 5 [(0, .ref (xad X (4, 0, 0))), (1, iv v_y), (2, iv v_t), (3, iv s.1), (4, iv s.2)] [] (gs g0 4 0 L0)) (PE := fun r : Int × Int => Bz (r.1) → Rg (r.2) → J X 57 [(0, .ref (xad X (4, 0, 0))), (1, iv v_y), (2, iv v_t), (3, iv r.1), (4, iv r.2)] [] (gs g0 4 0 L0)) k (fun s1 Q2 k hC3 hE4 r6 r7 => ?_) (fun z5 k => ?_) (fun h => h (Or.inr rfl) (show Rg 0 from ⟨by decide, by decide⟩))
  · refine jr_iload (pc := 5) F 4 dX5_isFree_5 rfl ?_
    refine jr_aload_n (pc := 7) F 0 dX5_isFree_7 rfl rfl ?_
    refine jr_getI (pc := 8) F (L0 0 7) f_5_99 m4_0 rfl (gs_at' _ _ _ _ _ _) dX5_isFree_8 (fun r8 => ?_)
    refine jr_icmp_ge (pc := 11) (tgt := 57) F r7 r8 dX5_isFree_11 (by decide) (fun h9 => ?_) (fun h9 => ?_)
    · have k := Ok_f (ng_lt h9) k
      exact hE4 (s1.1, s1.2) (Ok_some k) r6 r7
    have k := Ok_t h9 k
    obtain ⟨c10, k⟩ := Ok_grd k
    obtain ⟨c11, k⟩ := Ok_grd k
    refine jifP (P := fun v => Bz v → J X 50 [(0, .ref (xad X (4, 0, 0))), (1, iv v_y), (2, iv v_t), (3, iv s1.1), (4, iv s1.2)] (iv v :: []) (gs g0 4 0 L0)) (c := (¬ s1.1 = 0) ∧ (((s1.2 = v_t) ∨ (¬ (L0 14 s1.2) = 0)) ∨ (¬ (L0 12 s1.2) = v_y))) (1) (0) (fun Ht Hf => ?_) (fun r18 => ?_)
    · refine jr_iload_n (pc := 14) F 3 dX5_isFree_14 rfl rfl ?_
      refine jr_if_eq (pc := 15) (tgt := 49) F (rg_z r6) dX5_isFree_15 (by decide) (fun h12 => ?_) (fun h12 => ?_)
      · refine jr_iconst (pc := 49) F dX5_isFree_49 ?_
        exact Hf (fun q => (fun q => q h12) q.1) (Or.inl rfl)
      refine jr_iload (pc := 18) F 4 dX5_isFree_18 rfl ?_
      refine jr_iload_n (pc := 20) F 2 dX5_isFree_20 rfl rfl ?_
      refine jr_icmp_eq (pc := 21) (tgt := 45) F r7 rgp_t dX5_isFree_21 (by decide) (fun h13 => ?_) (fun h13 => ?_)
      · refine jr_iconst (pc := 45) F dX5_isFree_45 ?_
        refine jr_goto (pc := 46) (tgt := 50) F dX5_isFree_46 (by decide) ?_
        exact Ht ⟨h12, (Or.inl (Or.inl h13))⟩ (Or.inr rfl)
      refine jr_aload_n (pc := 24) F 0 dX5_isFree_24 rfl rfl ?_
      refine jr_getR (pc := 25) (b := (4, 0, 14)) F f_5_44 m4_0 rfl dX5_isFree_25 ?_
      refine jr_iload (pc := 28) F 4 dX5_isFree_28 rfl ?_
      refine jr_iald (pc := 30) F (L0 14 s1.2) m4_14 (by decide) (c10 h12 h13) (gs_at' _ _ _ _ _ _) dX5_isFree_30 (fun r14 => ?_)
      refine jr_if_ne (pc := 31) (tgt := 45) F r14 dX5_isFree_31 (by decide) (fun h15 => ?_) (fun h15 => ?_)
      · refine jr_iconst (pc := 45) F dX5_isFree_45 ?_
        refine jr_goto (pc := 46) (tgt := 50) F dX5_isFree_46 (by decide) ?_
        exact Ht ⟨h12, (Or.inl (Or.inr h15))⟩ (Or.inr rfl)
      refine jr_aload_n (pc := 34) F 0 dX5_isFree_34 rfl rfl ?_
      refine jr_getR (pc := 35) (b := (4, 0, 12)) F f_5_38 m4_0 rfl dX5_isFree_35 ?_
      refine jr_iload (pc := 38) F 4 dX5_isFree_38 rfl ?_
      refine jr_iald (pc := 40) F (L0 12 s1.2) m4_12 (by decide) (c11 h12 (fun q => q.elim h13 (fun q => q h15))) (gs_at' _ _ _ _ _ _) dX5_isFree_40 (fun r16 => ?_)
      refine jr_iload_n (pc := 41) F 1 dX5_isFree_41 rfl rfl ?_
      refine jr_icmp_eq (pc := 42) (tgt := 49) F r16 rgp_y dX5_isFree_42 (by decide) (fun h17 => ?_) (fun h17 => ?_)
      · refine jr_iconst (pc := 49) F dX5_isFree_49 ?_
        exact Hf (fun q => (fun q => q.elim (fun q => q.elim h13 (fun q => q h15)) (fun q => q h17)) q.2) (Or.inl rfl)
      refine jr_iconst (pc := 45) F dX5_isFree_45 ?_
      refine jr_goto (pc := 46) (tgt := 50) F dX5_isFree_46 (by decide) ?_
      exact Ht ⟨h12, (Or.inr h17)⟩ (Or.inr rfl)
    obtain ⟨x19, e20, k⟩ := Ok_let k
    have r21 : Bz x19 := bz_of e20 r18
    refine jr_top e20 ?_
    refine jr_istore_n (pc := 50) F [(3, iv x19), (0, .ref (xad X (4, 0, 0))), (1, iv v_y), (2, iv v_t), (4, iv s1.2)] dX5_isFree_50 rfl (by decide) rfl ?_
    refine jr_iinc (pc := 51) F [(4, iv (w32 (s1.2 + 1))), (3, iv x19), (0, .ref (xad X (4, 0, 0))), (1, iv v_y), (2, iv v_t)] 4 dX5_isFree_51 rfl (by decide) rfl ?_
    refine jr_goto (pc := 54) (tgt := 5) F dX5_isFree_54 (by decide) ?_
    refine jr_sub F [2, 3, 4, 1, 0] [(0, .ref (xad X (4, 0, 0))), (1, iv v_y), (2, iv v_t), (3, iv x19), (4, iv (w32 (s1.2 + 1)))] rfl ?_
    exact hC3 (x19, w32 (s1.2 + 1)) (Ok_some k) r21 (rg_w _)
  intro r22 r23
  obtain ⟨c24, k⟩ := Ok_grd k
  obtain ⟨c25, k⟩ := Ok_grd k
  refine jifP (P := fun v => Bz v → J X 86 [(0, .ref (xad X (4, 0, 0))), (1, iv v_y), (2, iv v_t), (3, iv z5.1), (4, iv z5.2)] (iv v :: []) (gs g0 4 0 L0)) (c := ((¬ z5.1 = 0) ∨ ((L0 2 v_y) = 3)) ∨ ((L0 2 v_y) = 4)) (1) (0) (fun Ht Hf => ?_) (fun r31 => ?_)
  · refine jr_iload_n (pc := 57) F 3 dX5_isFree_57 rfl rfl ?_
    refine jr_if_ne (pc := 58) (tgt := 81) F (rg_z r22) dX5_isFree_58 (by decide) (fun h26 => ?_) (fun h26 => ?_)
    · refine jr_iconst (pc := 81) F dX5_isFree_81 ?_
      refine jr_goto (pc := 82) (tgt := 86) F dX5_isFree_82 (by decide) ?_
      exact Ht (Or.inl (Or.inl h26)) (Or.inr rfl)
    refine jr_aload_n (pc := 61) F 0 dX5_isFree_61 rfl rfl ?_
    refine jr_getR (pc := 62) (b := (4, 0, 2)) F f_5_13 m4_0 rfl dX5_isFree_62 ?_
    refine jr_iload_n (pc := 65) F 1 dX5_isFree_65 rfl rfl ?_
    refine jr_iald (pc := 66) F (L0 2 v_y) m4_2 (by decide) (c24 (fun q => q h26)) (gs_at' _ _ _ _ _ _) dX5_isFree_66 (fun r27 => ?_)
    refine jr_iconst (pc := 67) F dX5_isFree_67 ?_
    refine jr_icmp_eq (pc := 68) (tgt := 81) F r27 (show Rg 3 from ⟨by decide, by decide⟩) dX5_isFree_68 (by decide) (fun h28 => ?_) (fun h28 => ?_)
    · refine jr_iconst (pc := 81) F dX5_isFree_81 ?_
      refine jr_goto (pc := 82) (tgt := 86) F dX5_isFree_82 (by decide) ?_
      exact Ht (Or.inl (Or.inr h28)) (Or.inr rfl)
    refine jr_aload_n (pc := 71) F 0 dX5_isFree_71 rfl rfl ?_
    refine jr_getR (pc := 72) (b := (4, 0, 2)) F f_5_13 m4_0 rfl dX5_isFree_72 ?_
    refine jr_iload_n (pc := 75) F 1 dX5_isFree_75 rfl rfl ?_
    refine jr_iald (pc := 76) F (L0 2 v_y) m4_2 (by decide) (c25 (fun q => q.elim (fun q => q h26) h28)) (gs_at' _ _ _ _ _ _) dX5_isFree_76 (fun r29 => ?_)
    refine jr_iconst (pc := 77) F dX5_isFree_77 ?_
    refine jr_icmp_ne (pc := 78) (tgt := 85) F r29 (show Rg 4 from ⟨by decide, by decide⟩) dX5_isFree_78 (by decide) (fun h30 => ?_) (fun h30 => ?_)
    · refine jr_iconst (pc := 85) F dX5_isFree_85 ?_
      exact Hf (fun q => q.elim (fun q => q.elim (fun q => q h26) h28) h30) (Or.inl rfl)
    refine jr_iconst (pc := 81) F dX5_isFree_81 ?_
    refine jr_goto (pc := 82) (tgt := 86) F dX5_isFree_82 (by decide) ?_
    exact Ht (Or.inr h30) (Or.inr rfl)
  exact jr_zret (pc := 86) F hQ rfl r31 dX5_isFree_86 ⟨_, rfl, r31, rfl, (Ok_some k)⟩
set_option maxHeartbeats 4000000 in
set_option maxRecDepth 100000 in
theorem snd_X5_trainOn {L0 : LT} {v_t : Int} {g0 : GG} (rgp_t : Rg v_t) {Q : (LT) → Prop} (k : Ok (X5_trainOn L0 v_t) Q) : MetG SL yX5_trainOn cX5_trainOn 6 none 2 (fun ad => [.ref (ad (4, 0, 0)), iv v_t]) (gs g0 4 0 L0) (fun v g' => ∃ L' : LT, v = none ∧ g' = gs g0 4 0 L' ∧ Q L') := by
  refine met_intro SL_ok (by decide +kernel) (fun ad => Nat.le_of_ble_eq_true rfl) (fun X F hQ hR => ?_)
  replace F : FX X cX5_trainOn RX5 6 none SL 2 := F
  show J X 0 [(0, .ref (xad X (4, 0, 0))), (1, iv v_t)] [] (gs g0 4 0 L0)
  refine jr_aload_n (pc := 0) F 0 dX5_trainOn_0 rfl rfl ?_
  refine jr_getR (pc := 1) (b := (4, 0, 13)) F f_5_41 m4_0 rfl dX5_trainOn_1 ?_
  refine jr_iload_n (pc := 4) F 1 dX5_trainOn_4 rfl rfl ?_
  obtain ⟨c1, k⟩ := Ok_grd k
  refine jr_iald (pc := 5) F (L0 13 v_t) m4_13 (by decide) c1 (gs_at' _ _ _ _ _ _) dX5_trainOn_5 (fun r2 => ?_)
  refine jr_if_le (pc := 6) (tgt := 20) F r2 dX5_trainOn_6 (by decide) (fun h3 => ?_) (fun h3 => ?_)
  · have k := Ok_f (ng_lt h3) k
    refine jr_iconst (pc := 20) F dX5_trainOn_20 ?_
    refine jr_istore_n (pc := 21) F [(2, iv 0), (0, .ref (xad X (4, 0, 0))), (1, iv v_t)] dX5_trainOn_21 rfl (by decide) rfl ?_
    refine jr_iconst (pc := 22) F dX5_trainOn_22 ?_
    refine jr_istore_n (pc := 23) F [(3, iv 1), (2, iv 0), (0, .ref (xad X (4, 0, 0))), (1, iv v_t)] dX5_trainOn_23 rfl (by decide) rfl ?_
    refine jr_iconst (pc := 24) F dX5_trainOn_24 ?_
    refine jr_istore (pc := 25) F [(4, iv 0), (3, iv 1), (2, iv 0), (0, .ref (xad X (4, 0, 0))), (1, iv v_t)] dX5_trainOn_25 (by decide) rfl ?_
    refine jr_sub F [3, 4, 2, 1, 0] [(0, .ref (xad X (4, 0, 0))), (1, iv v_t), (2, iv 0), (3, iv 1), (4, iv 0)] rfl ?_
    refine lpj (P := fun s : Int × Int × Int × LT => Rg (s.1) → Bz (s.2.1) → Rg (s.2.2.1) → J X 27 [(0, .ref (xad X (4, 0, 0))), (1, iv v_t), (2, iv s.1), (3, iv s.2.1), (4, iv s.2.2.1)] [] (gs g0 4 0 s.2.2.2)) (PE := fun r : Int × Int × Int × LT => Rg (r.1) → Bz (r.2.1) → Rg (r.2.2.1) → J X 147 [(0, .ref (xad X (4, 0, 0))), (1, iv v_t), (2, iv r.1), (3, iv r.2.1), (4, iv r.2.2.1)] [] (gs g0 4 0 r.2.2.2)) k (fun s4 Q5 k hC6 hE7 r9 r10 r11 => ?_) (fun z8 k => ?_) (fun h => h (show Rg 0 from ⟨by decide, by decide⟩) (Or.inr rfl) (show Rg 0 from ⟨by decide, by decide⟩))
    · refine cnd (c := (s4.2.2.1 < (s4.2.2.2 11 v_t)) ∧ (¬ s4.2.1 = 0)) (GT := J X 42 [(0, .ref (xad X (4, 0, 0))), (1, iv v_t), (2, iv s4.1), (3, iv s4.2.1), (4, iv s4.2.2.1)] [] (gs g0 4 0 s4.2.2.2)) (GF := J X 147 [(0, .ref (xad X (4, 0, 0))), (1, iv v_t), (2, iv s4.1), (3, iv s4.2.1), (4, iv s4.2.2.1)] [] (gs g0 4 0 s4.2.2.2)) k (fun HT HF => ?_) (fun h15 k => ?_) (fun h15 k => ?_)
      · refine jr_iload (pc := 27) F 4 dX5_trainOn_27 rfl ?_
        refine jr_aload_n (pc := 29) F 0 dX5_trainOn_29 rfl rfl ?_
        refine jr_getR (pc := 30) (b := (4, 0, 11)) F f_5_35 m4_0 rfl dX5_trainOn_30 ?_
        refine jr_iload_n (pc := 33) F 1 dX5_trainOn_33 rfl rfl ?_
        refine jr_iald (pc := 34) F (s4.2.2.2 11 v_t) m4_11 (by decide) c1 (gs_at' _ _ _ _ _ _) dX5_trainOn_34 (fun r12 => ?_)
        refine jr_icmp_ge (pc := 35) (tgt := 147) F r11 r12 dX5_trainOn_35 (by decide) (fun h13 => ?_) (fun h13 => ?_)
        · exact HF (fun q => (ng_lt h13) q.1)
        refine jr_iload_n (pc := 38) F 3 dX5_trainOn_38 rfl rfl ?_
        refine jr_if_eq (pc := 39) (tgt := 147) F (rg_z r10) dX5_trainOn_39 (by decide) (fun h14 => ?_) (fun h14 => ?_)
        · exact HF (fun q => (fun q => q h14) q.2)
        exact HT ⟨h13, h14⟩
      · refine jr_aload_n (pc := 42) F 0 dX5_trainOn_42 rfl rfl ?_
        refine jr_getR (pc := 43) (b := (4, 0, 12)) F f_5_38 m4_0 rfl dX5_trainOn_43 ?_
        refine jr_iload_n (pc := 46) F 1 dX5_trainOn_46 rfl rfl ?_
        refine jr_iald (pc := 47) F (s4.2.2.2 12 v_t) m4_12 (by decide) c1 (gs_at' _ _ _ _ _ _) dX5_trainOn_47 (fun r16 => ?_)
        refine jr_iconst (pc := 48) F dX5_trainOn_48 ?_
        refine jr_iadd (pc := 49) F dX5_trainOn_49 ?_
        obtain ⟨x17, e18, k⟩ := Ok_let k
        have r19 : Rg x17 := rg_of e18 (rg_w _)
        refine jr_top e18 ?_
        refine jr_istore (pc := 50) F [(5, iv x17), (0, .ref (xad X (4, 0, 0))), (1, iv v_t), (2, iv s4.1), (3, iv s4.2.1), (4, iv s4.2.2.1)] dX5_trainOn_50 (by decide) rfl ?_
        refine jr_iload (pc := 52) F 0 dX5_trainOn_52 rfl ?_
        refine jr_aload_n (pc := 54) F 1 dX5_trainOn_54 rfl rfl ?_
        refine jr_getI (pc := 55) F (s4.2.2.2 0 0) f_5_7 m4_0 rfl (gs_at' _ _ _ _ _ _) dX5_trainOn_55 (fun r20 => ?_)
        refine jr_icmp_lt (pc := 58) (tgt := 76) F r19 r20 dX5_trainOn_58 (by decide) (fun h21 => ?_) (fun h21 => ?_)
        · have k := Ok_f (ng_le h21) k
          refine jr_aload_n (pc := 76) F 1 dX5_trainOn_76 rfl rfl ?_
          refine jr_iload (pc := 77) F 0 dX5_trainOn_77 rfl ?_
          refine jr_aload_n (pc := 79) F 1 dX5_trainOn_79 rfl rfl ?_
          refine jr_getR (pc := 80) (b := (4, 0, 9)) F f_5_29 m4_0 rfl dX5_trainOn_80 ?_
          refine jr_iload_n (pc := 83) F 2 dX5_trainOn_83 rfl rfl ?_
          refine jr_iald (pc := 84) F (s4.2.2.2 9 v_t) m4_9 (by decide) c1 (gs_at' _ _ _ _ _ _) dX5_trainOn_84 (fun r22 => ?_)
          obtain ⟨c24, k⟩ := Ok_grd k
          refine jr_callV (pc := 85) (st := []) F [iv x17, iv (s4.2.2.2 9 v_t)] (snd_X5_bears  (g0 := g0) r19 r22 (X5_bears_ok _ _ _ c24)) rfl ck_5_110 rfl m4_0 rfl rfl rfl (by decide) (Nat.le_of_ble_eq_true rfl) dX5_trainOn_85 rfl (fun v g' hq => ?_)
          obtain ⟨x, rfl, r23, eg, hx⟩ := hq
          subst hx
          refine J_eq eg ?_
          show J X 88 [(5, iv x17), (0, .ref (xad X (4, 0, 0))), (1, iv v_t), (2, iv s4.1), (3, iv s4.2.1), (4, iv s4.2.2.1)] [iv (X5_bears_v s4.2.2.2 x17 (s4.2.2.2 9 v_t))] (gs g0 4 0 s4.2.2.2)
          refine jr_if_eq (pc := 88) (tgt := 139) F (rg_z r23) dX5_trainOn_88 (by decide) (fun h25 => ?_) (fun h25 => ?_)
          · have k := Ok_f (fun q => q h25) k
            refine jr_iconst (pc := 139) F dX5_trainOn_139 ?_
            refine jr_istore_n (pc := 140) F [(3, iv 0), (5, iv x17), (0, .ref (xad X (4, 0, 0))), (1, iv v_t), (2, iv s4.1), (4, iv s4.2.2.1)] dX5_trainOn_140 rfl (by decide) rfl ?_
            refine jr_iinc (pc := 141) F [(4, iv (w32 (s4.2.2.1 + 1))), (3, iv 0), (5, iv x17), (0, .ref (xad X (4, 0, 0))), (1, iv v_t), (2, iv s4.1)] 5 dX5_trainOn_141 rfl (by decide) rfl ?_
            refine jr_goto (pc := 144) (tgt := 27) F dX5_trainOn_144 (by decide) ?_
            refine jr_sub F [3, 4, 5, 1, 0] [(0, .ref (xad X (4, 0, 0))), (1, iv v_t), (2, iv s4.1), (3, iv 0), (4, iv (w32 (s4.2.2.1 + 1)))] rfl ?_
            exact hC6 (s4.1, 0, w32 (s4.2.2.1 + 1), s4.2.2.2) (Ok_some k) r9 (Or.inl rfl) (rg_w _)
          have k := Ok_t h25 k
          refine jr_aload_n (pc := 91) F 1 dX5_trainOn_91 rfl rfl ?_
          refine jr_iload (pc := 92) F 0 dX5_trainOn_92 rfl ?_
          refine jr_iload_n (pc := 94) F 2 dX5_trainOn_94 rfl rfl ?_
          have k := Ok_bind k
          refine jr_callV (pc := 95) (st := []) F [iv x17, iv v_t] (snd_X5_isFree  (g0 := g0) r19 rgp_t k) rfl ck_5_114 rfl m4_0 rfl rfl rfl (by decide) (Nat.le_of_ble_eq_true rfl) dX5_trainOn_95 rfl (fun v g' hq => ?_)
          obtain ⟨z27, rfl, r26, eg, k⟩ := hq
          refine J_eq eg ?_
          show J X 98 [(5, iv x17), (0, .ref (xad X (4, 0, 0))), (1, iv v_t), (2, iv s4.1), (3, iv s4.2.1), (4, iv s4.2.2.1)] [iv z27] (gs g0 4 0 s4.2.2.2)
          refine jr_if_eq (pc := 98) (tgt := 139) F (rg_z r26) dX5_trainOn_98 (by decide) (fun h28 => ?_) (fun h28 => ?_)
          · have k := Ok_f (fun q => q h28) k
            refine jr_iconst (pc := 139) F dX5_trainOn_139 ?_
            refine jr_istore_n (pc := 140) F [(3, iv 0), (5, iv x17), (0, .ref (xad X (4, 0, 0))), (1, iv v_t), (2, iv s4.1), (4, iv s4.2.2.1)] dX5_trainOn_140 rfl (by decide) rfl ?_
            refine jr_iinc (pc := 141) F [(4, iv (w32 (s4.2.2.1 + 1))), (3, iv 0), (5, iv x17), (0, .ref (xad X (4, 0, 0))), (1, iv v_t), (2, iv s4.1)] 5 dX5_trainOn_141 rfl (by decide) rfl ?_
            refine jr_goto (pc := 144) (tgt := 27) F dX5_trainOn_144 (by decide) ?_
            refine jr_sub F [3, 4, 5, 1, 0] [(0, .ref (xad X (4, 0, 0))), (1, iv v_t), (2, iv s4.1), (3, iv 0), (4, iv (w32 (s4.2.2.1 + 1)))] rfl ?_
            exact hC6 (s4.1, 0, w32 (s4.2.2.1 + 1), s4.2.2.2) (Ok_some k) r9 (Or.inl rfl) (rg_w _)
          have k := Ok_t h28 k
          refine jr_aload_n (pc := 101) F 1 dX5_trainOn_101 rfl rfl ?_
          refine jr_getR (pc := 102) (b := (4, 0, 12)) F f_5_38 m4_0 rfl dX5_trainOn_102 ?_
          refine jr_iload_n (pc := 105) F 2 dX5_trainOn_105 rfl rfl ?_
          refine jr_iload (pc := 106) F 0 dX5_trainOn_106 rfl ?_
          obtain ⟨L29, e30, k⟩ := Ok_let k
          refine jr_iast (pc := 108) F (gs g0 4 0 L29) m4_12 (by decide) c1 r19 (put1 e30) dX5_trainOn_108 ?_
          refine jr_aload_n (pc := 109) F 1 dX5_trainOn_109 rfl rfl ?_
          refine jr_getR (pc := 110) (b := (4, 0, 4)) F f_5_20 m4_0 rfl dX5_trainOn_110 ?_
          refine jr_iload (pc := 113) F 0 dX5_trainOn_113 rfl ?_
          refine jr_aload_n (pc := 115) F 1 dX5_trainOn_115 rfl rfl ?_
          refine jr_getR (pc := 116) (b := (4, 0, 4)) F f_5_20 m4_0 rfl dX5_trainOn_116 ?_
          refine jr_iload (pc := 119) F 0 dX5_trainOn_119 rfl ?_
          obtain ⟨c31, k⟩ := Ok_grd k
          refine jr_iald (pc := 121) F (L29 4 x17) m4_4 (by decide) c31 (gs_at' _ _ _ _ _ _) dX5_trainOn_121 (fun r32 => ?_)
          refine jr_aload_n (pc := 122) F 1 dX5_trainOn_122 rfl rfl ?_
          refine jr_getR (pc := 123) (b := (4, 0, 10)) F f_5_32 m4_0 rfl dX5_trainOn_123 ?_
          refine jr_iload_n (pc := 126) F 2 dX5_trainOn_126 rfl rfl ?_
          refine jr_iald (pc := 127) F (L29 10 v_t) m4_10 (by decide) c1 (gs_at' _ _ _ _ _ _) dX5_trainOn_127 (fun r33 => ?_)
          refine jr_isub (pc := 128) F dX5_trainOn_128 ?_
          refine jr_callS (pc := 129) (st := [iv x17, .ref (xad X (4, 0, 4))]) F [iv (w32 ((L29 4 x17) - (L29 10 v_t)))] (snd_X5_held (g0 := gs g0 4 0 L29) (rg_w _) (X5_held_ok _ )) rfl ck_5_117 rfl rfl (by decide) (Nat.le_of_ble_eq_true rfl) dX5_trainOn_129 rfl (fun v g' hq => ?_)
          obtain ⟨x, rfl, r34, eg, hx⟩ := hq
          subst hx
          refine J_eq eg ?_
          show J X 132 [(5, iv x17), (0, .ref (xad X (4, 0, 0))), (1, iv v_t), (2, iv s4.1), (3, iv s4.2.1), (4, iv s4.2.2.1)] [iv (X5_held_v (w32 ((L29 4 x17) - (L29 10 v_t)))), iv x17, .ref (xad X (4, 0, 4))] (gs g0 4 0 L29)
          obtain ⟨L35, e36, k⟩ := Ok_let k
          refine jr_iast (pc := 132) F (gs g0 4 0 L35) m4_4 (by decide) c31 r34 (put1 e36) dX5_trainOn_132 ?_
          refine jr_iinc (pc := 133) F [(2, iv (w32 (s4.1 + 1))), (5, iv x17), (0, .ref (xad X (4, 0, 0))), (1, iv v_t), (3, iv s4.2.1), (4, iv s4.2.2.1)] 3 dX5_trainOn_133 rfl (by decide) rfl ?_
          refine jr_goto (pc := 136) (tgt := 141) F dX5_trainOn_136 (by decide) ?_
          refine jr_iinc (pc := 141) F [(4, iv (w32 (s4.2.2.1 + 1))), (2, iv (w32 (s4.1 + 1))), (5, iv x17), (0, .ref (xad X (4, 0, 0))), (1, iv v_t), (3, iv s4.2.1)] 5 dX5_trainOn_141 rfl (by decide) rfl ?_
          refine jr_goto (pc := 144) (tgt := 27) F dX5_trainOn_144 (by decide) ?_
          refine jr_sub F [3, 4, 1, 5, 0] [(0, .ref (xad X (4, 0, 0))), (1, iv v_t), (2, iv (w32 (s4.1 + 1))), (3, iv s4.2.1), (4, iv (w32 (s4.2.2.1 + 1)))] rfl ?_
          exact hC6 (w32 (s4.1 + 1), s4.2.1, w32 (s4.2.2.1 + 1), L35) (Ok_some k) (rg_w _) r10 (rg_w _)
        have k := Ok_t h21 k
        refine jr_aload_n (pc := 61) F 1 dX5_trainOn_61 rfl rfl ?_
        refine jr_getR (pc := 62) (b := (4, 0, 14)) F f_5_44 m4_0 rfl dX5_trainOn_62 ?_
        refine jr_iload_n (pc := 65) F 2 dX5_trainOn_65 rfl rfl ?_
        refine jr_iconst (pc := 66) F dX5_trainOn_66 ?_
        obtain ⟨L37, e38, k⟩ := Ok_let k
        refine jr_iast (pc := 67) F (gs g0 4 0 L37) m4_14 (by decide) c1 (show Rg 1 from ⟨by decide, by decide⟩) (put1 e38) dX5_trainOn_67 ?_
        refine jr_iconst (pc := 68) F dX5_trainOn_68 ?_
        refine jr_istore_n (pc := 69) F [(3, iv 0), (5, iv x17), (0, .ref (xad X (4, 0, 0))), (1, iv v_t), (2, iv s4.1), (4, iv s4.2.2.1)] dX5_trainOn_69 rfl (by decide) rfl ?_
        refine jr_iinc (pc := 70) F [(2, iv (w32 (s4.1 + 1))), (3, iv 0), (5, iv x17), (0, .ref (xad X (4, 0, 0))), (1, iv v_t), (4, iv s4.2.2.1)] 4 dX5_trainOn_70 rfl (by decide) rfl ?_
        refine jr_goto (pc := 73) (tgt := 141) F dX5_trainOn_73 (by decide) ?_
        refine jr_iinc (pc := 141) F [(4, iv (w32 (s4.2.2.1 + 1))), (2, iv (w32 (s4.1 + 1))), (3, iv 0), (5, iv x17), (0, .ref (xad X (4, 0, 0))), (1, iv v_t)] 5 dX5_trainOn_141 rfl (by decide) rfl ?_
        refine jr_goto (pc := 144) (tgt := 27) F dX5_trainOn_144 (by decide) ?_
        refine jr_sub F [4, 5, 1, 2, 0] [(0, .ref (xad X (4, 0, 0))), (1, iv v_t), (2, iv (w32 (s4.1 + 1))), (3, iv 0), (4, iv (w32 (s4.2.2.1 + 1)))] rfl ?_
        exact hC6 (w32 (s4.1 + 1), 0, w32 (s4.2.2.1 + 1), L37) (Ok_some k) (rg_w _) (Or.inl rfl) (rg_w _)
      exact hE7 (s4.1, s4.2.1, s4.2.2.1, s4.2.2.2) (Ok_some k) r9 r10 r11
    intro r39 r40 r41
    refine jr_aload_n (pc := 147) F 0 dX5_trainOn_147 rfl rfl ?_
    refine jr_getR (pc := 148) (b := (4, 0, 17)) F f_5_50 m4_0 rfl dX5_trainOn_148 ?_
    refine jr_iload_n (pc := 151) F 1 dX5_trainOn_151 rfl rfl ?_
    refine jr_dup2 (pc := 152) F dX5_trainOn_152 rfl rfl ?_
    refine jr_iald (pc := 153) F (z8.2.2.2 17 v_t) m4_17 (by decide) c1 (gs_at' _ _ _ _ _ _) dX5_trainOn_153 (fun r42 => ?_)
    refine jifP (P := fun v => Bz v → J X 163 [(0, .ref (xad X (4, 0, 0))), (1, iv v_t), (2, iv z8.1), (3, iv z8.2.1), (4, iv z8.2.2.1)] (iv v :: [iv (z8.2.2.2 17 v_t), iv v_t, .ref (xad X (4, 0, 17))]) (gs g0 4 0 z8.2.2.2)) (c := z8.1 = 0) (1) (0) (fun Ht Hf => ?_) (fun r44 => ?_)
    · refine jr_iload_n (pc := 154) F 2 dX5_trainOn_154 rfl rfl ?_
      refine jr_if_ne (pc := 155) (tgt := 162) F r39 dX5_trainOn_155 (by decide) (fun h43 => ?_) (fun h43 => ?_)
      · refine jr_iconst (pc := 162) F dX5_trainOn_162 ?_
        exact Hf h43 (Or.inl rfl)
      refine jr_iconst (pc := 158) F dX5_trainOn_158 ?_
      refine jr_goto (pc := 159) (tgt := 163) F dX5_trainOn_159 (by decide) ?_
      exact Ht h43 (Or.inr rfl)
    refine jr_iadd (pc := 163) F dX5_trainOn_163 ?_
    obtain ⟨L45, e46, k⟩ := Ok_let k
    refine jr_iast (pc := 164) F (gs g0 4 0 L45) m4_17 (by decide) c1 (rg_w _) (put1 e46) dX5_trainOn_164 ?_
    exact jr_vret (pc := 165) F hQ rfl dX5_trainOn_165 ⟨_, rfl, rfl, (Ok_some k)⟩
  have k := Ok_t h3 k
  refine jr_aload_n (pc := 9) F 0 dX5_trainOn_9 rfl rfl ?_
  refine jr_getR (pc := 10) (b := (4, 0, 13)) F f_5_41 m4_0 rfl dX5_trainOn_10 ?_
  refine jr_iload_n (pc := 13) F 1 dX5_trainOn_13 rfl rfl ?_
  refine jr_dup2 (pc := 14) F dX5_trainOn_14 rfl rfl ?_
  refine jr_iald (pc := 15) F (L0 13 v_t) m4_13 (by decide) c1 (gs_at' _ _ _ _ _ _) dX5_trainOn_15 (fun r47 => ?_)
  refine jr_iconst (pc := 16) F dX5_trainOn_16 ?_
  refine jr_isub (pc := 17) F dX5_trainOn_17 ?_
  obtain ⟨L48, e49, k⟩ := Ok_let k
  refine jr_iast (pc := 18) F (gs g0 4 0 L48) m4_13 (by decide) c1 (rg_w _) (put1 e49) dX5_trainOn_18 ?_
  exact jr_vret (pc := 19) F hQ rfl dX5_trainOn_19 ⟨_, rfl, rfl, (Ok_some k)⟩
set_option maxHeartbeats 4000000 in
set_option maxRecDepth 100000 in
theorem snd_X5_hourOn {L0 : LT} {g0 : GG}  {Q : (LT) → Prop} (k : Ok (X5_hourOn L0) Q) : MetG SL yX5_hourOn cX5_hourOn 3 none 3 (fun ad => [.ref (ad (4, 0, 0))]) (gs g0 4 0 L0) (fun v g' => ∃ L' : LT, v = none ∧ g' = gs g0 4 0 L' ∧ Q L') := by
  refine met_intro SL_ok (by decide +kernel) (fun ad => Nat.le_of_ble_eq_true rfl) (fun X F hQ hR => ?_)
  replace F : FX X cX5_hourOn RX5 3 none SL 3 := F
  show J X 0 [(0, .ref (xad X (4, 0, 0)))] [] (gs g0 4 0 L0)
  refine jr_aload_n (pc := 0) F 0 dX5_hourOn_0 rfl rfl ?_
  refine jr_getI (pc := 1) F (L0 0 4) f_5_120 m4_0 rfl (gs_at' _ _ _ _ _ _) dX5_hourOn_1 (fun r1 => ?_)
  refine jr_bipush (pc := 4) F dX5_hourOn_4 (by decide) ?_
  refine jr_irem (pc := 6) F r1 (show Rg 24 from ⟨by decide, by decide⟩) (by decide) dX5_hourOn_6 ?_
  obtain ⟨x2, e3, k⟩ := Ok_let k
  have r4 : Rg x2 := rg_of e3 (rg_rem r1 (show Rg 24 from ⟨by decide, by decide⟩))
  refine jr_top e3 ?_
  refine jr_istore_n (pc := 7) F [(1, iv x2), (0, .ref (xad X (4, 0, 0)))] dX5_hourOn_7 rfl (by decide) rfl ?_
  refine jr_iconst (pc := 8) F dX5_hourOn_8 ?_
  refine jr_istore_n (pc := 9) F [(2, iv 0), (1, iv x2), (0, .ref (xad X (4, 0, 0)))] dX5_hourOn_9 rfl (by decide) rfl ?_
  refine jr_sub F [2, 1, 0] [(0, .ref (xad X (4, 0, 0))), (1, iv x2), (2, iv 0)] rfl ?_
  refine lpj (P := fun s : Int × LT => Rg (s.1) → J X 10 [(0, .ref (xad X (4, 0, 0))), (1, iv x2), (2, iv s.1)] [] (gs g0 4 0 s.2)) (PE := fun r : Int × LT => Rg (r.1) → J X 92 [(0, .ref (xad X (4, 0, 0))), (1, iv x2), (2, iv r.1)] [] (gs g0 4 0 r.2)) k (fun s5 Q6 k hC7 hE8 r10 => ?_) (fun z9 k => ?_) (fun h => h (show Rg 0 from ⟨by decide, by decide⟩))
  · refine jr_iload_n (pc := 10) F 2 dX5_hourOn_10 rfl rfl ?_
    refine jr_aload_n (pc := 11) F 0 dX5_hourOn_11 rfl rfl ?_
    refine jr_getI (pc := 12) F (s5.2 0 0) f_5_7 m4_0 rfl (gs_at' _ _ _ _ _ _) dX5_hourOn_12 (fun r11 => ?_)
    refine jr_icmp_ge (pc := 15) (tgt := 92) F r10 r11 dX5_hourOn_15 (by decide) (fun h12 => ?_) (fun h12 => ?_)
    · have k := Ok_f (ng_lt h12) k
      exact hE8 (s5.1, s5.2) (Ok_some k) r10
    have k := Ok_t h12 k
    refine cnd (c := (18 ≤ x2) ∨ (x2 ≤ 5)) (GT := J X 29 [(0, .ref (xad X (4, 0, 0))), (1, iv x2), (2, iv s5.1)] [] (gs g0 4 0 s5.2)) (GF := J X 53 [(0, .ref (xad X (4, 0, 0))), (1, iv x2), (2, iv s5.1)] [] (gs g0 4 0 s5.2)) k (fun HT HF => ?_) (fun h15 k => ?_) (fun h15 k => ?_)
    · refine jr_iload_n (pc := 18) F 1 dX5_hourOn_18 rfl rfl ?_
      refine jr_bipush (pc := 19) F dX5_hourOn_19 (by decide) ?_
      refine jr_icmp_ge (pc := 21) (tgt := 29) F r4 (show Rg 18 from ⟨by decide, by decide⟩) dX5_hourOn_21 (by decide) (fun h13 => ?_) (fun h13 => ?_)
      · exact HT (Or.inl h13)
      refine jr_iload_n (pc := 24) F 1 dX5_hourOn_24 rfl rfl ?_
      refine jr_iconst (pc := 25) F dX5_hourOn_25 ?_
      refine jr_icmp_gt (pc := 26) (tgt := 53) F r4 (show Rg 5 from ⟨by decide, by decide⟩) dX5_hourOn_26 (by decide) (fun h14 => ?_) (fun h14 => ?_)
      · exact HF (fun q => q.elim (ng_le h13) (ng_le h14))
      exact HT (Or.inr h14)
    · refine jr_aload_n (pc := 29) F 0 dX5_hourOn_29 rfl rfl ?_
      refine jr_getR (pc := 30) (b := (4, 0, 4)) F f_5_20 m4_0 rfl dX5_hourOn_30 ?_
      refine jr_iload_n (pc := 33) F 2 dX5_hourOn_33 rfl rfl ?_
      refine jr_aload_n (pc := 34) F 0 dX5_hourOn_34 rfl rfl ?_
      refine jr_getR (pc := 35) (b := (4, 0, 4)) F f_5_20 m4_0 rfl dX5_hourOn_35 ?_
      refine jr_iload_n (pc := 38) F 2 dX5_hourOn_38 rfl rfl ?_
      obtain ⟨c16, k⟩ := Ok_grd k
      refine jr_iald (pc := 39) F (s5.2 4 s5.1) m4_4 (by decide) c16 (gs_at' _ _ _ _ _ _) dX5_hourOn_39 (fun r17 => ?_)
      refine jr_aload_n (pc := 40) F 0 dX5_hourOn_40 rfl rfl ?_
      refine jr_iload_n (pc := 41) F 2 dX5_hourOn_41 rfl rfl ?_
      obtain ⟨c19, k⟩ := Ok_grd k
      refine jr_callV (pc := 42) (st := [iv (s5.2 4 s5.1), iv s5.1, .ref (xad X (4, 0, 4))]) F [iv s5.1] (snd_X5_freezes  (g0 := g0) r10 (X5_freezes_ok _ _ c19)) rfl ck_5_123 rfl m4_0 rfl rfl rfl (by decide) (Nat.le_of_ble_eq_true rfl) dX5_hourOn_42 rfl (fun v g' hq => ?_)
      obtain ⟨x, rfl, r18, eg, hx⟩ := hq
      subst hx
      refine J_eq eg ?_
      show J X 45 [(0, .ref (xad X (4, 0, 0))), (1, iv x2), (2, iv s5.1)] [iv (X5_freezes_v s5.2 s5.1), iv (s5.2 4 s5.1), iv s5.1, .ref (xad X (4, 0, 4))] (gs g0 4 0 s5.2)
      refine jr_iadd (pc := 45) F dX5_hourOn_45 ?_
      refine jr_callS (pc := 46) (st := [iv s5.1, .ref (xad X (4, 0, 4))]) F [iv (w32 ((s5.2 4 s5.1) + (X5_freezes_v s5.2 s5.1)))] (snd_X5_held (g0 := gs g0 4 0 s5.2) (rg_w _) (X5_held_ok _ )) rfl ck_5_117 rfl rfl (by decide) (Nat.le_of_ble_eq_true rfl) dX5_hourOn_46 rfl (fun v g' hq => ?_)
      obtain ⟨x, rfl, r20, eg, hx⟩ := hq
      subst hx
      refine J_eq eg ?_
      show J X 49 [(0, .ref (xad X (4, 0, 0))), (1, iv x2), (2, iv s5.1)] [iv (X5_held_v (w32 ((s5.2 4 s5.1) + (X5_freezes_v s5.2 s5.1)))), iv s5.1, .ref (xad X (4, 0, 4))] (gs g0 4 0 s5.2)
      obtain ⟨L21, e22, k⟩ := Ok_let k
      refine jr_iast (pc := 49) F (gs g0 4 0 L21) m4_4 (by decide) c16 r20 (put1 e22) dX5_hourOn_49 ?_
      refine jr_goto (pc := 50) (tgt := 86) F dX5_hourOn_50 (by decide) ?_
      refine jr_iinc (pc := 86) F [(2, iv (w32 (s5.1 + 1))), (0, .ref (xad X (4, 0, 0))), (1, iv x2)] 2 dX5_hourOn_86 rfl (by decide) rfl ?_
      refine jr_goto (pc := 89) (tgt := 10) F dX5_hourOn_89 (by decide) ?_
      refine jr_sub F [1, 2, 0] [(0, .ref (xad X (4, 0, 0))), (1, iv x2), (2, iv (w32 (s5.1 + 1)))] rfl ?_
      exact hC7 (w32 (s5.1 + 1), L21) (Ok_some k) (rg_w _)
    refine cnd (c := (10 ≤ x2) ∧ (x2 ≤ 15)) (GT := J X 65 [(0, .ref (xad X (4, 0, 0))), (1, iv x2), (2, iv s5.1)] [] (gs g0 4 0 s5.2)) (GF := J X 86 [(0, .ref (xad X (4, 0, 0))), (1, iv x2), (2, iv s5.1)] [] (gs g0 4 0 s5.2)) k (fun HT HF => ?_) (fun h25 k => ?_) (fun h25 k => ?_)
    · refine jr_iload_n (pc := 53) F 1 dX5_hourOn_53 rfl rfl ?_
      refine jr_bipush (pc := 54) F dX5_hourOn_54 (by decide) ?_
      refine jr_icmp_lt (pc := 56) (tgt := 86) F r4 (show Rg 10 from ⟨by decide, by decide⟩) dX5_hourOn_56 (by decide) (fun h23 => ?_) (fun h23 => ?_)
      · exact HF (fun q => (ng_le h23) q.1)
      refine jr_iload_n (pc := 59) F 1 dX5_hourOn_59 rfl rfl ?_
      refine jr_bipush (pc := 60) F dX5_hourOn_60 (by decide) ?_
      refine jr_icmp_gt (pc := 62) (tgt := 86) F r4 (show Rg 15 from ⟨by decide, by decide⟩) dX5_hourOn_62 (by decide) (fun h24 => ?_) (fun h24 => ?_)
      · exact HF (fun q => (ng_le h24) q.2)
      exact HT ⟨h23, h24⟩
    · refine jr_aload_n (pc := 65) F 0 dX5_hourOn_65 rfl rfl ?_
      refine jr_getR (pc := 66) (b := (4, 0, 4)) F f_5_20 m4_0 rfl dX5_hourOn_66 ?_
      refine jr_iload_n (pc := 69) F 2 dX5_hourOn_69 rfl rfl ?_
      refine jr_aload_n (pc := 70) F 0 dX5_hourOn_70 rfl rfl ?_
      refine jr_getR (pc := 71) (b := (4, 0, 4)) F f_5_20 m4_0 rfl dX5_hourOn_71 ?_
      refine jr_iload_n (pc := 74) F 2 dX5_hourOn_74 rfl rfl ?_
      obtain ⟨c26, k⟩ := Ok_grd k
      refine jr_iald (pc := 75) F (s5.2 4 s5.1) m4_4 (by decide) c26 (gs_at' _ _ _ _ _ _) dX5_hourOn_75 (fun r27 => ?_)
      refine jr_aload_n (pc := 76) F 0 dX5_hourOn_76 rfl rfl ?_
      refine jr_iload_n (pc := 77) F 2 dX5_hourOn_77 rfl rfl ?_
      obtain ⟨c29, k⟩ := Ok_grd k
      refine jr_callV (pc := 78) (st := [iv (s5.2 4 s5.1), iv s5.1, .ref (xad X (4, 0, 4))]) F [iv s5.1] (snd_X5_melts  (g0 := g0) r10 (X5_melts_ok _ _ c29)) rfl ck_5_126 rfl m4_0 rfl rfl rfl (by decide) (Nat.le_of_ble_eq_true rfl) dX5_hourOn_78 rfl (fun v g' hq => ?_)
      obtain ⟨x, rfl, r28, eg, hx⟩ := hq
      subst hx
      refine J_eq eg ?_
      show J X 81 [(0, .ref (xad X (4, 0, 0))), (1, iv x2), (2, iv s5.1)] [iv (X5_melts_v s5.2 s5.1), iv (s5.2 4 s5.1), iv s5.1, .ref (xad X (4, 0, 4))] (gs g0 4 0 s5.2)
      refine jr_isub (pc := 81) F dX5_hourOn_81 ?_
      refine jr_callS (pc := 82) (st := [iv s5.1, .ref (xad X (4, 0, 4))]) F [iv (w32 ((s5.2 4 s5.1) - (X5_melts_v s5.2 s5.1)))] (snd_X5_held (g0 := gs g0 4 0 s5.2) (rg_w _) (X5_held_ok _ )) rfl ck_5_117 rfl rfl (by decide) (Nat.le_of_ble_eq_true rfl) dX5_hourOn_82 rfl (fun v g' hq => ?_)
      obtain ⟨x, rfl, r30, eg, hx⟩ := hq
      subst hx
      refine J_eq eg ?_
      show J X 85 [(0, .ref (xad X (4, 0, 0))), (1, iv x2), (2, iv s5.1)] [iv (X5_held_v (w32 ((s5.2 4 s5.1) - (X5_melts_v s5.2 s5.1)))), iv s5.1, .ref (xad X (4, 0, 4))] (gs g0 4 0 s5.2)
      obtain ⟨L31, e32, k⟩ := Ok_let k
      refine jr_iast (pc := 85) F (gs g0 4 0 L31) m4_4 (by decide) c26 r30 (put1 e32) dX5_hourOn_85 ?_
      refine jr_iinc (pc := 86) F [(2, iv (w32 (s5.1 + 1))), (0, .ref (xad X (4, 0, 0))), (1, iv x2)] 2 dX5_hourOn_86 rfl (by decide) rfl ?_
      refine jr_goto (pc := 89) (tgt := 10) F dX5_hourOn_89 (by decide) ?_
      refine jr_sub F [1, 2, 0] [(0, .ref (xad X (4, 0, 0))), (1, iv x2), (2, iv (w32 (s5.1 + 1)))] rfl ?_
      exact hC7 (w32 (s5.1 + 1), L31) (Ok_some k) (rg_w _)
    refine jr_iinc (pc := 86) F [(2, iv (w32 (s5.1 + 1))), (0, .ref (xad X (4, 0, 0))), (1, iv x2)] 2 dX5_hourOn_86 rfl (by decide) rfl ?_
    refine jr_goto (pc := 89) (tgt := 10) F dX5_hourOn_89 (by decide) ?_
    refine jr_sub F [1, 2, 0] [(0, .ref (xad X (4, 0, 0))), (1, iv x2), (2, iv (w32 (s5.1 + 1)))] rfl ?_
    exact hC7 (w32 (s5.1 + 1), s5.2) (Ok_some k) (rg_w _)
  intro r33
  refine jr_iconst (pc := 92) F dX5_hourOn_92 ?_
  refine jr_istore_n (pc := 93) F [(2, iv 0), (0, .ref (xad X (4, 0, 0))), (1, iv x2)] dX5_hourOn_93 rfl (by decide) rfl ?_
  refine jr_sub F [1, 2, 0] [(0, .ref (xad X (4, 0, 0))), (1, iv x2), (2, iv 0)] rfl ?_
  refine lpj (P := fun s : Int × LT => Rg (s.1) → J X 94 [(0, .ref (xad X (4, 0, 0))), (1, iv x2), (2, iv s.1)] [] (gs g0 4 0 s.2)) (PE := fun r : Int × LT => Rg (r.1) → J X 122 [(0, .ref (xad X (4, 0, 0))), (1, iv x2), (2, iv r.1)] [] (gs g0 4 0 r.2)) k (fun s34 Q35 k hC36 hE37 r39 => ?_) (fun z38 k => ?_) (fun h => h (show Rg 0 from ⟨by decide, by decide⟩))
  · refine jr_iload_n (pc := 94) F 2 dX5_hourOn_94 rfl rfl ?_
    refine jr_aload_n (pc := 95) F 0 dX5_hourOn_95 rfl rfl ?_
    refine jr_getI (pc := 96) F (s34.2 0 7) f_5_99 m4_0 rfl (gs_at' _ _ _ _ _ _) dX5_hourOn_96 (fun r40 => ?_)
    refine jr_icmp_ge (pc := 99) (tgt := 122) F r39 r40 dX5_hourOn_99 (by decide) (fun h41 => ?_) (fun h41 => ?_)
    · have k := Ok_f (ng_lt h41) k
      exact hE37 (s34.1, s34.2) (Ok_some k) r39
    have k := Ok_t h41 k
    refine jr_aload_n (pc := 102) F 0 dX5_hourOn_102 rfl rfl ?_
    refine jr_getR (pc := 103) (b := (4, 0, 14)) F f_5_44 m4_0 rfl dX5_hourOn_103 ?_
    refine jr_iload_n (pc := 106) F 2 dX5_hourOn_106 rfl rfl ?_
    obtain ⟨c42, k⟩ := Ok_grd k
    refine jr_iald (pc := 107) F (s34.2 14 s34.1) m4_14 (by decide) c42 (gs_at' _ _ _ _ _ _) dX5_hourOn_107 (fun r43 => ?_)
    refine jr_if_ne (pc := 108) (tgt := 116) F r43 dX5_hourOn_108 (by decide) (fun h44 => ?_) (fun h44 => ?_)
    · have k := Ok_f h44 k
      refine jr_iinc (pc := 116) F [(2, iv (w32 (s34.1 + 1))), (0, .ref (xad X (4, 0, 0))), (1, iv x2)] 2 dX5_hourOn_116 rfl (by decide) rfl ?_
      refine jr_goto (pc := 119) (tgt := 94) F dX5_hourOn_119 (by decide) ?_
      refine jr_sub F [1, 2, 0] [(0, .ref (xad X (4, 0, 0))), (1, iv x2), (2, iv (w32 (s34.1 + 1)))] rfl ?_
      exact hC36 (w32 (s34.1 + 1), s34.2) (Ok_some k) (rg_w _)
    have k := Ok_t h44 k
    refine jr_aload_n (pc := 111) F 0 dX5_hourOn_111 rfl rfl ?_
    refine jr_iload_n (pc := 112) F 2 dX5_hourOn_112 rfl rfl ?_
    have k := Ok_bind k
    refine jr_callV (pc := 113) (st := []) F [iv s34.1] (snd_X5_trainOn  (g0 := g0) r39 k) rfl ck_5_129 rfl m4_0 rfl rfl rfl (by decide) (Nat.le_of_ble_eq_true rfl) dX5_hourOn_113 rfl (fun v g' hq => ?_)
    obtain ⟨z46, rfl, eg, k⟩ := hq
    refine J_eq eg ?_
    show J X 116 [(0, .ref (xad X (4, 0, 0))), (1, iv x2), (2, iv s34.1)] [] (gs g0 4 0 z46)
    refine jr_iinc (pc := 116) F [(2, iv (w32 (s34.1 + 1))), (0, .ref (xad X (4, 0, 0))), (1, iv x2)] 2 dX5_hourOn_116 rfl (by decide) rfl ?_
    refine jr_goto (pc := 119) (tgt := 94) F dX5_hourOn_119 (by decide) ?_
    refine jr_sub F [1, 2, 0] [(0, .ref (xad X (4, 0, 0))), (1, iv x2), (2, iv (w32 (s34.1 + 1)))] rfl ?_
    exact hC36 (w32 (s34.1 + 1), z46) (Ok_some k) (rg_w _)
  intro r47
  refine jr_iconst (pc := 122) F dX5_hourOn_122 ?_
  refine jr_istore_n (pc := 123) F [(2, iv 0), (0, .ref (xad X (4, 0, 0))), (1, iv x2)] dX5_hourOn_123 rfl (by decide) rfl ?_
  refine jr_sub F [1, 2, 0] [(0, .ref (xad X (4, 0, 0))), (1, iv x2), (2, iv 0)] rfl ?_
  refine lpj (P := fun s : Int × LT => Rg (s.1) → J X 124 [(0, .ref (xad X (4, 0, 0))), (1, iv x2), (2, iv s.1)] [] (gs g0 4 0 s.2)) (PE := fun r : Int × LT => Rg (r.1) → J X 195 [(0, .ref (xad X (4, 0, 0))), (1, iv x2), (2, iv r.1)] [] (gs g0 4 0 r.2)) k (fun s48 Q49 k hC50 hE51 r53 => ?_) (fun z52 k => ?_) (fun h => h (show Rg 0 from ⟨by decide, by decide⟩))
  · refine jr_iload_n (pc := 124) F 2 dX5_hourOn_124 rfl rfl ?_
    refine jr_aload_n (pc := 125) F 0 dX5_hourOn_125 rfl rfl ?_
    refine jr_getI (pc := 126) F (s48.2 0 7) f_5_99 m4_0 rfl (gs_at' _ _ _ _ _ _) dX5_hourOn_126 (fun r54 => ?_)
    refine jr_icmp_ge (pc := 129) (tgt := 195) F r53 r54 dX5_hourOn_129 (by decide) (fun h55 => ?_) (fun h55 => ?_)
    · have k := Ok_f (ng_lt h55) k
      exact hE51 (s48.1, s48.2) (Ok_some k) r53
    have k := Ok_t h55 k
    obtain ⟨c56, k⟩ := Ok_grd k
    obtain ⟨c57, k⟩ := Ok_grd k
    obtain ⟨c58, k⟩ := Ok_grd k
    refine cnd (c := (((s48.2 14 s48.1) = 0) ∧ (0 ≤ (s48.2 12 s48.1))) ∧ ((s48.2 4 (s48.2 12 s48.1)) < (jdiv (X5_wants_v s48.2 (s48.2 12 s48.1) (s48.2 9 s48.1)) 2))) (GT := J X 182 [(0, .ref (xad X (4, 0, 0))), (1, iv x2), (2, iv s48.1)] [] (gs g0 4 0 s48.2)) (GF := J X 189 [(0, .ref (xad X (4, 0, 0))), (1, iv x2), (2, iv s48.1)] [] (gs g0 4 0 s48.2)) k (fun HT HF => ?_) (fun h69 k => ?_) (fun h69 k => ?_)
    · refine jr_aload_n (pc := 132) F 0 dX5_hourOn_132 rfl rfl ?_
      refine jr_getR (pc := 133) (b := (4, 0, 14)) F f_5_44 m4_0 rfl dX5_hourOn_133 ?_
      refine jr_iload_n (pc := 136) F 2 dX5_hourOn_136 rfl rfl ?_
      refine jr_iald (pc := 137) F (s48.2 14 s48.1) m4_14 (by decide) c56 (gs_at' _ _ _ _ _ _) dX5_hourOn_137 (fun r59 => ?_)
      refine jr_if_ne (pc := 138) (tgt := 189) F r59 dX5_hourOn_138 (by decide) (fun h60 => ?_) (fun h60 => ?_)
      · exact HF (fun q => (fun q => h60 q.1) q.1)
      refine jr_aload_n (pc := 141) F 0 dX5_hourOn_141 rfl rfl ?_
      refine jr_getR (pc := 142) (b := (4, 0, 12)) F f_5_38 m4_0 rfl dX5_hourOn_142 ?_
      refine jr_iload_n (pc := 145) F 2 dX5_hourOn_145 rfl rfl ?_
      refine jr_iald (pc := 146) F (s48.2 12 s48.1) m4_12 (by decide) c56 (gs_at' _ _ _ _ _ _) dX5_hourOn_146 (fun r61 => ?_)
      refine jr_if_lt (pc := 147) (tgt := 189) F r61 dX5_hourOn_147 (by decide) (fun h62 => ?_) (fun h62 => ?_)
      · exact HF (fun q => (fun q => (ng_le h62) q.2) q.1)
      refine jr_aload_n (pc := 150) F 0 dX5_hourOn_150 rfl rfl ?_
      refine jr_getR (pc := 151) (b := (4, 0, 4)) F f_5_20 m4_0 rfl dX5_hourOn_151 ?_
      refine jr_aload_n (pc := 154) F 0 dX5_hourOn_154 rfl rfl ?_
      refine jr_getR (pc := 155) (b := (4, 0, 12)) F f_5_38 m4_0 rfl dX5_hourOn_155 ?_
      refine jr_iload_n (pc := 158) F 2 dX5_hourOn_158 rfl rfl ?_
      refine jr_iald (pc := 159) F (s48.2 12 s48.1) m4_12 (by decide) c56 (gs_at' _ _ _ _ _ _) dX5_hourOn_159 (fun r63 => ?_)
      refine jr_iald (pc := 160) F (s48.2 4 (s48.2 12 s48.1)) m4_4 (by decide) (c57 ⟨h60, h62⟩) (gs_at' _ _ _ _ _ _) dX5_hourOn_160 (fun r64 => ?_)
      refine jr_aload_n (pc := 161) F 0 dX5_hourOn_161 rfl rfl ?_
      refine jr_aload_n (pc := 162) F 0 dX5_hourOn_162 rfl rfl ?_
      refine jr_getR (pc := 163) (b := (4, 0, 12)) F f_5_38 m4_0 rfl dX5_hourOn_163 ?_
      refine jr_iload_n (pc := 166) F 2 dX5_hourOn_166 rfl rfl ?_
      refine jr_iald (pc := 167) F (s48.2 12 s48.1) m4_12 (by decide) c56 (gs_at' _ _ _ _ _ _) dX5_hourOn_167 (fun r65 => ?_)
      refine jr_aload_n (pc := 168) F 0 dX5_hourOn_168 rfl rfl ?_
      refine jr_getR (pc := 169) (b := (4, 0, 9)) F f_5_29 m4_0 rfl dX5_hourOn_169 ?_
      refine jr_iload_n (pc := 172) F 2 dX5_hourOn_172 rfl rfl ?_
      refine jr_iald (pc := 173) F (s48.2 9 s48.1) m4_9 (by decide) c56 (gs_at' _ _ _ _ _ _) dX5_hourOn_173 (fun r66 => ?_)
      refine jr_callV (pc := 174) (st := [iv (s48.2 4 (s48.2 12 s48.1))]) F [iv (s48.2 12 s48.1), iv (s48.2 9 s48.1)] (snd_X5_wants  (g0 := g0) r65 r66 (X5_wants_ok _ _ _ (c58 ⟨h60, h62⟩))) rfl ck_5_106 rfl m4_0 rfl rfl rfl (by decide) (Nat.le_of_ble_eq_true rfl) dX5_hourOn_174 rfl (fun v g' hq => ?_)
      obtain ⟨x, rfl, r67, eg, hx⟩ := hq
      subst hx
      refine J_eq eg ?_
      show J X 177 [(0, .ref (xad X (4, 0, 0))), (1, iv x2), (2, iv s48.1)] [iv (X5_wants_v s48.2 (s48.2 12 s48.1) (s48.2 9 s48.1)), iv (s48.2 4 (s48.2 12 s48.1))] (gs g0 4 0 s48.2)
      refine jr_iconst (pc := 177) F dX5_hourOn_177 ?_
      refine jr_idiv (pc := 178) F r67 (show Rg 2 from ⟨by decide, by decide⟩) (by decide) dX5_hourOn_178 ?_
      refine jr_icmp_ge (pc := 179) (tgt := 189) F r64 (rg_div _ _) dX5_hourOn_179 (by decide) (fun h68 => ?_) (fun h68 => ?_)
      · exact HF (fun q => (ng_lt h68) q.2)
      exact HT ⟨⟨h60, h62⟩, h68⟩
    · refine jr_aload_n (pc := 182) F 0 dX5_hourOn_182 rfl rfl ?_
      refine jr_getR (pc := 183) (b := (4, 0, 14)) F f_5_44 m4_0 rfl dX5_hourOn_183 ?_
      refine jr_iload_n (pc := 186) F 2 dX5_hourOn_186 rfl rfl ?_
      refine jr_iconst (pc := 187) F dX5_hourOn_187 ?_
      obtain ⟨L70, e71, k⟩ := Ok_let k
      refine jr_iast (pc := 188) F (gs g0 4 0 L70) m4_14 (by decide) c56 (show Rg 2 from ⟨by decide, by decide⟩) (put1 e71) dX5_hourOn_188 ?_
      refine jr_iinc (pc := 189) F [(2, iv (w32 (s48.1 + 1))), (0, .ref (xad X (4, 0, 0))), (1, iv x2)] 2 dX5_hourOn_189 rfl (by decide) rfl ?_
      refine jr_goto (pc := 192) (tgt := 124) F dX5_hourOn_192 (by decide) ?_
      refine jr_sub F [1, 2, 0] [(0, .ref (xad X (4, 0, 0))), (1, iv x2), (2, iv (w32 (s48.1 + 1)))] rfl ?_
      exact hC50 (w32 (s48.1 + 1), L70) (Ok_some k) (rg_w _)
    refine jr_iinc (pc := 189) F [(2, iv (w32 (s48.1 + 1))), (0, .ref (xad X (4, 0, 0))), (1, iv x2)] 2 dX5_hourOn_189 rfl (by decide) rfl ?_
    refine jr_goto (pc := 192) (tgt := 124) F dX5_hourOn_192 (by decide) ?_
    refine jr_sub F [1, 2, 0] [(0, .ref (xad X (4, 0, 0))), (1, iv x2), (2, iv (w32 (s48.1 + 1)))] rfl ?_
    exact hC50 (w32 (s48.1 + 1), s48.2) (Ok_some k) (rg_w _)
  intro r72
  refine jr_aload_n (pc := 195) F 0 dX5_hourOn_195 rfl rfl ?_
  refine jr_dup (pc := 196) F dX5_hourOn_196 rfl ?_
  refine jr_getI (pc := 197) F (z52.2 0 4) f_5_120 m4_0 rfl (gs_at' _ _ _ _ _ _) dX5_hourOn_197 (fun r73 => ?_)
  refine jr_iconst (pc := 200) F dX5_hourOn_200 ?_
  refine jr_iadd (pc := 201) F dX5_hourOn_201 ?_
  obtain ⟨L74, e75, k⟩ := Ok_let k
  refine jr_putI (pc := 202) F (gs g0 4 0 L74) fw_5_120 m4_0 rfl (rg_w _) (put1 e75) dX5_hourOn_202 ?_
  exact jr_vret (pc := 205) F hQ rfl dX5_hourOn_205 ⟨_, rfl, rfl, (Ok_some k)⟩
set_option maxHeartbeats 4000000 in
set_option maxRecDepth 100000 in
theorem snd_X5_throughIn {L0 : LT} {v_t : Int} {g0 : GG} (rgp_t : Rg v_t) {Q : (Int × LT) → Prop} (k : Ok (X5_throughIn L0 v_t) Q) : MetG SL yX5_throughIn cX5_throughIn 4 (some .int) 4 (fun ad => [.ref (ad (4, 0, 0)), iv v_t]) (gs g0 4 0 L0) (fun v g' => ∃ (x : Int) (L' : LT), v = some (iv x) ∧ Rg x ∧ g' = gs g0 4 0 L' ∧ Q (x, L')) := by
  refine met_intro SL_ok (by decide +kernel) (fun ad => Nat.le_of_ble_eq_true rfl) (fun X F hQ hR => ?_)
  replace F : FX X cX5_throughIn RX5 4 (some .int) SL 4 := F
  show J X 0 [(0, .ref (xad X (4, 0, 0))), (1, iv v_t)] [] (gs g0 4 0 L0)
  refine jr_iconst (pc := 0) F dX5_throughIn_0 ?_
  refine jr_istore_n (pc := 1) F [(2, iv 0), (0, .ref (xad X (4, 0, 0))), (1, iv v_t)] dX5_throughIn_1 rfl (by decide) rfl ?_
  refine jr_sub F [1, 2, 0] [(0, .ref (xad X (4, 0, 0))), (1, iv v_t), (2, iv 0)] rfl ?_
  refine lpj (P := fun s : Int × LT => Rg (s.1) → J X 2 [(0, .ref (xad X (4, 0, 0))), (1, iv v_t), (2, iv s.1)] [] (gs g0 4 0 s.2)) (PE := fun r : Int × LT => Rg (r.1) → J X 27 [(0, .ref (xad X (4, 0, 0))), (1, iv v_t), (2, iv r.1)] [] (gs g0 4 0 r.2)) k (fun s1 Q2 k hC3 hE4 r6 => ?_) (fun z5 k => ?_) (fun h => h (show Rg 0 from ⟨by decide, by decide⟩))
  · obtain ⟨c7, k⟩ := Ok_grd k
    refine cnd (c := (s1.1 < 72) ∧ ((s1.2 14 v_t) = 0)) (GT := J X 17 [(0, .ref (xad X (4, 0, 0))), (1, iv v_t), (2, iv s1.1)] [] (gs g0 4 0 s1.2)) (GF := J X 27 [(0, .ref (xad X (4, 0, 0))), (1, iv v_t), (2, iv s1.1)] [] (gs g0 4 0 s1.2)) k (fun HT HF => ?_) (fun h11 k => ?_) (fun h11 k => ?_)
    · refine jr_iload_n (pc := 2) F 2 dX5_throughIn_2 rfl rfl ?_
      refine jr_bipush (pc := 3) F dX5_throughIn_3 (by decide) ?_
      refine jr_icmp_ge (pc := 5) (tgt := 27) F r6 (show Rg 72 from ⟨by decide, by decide⟩) dX5_throughIn_5 (by decide) (fun h8 => ?_) (fun h8 => ?_)
      · exact HF (fun q => (ng_lt h8) q.1)
      refine jr_aload_n (pc := 8) F 0 dX5_throughIn_8 rfl rfl ?_
      refine jr_getR (pc := 9) (b := (4, 0, 14)) F f_5_44 m4_0 rfl dX5_throughIn_9 ?_
      refine jr_iload_n (pc := 12) F 1 dX5_throughIn_12 rfl rfl ?_
      refine jr_iald (pc := 13) F (s1.2 14 v_t) m4_14 (by decide) (c7 h8) (gs_at' _ _ _ _ _ _) dX5_throughIn_13 (fun r9 => ?_)
      refine jr_if_ne (pc := 14) (tgt := 27) F r9 dX5_throughIn_14 (by decide) (fun h10 => ?_) (fun h10 => ?_)
      · exact HF (fun q => h10 q.2)
      exact HT ⟨h8, h10⟩
    · refine jr_aload_n (pc := 17) F 0 dX5_throughIn_17 rfl rfl ?_
      have k := Ok_bind k
      refine jr_callV (pc := 18) (st := []) F [] (snd_X5_hourOn  (g0 := g0)  k) rfl ck_5_133 rfl m4_0 rfl rfl rfl (by decide) (Nat.le_of_ble_eq_true rfl) dX5_throughIn_18 rfl (fun v g' hq => ?_)
      obtain ⟨z13, rfl, eg, k⟩ := hq
      refine J_eq eg ?_
      show J X 21 [(0, .ref (xad X (4, 0, 0))), (1, iv v_t), (2, iv s1.1)] [] (gs g0 4 0 z13)
      refine jr_iinc (pc := 21) F [(2, iv (w32 (s1.1 + 1))), (0, .ref (xad X (4, 0, 0))), (1, iv v_t)] 2 dX5_throughIn_21 rfl (by decide) rfl ?_
      refine jr_goto (pc := 24) (tgt := 2) F dX5_throughIn_24 (by decide) ?_
      refine jr_sub F [1, 2, 0] [(0, .ref (xad X (4, 0, 0))), (1, iv v_t), (2, iv (w32 (s1.1 + 1)))] rfl ?_
      exact hC3 (w32 (s1.1 + 1), z13) (Ok_some k) (rg_w _)
    exact hE4 (s1.1, s1.2) (Ok_some k) r6
  intro r14
  obtain ⟨c15, k⟩ := Ok_grd k
  refine jifP (P := fun v => Rg v → J X 43 [(0, .ref (xad X (4, 0, 0))), (1, iv v_t), (2, iv z5.1)] (iv v :: []) (gs g0 4 0 z5.2)) (c := (z5.2 14 v_t) = 1) (z5.1) (99) (fun Ht Hf => ?_) (fun r18 => ?_)
  · refine jr_aload_n (pc := 27) F 0 dX5_throughIn_27 rfl rfl ?_
    refine jr_getR (pc := 28) (b := (4, 0, 14)) F f_5_44 m4_0 rfl dX5_throughIn_28 ?_
    refine jr_iload_n (pc := 31) F 1 dX5_throughIn_31 rfl rfl ?_
    refine jr_iald (pc := 32) F (z5.2 14 v_t) m4_14 (by decide) c15 (gs_at' _ _ _ _ _ _) dX5_throughIn_32 (fun r16 => ?_)
    refine jr_iconst (pc := 33) F dX5_throughIn_33 ?_
    refine jr_icmp_ne (pc := 34) (tgt := 41) F r16 (show Rg 1 from ⟨by decide, by decide⟩) dX5_throughIn_34 (by decide) (fun h17 => ?_) (fun h17 => ?_)
    · refine jr_bipush (pc := 41) F dX5_throughIn_41 (by decide) ?_
      exact Hf h17 (show Rg 99 from ⟨by decide, by decide⟩)
    refine jr_iload_n (pc := 37) F 2 dX5_throughIn_37 rfl rfl ?_
    refine jr_goto (pc := 38) (tgt := 43) F dX5_throughIn_38 (by decide) ?_
    exact Ht h17 r14
  obtain ⟨x19, e20, k⟩ := Ok_let k
  have r21 : Rg x19 := rg_of e20 r18
  refine jr_top e20 ?_
  refine jr_istore_n (pc := 43) F [(3, iv x19), (0, .ref (xad X (4, 0, 0))), (1, iv v_t), (2, iv z5.1)] dX5_throughIn_43 rfl (by decide) rfl ?_
  refine jr_aload_n (pc := 44) F 1 dX5_throughIn_44 rfl rfl ?_
  have k := Ok_bind k
  refine jr_callV (pc := 45) (st := []) F [] (snd_X5_close  (g0 := g0)  k) rfl ck_5_209 rfl m4_0 rfl rfl rfl (by decide) (Nat.le_of_ble_eq_true rfl) dX5_throughIn_45 rfl (fun v g' hq => ?_)
  obtain ⟨z23, rfl, eg, k⟩ := hq
  refine J_eq eg ?_
  show J X 48 [(3, iv x19), (0, .ref (xad X (4, 0, 0))), (1, iv v_t), (2, iv z5.1)] [] (gs g0 4 0 z23)
  refine jr_iload_n (pc := 48) F 0 dX5_throughIn_48 rfl rfl ?_
  exact jr_iret (pc := 49) F hQ rfl dX5_throughIn_49 ⟨_, _, rfl, r21, rfl, (Ok_some k)⟩
set_option maxHeartbeats 4000000 in
set_option maxRecDepth 100000 in
theorem snd_X5_in {v_v : Int} {v_low : Int} {v_high : Int} {g0 : GG} (rgp_v : Rl v_v) (rgp_low : Rl v_low) (rgp_high : Rl v_high) {Q : (Int) → Prop} (k : Ok (X5_in_f v_v v_low v_high) Q) : MetG SL yX5_in cX5_in 6 (some .boolean) 0 (fun ad => [lgv v_v, lgv v_low, lgv v_high]) (g0) (fun v g' => ∃ x : Int, v = some (iv x) ∧ Bz x ∧ g' = g0 ∧ Q x) := by
  refine met_intro SL_ok (by decide +kernel) (fun ad => Nat.le_of_ble_eq_true rfl) (fun X F hQ hR => ?_)
  replace F : FX X cX5_in RX5 6 (some .boolean) SL 0 := F
  show J X 0 [(0, lgv v_v), (2, lgv v_low), (4, lgv v_high)] [] (g0)
  refine jifP (P := fun v => Bz v → J X 18 [(0, lgv v_v), (2, lgv v_low), (4, lgv v_high)] (iv v :: []) (g0)) (c := (v_low ≤ v_v) ∧ (v_v ≤ v_high)) (1) (0) (fun Ht Hf => ?_) (fun r3 => ?_)
  · refine jr_lload_n (pc := 0) F 0 dX5_in_0 rfl rfl ?_
    refine jr_lload_n (pc := 1) F 1 dX5_in_1 rfl rfl ?_
    refine jr_lcmp_lt (pc := 2) (tgt := 17) F rgp_v rgp_low dX5_in_2 dX5_in_3 (by decide) (fun h1 => ?_) (fun h1 => ?_)
    · refine jr_iconst (pc := 17) F dX5_in_17 ?_
      exact Hf (fun q => (ng_le h1) q.1) (Or.inl rfl)
    refine jr_lload_n (pc := 6) F 0 dX5_in_6 rfl rfl ?_
    refine jr_lload (pc := 7) F 2 dX5_in_7 rfl ?_
    refine jr_lcmp_gt (pc := 9) (tgt := 17) F rgp_v rgp_high dX5_in_9 dX5_in_10 (by decide) (fun h2 => ?_) (fun h2 => ?_)
    · refine jr_iconst (pc := 17) F dX5_in_17 ?_
      exact Hf (fun q => (ng_le h2) q.2) (Or.inl rfl)
    refine jr_iconst (pc := 13) F dX5_in_13 ?_
    refine jr_goto (pc := 14) (tgt := 18) F dX5_in_14 (by decide) ?_
    exact Ht ⟨h1, h2⟩ (Or.inr rfl)
  exact jr_zret (pc := 18) F hQ rfl r3 dX5_in_18 ⟨_, rfl, r3, rfl, (Ok_some k)⟩
set_option maxHeartbeats 4000000 in
set_option maxRecDepth 100000 in
theorem snd_X5_isTrain {L0 : LT} {v_t : Int} {g0 : GG} (rgp_t : Rg v_t) {Q : (Int) → Prop} (k : Ok (X5_isTrain_f L0 v_t) Q) : MetG SL yX5_isTrain cX5_isTrain 2 (some .boolean) 1 (fun ad => [.ref (ad (4, 0, 0)), iv v_t]) (gs g0 4 0 L0) (fun v g' => ∃ x : Int, v = some (iv x) ∧ Bz x ∧ g' = gs g0 4 0 L0 ∧ Q x) := by
  refine met_intro SL_ok (by decide +kernel) (fun ad => Nat.le_of_ble_eq_true rfl) (fun X F hQ hR => ?_)
  replace F : FX X cX5_isTrain RX5 2 (some .boolean) SL 1 := F
  show J X 0 [(0, .ref (xad X (4, 0, 0))), (1, iv v_t)] [] (gs g0 4 0 L0)
  refine jr_iload_n (pc := 0) F 1 dX5_isTrain_0 rfl rfl ?_
  refine jr_i2l (pc := 1) F rgp_t dX5_isTrain_1 ?_
  refine jr_lconst (pc := 2) (v := 0) F dX5_isTrain_2 (by decide) ?_
  refine jr_aload_n (pc := 3) F 0 dX5_isTrain_3 rfl rfl ?_
  refine jr_getI (pc := 4) F (L0 0 7) f_5_99 m4_0 rfl (gs_at' _ _ _ _ _ _) dX5_isTrain_4 (fun r1 => ?_)
  refine jr_iconst (pc := 7) F dX5_isTrain_7 ?_
  refine jr_isub (pc := 8) F dX5_isTrain_8 ?_
  refine jr_i2l (pc := 9) F (rg_w _) dX5_isTrain_9 ?_
  refine jr_callS (pc := 10) (st := []) F [lgv v_t, lgv 0, lgv (w32 ((L0 0 7) - 1))] (snd_X5_in (g0 := gs g0 4 0 L0) (rl_rg rgp_t) (show Rl 0 from ⟨by decide, by decide⟩) (rl_rg (rg_w _)) (X5_in_ok _ _ _ )) rfl ck_5_95 rfl rfl (by decide) (Nat.le_of_ble_eq_true rfl) dX5_isTrain_10 rfl (fun v g' hq => ?_)
  obtain ⟨x, rfl, r2, eg, hx⟩ := hq
  subst hx
  refine J_eq eg ?_
  show J X 13 [(0, .ref (xad X (4, 0, 0))), (1, iv v_t)] [iv (X5_in_v v_t 0 (w32 ((L0 0 7) - 1)))] (gs g0 4 0 L0)
  exact jr_zret (pc := 13) F hQ rfl r2 dX5_isTrain_13 ⟨_, rfl, r2, rfl, (Ok_some k)⟩
set_option maxHeartbeats 4000000 in
set_option maxRecDepth 100000 in
theorem snd_X5_wrongAhead {L0 : LT} {v_t : Int} {v_wrong : Int} {g0 : GG} (rgp_t : Rg v_t) (rgp_wrong : Rg v_wrong) {Q : (Int) → Prop} (k : Ok (X5_wrongAhead_f L0 v_t v_wrong) Q) : MetG SL yX5_wrongAhead cX5_wrongAhead 3 (some .int) 2 (fun ad => [.ref (ad (4, 0, 0)), iv v_t, iv v_wrong]) (gs g0 4 0 L0) (fun v g' => ∃ x : Int, v = some (iv x) ∧ Rg x ∧ g' = gs g0 4 0 L0 ∧ Q x) := by
  refine met_intro SL_ok (by decide +kernel) (fun ad => Nat.le_of_ble_eq_true rfl) (fun X F hQ hR => ?_)
  replace F : FX X cX5_wrongAhead RX5 3 (some .int) SL 2 := F
  show J X 0 [(0, .ref (xad X (4, 0, 0))), (1, iv v_t), (2, iv v_wrong)] [] (gs g0 4 0 L0)
  obtain ⟨c1, k⟩ := Ok_grd k
  obtain ⟨c2, k⟩ := Ok_grd k
  refine jifP (P := fun v => Rg v → J X 44 [(0, .ref (xad X (4, 0, 0))), (1, iv v_t), (2, iv v_wrong)] (iv v :: []) (gs g0 4 0 L0)) (c := (X5_isTrain_v L0 v_t) = 0) ((-1)) (if v_wrong < 0 then v_wrong else if (0 ≤ (L0 12 v_t)) ∨ (¬ (L0 14 v_t) = 0) then (-3) else 0) (fun Ht Hf => ?_) (fun r12 => ?_)
  · refine jr_aload_n (pc := 0) F 0 dX5_wrongAhead_0 rfl rfl ?_
    refine jr_iload_n (pc := 1) F 1 dX5_wrongAhead_1 rfl rfl ?_
    refine jr_callV (pc := 2) (st := []) F [iv v_t] (snd_X5_isTrain  (g0 := g0) rgp_t (X5_isTrain_ok _ _ )) rfl ck_5_192 rfl m4_0 rfl rfl rfl (by decide) (Nat.le_of_ble_eq_true rfl) dX5_wrongAhead_2 rfl (fun v g' hq => ?_)
    obtain ⟨x, rfl, r3, eg, hx⟩ := hq
    subst hx
    refine J_eq eg ?_
    show J X 5 [(0, .ref (xad X (4, 0, 0))), (1, iv v_t), (2, iv v_wrong)] [iv (X5_isTrain_v L0 v_t)] (gs g0 4 0 L0)
    refine jr_if_ne (pc := 5) (tgt := 12) F (rg_z r3) dX5_wrongAhead_5 (by decide) (fun h4 => ?_) (fun h4 => ?_)
    · refine jifP (P := fun v => Rg v → J X 44 [(0, .ref (xad X (4, 0, 0))), (1, iv v_t), (2, iv v_wrong)] (iv v :: []) (gs g0 4 0 L0)) (c := v_wrong < 0) (v_wrong) (if (0 ≤ (L0 12 v_t)) ∨ (¬ (L0 14 v_t) = 0) then (-3) else 0) (fun Ht Hf => ?_) (fun r11 => ?_)
      · refine jr_iload_n (pc := 12) F 2 dX5_wrongAhead_12 rfl rfl ?_
        refine jr_if_ge (pc := 13) (tgt := 20) F rgp_wrong dX5_wrongAhead_13 (by decide) (fun h5 => ?_) (fun h5 => ?_)
        · refine jifP (P := fun v => Rg v → J X 44 [(0, .ref (xad X (4, 0, 0))), (1, iv v_t), (2, iv v_wrong)] (iv v :: []) (gs g0 4 0 L0)) (c := (0 ≤ (L0 12 v_t)) ∨ (¬ (L0 14 v_t) = 0)) ((-3)) (0) (fun Ht Hf => ?_) (fun r10 => ?_)
          · refine jr_aload_n (pc := 20) F 0 dX5_wrongAhead_20 rfl rfl ?_
            refine jr_getR (pc := 21) (b := (4, 0, 12)) F f_5_38 m4_0 rfl dX5_wrongAhead_21 ?_
            refine jr_iload_n (pc := 24) F 1 dX5_wrongAhead_24 rfl rfl ?_
            refine jr_iald (pc := 25) F (L0 12 v_t) m4_12 (by decide) (c1 h4 (ng_lt h5)) (gs_at' _ _ _ _ _ _) dX5_wrongAhead_25 (fun r6 => ?_)
            refine jr_if_ge (pc := 26) (tgt := 38) F r6 dX5_wrongAhead_26 (by decide) (fun h7 => ?_) (fun h7 => ?_)
            · refine jr_bipush (pc := 38) F dX5_wrongAhead_38 (by decide) ?_
              refine jr_goto (pc := 40) (tgt := 44) F dX5_wrongAhead_40 (by decide) ?_
              exact Ht (Or.inl h7) (show Rg (-3) from ⟨by decide, by decide⟩)
            refine jr_aload_n (pc := 29) F 0 dX5_wrongAhead_29 rfl rfl ?_
            refine jr_getR (pc := 30) (b := (4, 0, 14)) F f_5_44 m4_0 rfl dX5_wrongAhead_30 ?_
            refine jr_iload_n (pc := 33) F 1 dX5_wrongAhead_33 rfl rfl ?_
            refine jr_iald (pc := 34) F (L0 14 v_t) m4_14 (by decide) (c2 h4 (ng_lt h5) (ng_le h7)) (gs_at' _ _ _ _ _ _) dX5_wrongAhead_34 (fun r8 => ?_)
            refine jr_if_eq (pc := 35) (tgt := 43) F r8 dX5_wrongAhead_35 (by decide) (fun h9 => ?_) (fun h9 => ?_)
            · refine jr_iconst (pc := 43) F dX5_wrongAhead_43 ?_
              exact Hf (fun q => q.elim (ng_le h7) (fun q => q h9)) (show Rg 0 from ⟨by decide, by decide⟩)
            refine jr_bipush (pc := 38) F dX5_wrongAhead_38 (by decide) ?_
            refine jr_goto (pc := 40) (tgt := 44) F dX5_wrongAhead_40 (by decide) ?_
            exact Ht (Or.inr h9) (show Rg (-3) from ⟨by decide, by decide⟩)
          exact Hf (ng_lt h5) r10
        refine jr_iload_n (pc := 16) F 2 dX5_wrongAhead_16 rfl rfl ?_
        refine jr_goto (pc := 17) (tgt := 44) F dX5_wrongAhead_17 (by decide) ?_
        exact Ht h5 rgp_wrong
      exact Hf h4 r11
    refine jr_iconst (pc := 8) F dX5_wrongAhead_8 ?_
    refine jr_goto (pc := 9) (tgt := 44) F dX5_wrongAhead_9 (by decide) ?_
    exact Ht h4 (show Rg (-1) from ⟨by decide, by decide⟩)
  exact jr_iret (pc := 44) F hQ rfl dX5_wrongAhead_44 ⟨_, rfl, r12, rfl, (Ok_some k)⟩
set_option maxHeartbeats 4000000 in
set_option maxRecDepth 100000 in
theorem snd_X5_wrongBit {v_wrong : Int} {v_v : Int} {v_most : Int} {g0 : GG} (rgp_wrong : Rg v_wrong) (rgp_v : Rg v_v) (rgp_most : Rg v_most) {Q : (Int) → Prop} (k : Ok (X5_wrongBit_f v_wrong v_v v_most) Q) : MetG SL yX5_wrongBit cX5_wrongBit 3 (some .int) 1 (fun ad => [iv v_wrong, iv v_v, iv v_most]) (g0) (fun v g' => ∃ x : Int, v = some (iv x) ∧ Rg x ∧ g' = g0 ∧ Q x) := by
  refine met_intro SL_ok (by decide +kernel) (fun ad => Nat.le_of_ble_eq_true rfl) (fun X F hQ hR => ?_)
  replace F : FX X cX5_wrongBit RX5 3 (some .int) SL 1 := F
  show J X 0 [(0, iv v_wrong), (1, iv v_v), (2, iv v_most)] [] (g0)
  refine jifP (P := fun v => Rg v → J X 21 [(0, iv v_wrong), (1, iv v_v), (2, iv v_most)] (iv v :: []) (g0)) (c := (v_wrong = 0) ∧ ((X5_in_v v_v 0 v_most) = 0)) ((-2)) (v_wrong) (fun Ht Hf => ?_) (fun r4 => ?_)
  · refine jr_iload_n (pc := 0) F 0 dX5_wrongBit_0 rfl rfl ?_
    refine jr_if_ne (pc := 1) (tgt := 20) F rgp_wrong dX5_wrongBit_1 (by decide) (fun h1 => ?_) (fun h1 => ?_)
    · refine jr_iload_n (pc := 20) F 0 dX5_wrongBit_20 rfl rfl ?_
      exact Hf (fun q => h1 q.1) rgp_wrong
    refine jr_iload_n (pc := 4) F 1 dX5_wrongBit_4 rfl rfl ?_
    refine jr_i2l (pc := 5) F rgp_v dX5_wrongBit_5 ?_
    refine jr_lconst (pc := 6) (v := 0) F dX5_wrongBit_6 (by decide) ?_
    refine jr_iload_n (pc := 7) F 2 dX5_wrongBit_7 rfl rfl ?_
    refine jr_i2l (pc := 8) F rgp_most dX5_wrongBit_8 ?_
    refine jr_callS (pc := 9) (st := []) F [lgv v_v, lgv 0, lgv v_most] (snd_X5_in (g0 := g0) (rl_rg rgp_v) (show Rl 0 from ⟨by decide, by decide⟩) (rl_rg rgp_most) (X5_in_ok _ _ _ )) rfl ck_5_95 rfl rfl (by decide) (Nat.le_of_ble_eq_true rfl) dX5_wrongBit_9 rfl (fun v g' hq => ?_)
    obtain ⟨x, rfl, r2, eg, hx⟩ := hq
    subst hx
    refine J_eq eg ?_
    show J X 12 [(0, iv v_wrong), (1, iv v_v), (2, iv v_most)] [iv (X5_in_v v_v 0 v_most)] (g0)
    refine jr_if_ne (pc := 12) (tgt := 20) F (rg_z r2) dX5_wrongBit_12 (by decide) (fun h3 => ?_) (fun h3 => ?_)
    · refine jr_iload_n (pc := 20) F 0 dX5_wrongBit_20 rfl rfl ?_
      exact Hf (fun q => h3 q.2) rgp_wrong
    refine jr_bipush (pc := 15) F dX5_wrongBit_15 (by decide) ?_
    refine jr_goto (pc := 17) (tgt := 21) F dX5_wrongBit_17 (by decide) ?_
    exact Ht ⟨h1, h3⟩ (show Rg (-2) from ⟨by decide, by decide⟩)
  exact jr_iret (pc := 21) F hQ rfl dX5_wrongBit_21 ⟨_, rfl, r4, rfl, (Ok_some k)⟩
set_option maxHeartbeats 4000000 in
set_option maxRecDepth 100000 in
theorem snd_X5_bestWait {L0 : LT} {v_t : Int} {v_what : Int} {g0 : GG} (rgp_t : Rg v_t) (rgp_what : Rg v_what) {Q : (Int × LT) → Prop} (k : Ok (X5_bestWait L0 v_t v_what) Q) : MetG SL yX5_bestWait cX5_bestWait 8 (some .int) 5 (fun ad => [.ref (ad (4, 0, 0)), iv v_t, iv v_what]) (gs g0 4 0 L0) (fun v g' => ∃ (x : Int) (L' : LT), v = some (iv x) ∧ Rg x ∧ g' = gs g0 4 0 L' ∧ Q (x, L')) := by
  refine met_intro SL_ok (by decide +kernel) (fun ad => Nat.le_of_ble_eq_true rfl) (fun X F hQ hR => ?_)
  replace F : FX X cX5_bestWait RX5 8 (some .int) SL 5 := F
  show J X 0 [(0, .ref (xad X (4, 0, 0))), (1, iv v_t), (2, iv v_what)] [] (gs g0 4 0 L0)
  refine jr_aload_n (pc := 0) F 0 dX5_bestWait_0 rfl rfl ?_
  refine jr_iconst (pc := 1) F dX5_bestWait_1 ?_
  obtain ⟨L1, e2, k⟩ := Ok_let k
  refine jr_putI (pc := 2) F (gs g0 4 0 L1) fw_5_92 m4_0 rfl (show Rg 0 from ⟨by decide, by decide⟩) (put1 e2) dX5_bestWait_2 ?_
  refine jr_aload_n (pc := 5) F 0 dX5_bestWait_5 rfl rfl ?_
  refine jr_iload_n (pc := 6) F 1 dX5_bestWait_6 rfl rfl ?_
  refine jr_iconst (pc := 7) F dX5_bestWait_7 ?_
  refine jr_iload_n (pc := 8) F 2 dX5_bestWait_8 rfl rfl ?_
  refine jr_iconst (pc := 9) F dX5_bestWait_9 ?_
  refine jr_callS (pc := 10) (st := [iv v_t, .ref (xad X (4, 0, 0))]) F [iv 0, iv v_what, iv 1] (snd_X5_wrongBit (g0 := gs g0 4 0 L1) (show Rg 0 from ⟨by decide, by decide⟩) rgp_what (show Rg 1 from ⟨by decide, by decide⟩) (X5_wrongBit_ok _ _ _ )) rfl ck_5_246 rfl rfl (by decide) (Nat.le_of_ble_eq_true rfl) dX5_bestWait_10 rfl (fun v g' hq => ?_)
  obtain ⟨x, rfl, r3, eg, hx⟩ := hq
  subst hx
  refine J_eq eg ?_
  show J X 13 [(0, .ref (xad X (4, 0, 0))), (1, iv v_t), (2, iv v_what)] [iv (X5_wrongBit_v 0 v_what 1), iv v_t, .ref (xad X (4, 0, 0))] (gs g0 4 0 L1)
  obtain ⟨c5, k⟩ := Ok_grd k
  refine jr_callV (pc := 13) (st := []) F [iv v_t, iv (X5_wrongBit_v 0 v_what 1)] (snd_X5_wrongAhead  (g0 := g0) rgp_t r3 (X5_wrongAhead_ok _ _ _ c5)) rfl ck_5_249 rfl m4_0 rfl rfl rfl (by decide) (Nat.le_of_ble_eq_true rfl) dX5_bestWait_13 rfl (fun v g' hq => ?_)
  obtain ⟨x, rfl, r4, eg, hx⟩ := hq
  subst hx
  refine J_eq eg ?_
  show J X 16 [(0, .ref (xad X (4, 0, 0))), (1, iv v_t), (2, iv v_what)] [iv (X5_wrongAhead_v L1 v_t (X5_wrongBit_v 0 v_what 1))] (gs g0 4 0 L1)
  obtain ⟨x6, e7, k⟩ := Ok_let k
  have r8 : Rg x6 := rg_of e7 r4
  refine jr_top e7 ?_
  refine jr_istore_n (pc := 16) F [(3, iv x6), (0, .ref (xad X (4, 0, 0))), (1, iv v_t), (2, iv v_what)] dX5_bestWait_16 rfl (by decide) rfl ?_
  refine jr_iload_n (pc := 17) F 0 dX5_bestWait_17 rfl rfl ?_
  refine jr_if_ge (pc := 18) (tgt := 27) F r8 dX5_bestWait_18 (by decide) (fun h9 => ?_) (fun h9 => ?_)
  · have k := Ok_f (ng_lt h9) k
    refine jr_bipush (pc := 27) F dX5_bestWait_27 (by decide) ?_
    refine jr_istore (pc := 29) F [(4, iv (-9)), (3, iv x6), (0, .ref (xad X (4, 0, 0))), (1, iv v_t), (2, iv v_what)] dX5_bestWait_29 (by decide) rfl ?_
    refine jr_bipush (pc := 31) F dX5_bestWait_31 (by decide) ?_
    refine jr_istore (pc := 33) F [(5, iv 99), (4, iv (-9)), (3, iv x6), (0, .ref (xad X (4, 0, 0))), (1, iv v_t), (2, iv v_what)] dX5_bestWait_33 (by decide) rfl ?_
    refine jr_aload_n (pc := 35) F 3 dX5_bestWait_35 rfl rfl ?_
    have k := Ok_bind k
    refine jr_callV (pc := 36) (st := []) F [] (snd_X5_open  (g0 := g0)  k) rfl ck_5_203 rfl m4_0 rfl rfl rfl (by decide) (Nat.le_of_ble_eq_true rfl) dX5_bestWait_36 rfl (fun v g' hq => ?_)
    obtain ⟨z11, rfl, eg, k⟩ := hq
    refine J_eq eg ?_
    show J X 39 [(5, iv 99), (4, iv (-9)), (3, iv x6), (0, .ref (xad X (4, 0, 0))), (1, iv v_t), (2, iv v_what)] [] (gs g0 4 0 z11)
    refine jr_iconst (pc := 39) F dX5_bestWait_39 ?_
    refine jr_istore (pc := 40) F [(6, iv 0), (5, iv 99), (4, iv (-9)), (3, iv x6), (0, .ref (xad X (4, 0, 0))), (1, iv v_t), (2, iv v_what)] dX5_bestWait_40 (by decide) rfl ?_
    refine jr_sub F [4, 5, 6, 3, 2, 1, 0] [(0, .ref (xad X (4, 0, 0))), (1, iv v_t), (2, iv v_what), (3, iv x6), (4, iv (-9)), (5, iv 99), (6, iv 0)] rfl ?_
    refine lpj (P := fun s : Int × Int × Int × LT => Rg (s.1) → Rg (s.2.1) → Rg (s.2.2.1) → J X 42 [(0, .ref (xad X (4, 0, 0))), (1, iv v_t), (2, iv v_what), (3, iv x6), (4, iv s.1), (5, iv s.2.1), (6, iv s.2.2.1)] [] (gs g0 4 0 s.2.2.2)) (PE := fun r : Int × Int × Int × LT => Rg (r.1) → Rg (r.2.1) → Rg (r.2.2.1) → J X 102 [(0, .ref (xad X (4, 0, 0))), (1, iv v_t), (2, iv v_what), (3, iv x6), (4, iv r.1), (5, iv r.2.1), (6, iv r.2.2.1)] [] (gs g0 4 0 r.2.2.2)) k (fun s12 Q13 k hC14 hE15 r17 r18 r19 => ?_) (fun z16 k => ?_) (fun h => h (show Rg (-9) from ⟨by decide, by decide⟩) (show Rg 99 from ⟨by decide, by decide⟩) (show Rg 0 from ⟨by decide, by decide⟩))
    · refine jr_iload (pc := 42) F 6 dX5_bestWait_42 rfl ?_
      refine jr_bipush (pc := 44) F dX5_bestWait_44 (by decide) ?_
      refine jr_icmp_gt (pc := 46) (tgt := 102) F r19 (show Rg 48 from ⟨by decide, by decide⟩) dX5_bestWait_46 (by decide) (fun h20 => ?_) (fun h20 => ?_)
      · have k := Ok_f (ng_le h20) k
        exact hE15 (s12.1, s12.2.1, s12.2.2.1, s12.2.2.2) (Ok_some k) r17 r18 r19
      have k := Ok_t h20 k
      refine jr_aload_n (pc := 49) F 0 dX5_bestWait_49 rfl rfl ?_
      refine jr_getR (pc := 50) (b := (4, 0, 13)) F f_5_41 m4_0 rfl dX5_bestWait_50 ?_
      refine jr_iload_n (pc := 53) F 1 dX5_bestWait_53 rfl rfl ?_
      refine jr_iload (pc := 54) F 6 dX5_bestWait_54 rfl ?_
      obtain ⟨c21, k⟩ := Ok_grd k
      obtain ⟨L22, e23, k⟩ := Ok_let k
      refine jr_iast (pc := 56) F (gs g0 4 0 L22) m4_13 (by decide) c21 r19 (put1 e23) dX5_bestWait_56 ?_
      refine jr_aload_n (pc := 57) F 0 dX5_bestWait_57 rfl rfl ?_
      refine jr_iload_n (pc := 58) F 1 dX5_bestWait_58 rfl rfl ?_
      have k := Ok_bind k
      refine jr_callV (pc := 59) (st := []) F [iv v_t] (snd_X5_throughIn  (g0 := g0) rgp_t k) rfl ck_5_252 rfl m4_0 rfl rfl rfl (by decide) (Nat.le_of_ble_eq_true rfl) dX5_bestWait_59 rfl (fun v g' hq => ?_)
      obtain ⟨x, L', rfl, r24, eg, k⟩ := hq
      obtain ⟨z25, ez⟩ : ∃ z : Int × LT, z = (x, L') := ⟨_, rfl⟩
      obtain ⟨rfl, rfl⟩ : x = z25.1 ∧ L' = z25.2 := ⟨by rw [ez], by rw [ez]⟩
      clear ez
      refine J_eq eg ?_
      show J X 62 [(0, .ref (xad X (4, 0, 0))), (1, iv v_t), (2, iv v_what), (3, iv x6), (4, iv s12.1), (5, iv s12.2.1), (6, iv s12.2.2.1)] [iv z25.1] (gs g0 4 0 z25.2)
      refine jr_istore (pc := 62) F [(7, iv z25.1), (0, .ref (xad X (4, 0, 0))), (1, iv v_t), (2, iv v_what), (3, iv x6), (4, iv s12.1), (5, iv s12.2.1), (6, iv s12.2.2.1)] dX5_bestWait_62 (by decide) rfl ?_
      refine jifP (P := fun v => Rg v → J X 78 [(7, iv z25.1), (0, .ref (xad X (4, 0, 0))), (1, iv v_t), (2, iv v_what), (3, iv x6), (4, iv s12.1), (5, iv s12.2.1), (6, iv s12.2.2.1)] (iv v :: []) (gs g0 4 0 z25.2)) (c := z25.1 < s12.2.1) (s12.2.2.1) (s12.1) (fun Ht Hf => ?_) (fun r27 => ?_)
      · refine jr_iload (pc := 64) F 0 dX5_bestWait_64 rfl ?_
        refine jr_iload (pc := 66) F 6 dX5_bestWait_66 rfl ?_
        refine jr_icmp_ge (pc := 68) (tgt := 76) F r24 r18 dX5_bestWait_68 (by decide) (fun h26 => ?_) (fun h26 => ?_)
        · refine jr_iload (pc := 76) F 5 dX5_bestWait_76 rfl ?_
          exact Hf (ng_lt h26) r17
        refine jr_iload (pc := 71) F 7 dX5_bestWait_71 rfl ?_
        refine jr_goto (pc := 73) (tgt := 78) F dX5_bestWait_73 (by decide) ?_
        exact Ht h26 r19
      obtain ⟨x28, e29, k⟩ := Ok_let k
      have r30 : Rg x28 := rg_of e29 r27
      refine jr_top e29 ?_
      refine jr_istore (pc := 78) F [(4, iv x28), (7, iv z25.1), (0, .ref (xad X (4, 0, 0))), (1, iv v_t), (2, iv v_what), (3, iv x6), (5, iv s12.2.1), (6, iv s12.2.2.1)] dX5_bestWait_78 (by decide) rfl ?_
      refine jifP (P := fun v => Rg v → J X 94 [(4, iv x28), (7, iv z25.1), (0, .ref (xad X (4, 0, 0))), (1, iv v_t), (2, iv v_what), (3, iv x6), (5, iv s12.2.1), (6, iv s12.2.2.1)] (iv v :: []) (gs g0 4 0 z25.2)) (c := z25.1 < s12.2.1) (z25.1) (s12.2.1) (fun Ht Hf => ?_) (fun r32 => ?_)
      · refine jr_iload (pc := 80) F 1 dX5_bestWait_80 rfl ?_
        refine jr_iload (pc := 82) F 6 dX5_bestWait_82 rfl ?_
        refine jr_icmp_ge (pc := 84) (tgt := 92) F r24 r18 dX5_bestWait_84 (by decide) (fun h31 => ?_) (fun h31 => ?_)
        · refine jr_iload (pc := 92) F 6 dX5_bestWait_92 rfl ?_
          exact Hf (ng_lt h31) r18
        refine jr_iload (pc := 87) F 1 dX5_bestWait_87 rfl ?_
        refine jr_goto (pc := 89) (tgt := 94) F dX5_bestWait_89 (by decide) ?_
        exact Ht h31 r24
      obtain ⟨x33, e34, k⟩ := Ok_let k
      have r35 : Rg x33 := rg_of e34 r32
      refine jr_top e34 ?_
      refine jr_istore (pc := 94) F [(5, iv x33), (4, iv x28), (7, iv z25.1), (0, .ref (xad X (4, 0, 0))), (1, iv v_t), (2, iv v_what), (3, iv x6), (6, iv s12.2.2.1)] dX5_bestWait_94 (by decide) rfl ?_
      refine jr_iinc (pc := 96) F [(6, iv (w32 (s12.2.2.1 + 1))), (5, iv x33), (4, iv x28), (7, iv z25.1), (0, .ref (xad X (4, 0, 0))), (1, iv v_t), (2, iv v_what), (3, iv x6)] 7 dX5_bestWait_96 rfl (by decide) rfl ?_
      refine jr_goto (pc := 99) (tgt := 42) F dX5_bestWait_99 (by decide) ?_
      refine jr_sub F [4, 5, 6, 7, 2, 1, 0] [(0, .ref (xad X (4, 0, 0))), (1, iv v_t), (2, iv v_what), (3, iv x6), (4, iv x28), (5, iv x33), (6, iv (w32 (s12.2.2.1 + 1)))] rfl ?_
      exact hC14 (x28, x33, w32 (s12.2.2.1 + 1), z25.2) (Ok_some k) r30 r35 (rg_w _)
    intro r36 r37 r38
    refine jifP (P := fun v => Rg v → J X 118 [(0, .ref (xad X (4, 0, 0))), (1, iv v_t), (2, iv v_what), (3, iv x6), (4, iv z16.1), (5, iv z16.2.1), (6, iv z16.2.2.1)] (iv v :: []) (gs g0 4 0 z16.2.2.2)) (c := (v_what = 0) ∨ (z16.1 < 0)) (z16.1) (z16.2.1) (fun Ht Hf => ?_) (fun r41 => ?_)
    · refine jr_iload_n (pc := 102) F 2 dX5_bestWait_102 rfl rfl ?_
      refine jr_if_eq (pc := 103) (tgt := 111) F rgp_what dX5_bestWait_103 (by decide) (fun h39 => ?_) (fun h39 => ?_)
      · refine jr_iload (pc := 111) F 4 dX5_bestWait_111 rfl ?_
        refine jr_goto (pc := 113) (tgt := 118) F dX5_bestWait_113 (by decide) ?_
        exact Ht (Or.inl h39) r36
      refine jr_iload (pc := 106) F 4 dX5_bestWait_106 rfl ?_
      refine jr_if_ge (pc := 108) (tgt := 116) F r36 dX5_bestWait_108 (by decide) (fun h40 => ?_) (fun h40 => ?_)
      · refine jr_iload (pc := 116) F 5 dX5_bestWait_116 rfl ?_
        exact Hf (fun q => q.elim h39 (ng_lt h40)) r37
      refine jr_iload (pc := 111) F 4 dX5_bestWait_111 rfl ?_
      refine jr_goto (pc := 113) (tgt := 118) F dX5_bestWait_113 (by decide) ?_
      exact Ht (Or.inr h40) r36
    exact jr_iret (pc := 118) F hQ rfl dX5_bestWait_118 ⟨_, _, rfl, r41, rfl, (Ok_some k)⟩
  have k := Ok_t h9 k
  refine jr_aload_n (pc := 21) F 1 dX5_bestWait_21 rfl rfl ?_
  refine jr_iload_n (pc := 22) F 0 dX5_bestWait_22 rfl rfl ?_
  have k := Ok_bind k
  refine jr_callV (pc := 23) (st := []) F [iv x6] (snd_X5_refuse  (g0 := g0) r8 k) rfl ck_5_139 rfl m4_0 rfl rfl rfl (by decide) (Nat.le_of_ble_eq_true rfl) dX5_bestWait_23 rfl (fun v g' hq => ?_)
  obtain ⟨x, L', rfl, r42, eg, k⟩ := hq
  obtain ⟨z43, ez⟩ : ∃ z : Int × LT, z = (x, L') := ⟨_, rfl⟩
  obtain ⟨rfl, rfl⟩ : x = z43.1 ∧ L' = z43.2 := ⟨by rw [ez], by rw [ez]⟩
  clear ez
  refine J_eq eg ?_
  show J X 26 [(3, iv x6), (0, .ref (xad X (4, 0, 0))), (1, iv v_t), (2, iv v_what)] [iv z43.1] (gs g0 4 0 z43.2)
  exact jr_iret (pc := 26) F hQ rfl dX5_bestWait_26 ⟨_, _, rfl, r42, rfl, (Ok_some k)⟩
set_option maxHeartbeats 4000000 in
set_option maxRecDepth 100000 in
theorem snd_X5_hasBit {v_bits : Int} {v_k : Int} {g0 : GG} (rgp_bits : Rg v_bits) (rgp_k : Rg v_k) {Q : (Int) → Prop} (k : Ok (X5_hasBit_f v_bits v_k) Q) : MetG SL yX5_hasBit cX5_hasBit 2 (some .boolean) 0 (fun ad => [iv v_bits, iv v_k]) (g0) (fun v g' => ∃ x : Int, v = some (iv x) ∧ Bz x ∧ g' = g0 ∧ Q x) := by
  refine met_intro SL_ok (by decide +kernel) (fun ad => Nat.le_of_ble_eq_true rfl) (fun X F hQ hR => ?_)
  replace F : FX X cX5_hasBit RX5 2 (some .boolean) SL 0 := F
  show J X 0 [(0, iv v_bits), (1, iv v_k)] [] (g0)
  refine jifP (P := fun v => Bz v → J X 14 [(0, iv v_bits), (1, iv v_k)] (iv v :: []) (g0)) (c := (b_and (b_shr v_bits v_k) 1) = 1) (1) (0) (fun Ht Hf => ?_) (fun r2 => ?_)
  · refine jr_iload_n (pc := 0) F 0 dX5_hasBit_0 rfl rfl ?_
    refine jr_iload_n (pc := 1) F 1 dX5_hasBit_1 rfl rfl ?_
    refine jr_ishr (pc := 2) F dX5_hasBit_2 ?_
    refine jr_iconst (pc := 3) F dX5_hasBit_3 ?_
    refine jr_iand (pc := 4) F dX5_hasBit_4 ?_
    refine jr_iconst (pc := 5) F dX5_hasBit_5 ?_
    refine jr_icmp_ne (pc := 6) (tgt := 13) F (rg_and _ _) (show Rg 1 from ⟨by decide, by decide⟩) dX5_hasBit_6 (by decide) (fun h1 => ?_) (fun h1 => ?_)
    · refine jr_iconst (pc := 13) F dX5_hasBit_13 ?_
      exact Hf h1 (Or.inl rfl)
    refine jr_iconst (pc := 9) F dX5_hasBit_9 ?_
    refine jr_goto (pc := 10) (tgt := 14) F dX5_hasBit_10 (by decide) ?_
    exact Ht h1 (Or.inr rfl)
  exact jr_zret (pc := 14) F hQ rfl r2 dX5_hasBit_14 ⟨_, rfl, r2, rfl, (Ok_some k)⟩
set_option maxHeartbeats 4000000 in
set_option maxRecDepth 100000 in
theorem snd_X5_goHours {L0 : LT} {v_n : Int} {g0 : GG} (rgp_n : Rg v_n) {Q : (LT) → Prop} (k : Ok (X5_goHours L0 v_n) Q) : MetG SL yX5_goHours cX5_goHours 5 none 4 (fun ad => [.ref (ad (4, 0, 0)), iv v_n]) (gs g0 4 0 L0) (fun v g' => ∃ L' : LT, v = none ∧ g' = gs g0 4 0 L' ∧ Q L') := by
  refine met_intro SL_ok (by decide +kernel) (fun ad => Nat.le_of_ble_eq_true rfl) (fun X F hQ hR => ?_)
  replace F : FX X cX5_goHours RX5 5 none SL 4 := F
  show J X 0 [(0, .ref (xad X (4, 0, 0))), (1, iv v_n)] [] (gs g0 4 0 L0)
  refine jr_iconst (pc := 0) F dX5_goHours_0 ?_
  refine jr_istore_n (pc := 1) F [(2, iv 0), (0, .ref (xad X (4, 0, 0))), (1, iv v_n)] dX5_goHours_1 rfl (by decide) rfl ?_
  refine jr_sub F [1, 2, 0] [(0, .ref (xad X (4, 0, 0))), (1, iv v_n), (2, iv 0)] rfl ?_
  refine lpj (P := fun s : Int × LT => Rg (s.1) → J X 2 [(0, .ref (xad X (4, 0, 0))), (1, iv v_n), (2, iv s.1)] [] (gs g0 4 0 s.2)) (PE := fun r : Int × LT => Rg (r.1) → J X 28 [(0, .ref (xad X (4, 0, 0))), (1, iv v_n), (2, iv r.1)] [] (gs g0 4 0 r.2)) k (fun s1 Q2 k hC3 hE4 r6 => ?_) (fun z5 k => ?_) (fun h => h (show Rg 0 from ⟨by decide, by decide⟩))
  · refine jr_iload_n (pc := 2) F 2 dX5_goHours_2 rfl rfl ?_
    refine jr_iconst (pc := 3) F dX5_goHours_3 ?_
    refine jr_icmp_ge (pc := 4) (tgt := 28) F r6 (show Rg 5 from ⟨by decide, by decide⟩) dX5_goHours_4 (by decide) (fun h7 => ?_) (fun h7 => ?_)
    · have k := Ok_f (ng_lt h7) k
      exact hE4 (s1.1, s1.2) (Ok_some k) r6
    have k := Ok_t h7 k
    refine jr_aload_n (pc := 7) F 0 dX5_goHours_7 rfl rfl ?_
    refine jr_getR (pc := 8) (b := (4, 0, 17)) F f_5_50 m4_0 rfl dX5_goHours_8 ?_
    refine jr_iload_n (pc := 11) F 2 dX5_goHours_11 rfl rfl ?_
    refine jr_iconst (pc := 12) F dX5_goHours_12 ?_
    obtain ⟨c8, k⟩ := Ok_grd k
    obtain ⟨L9, e10, k⟩ := Ok_let k
    refine jr_iast (pc := 13) F (gs g0 4 0 L9) m4_17 (by decide) c8 (show Rg 0 from ⟨by decide, by decide⟩) (put1 e10) dX5_goHours_13 ?_
    refine jr_aload_n (pc := 14) F 0 dX5_goHours_14 rfl rfl ?_
    refine jr_getR (pc := 15) (b := (4, 0, 18)) F f_5_53 m4_0 rfl dX5_goHours_15 ?_
    refine jr_iload_n (pc := 18) F 2 dX5_goHours_18 rfl rfl ?_
    refine jr_bipush (pc := 19) F dX5_goHours_19 (by decide) ?_
    obtain ⟨L11, e12, k⟩ := Ok_let k
    refine jr_iast (pc := 21) F (gs g0 4 0 L11) m4_18 (by decide) c8 (show Rg (-9) from ⟨by decide, by decide⟩) (put1 e12) dX5_goHours_21 ?_
    refine jr_iinc (pc := 22) F [(2, iv (w32 (s1.1 + 1))), (0, .ref (xad X (4, 0, 0))), (1, iv v_n)] 2 dX5_goHours_22 rfl (by decide) rfl ?_
    refine jr_goto (pc := 25) (tgt := 2) F dX5_goHours_25 (by decide) ?_
    refine jr_sub F [1, 2, 0] [(0, .ref (xad X (4, 0, 0))), (1, iv v_n), (2, iv (w32 (s1.1 + 1)))] rfl ?_
    exact hC3 (w32 (s1.1 + 1), L11) (Ok_some k) (rg_w _)
  intro r13
  refine jr_iconst (pc := 28) F dX5_goHours_28 ?_
  refine jr_istore_n (pc := 29) F [(2, iv 1), (0, .ref (xad X (4, 0, 0))), (1, iv v_n)] dX5_goHours_29 rfl (by decide) rfl ?_
  refine jr_sub F [1, 2, 0] [(0, .ref (xad X (4, 0, 0))), (1, iv v_n), (2, iv 1)] rfl ?_
  refine lpj (P := fun s : Int × LT => Rg (s.1) → J X 30 [(0, .ref (xad X (4, 0, 0))), (1, iv v_n), (2, iv s.1)] [] (gs g0 4 0 s.2)) (PE := fun r : Int × LT => Rg (r.1) → J X 141 [(0, .ref (xad X (4, 0, 0))), (1, iv v_n), (2, iv r.1)] [] (gs g0 4 0 r.2)) k (fun s14 Q15 k hC16 hE17 r19 => ?_) (fun z18 k => ?_) (fun h => h (show Rg 1 from ⟨by decide, by decide⟩))
  · refine jr_iload_n (pc := 30) F 2 dX5_goHours_30 rfl rfl ?_
    refine jr_iload_n (pc := 31) F 1 dX5_goHours_31 rfl rfl ?_
    refine jr_icmp_gt (pc := 32) (tgt := 141) F r19 rgp_n dX5_goHours_32 (by decide) (fun h20 => ?_) (fun h20 => ?_)
    · have k := Ok_f (ng_le h20) k
      exact hE17 (s14.1, s14.2) (Ok_some k) r19
    have k := Ok_t h20 k
    refine jr_iconst (pc := 35) F dX5_goHours_35 ?_
    refine jr_istore_n (pc := 36) F [(3, iv 0), (0, .ref (xad X (4, 0, 0))), (1, iv v_n), (2, iv s14.1)] dX5_goHours_36 rfl (by decide) rfl ?_
    refine jr_iconst (pc := 37) F dX5_goHours_37 ?_
    refine jr_istore (pc := 38) F [(4, iv 0), (3, iv 0), (0, .ref (xad X (4, 0, 0))), (1, iv v_n), (2, iv s14.1)] dX5_goHours_38 (by decide) rfl ?_
    refine jr_sub F [2, 3, 4, 1, 0] [(0, .ref (xad X (4, 0, 0))), (1, iv v_n), (2, iv s14.1), (3, iv 0), (4, iv 0)] rfl ?_
    refine lpj (P := fun s : Int × Int => Rg (s.1) → Rg (s.2) → J X 40 [(0, .ref (xad X (4, 0, 0))), (1, iv v_n), (2, iv s14.1), (3, iv s.1), (4, iv s.2)] [] (gs g0 4 0 s14.2)) (PE := fun r : Int × Int => Rg (r.1) → Rg (r.2) → J X 76 [(0, .ref (xad X (4, 0, 0))), (1, iv v_n), (2, iv s14.1), (3, iv r.1), (4, iv r.2)] [] (gs g0 4 0 s14.2)) k (fun s21 Q22 k hC23 hE24 r26 r27 => ?_) (fun z25 k => ?_) (fun h => h (show Rg 0 from ⟨by decide, by decide⟩) (show Rg 0 from ⟨by decide, by decide⟩))
    · refine jr_iload (pc := 40) F 4 dX5_goHours_40 rfl ?_
      refine jr_aload_n (pc := 42) F 0 dX5_goHours_42 rfl rfl ?_
      refine jr_getI (pc := 43) F (s14.2 0 7) f_5_99 m4_0 rfl (gs_at' _ _ _ _ _ _) dX5_goHours_43 (fun r28 => ?_)
      refine jr_icmp_ge (pc := 46) (tgt := 76) F r27 r28 dX5_goHours_46 (by decide) (fun h29 => ?_) (fun h29 => ?_)
      · have k := Ok_f (ng_lt h29) k
        exact hE24 (s21.1, s21.2) (Ok_some k) r26 r27
      have k := Ok_t h29 k
      refine jr_iload_n (pc := 49) F 3 dX5_goHours_49 rfl rfl ?_
      obtain ⟨c30, k⟩ := Ok_grd k
      refine jifP (P := fun v => Rg v → J X 68 [(0, .ref (xad X (4, 0, 0))), (1, iv v_n), (2, iv s14.1), (3, iv s21.1), (4, iv s21.2)] (iv v :: [iv s21.1]) (gs g0 4 0 s14.2)) (c := ¬ (s14.2 14 s21.2) = 0) (b_shl 1 s21.2) (0) (fun Ht Hf => ?_) (fun r33 => ?_)
      · refine jr_aload_n (pc := 50) F 0 dX5_goHours_50 rfl rfl ?_
        refine jr_getR (pc := 51) (b := (4, 0, 14)) F f_5_44 m4_0 rfl dX5_goHours_51 ?_
        refine jr_iload (pc := 54) F 4 dX5_goHours_54 rfl ?_
        refine jr_iald (pc := 56) F (s14.2 14 s21.2) m4_14 (by decide) c30 (gs_at' _ _ _ _ _ _) dX5_goHours_56 (fun r31 => ?_)
        refine jr_if_eq (pc := 57) (tgt := 67) F r31 dX5_goHours_57 (by decide) (fun h32 => ?_) (fun h32 => ?_)
        · refine jr_iconst (pc := 67) F dX5_goHours_67 ?_
          exact Hf (fun q => q h32) (show Rg 0 from ⟨by decide, by decide⟩)
        refine jr_iconst (pc := 60) F dX5_goHours_60 ?_
        refine jr_iload (pc := 61) F 4 dX5_goHours_61 rfl ?_
        refine jr_ishl (pc := 63) F dX5_goHours_63 ?_
        refine jr_goto (pc := 64) (tgt := 68) F dX5_goHours_64 (by decide) ?_
        exact Ht h32 (rg_shl _ _)
      refine jr_ior (pc := 68) F dX5_goHours_68 ?_
      obtain ⟨x34, e35, k⟩ := Ok_let k
      have r36 : Rg x34 := rg_of e35 (rg_or _ _)
      refine jr_top e35 ?_
      refine jr_istore_n (pc := 69) F [(3, iv x34), (0, .ref (xad X (4, 0, 0))), (1, iv v_n), (2, iv s14.1), (4, iv s21.2)] dX5_goHours_69 rfl (by decide) rfl ?_
      refine jr_iinc (pc := 70) F [(4, iv (w32 (s21.2 + 1))), (3, iv x34), (0, .ref (xad X (4, 0, 0))), (1, iv v_n), (2, iv s14.1)] 4 dX5_goHours_70 rfl (by decide) rfl ?_
      refine jr_goto (pc := 73) (tgt := 40) F dX5_goHours_73 (by decide) ?_
      refine jr_sub F [2, 3, 4, 1, 0] [(0, .ref (xad X (4, 0, 0))), (1, iv v_n), (2, iv s14.1), (3, iv x34), (4, iv (w32 (s21.2 + 1)))] rfl ?_
      exact hC23 (x34, w32 (s21.2 + 1)) (Ok_some k) r36 (rg_w _)
    intro r37 r38
    refine jr_aload_n (pc := 76) F 0 dX5_goHours_76 rfl rfl ?_
    have k := Ok_bind k
    refine jr_callV (pc := 77) (st := []) F [] (snd_X5_hourOn  (g0 := g0)  k) rfl ck_5_133 rfl m4_0 rfl rfl rfl (by decide) (Nat.le_of_ble_eq_true rfl) dX5_goHours_77 rfl (fun v g' hq => ?_)
    obtain ⟨z40, rfl, eg, k⟩ := hq
    refine J_eq eg ?_
    show J X 80 [(0, .ref (xad X (4, 0, 0))), (1, iv v_n), (2, iv s14.1), (3, iv z25.1), (4, iv z25.2)] [] (gs g0 4 0 z40)
    refine jr_iconst (pc := 80) F dX5_goHours_80 ?_
    refine jr_istore (pc := 81) F [(4, iv 0), (0, .ref (xad X (4, 0, 0))), (1, iv v_n), (2, iv s14.1), (3, iv z25.1)] dX5_goHours_81 (by decide) rfl ?_
    refine jr_sub F [1, 2, 3, 4, 0] [(0, .ref (xad X (4, 0, 0))), (1, iv v_n), (2, iv s14.1), (3, iv z25.1), (4, iv 0)] rfl ?_
    refine lpj (P := fun s : Int × LT => Rg (s.1) → J X 83 [(0, .ref (xad X (4, 0, 0))), (1, iv v_n), (2, iv s14.1), (3, iv z25.1), (4, iv s.1)] [] (gs g0 4 0 s.2)) (PE := fun r : Int × LT => Rg (r.1) → J X 135 [(0, .ref (xad X (4, 0, 0))), (1, iv v_n), (2, iv s14.1), (3, iv z25.1), (4, iv r.1)] [] (gs g0 4 0 r.2)) k (fun s41 Q42 k hC43 hE44 r46 => ?_) (fun z45 k => ?_) (fun h => h (show Rg 0 from ⟨by decide, by decide⟩))
    · refine jr_iload (pc := 83) F 4 dX5_goHours_83 rfl ?_
      refine jr_aload_n (pc := 85) F 0 dX5_goHours_85 rfl rfl ?_
      refine jr_getI (pc := 86) F (s41.2 0 7) f_5_99 m4_0 rfl (gs_at' _ _ _ _ _ _) dX5_goHours_86 (fun r47 => ?_)
      refine jr_icmp_ge (pc := 89) (tgt := 135) F r46 r47 dX5_goHours_89 (by decide) (fun h48 => ?_) (fun h48 => ?_)
      · have k := Ok_f (ng_lt h48) k
        exact hE44 (s41.1, s41.2) (Ok_some k) r46
      have k := Ok_t h48 k
      refine jr_aload_n (pc := 92) F 0 dX5_goHours_92 rfl rfl ?_
      refine jr_getR (pc := 93) (b := (4, 0, 18)) F f_5_53 m4_0 rfl dX5_goHours_93 ?_
      refine jr_iload (pc := 96) F 4 dX5_goHours_96 rfl ?_
      obtain ⟨c49, k⟩ := Ok_grd k
      refine jifP (P := fun v => Rg v → J X 128 [(0, .ref (xad X (4, 0, 0))), (1, iv v_n), (2, iv s14.1), (3, iv z25.1), (4, iv s41.1)] (iv v :: [iv s41.1, .ref (xad X (4, 0, 18))]) (gs g0 4 0 s41.2)) (c := (¬ (s41.2 14 s41.1) = 0) ∧ ((X5_hasBit_v z25.1 s41.1) = 0)) (s14.1) (s41.2 18 s41.1) (fun Ht Hf => ?_) (fun r56 => ?_)
      · refine jr_aload_n (pc := 98) F 0 dX5_goHours_98 rfl rfl ?_
        refine jr_getR (pc := 99) (b := (4, 0, 14)) F f_5_44 m4_0 rfl dX5_goHours_99 ?_
        refine jr_iload (pc := 102) F 4 dX5_goHours_102 rfl ?_
        refine jr_iald (pc := 104) F (s41.2 14 s41.1) m4_14 (by decide) c49 (gs_at' _ _ _ _ _ _) dX5_goHours_104 (fun r50 => ?_)
        refine jr_if_eq (pc := 105) (tgt := 121) F r50 dX5_goHours_105 (by decide) (fun h51 => ?_) (fun h51 => ?_)
        · refine jr_aload_n (pc := 121) F 0 dX5_goHours_121 rfl rfl ?_
          refine jr_getR (pc := 122) (b := (4, 0, 18)) F f_5_53 m4_0 rfl dX5_goHours_122 ?_
          refine jr_iload (pc := 125) F 4 dX5_goHours_125 rfl ?_
          refine jr_iald (pc := 127) F (s41.2 18 s41.1) m4_18 (by decide) c49 (gs_at' _ _ _ _ _ _) dX5_goHours_127 (fun r52 => ?_)
          exact Hf (fun q => (fun q => q h51) q.1) r52
        refine jr_iload_n (pc := 108) F 3 dX5_goHours_108 rfl rfl ?_
        refine jr_iload (pc := 109) F 4 dX5_goHours_109 rfl ?_
        refine jr_callS (pc := 111) (st := [iv s41.1, .ref (xad X (4, 0, 18))]) F [iv z25.1, iv s41.1] (snd_X5_hasBit (g0 := gs g0 4 0 s41.2) r37 r46 (X5_hasBit_ok _ _ )) rfl ck_5_136 rfl rfl (by decide) (Nat.le_of_ble_eq_true rfl) dX5_goHours_111 rfl (fun v g' hq => ?_)
        obtain ⟨x, rfl, r53, eg, hx⟩ := hq
        subst hx
        refine J_eq eg ?_
        show J X 114 [(0, .ref (xad X (4, 0, 0))), (1, iv v_n), (2, iv s14.1), (3, iv z25.1), (4, iv s41.1)] [iv (X5_hasBit_v z25.1 s41.1), iv s41.1, .ref (xad X (4, 0, 18))] (gs g0 4 0 s41.2)
        refine jr_if_ne (pc := 114) (tgt := 121) F (rg_z r53) dX5_goHours_114 (by decide) (fun h54 => ?_) (fun h54 => ?_)
        · refine jr_aload_n (pc := 121) F 0 dX5_goHours_121 rfl rfl ?_
          refine jr_getR (pc := 122) (b := (4, 0, 18)) F f_5_53 m4_0 rfl dX5_goHours_122 ?_
          refine jr_iload (pc := 125) F 4 dX5_goHours_125 rfl ?_
          refine jr_iald (pc := 127) F (s41.2 18 s41.1) m4_18 (by decide) c49 (gs_at' _ _ _ _ _ _) dX5_goHours_127 (fun r55 => ?_)
          exact Hf (fun q => h54 q.2) r55
        refine jr_iload_n (pc := 117) F 2 dX5_goHours_117 rfl rfl ?_
        refine jr_goto (pc := 118) (tgt := 128) F dX5_goHours_118 (by decide) ?_
        exact Ht ⟨h51, h54⟩ r19
      obtain ⟨L57, e58, k⟩ := Ok_let k
      refine jr_iast (pc := 128) F (gs g0 4 0 L57) m4_18 (by decide) c49 r56 (put1 e58) dX5_goHours_128 ?_
      refine jr_iinc (pc := 129) F [(4, iv (w32 (s41.1 + 1))), (0, .ref (xad X (4, 0, 0))), (1, iv v_n), (2, iv s14.1), (3, iv z25.1)] 4 dX5_goHours_129 rfl (by decide) rfl ?_
      refine jr_goto (pc := 132) (tgt := 83) F dX5_goHours_132 (by decide) ?_
      refine jr_sub F [1, 2, 3, 4, 0] [(0, .ref (xad X (4, 0, 0))), (1, iv v_n), (2, iv s14.1), (3, iv z25.1), (4, iv (w32 (s41.1 + 1)))] rfl ?_
      exact hC43 (w32 (s41.1 + 1), L57) (Ok_some k) (rg_w _)
    intro r59
    refine jr_iinc (pc := 135) F [(2, iv (w32 (s14.1 + 1))), (0, .ref (xad X (4, 0, 0))), (1, iv v_n), (3, iv z25.1), (4, iv z45.1)] 2 dX5_goHours_135 rfl (by decide) rfl ?_
    refine jr_goto (pc := 138) (tgt := 30) F dX5_goHours_138 (by decide) ?_
    refine jr_sub F [1, 2, 0] [(0, .ref (xad X (4, 0, 0))), (1, iv v_n), (2, iv (w32 (s14.1 + 1)))] rfl ?_
    exact hC16 (w32 (s14.1 + 1), z45.2) (Ok_some k) (rg_w _)
  intro r60
  exact jr_vret (pc := 141) F hQ rfl dX5_goHours_141 ⟨_, rfl, rfl, (Ok_some k)⟩
set_option maxHeartbeats 4000000 in
set_option maxRecDepth 100000 in
theorem snd_X5_howMany {L0 : LT} {v_state : Int} {g0 : GG} (rgp_state : Rg v_state) {Q : (Int) → Prop} (k : Ok (X5_howMany L0 v_state) Q) : MetG SL yX5_howMany cX5_howMany 4 (some .int) 0 (fun ad => [.ref (ad (4, 0, 0)), iv v_state]) (gs g0 4 0 L0) (fun v g' => ∃ x : Int, v = some (iv x) ∧ Rg x ∧ g' = gs g0 4 0 L0 ∧ Q x) := by
  refine met_intro SL_ok (by decide +kernel) (fun ad => Nat.le_of_ble_eq_true rfl) (fun X F hQ hR => ?_)
  replace F : FX X cX5_howMany RX5 4 (some .int) SL 0 := F
  show J X 0 [(0, .ref (xad X (4, 0, 0))), (1, iv v_state)] [] (gs g0 4 0 L0)
  refine jr_iconst (pc := 0) F dX5_howMany_0 ?_
  refine jr_istore_n (pc := 1) F [(2, iv 0), (0, .ref (xad X (4, 0, 0))), (1, iv v_state)] dX5_howMany_1 rfl (by decide) rfl ?_
  refine jr_iconst (pc := 2) F dX5_howMany_2 ?_
  refine jr_istore_n (pc := 3) F [(3, iv 0), (2, iv 0), (0, .ref (xad X (4, 0, 0))), (1, iv v_state)] dX5_howMany_3 rfl (by decide) rfl ?_
  refine jr_sub F [2, 3, 1, 0] [(0, .ref (xad X (4, 0, 0))), (1, iv v_state), (2, iv 0), (3, iv 0)] rfl ?_
  refine lpj (P := fun s : Int × Int => Rg (s.1) → Rg (s.2) → J X 4 [(0, .ref (xad X (4, 0, 0))), (1, iv v_state), (2, iv s.1), (3, iv s.2)] [] (gs g0 4 0 L0)) (PE := fun r : Int × Int => Rg (r.1) → Rg (r.2) → J X 36 [(0, .ref (xad X (4, 0, 0))), (1, iv v_state), (2, iv r.1), (3, iv r.2)] [] (gs g0 4 0 L0)) k (fun s1 Q2 k hC3 hE4 r6 r7 => ?_) (fun z5 k => ?_) (fun h => h (show Rg 0 from ⟨by decide, by decide⟩) (show Rg 0 from ⟨by decide, by decide⟩))
  · refine jr_iload_n (pc := 4) F 3 dX5_howMany_4 rfl rfl ?_
    refine jr_aload_n (pc := 5) F 0 dX5_howMany_5 rfl rfl ?_
    refine jr_getI (pc := 6) F (L0 0 7) f_5_99 m4_0 rfl (gs_at' _ _ _ _ _ _) dX5_howMany_6 (fun r8 => ?_)
    refine jr_icmp_ge (pc := 9) (tgt := 36) F r7 r8 dX5_howMany_9 (by decide) (fun h9 => ?_) (fun h9 => ?_)
    · have k := Ok_f (ng_lt h9) k
      exact hE4 (s1.1, s1.2) (Ok_some k) r6 r7
    have k := Ok_t h9 k
    refine jr_iload_n (pc := 12) F 2 dX5_howMany_12 rfl rfl ?_
    obtain ⟨c10, k⟩ := Ok_grd k
    refine jifP (P := fun v => Bz v → J X 28 [(0, .ref (xad X (4, 0, 0))), (1, iv v_state), (2, iv s1.1), (3, iv s1.2)] (iv v :: [iv s1.1]) (gs g0 4 0 L0)) (c := (L0 14 s1.2) = v_state) (1) (0) (fun Ht Hf => ?_) (fun r13 => ?_)
    · refine jr_aload_n (pc := 13) F 0 dX5_howMany_13 rfl rfl ?_
      refine jr_getR (pc := 14) (b := (4, 0, 14)) F f_5_44 m4_0 rfl dX5_howMany_14 ?_
      refine jr_iload_n (pc := 17) F 3 dX5_howMany_17 rfl rfl ?_
      refine jr_iald (pc := 18) F (L0 14 s1.2) m4_14 (by decide) c10 (gs_at' _ _ _ _ _ _) dX5_howMany_18 (fun r11 => ?_)
      refine jr_iload_n (pc := 19) F 1 dX5_howMany_19 rfl rfl ?_
      refine jr_icmp_ne (pc := 20) (tgt := 27) F r11 rgp_state dX5_howMany_20 (by decide) (fun h12 => ?_) (fun h12 => ?_)
      · refine jr_iconst (pc := 27) F dX5_howMany_27 ?_
        exact Hf h12 (Or.inl rfl)
      refine jr_iconst (pc := 23) F dX5_howMany_23 ?_
      refine jr_goto (pc := 24) (tgt := 28) F dX5_howMany_24 (by decide) ?_
      exact Ht h12 (Or.inr rfl)
    refine jr_iadd (pc := 28) F dX5_howMany_28 ?_
    obtain ⟨x14, e15, k⟩ := Ok_let k
    have r16 : Rg x14 := rg_of e15 (rg_w _)
    refine jr_top e15 ?_
    refine jr_istore_n (pc := 29) F [(2, iv x14), (0, .ref (xad X (4, 0, 0))), (1, iv v_state), (3, iv s1.2)] dX5_howMany_29 rfl (by decide) rfl ?_
    refine jr_iinc (pc := 30) F [(3, iv (w32 (s1.2 + 1))), (2, iv x14), (0, .ref (xad X (4, 0, 0))), (1, iv v_state)] 3 dX5_howMany_30 rfl (by decide) rfl ?_
    refine jr_goto (pc := 33) (tgt := 4) F dX5_howMany_33 (by decide) ?_
    refine jr_sub F [2, 3, 1, 0] [(0, .ref (xad X (4, 0, 0))), (1, iv v_state), (2, iv x14), (3, iv (w32 (s1.2 + 1)))] rfl ?_
    exact hC3 (x14, w32 (s1.2 + 1)) (Ok_some k) r16 (rg_w _)
  intro r17 r18
  refine jr_iload_n (pc := 36) F 2 dX5_howMany_36 rfl rfl ?_
  exact jr_iret (pc := 37) F hQ rfl dX5_howMany_37 ⟨_, rfl, r17, rfl, (Ok_some k)⟩
set_option maxHeartbeats 4000000 in
set_option maxRecDepth 100000 in
theorem snd_X5_othersThrough {L0 : LT} {v_t : Int} {g0 : GG} (rgp_t : Rg v_t) {Q : (Int × LT) → Prop} (k : Ok (X5_othersThrough L0 v_t) Q) : MetG SL yX5_othersThrough cX5_othersThrough 3 (some .int) 5 (fun ad => [.ref (ad (4, 0, 0)), iv v_t]) (gs g0 4 0 L0) (fun v g' => ∃ (x : Int) (L' : LT), v = some (iv x) ∧ Rg x ∧ g' = gs g0 4 0 L' ∧ Q (x, L')) := by
  refine met_intro SL_ok (by decide +kernel) (fun ad => Nat.le_of_ble_eq_true rfl) (fun X F hQ hR => ?_)
  replace F : FX X cX5_othersThrough RX5 3 (some .int) SL 5 := F
  show J X 0 [(0, .ref (xad X (4, 0, 0))), (1, iv v_t)] [] (gs g0 4 0 L0)
  refine jr_aload_n (pc := 0) F 0 dX5_othersThrough_0 rfl rfl ?_
  refine jr_bipush (pc := 1) F dX5_othersThrough_1 (by decide) ?_
  have k := Ok_bind k
  refine jr_callV (pc := 3) (st := []) F [iv 72] (snd_X5_goHours  (g0 := g0) (show Rg 72 from ⟨by decide, by decide⟩) k) rfl ck_5_197 rfl m4_0 rfl rfl rfl (by decide) (Nat.le_of_ble_eq_true rfl) dX5_othersThrough_3 rfl (fun v g' hq => ?_)
  obtain ⟨z2, rfl, eg, k⟩ := hq
  refine J_eq eg ?_
  show J X 6 [(0, .ref (xad X (4, 0, 0))), (1, iv v_t)] [] (gs g0 4 0 z2)
  refine jr_aload_n (pc := 6) F 0 dX5_othersThrough_6 rfl rfl ?_
  refine jr_iconst (pc := 7) F dX5_othersThrough_7 ?_
  have k := Ok_bind k
  refine jr_callV (pc := 8) (st := []) F [iv 1] (snd_X5_howMany  (g0 := g0) (show Rg 1 from ⟨by decide, by decide⟩) k) rfl ck_5_243 rfl m4_0 rfl rfl rfl (by decide) (Nat.le_of_ble_eq_true rfl) dX5_othersThrough_8 rfl (fun v g' hq => ?_)
  obtain ⟨z4, rfl, r3, eg, k⟩ := hq
  refine J_eq eg ?_
  show J X 11 [(0, .ref (xad X (4, 0, 0))), (1, iv v_t)] [iv z4] (gs g0 4 0 z2)
  obtain ⟨c5, k⟩ := Ok_grd k
  refine jifP (P := fun v => Bz v → J X 26 [(0, .ref (xad X (4, 0, 0))), (1, iv v_t)] (iv v :: [iv z4]) (gs g0 4 0 z2)) (c := (z2 14 v_t) = 1) (1) (0) (fun Ht Hf => ?_) (fun r8 => ?_)
  · refine jr_aload_n (pc := 11) F 0 dX5_othersThrough_11 rfl rfl ?_
    refine jr_getR (pc := 12) (b := (4, 0, 14)) F f_5_44 m4_0 rfl dX5_othersThrough_12 ?_
    refine jr_iload_n (pc := 15) F 1 dX5_othersThrough_15 rfl rfl ?_
    refine jr_iald (pc := 16) F (z2 14 v_t) m4_14 (by decide) c5 (gs_at' _ _ _ _ _ _) dX5_othersThrough_16 (fun r6 => ?_)
    refine jr_iconst (pc := 17) F dX5_othersThrough_17 ?_
    refine jr_icmp_ne (pc := 18) (tgt := 25) F r6 (show Rg 1 from ⟨by decide, by decide⟩) dX5_othersThrough_18 (by decide) (fun h7 => ?_) (fun h7 => ?_)
    · refine jr_iconst (pc := 25) F dX5_othersThrough_25 ?_
      exact Hf h7 (Or.inl rfl)
    refine jr_iconst (pc := 21) F dX5_othersThrough_21 ?_
    refine jr_goto (pc := 22) (tgt := 26) F dX5_othersThrough_22 (by decide) ?_
    exact Ht h7 (Or.inr rfl)
  refine jr_isub (pc := 26) F dX5_othersThrough_26 ?_
  obtain ⟨x9, e10, k⟩ := Ok_let k
  have r11 : Rg x9 := rg_of e10 (rg_w _)
  refine jr_top e10 ?_
  refine jr_istore_n (pc := 27) F [(2, iv x9), (0, .ref (xad X (4, 0, 0))), (1, iv v_t)] dX5_othersThrough_27 rfl (by decide) rfl ?_
  refine jr_aload_n (pc := 28) F 1 dX5_othersThrough_28 rfl rfl ?_
  have k := Ok_bind k
  refine jr_callV (pc := 29) (st := []) F [] (snd_X5_close  (g0 := g0)  k) rfl ck_5_209 rfl m4_0 rfl rfl rfl (by decide) (Nat.le_of_ble_eq_true rfl) dX5_othersThrough_29 rfl (fun v g' hq => ?_)
  obtain ⟨z13, rfl, eg, k⟩ := hq
  refine J_eq eg ?_
  show J X 32 [(2, iv x9), (0, .ref (xad X (4, 0, 0))), (1, iv v_t)] [] (gs g0 4 0 z13)
  refine jr_iload_n (pc := 32) F 0 dX5_othersThrough_32 rfl rfl ?_
  exact jr_iret (pc := 33) F hQ rfl dX5_othersThrough_33 ⟨_, _, rfl, r11, rfl, (Ok_some k)⟩
set_option maxHeartbeats 4000000 in
set_option maxRecDepth 100000 in
theorem snd_X5_blocker {L0 : LT} {g0 : GG}  {Q : (Int × LT) → Prop} (k : Ok (X5_blocker L0) Q) : MetG SL yX5_blocker cX5_blocker 6 (some .int) 6 (fun ad => [.ref (ad (4, 0, 0))]) (gs g0 4 0 L0) (fun v g' => ∃ (x : Int) (L' : LT), v = some (iv x) ∧ Rg x ∧ g' = gs g0 4 0 L' ∧ Q (x, L')) := by
  refine met_intro SL_ok (by decide +kernel) (fun ad => Nat.le_of_ble_eq_true rfl) (fun X F hQ hR => ?_)
  replace F : FX X cX5_blocker RX5 6 (some .int) SL 6 := F
  show J X 0 [(0, .ref (xad X (4, 0, 0)))] [] (gs g0 4 0 L0)
  refine jr_aload_n (pc := 0) F 0 dX5_blocker_0 rfl rfl ?_
  refine jr_iconst (pc := 1) F dX5_blocker_1 ?_
  obtain ⟨L1, e2, k⟩ := Ok_let k
  refine jr_putI (pc := 2) F (gs g0 4 0 L1) fw_5_92 m4_0 rfl (show Rg 0 from ⟨by decide, by decide⟩) (put1 e2) dX5_blocker_2 ?_
  refine jr_bipush (pc := 5) F dX5_blocker_5 (by decide) ?_
  refine jr_istore_n (pc := 7) F [(1, iv (-9)), (0, .ref (xad X (4, 0, 0)))] dX5_blocker_7 rfl (by decide) rfl ?_
  refine jr_iconst (pc := 8) F dX5_blocker_8 ?_
  refine jr_istore_n (pc := 9) F [(2, iv (-1)), (1, iv (-9)), (0, .ref (xad X (4, 0, 0)))] dX5_blocker_9 rfl (by decide) rfl ?_
  refine jr_aload_n (pc := 10) F 2 dX5_blocker_10 rfl rfl ?_
  have k := Ok_bind k
  refine jr_callV (pc := 11) (st := []) F [] (snd_X5_open  (g0 := g0)  k) rfl ck_5_203 rfl m4_0 rfl rfl rfl (by decide) (Nat.le_of_ble_eq_true rfl) dX5_blocker_11 rfl (fun v g' hq => ?_)
  obtain ⟨z4, rfl, eg, k⟩ := hq
  refine J_eq eg ?_
  show J X 14 [(2, iv (-1)), (1, iv (-9)), (0, .ref (xad X (4, 0, 0)))] [] (gs g0 4 0 z4)
  refine jr_iconst (pc := 14) F dX5_blocker_14 ?_
  refine jr_istore_n (pc := 15) F [(3, iv 0), (2, iv (-1)), (1, iv (-9)), (0, .ref (xad X (4, 0, 0)))] dX5_blocker_15 rfl (by decide) rfl ?_
  refine jr_sub F [3, 2, 1, 0] [(0, .ref (xad X (4, 0, 0))), (1, iv (-9)), (2, iv (-1)), (3, iv 0)] rfl ?_
  refine lpj (P := fun s : Int × Int × Int × LT => Rg (s.1) → Rg (s.2.1) → Rg (s.2.2.1) → J X 16 [(0, .ref (xad X (4, 0, 0))), (1, iv s.1), (2, iv s.2.1), (3, iv s.2.2.1)] [] (gs g0 4 0 s.2.2.2)) (PE := fun r : Int × Int × Int × LT => Rg (r.1) → Rg (r.2.1) → Rg (r.2.2.1) → J X 99 [(0, .ref (xad X (4, 0, 0))), (1, iv r.1), (2, iv r.2.1), (3, iv r.2.2.1)] [] (gs g0 4 0 r.2.2.2)) k (fun s5 Q6 k hC7 hE8 r10 r11 r12 => ?_) (fun z9 k => ?_) (fun h => h (show Rg (-9) from ⟨by decide, by decide⟩) (show Rg (-1) from ⟨by decide, by decide⟩) (show Rg 0 from ⟨by decide, by decide⟩))
  · refine jr_iload_n (pc := 16) F 3 dX5_blocker_16 rfl rfl ?_
    refine jr_aload_n (pc := 17) F 0 dX5_blocker_17 rfl rfl ?_
    refine jr_getI (pc := 18) F (s5.2.2.2 0 7) f_5_99 m4_0 rfl (gs_at' _ _ _ _ _ _) dX5_blocker_18 (fun r13 => ?_)
    refine jr_icmp_ge (pc := 21) (tgt := 99) F r12 r13 dX5_blocker_21 (by decide) (fun h14 => ?_) (fun h14 => ?_)
    · have k := Ok_f (ng_lt h14) k
      exact hE8 (s5.1, s5.2.1, s5.2.2.1, s5.2.2.2) (Ok_some k) r10 r11 r12
    have k := Ok_t h14 k
    refine jr_aload_n (pc := 24) F 0 dX5_blocker_24 rfl rfl ?_
    refine jr_getR (pc := 25) (b := (4, 0, 14)) F f_5_44 m4_0 rfl dX5_blocker_25 ?_
    refine jr_iload_n (pc := 28) F 3 dX5_blocker_28 rfl rfl ?_
    obtain ⟨c15, k⟩ := Ok_grd k
    refine jr_iald (pc := 29) F (s5.2.2.2 14 s5.2.2.1) m4_14 (by decide) c15 (gs_at' _ _ _ _ _ _) dX5_blocker_29 (fun r16 => ?_)
    refine jr_if_ne (pc := 30) (tgt := 93) F r16 dX5_blocker_30 (by decide) (fun h17 => ?_) (fun h17 => ?_)
    · have k := Ok_f h17 k
      refine jr_iinc (pc := 93) F [(3, iv (w32 (s5.2.2.1 + 1))), (0, .ref (xad X (4, 0, 0))), (1, iv s5.1), (2, iv s5.2.1)] 3 dX5_blocker_93 rfl (by decide) rfl ?_
      refine jr_goto (pc := 96) (tgt := 16) F dX5_blocker_96 (by decide) ?_
      refine jr_sub F [1, 2, 3, 0] [(0, .ref (xad X (4, 0, 0))), (1, iv s5.1), (2, iv s5.2.1), (3, iv (w32 (s5.2.2.1 + 1)))] rfl ?_
      exact hC7 (s5.1, s5.2.1, w32 (s5.2.2.1 + 1), s5.2.2.2) (Ok_some k) r10 r11 (rg_w _)
    have k := Ok_t h17 k
    refine jr_aload_n (pc := 33) F 0 dX5_blocker_33 rfl rfl ?_
    refine jr_iload_n (pc := 34) F 3 dX5_blocker_34 rfl rfl ?_
    have k := Ok_bind k
    refine jr_callV (pc := 35) (st := []) F [iv s5.2.2.1] (snd_X5_othersThrough  (g0 := g0) r12 k) rfl ck_5_296 rfl m4_0 rfl rfl rfl (by decide) (Nat.le_of_ble_eq_true rfl) dX5_blocker_35 rfl (fun v g' hq => ?_)
    obtain ⟨x, L', rfl, r18, eg, k⟩ := hq
    obtain ⟨z19, ez⟩ : ∃ z : Int × LT, z = (x, L') := ⟨_, rfl⟩
    obtain ⟨rfl, rfl⟩ : x = z19.1 ∧ L' = z19.2 := ⟨by rw [ez], by rw [ez]⟩
    clear ez
    refine J_eq eg ?_
    show J X 38 [(0, .ref (xad X (4, 0, 0))), (1, iv s5.1), (2, iv s5.2.1), (3, iv s5.2.2.1)] [iv z19.1] (gs g0 4 0 z19.2)
    refine jr_istore (pc := 38) F [(4, iv z19.1), (0, .ref (xad X (4, 0, 0))), (1, iv s5.1), (2, iv s5.2.1), (3, iv s5.2.2.1)] dX5_blocker_38 (by decide) rfl ?_
    refine jr_aload_n (pc := 40) F 1 dX5_blocker_40 rfl rfl ?_
    refine jr_getR (pc := 41) (b := (4, 0, 14)) F f_5_44 m4_0 rfl dX5_blocker_41 ?_
    refine jr_iload_n (pc := 44) F 4 dX5_blocker_44 rfl rfl ?_
    refine jr_iconst (pc := 45) F dX5_blocker_45 ?_
    obtain ⟨L20, e21, k⟩ := Ok_let k
    refine jr_iast (pc := 46) F (gs g0 4 0 L20) m4_14 (by decide) c15 (show Rg 2 from ⟨by decide, by decide⟩) (put1 e21) dX5_blocker_46 ?_
    refine jr_aload_n (pc := 47) F 1 dX5_blocker_47 rfl rfl ?_
    refine jr_iload_n (pc := 48) F 4 dX5_blocker_48 rfl rfl ?_
    have k := Ok_bind k
    refine jr_callV (pc := 49) (st := []) F [iv s5.2.2.1] (snd_X5_othersThrough  (g0 := g0) r12 k) rfl ck_5_296 rfl m4_0 rfl rfl rfl (by decide) (Nat.le_of_ble_eq_true rfl) dX5_blocker_49 rfl (fun v g' hq => ?_)
    obtain ⟨x, L', rfl, r22, eg, k⟩ := hq
    obtain ⟨z23, ez⟩ : ∃ z : Int × LT, z = (x, L') := ⟨_, rfl⟩
    obtain ⟨rfl, rfl⟩ : x = z23.1 ∧ L' = z23.2 := ⟨by rw [ez], by rw [ez]⟩
    clear ez
    refine J_eq eg ?_
    show J X 52 [(4, iv z19.1), (0, .ref (xad X (4, 0, 0))), (1, iv s5.1), (2, iv s5.2.1), (3, iv s5.2.2.1)] [iv z23.1] (gs g0 4 0 z23.2)
    refine jr_istore (pc := 52) F [(5, iv z23.1), (4, iv z19.1), (0, .ref (xad X (4, 0, 0))), (1, iv s5.1), (2, iv s5.2.1), (3, iv s5.2.2.1)] dX5_blocker_52 (by decide) rfl ?_
    refine jifP (P := fun v => Rg v → J X 72 [(5, iv z23.1), (4, iv z19.1), (0, .ref (xad X (4, 0, 0))), (1, iv s5.1), (2, iv s5.2.1), (3, iv s5.2.2.1)] (iv v :: []) (gs g0 4 0 z23.2)) (c := (z19.1 < z23.1) ∧ (s5.2.1 < z23.1)) (s5.2.2.1) (s5.1) (fun Ht Hf => ?_) (fun r26 => ?_)
    · refine jr_iload (pc := 54) F 0 dX5_blocker_54 rfl ?_
      refine jr_iload (pc := 56) F 1 dX5_blocker_56 rfl ?_
      refine jr_icmp_le (pc := 58) (tgt := 71) F r22 r18 dX5_blocker_58 (by decide) (fun h24 => ?_) (fun h24 => ?_)
      · refine jr_iload_n (pc := 71) F 3 dX5_blocker_71 rfl rfl ?_
        exact Hf (fun q => (ng_lt h24) q.1) r10
      refine jr_iload (pc := 61) F 0 dX5_blocker_61 rfl ?_
      refine jr_iload_n (pc := 63) F 4 dX5_blocker_63 rfl rfl ?_
      refine jr_icmp_le (pc := 64) (tgt := 71) F r22 r11 dX5_blocker_64 (by decide) (fun h25 => ?_) (fun h25 => ?_)
      · refine jr_iload_n (pc := 71) F 3 dX5_blocker_71 rfl rfl ?_
        exact Hf (fun q => (ng_lt h25) q.2) r10
      refine jr_iload_n (pc := 67) F 5 dX5_blocker_67 rfl rfl ?_
      refine jr_goto (pc := 68) (tgt := 72) F dX5_blocker_68 (by decide) ?_
      exact Ht ⟨h24, h25⟩ r12
    obtain ⟨x27, e28, k⟩ := Ok_let k
    have r29 : Rg x27 := rg_of e28 r26
    refine jr_top e28 ?_
    refine jr_istore_n (pc := 72) F [(1, iv x27), (5, iv z23.1), (4, iv z19.1), (0, .ref (xad X (4, 0, 0))), (2, iv s5.2.1), (3, iv s5.2.2.1)] dX5_blocker_72 rfl (by decide) rfl ?_
    refine jifP (P := fun v => Rg v → J X 92 [(1, iv x27), (5, iv z23.1), (4, iv z19.1), (0, .ref (xad X (4, 0, 0))), (2, iv s5.2.1), (3, iv s5.2.2.1)] (iv v :: []) (gs g0 4 0 z23.2)) (c := (z19.1 < z23.1) ∧ (s5.2.1 < z23.1)) (z23.1) (s5.2.1) (fun Ht Hf => ?_) (fun r32 => ?_)
    · refine jr_iload (pc := 73) F 1 dX5_blocker_73 rfl ?_
      refine jr_iload (pc := 75) F 2 dX5_blocker_75 rfl ?_
      refine jr_icmp_le (pc := 77) (tgt := 91) F r22 r18 dX5_blocker_77 (by decide) (fun h30 => ?_) (fun h30 => ?_)
      · refine jr_iload_n (pc := 91) F 4 dX5_blocker_91 rfl rfl ?_
        exact Hf (fun q => (ng_lt h30) q.1) r11
      refine jr_iload (pc := 80) F 1 dX5_blocker_80 rfl ?_
      refine jr_iload_n (pc := 82) F 4 dX5_blocker_82 rfl rfl ?_
      refine jr_icmp_le (pc := 83) (tgt := 91) F r22 r11 dX5_blocker_83 (by decide) (fun h31 => ?_) (fun h31 => ?_)
      · refine jr_iload_n (pc := 91) F 4 dX5_blocker_91 rfl rfl ?_
        exact Hf (fun q => (ng_lt h31) q.2) r11
      refine jr_iload (pc := 86) F 1 dX5_blocker_86 rfl ?_
      refine jr_goto (pc := 88) (tgt := 92) F dX5_blocker_88 (by decide) ?_
      exact Ht ⟨h30, h31⟩ r22
    obtain ⟨x33, e34, k⟩ := Ok_let k
    have r35 : Rg x33 := rg_of e34 r32
    refine jr_top e34 ?_
    refine jr_istore_n (pc := 92) F [(2, iv x33), (1, iv x27), (5, iv z23.1), (4, iv z19.1), (0, .ref (xad X (4, 0, 0))), (3, iv s5.2.2.1)] dX5_blocker_92 rfl (by decide) rfl ?_
    refine jr_iinc (pc := 93) F [(3, iv (w32 (s5.2.2.1 + 1))), (2, iv x33), (1, iv x27), (5, iv z23.1), (4, iv z19.1), (0, .ref (xad X (4, 0, 0)))] 5 dX5_blocker_93 rfl (by decide) rfl ?_
    refine jr_goto (pc := 96) (tgt := 16) F dX5_blocker_96 (by decide) ?_
    refine jr_sub F [5, 2, 1, 0] [(0, .ref (xad X (4, 0, 0))), (1, iv x27), (2, iv x33), (3, iv (w32 (s5.2.2.1 + 1)))] rfl ?_
    exact hC7 (x27, x33, w32 (s5.2.2.1 + 1), z23.2) (Ok_some k) r29 r35 (rg_w _)
  intro r36 r37 r38
  refine jr_iload_n (pc := 99) F 1 dX5_blocker_99 rfl rfl ?_
  exact jr_iret (pc := 100) F hQ rfl dX5_blocker_100 ⟨_, _, rfl, r36, rfl, (Ok_some k)⟩
set_option maxHeartbeats 4000000 in
set_option maxRecDepth 100000 in
theorem snd_X5_clear {L0 : LT} {g0 : GG}  {Q : (Int × LT) → Prop} (k : Ok (X5_clear L0) Q) : MetG SL yX5_clear cX5_clear 2 (some .int) 0 (fun ad => [.ref (ad (4, 0, 0))]) (gs g0 4 0 L0) (fun v g' => ∃ (x : Int) (L' : LT), v = some (iv x) ∧ Rg x ∧ g' = gs g0 4 0 L' ∧ Q (x, L')) := by
  refine met_intro SL_ok (by decide +kernel) (fun ad => Nat.le_of_ble_eq_true rfl) (fun X F hQ hR => ?_)
  replace F : FX X cX5_clear RX5 2 (some .int) SL 0 := F
  show J X 0 [(0, .ref (xad X (4, 0, 0)))] [] (gs g0 4 0 L0)
  refine jr_aload_n (pc := 0) F 0 dX5_clear_0 rfl rfl ?_
  refine jr_iconst (pc := 1) F dX5_clear_1 ?_
  obtain ⟨L1, e2, k⟩ := Ok_let k
  refine jr_putI (pc := 2) F (gs g0 4 0 L1) fw_5_92 m4_0 rfl (show Rg 0 from ⟨by decide, by decide⟩) (put1 e2) dX5_clear_2 ?_
  refine jr_aload_n (pc := 5) F 0 dX5_clear_5 rfl rfl ?_
  refine jr_getI (pc := 6) F (L1 0 39) f_5_276 m4_0 rfl (gs_at' _ _ _ _ _ _) dX5_clear_6 (fun r3 => ?_)
  obtain ⟨x4, e5, k⟩ := Ok_let k
  have r6 : Rg x4 := rg_of e5 r3
  refine jr_top e5 ?_
  refine jr_istore_n (pc := 9) F [(1, iv x4), (0, .ref (xad X (4, 0, 0)))] dX5_clear_9 rfl (by decide) rfl ?_
  refine jr_aload_n (pc := 10) F 1 dX5_clear_10 rfl rfl ?_
  refine jr_iconst (pc := 11) F dX5_clear_11 ?_
  obtain ⟨L7, e8, k⟩ := Ok_let k
  refine jr_putI (pc := 12) F (gs g0 4 0 L7) fw_5_276 m4_0 rfl (show Rg 0 from ⟨by decide, by decide⟩) (put1 e8) dX5_clear_12 ?_
  refine jr_iload_n (pc := 15) F 0 dX5_clear_15 rfl rfl ?_
  exact jr_iret (pc := 16) F hQ rfl dX5_clear_16 ⟨_, _, rfl, r6, rfl, (Ok_some k)⟩
