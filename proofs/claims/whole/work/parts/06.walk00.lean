set_option maxHeartbeats 4000000 in
set_option maxRecDepth 100000 in
theorem snd_X0_freezes {v_kind : Int} {v_figure : Int} {v_cold : Int} {g0 : GG} (rgp_kind : Rg v_kind) (rgp_figure : Rg v_figure) (rgp_cold : Rg v_cold) {Q : (Int) → Prop} (k : Ok (X0_freezes_f v_kind v_figure v_cold) Q) : MetG SL yX0_freezes cX0_freezes 3 (some .int) 1 (fun ad => [iv v_kind, iv v_figure, iv v_cold]) (g0) (fun v g' => ∃ x : Int, v = some (iv x) ∧ Rg x ∧ g' = g0 ∧ Q x) := by
  refine met_intro SL_ok (by decide +kernel) (fun ad => Nat.le_of_ble_eq_true rfl) (fun X F hQ hR => ?_)
  replace F : FX X cX0_freezes RX0 3 (some .int) SL 1 := F
  show J X 0 [(0, iv v_kind), (1, iv v_figure), (2, iv v_cold)] [] (g0)
  refine jr_iload_n (pc := 0) F 0 dX0_freezes_0 rfl rfl ?_
  by_cases h1 : v_kind = 1
  · have k := Ok_t h1 k
    refine jr_tsin (pc := 1) (tgt := 32) (off := 31) F h1 ⟨by decide, by decide⟩ ⟨by decide, by decide⟩ rfl (by decide) dX0_freezes_1 ?_
    refine jr_iload_n (pc := 32) F 2 dX0_freezes_32 rfl rfl ?_
    refine jr_iconst (pc := 33) F dX0_freezes_33 ?_
    refine jr_idiv (pc := 34) F rgp_cold (show Rg 2 from ⟨by decide, by decide⟩) (by decide) dX0_freezes_34 ?_
    exact jr_iret (pc := 35) F hQ rfl dX0_freezes_35 ⟨_, rfl, (rg_div _ _), rfl, (Ok_some k)⟩
  have k := Ok_f h1 k
  by_cases h2 : v_kind = 3
  · have k := Ok_t h2 k
    refine jr_tsin (pc := 1) (tgt := 36) (off := 35) F h2 ⟨by decide, by decide⟩ ⟨by decide, by decide⟩ rfl (by decide) dX0_freezes_1 ?_
    refine jr_iload_n (pc := 36) F 2 dX0_freezes_36 rfl rfl ?_
    refine jr_iload_n (pc := 37) F 1 dX0_freezes_37 rfl rfl ?_
    refine jr_iadd (pc := 38) F dX0_freezes_38 ?_
    exact jr_iret (pc := 39) F hQ rfl dX0_freezes_39 ⟨_, rfl, (rg_w _), rfl, (Ok_some k)⟩
  have k := Ok_f h2 k
  by_cases h3 : v_kind = 4
  · have k := Ok_t h3 k
    refine jr_tsin (pc := 1) (tgt := 40) (off := 39) F h3 ⟨by decide, by decide⟩ ⟨by decide, by decide⟩ rfl (by decide) dX0_freezes_1 ?_
    refine jr_iconst (pc := 40) F dX0_freezes_40 ?_
    refine jr_iload_n (pc := 41) F 2 dX0_freezes_41 rfl rfl ?_
    refine jr_iload_n (pc := 42) F 1 dX0_freezes_42 rfl rfl ?_
    refine jr_iadd (pc := 43) F dX0_freezes_43 ?_
    refine jr_iconst (pc := 44) F dX0_freezes_44 ?_
    refine jr_isub (pc := 45) F dX0_freezes_45 ?_
    refine jr_mmax (pc := 46) F (show Rg 0 from ⟨by decide, by decide⟩) (rg_w _) lb_0_9 (by decide) (Nat.le_of_ble_eq_true rfl) dX0_freezes_46 ?_
    exact jr_iret (pc := 49) F hQ rfl dX0_freezes_49 ⟨_, rfl, (rg_imax (show Rg 0 from ⟨by decide, by decide⟩) (rg_w _)), rfl, (Ok_some k)⟩
  have k := Ok_f h3 k
  refine jr_tsd (pc := 1) (tgt := 50) F rgp_kind (by rcases (show v_kind < 1 ∨ 4 < v_kind ∨ v_kind = 2 by omega) with h | h | h <;> first | exact Or.inl h | exact Or.inr (Or.inl h) | (rw [h]; exact Or.inr (Or.inr ⟨by decide, by decide, rfl⟩))) (by decide) dX0_freezes_1 ?_
  refine jr_iload_n (pc := 50) F 2 dX0_freezes_50 rfl rfl ?_
  exact jr_iret (pc := 51) F hQ rfl dX0_freezes_51 ⟨_, rfl, rgp_cold, rfl, (Ok_some k)⟩
set_option maxHeartbeats 4000000 in
set_option maxRecDepth 100000 in
theorem snd_X0_melts {v_kind : Int} {v_figure : Int} {v_noon : Int} {g0 : GG} (rgp_kind : Rg v_kind) (rgp_figure : Rg v_figure) (rgp_noon : Rg v_noon) {Q : (Int) → Prop} (k : Ok (X0_melts_f v_kind v_figure v_noon) Q) : MetG SL yX0_melts cX0_melts 3 (some .int) 1 (fun ad => [iv v_kind, iv v_figure, iv v_noon]) (g0) (fun v g' => ∃ x : Int, v = some (iv x) ∧ Rg x ∧ g' = g0 ∧ Q x) := by
  refine met_intro SL_ok (by decide +kernel) (fun ad => Nat.le_of_ble_eq_true rfl) (fun X F hQ hR => ?_)
  replace F : FX X cX0_melts RX0 3 (some .int) SL 1 := F
  show J X 0 [(0, iv v_kind), (1, iv v_figure), (2, iv v_noon)] [] (g0)
  refine jr_iload_n (pc := 0) F 0 dX0_melts_0 rfl rfl ?_
  by_cases h1 : v_kind = 1
  · have k := Ok_t h1 k
    refine jr_tsin (pc := 1) (tgt := 36) (off := 35) F h1 ⟨by decide, by decide⟩ ⟨by decide, by decide⟩ rfl (by decide) dX0_melts_1 ?_
    refine jr_iconst (pc := 36) F dX0_melts_36 ?_
    refine jr_iload_n (pc := 37) F 2 dX0_melts_37 rfl rfl ?_
    refine jr_imul (pc := 38) F dX0_melts_38 ?_
    exact jr_iret (pc := 39) F hQ rfl dX0_melts_39 ⟨_, rfl, (rg_w _), rfl, (Ok_some k)⟩
  have k := Ok_f h1 k
  by_cases h2 : v_kind = 2
  · have k := Ok_t h2 k
    refine jr_tsin (pc := 1) (tgt := 40) (off := 39) F h2 ⟨by decide, by decide⟩ ⟨by decide, by decide⟩ rfl (by decide) dX0_melts_1 ?_
    refine jr_iconst (pc := 40) F dX0_melts_40 ?_
    refine jr_iload_n (pc := 41) F 2 dX0_melts_41 rfl rfl ?_
    refine jr_iload_n (pc := 42) F 1 dX0_melts_42 rfl rfl ?_
    refine jr_iconst (pc := 43) F dX0_melts_43 ?_
    refine jr_idiv (pc := 44) F rgp_figure (show Rg 2 from ⟨by decide, by decide⟩) (by decide) dX0_melts_44 ?_
    refine jr_isub (pc := 45) F dX0_melts_45 ?_
    refine jr_mmax (pc := 46) F (show Rg 0 from ⟨by decide, by decide⟩) (rg_w _) lb_0_9 (by decide) (Nat.le_of_ble_eq_true rfl) dX0_melts_46 ?_
    exact jr_iret (pc := 49) F hQ rfl dX0_melts_49 ⟨_, rfl, (rg_imax (show Rg 0 from ⟨by decide, by decide⟩) (rg_w _)), rfl, (Ok_some k)⟩
  have k := Ok_f h2 k
  by_cases h3 : v_kind = 5
  · have k := Ok_t h3 k
    refine jr_tsin (pc := 1) (tgt := 50) (off := 49) F h3 ⟨by decide, by decide⟩ ⟨by decide, by decide⟩ rfl (by decide) dX0_melts_1 ?_
    refine jr_iconst (pc := 50) F dX0_melts_50 ?_
    refine jr_iload_n (pc := 51) F 2 dX0_melts_51 rfl rfl ?_
    refine jr_iload_n (pc := 52) F 1 dX0_melts_52 rfl rfl ?_
    refine jr_iconst (pc := 53) F dX0_melts_53 ?_
    refine jr_idiv (pc := 54) F rgp_figure (show Rg 2 from ⟨by decide, by decide⟩) (by decide) dX0_melts_54 ?_
    refine jr_isub (pc := 55) F dX0_melts_55 ?_
    refine jr_mmax (pc := 56) F (show Rg 0 from ⟨by decide, by decide⟩) (rg_w _) lb_0_9 (by decide) (Nat.le_of_ble_eq_true rfl) dX0_melts_56 ?_
    refine jr_iconst (pc := 59) F dX0_melts_59 ?_
    refine jr_idiv (pc := 60) F (rg_imax (show Rg 0 from ⟨by decide, by decide⟩) (rg_w _)) (show Rg 2 from ⟨by decide, by decide⟩) (by decide) dX0_melts_60 ?_
    exact jr_iret (pc := 61) F hQ rfl dX0_melts_61 ⟨_, rfl, (rg_div _ _), rfl, (Ok_some k)⟩
  have k := Ok_f h3 k
  by_cases h4 : v_kind = 4
  · have k := Ok_t h4 k
    refine jr_tsin (pc := 1) (tgt := 62) (off := 61) F h4 ⟨by decide, by decide⟩ ⟨by decide, by decide⟩ rfl (by decide) dX0_melts_1 ?_
    refine jr_iload_n (pc := 62) F 2 dX0_melts_62 rfl rfl ?_
    refine jr_iconst (pc := 63) F dX0_melts_63 ?_
    refine jr_iadd (pc := 64) F dX0_melts_64 ?_
    exact jr_iret (pc := 65) F hQ rfl dX0_melts_65 ⟨_, rfl, (rg_w _), rfl, (Ok_some k)⟩
  have k := Ok_f h4 k
  refine jr_tsd (pc := 1) (tgt := 66) F rgp_kind (by rcases (show v_kind < 1 ∨ 5 < v_kind ∨ v_kind = 3 by omega) with h | h | h <;> first | exact Or.inl h | exact Or.inr (Or.inl h) | (rw [h]; exact Or.inr (Or.inr ⟨by decide, by decide, rfl⟩))) (by decide) dX0_melts_1 ?_
  refine jr_iload_n (pc := 66) F 2 dX0_melts_66 rfl rfl ?_
  exact jr_iret (pc := 67) F hQ rfl dX0_melts_67 ⟨_, rfl, rgp_noon, rfl, (Ok_some k)⟩
set_option maxHeartbeats 4000000 in
set_option maxRecDepth 100000 in
theorem snd_X0_wants {v_kind : Int} {v_figure : Int} {v_weight : Int} {g0 : GG} (rgp_kind : Rg v_kind) (rgp_figure : Rg v_figure) (rgp_weight : Rg v_weight) {Q : (Int) → Prop} (k : Ok (X0_wants_f v_kind v_figure v_weight) Q) : MetG SL yX0_wants cX0_wants 3 (some .int) 0 (fun ad => [iv v_kind, iv v_figure, iv v_weight]) (g0) (fun v g' => ∃ x : Int, v = some (iv x) ∧ Rg x ∧ g' = g0 ∧ Q x) := by
  refine met_intro SL_ok (by decide +kernel) (fun ad => Nat.le_of_ble_eq_true rfl) (fun X F hQ hR => ?_)
  replace F : FX X cX0_wants RX0 3 (some .int) SL 0 := F
  show J X 0 [(0, iv v_kind), (1, iv v_figure), (2, iv v_weight)] [] (g0)
  refine jr_iload_n (pc := 0) F 0 dX0_wants_0 rfl rfl ?_
  by_cases h1 : v_kind = 1
  · have k := Ok_t h1 k
    refine jr_tsin (pc := 1) (tgt := 36) (off := 35) F h1 ⟨by decide, by decide⟩ ⟨by decide, by decide⟩ rfl (by decide) dX0_wants_1 ?_
    refine jr_iload_n (pc := 36) F 2 dX0_wants_36 rfl rfl ?_
    refine jr_iload_n (pc := 37) F 2 dX0_wants_37 rfl rfl ?_
    refine jr_iconst (pc := 38) F dX0_wants_38 ?_
    refine jr_idiv (pc := 39) F rgp_weight (show Rg 2 from ⟨by decide, by decide⟩) (by decide) dX0_wants_39 ?_
    refine jr_iadd (pc := 40) F dX0_wants_40 ?_
    exact jr_iret (pc := 41) F hQ rfl dX0_wants_41 ⟨_, rfl, (rg_w _), rfl, (Ok_some k)⟩
  have k := Ok_f h1 k
  by_cases h2 : v_kind = 2
  · have k := Ok_t h2 k
    refine jr_tsin (pc := 1) (tgt := 42) (off := 41) F h2 ⟨by decide, by decide⟩ ⟨by decide, by decide⟩ rfl (by decide) dX0_wants_1 ?_
    refine jr_iload_n (pc := 42) F 2 dX0_wants_42 rfl rfl ?_
    refine jr_iload_n (pc := 43) F 1 dX0_wants_43 rfl rfl ?_
    refine jr_iadd (pc := 44) F dX0_wants_44 ?_
    exact jr_iret (pc := 45) F hQ rfl dX0_wants_45 ⟨_, rfl, (rg_w _), rfl, (Ok_some k)⟩
  have k := Ok_f h2 k
  by_cases h3 : v_kind = 5
  · have k := Ok_t h3 k
    refine jr_tsin (pc := 1) (tgt := 42) (off := 41) F h3 ⟨by decide, by decide⟩ ⟨by decide, by decide⟩ rfl (by decide) dX0_wants_1 ?_
    refine jr_iload_n (pc := 42) F 2 dX0_wants_42 rfl rfl ?_
    refine jr_iload_n (pc := 43) F 1 dX0_wants_43 rfl rfl ?_
    refine jr_iadd (pc := 44) F dX0_wants_44 ?_
    exact jr_iret (pc := 45) F hQ rfl dX0_wants_45 ⟨_, rfl, (rg_w _), rfl, (Ok_some k)⟩
  have k := Ok_f h3 k
  by_cases h4 : v_kind = 3
  · have k := Ok_t h4 k
    refine jr_tsin (pc := 1) (tgt := 46) (off := 45) F h4 ⟨by decide, by decide⟩ ⟨by decide, by decide⟩ rfl (by decide) dX0_wants_1 ?_
    refine jr_iload_n (pc := 46) F 2 dX0_wants_46 rfl rfl ?_
    refine jr_iconst (pc := 47) F dX0_wants_47 ?_
    refine jr_idiv (pc := 48) F rgp_weight (show Rg 2 from ⟨by decide, by decide⟩) (by decide) dX0_wants_48 ?_
    exact jr_iret (pc := 49) F hQ rfl dX0_wants_49 ⟨_, rfl, (rg_div _ _), rfl, (Ok_some k)⟩
  have k := Ok_f h4 k
  by_cases h5 : v_kind = 4
  · have k := Ok_t h5 k
    refine jr_tsin (pc := 1) (tgt := 46) (off := 45) F h5 ⟨by decide, by decide⟩ ⟨by decide, by decide⟩ rfl (by decide) dX0_wants_1 ?_
    refine jr_iload_n (pc := 46) F 2 dX0_wants_46 rfl rfl ?_
    refine jr_iconst (pc := 47) F dX0_wants_47 ?_
    refine jr_idiv (pc := 48) F rgp_weight (show Rg 2 from ⟨by decide, by decide⟩) (by decide) dX0_wants_48 ?_
    exact jr_iret (pc := 49) F hQ rfl dX0_wants_49 ⟨_, rfl, (rg_div _ _), rfl, (Ok_some k)⟩
  have k := Ok_f h5 k
  refine jr_tsout (pc := 1) (tgt := 50) F rgp_kind (by omega) (by decide) dX0_wants_1 ?_
  refine jr_iload_n (pc := 50) F 2 dX0_wants_50 rfl rfl ?_
  exact jr_iret (pc := 51) F hQ rfl dX0_wants_51 ⟨_, rfl, rgp_weight, rfl, (Ok_some k)⟩
set_option maxHeartbeats 4000000 in
set_option maxRecDepth 100000 in
theorem snd_X1_add {L0 : LT} {v_letter : Int} {g0 : GG} (rgp_letter : Rg v_letter) {Q : (LT) → Prop} (k : Ok (X1_add L0 v_letter) Q) : MetG SL yX1_add cX1_add 2 none 0 (fun ad => [.ref (ad (2, 0, 0)), iv v_letter]) (gs g0 2 0 L0) (fun v g' => ∃ L' : LT, v = none ∧ g' = gs g0 2 0 L' ∧ Q L') := by
  refine met_intro SL_ok (by decide +kernel) (fun ad => Nat.le_of_ble_eq_true rfl) (fun X F hQ hR => ?_)
  replace F : FX X cX1_add RX1 2 none SL 0 := F
  show J X 0 [(0, .ref (xad X (2, 0, 0))), (1, iv v_letter)] [] (gs g0 2 0 L0)
  refine jr_aload_n (pc := 0) F 0 dX1_add_0 rfl rfl ?_
  refine jr_getI (pc := 1) F (L0 0 1) f_1_15 m2_0 rfl (gs_at' _ _ _ _ _ _) dX1_add_1 (fun r1 => ?_)
  refine jr_bipush (pc := 4) F dX1_add_4 (by decide) ?_
  refine jr_icmp_ge (pc := 6) (tgt := 29) F r1 (show Rg 96 from ⟨by decide, by decide⟩) dX1_add_6 (by decide) (fun h2 => ?_) (fun h2 => ?_)
  · have k := Ok_f (ng_lt h2) k
    exact jr_vret (pc := 29) F hQ rfl dX1_add_29 ⟨_, rfl, rfl, (Ok_some k)⟩
  have k := Ok_t h2 k
  refine jr_aload_n (pc := 9) F 0 dX1_add_9 rfl rfl ?_
  refine jr_getR (pc := 10) (b := (2, 0, 1)) F f_1_9 m2_0 rfl dX1_add_10 ?_
  refine jr_aload_n (pc := 13) F 0 dX1_add_13 rfl rfl ?_
  refine jr_getI (pc := 14) F (L0 0 1) f_1_15 m2_0 rfl (gs_at' _ _ _ _ _ _) dX1_add_14 (fun r3 => ?_)
  refine jr_iload_n (pc := 17) F 1 dX1_add_17 rfl rfl ?_
  obtain ⟨c4, k⟩ := Ok_grd k
  obtain ⟨L5, e6, k⟩ := Ok_let k
  refine jr_iast (pc := 18) F (gs g0 2 0 L5) m2_1 (by decide) c4 rgp_letter (put1 e6) dX1_add_18 ?_
  refine jr_aload_n (pc := 19) F 0 dX1_add_19 rfl rfl ?_
  refine jr_dup (pc := 20) F dX1_add_20 rfl ?_
  refine jr_getI (pc := 21) F (L5 0 1) f_1_15 m2_0 rfl (gs_at' _ _ _ _ _ _) dX1_add_21 (fun r7 => ?_)
  refine jr_iconst (pc := 24) F dX1_add_24 ?_
  refine jr_iadd (pc := 25) F dX1_add_25 ?_
  obtain ⟨L8, e9, k⟩ := Ok_let k
  refine jr_putI (pc := 26) F (gs g0 2 0 L8) fw_1_15 m2_0 rfl (rg_w _) (put1 e9) dX1_add_26 ?_
  exact jr_vret (pc := 29) F hQ rfl dX1_add_29 ⟨_, rfl, rfl, (Ok_some k)⟩
set_option maxHeartbeats 4000000 in
set_option maxRecDepth 100000 in
theorem snd_X1_digitsBehind {v_letter : Int} {g0 : GG} (rgp_letter : Rg v_letter) {Q : (Int) → Prop} (k : Ok (X1_digitsBehind_f v_letter) Q) : MetG SL yX1_digitsBehind cX1_digitsBehind 1 (some .int) 0 (fun ad => [iv v_letter]) (g0) (fun v g' => ∃ x : Int, v = some (iv x) ∧ Rg x ∧ g' = g0 ∧ Q x) := by
  refine met_intro SL_ok (by decide +kernel) (fun ad => Nat.le_of_ble_eq_true rfl) (fun X F hQ hR => ?_)
  replace F : FX X cX1_digitsBehind RX1 1 (some .int) SL 0 := F
  show J X 0 [(0, iv v_letter)] [] (g0)
  refine jr_iload_n (pc := 0) F 0 dX1_digitsBehind_0 rfl rfl ?_
  by_cases h1 : v_letter = 110
  · have k := Ok_t h1 k
    refine jr_lsw (pc := 1) (tgt := 60) (off := 59) F rgp_letter (by decide) (by rw [h1]; decide) (by decide) dX1_digitsBehind_1 ?_
    refine jr_iconst (pc := 60) F dX1_digitsBehind_60 ?_
    exact jr_iret (pc := 61) F hQ rfl dX1_digitsBehind_61 ⟨_, rfl, (show Rg 2 from ⟨by decide, by decide⟩), rfl, (Ok_some k)⟩
  have k := Ok_f h1 k
  by_cases h2 : v_letter = 99
  · have k := Ok_t h2 k
    refine jr_lsw (pc := 1) (tgt := 60) (off := 59) F rgp_letter (by decide) (by rw [h2]; decide) (by decide) dX1_digitsBehind_1 ?_
    refine jr_iconst (pc := 60) F dX1_digitsBehind_60 ?_
    exact jr_iret (pc := 61) F hQ rfl dX1_digitsBehind_61 ⟨_, rfl, (show Rg 2 from ⟨by decide, by decide⟩), rfl, (Ok_some k)⟩
  have k := Ok_f h2 k
  by_cases h3 : v_letter = 104
  · have k := Ok_t h3 k
    refine jr_lsw (pc := 1) (tgt := 60) (off := 59) F rgp_letter (by decide) (by rw [h3]; decide) (by decide) dX1_digitsBehind_1 ?_
    refine jr_iconst (pc := 60) F dX1_digitsBehind_60 ?_
    exact jr_iret (pc := 61) F hQ rfl dX1_digitsBehind_61 ⟨_, rfl, (show Rg 2 from ⟨by decide, by decide⟩), rfl, (Ok_some k)⟩
  have k := Ok_f h3 k
  by_cases h4 : v_letter = 119
  · have k := Ok_t h4 k
    refine jr_lsw (pc := 1) (tgt := 62) (off := 61) F rgp_letter (by decide) (by rw [h4]; decide) (by decide) dX1_digitsBehind_1 ?_
    refine jr_iconst (pc := 62) F dX1_digitsBehind_62 ?_
    exact jr_iret (pc := 63) F hQ rfl dX1_digitsBehind_63 ⟨_, rfl, (show Rg 3 from ⟨by decide, by decide⟩), rfl, (Ok_some k)⟩
  have k := Ok_f h4 k
  by_cases h5 : v_letter = 116
  · have k := Ok_t h5 k
    refine jr_lsw (pc := 1) (tgt := 64) (off := 63) F rgp_letter (by decide) (by rw [h5]; decide) (by decide) dX1_digitsBehind_1 ?_
    refine jr_iconst (pc := 64) F dX1_digitsBehind_64 ?_
    exact jr_iret (pc := 65) F hQ rfl dX1_digitsBehind_65 ⟨_, rfl, (show Rg 4 from ⟨by decide, by decide⟩), rfl, (Ok_some k)⟩
  have k := Ok_f h5 k
  by_cases h6 : v_letter = 121
  · have k := Ok_t h6 k
    refine jr_lsw (pc := 1) (tgt := 66) (off := 65) F rgp_letter (by decide) (by rw [h6]; decide) (by decide) dX1_digitsBehind_1 ?_
    refine jr_bipush (pc := 66) F dX1_digitsBehind_66 (by decide) ?_
    exact jr_iret (pc := 68) F hQ rfl dX1_digitsBehind_68 ⟨_, rfl, (show Rg 6 from ⟨by decide, by decide⟩), rfl, (Ok_some k)⟩
  have k := Ok_f h6 k
  refine jr_lsw (pc := 1) (tgt := 69) (off := 68) F rgp_letter (by decide) (by simp [Op.lookupswitch.offset, lsw_n2 h1, lsw_n2 h2, lsw_n2 h3, lsw_n2 h4, lsw_n2 h5, lsw_n2 h6]) (by decide) dX1_digitsBehind_1 ?_
  refine jr_iconst (pc := 69) F dX1_digitsBehind_69 ?_
  exact jr_iret (pc := 70) F hQ rfl dX1_digitsBehind_70 ⟨_, rfl, (show Rg 0 from ⟨by decide, by decide⟩), rfl, (Ok_some k)⟩
set_option maxHeartbeats 4000000 in
set_option maxRecDepth 100000 in
theorem snd_X1_isDigit {v_letter : Int} {g0 : GG} (rgp_letter : Rg v_letter) {Q : (Int) → Prop} (k : Ok (X1_isDigit_f v_letter) Q) : MetG SL yX1_isDigit cX1_isDigit 1 (some .boolean) 0 (fun ad => [iv v_letter]) (g0) (fun v g' => ∃ x : Int, v = some (iv x) ∧ Bz x ∧ g' = g0 ∧ Q x) := by
  refine met_intro SL_ok (by decide +kernel) (fun ad => Nat.le_of_ble_eq_true rfl) (fun X F hQ hR => ?_)
  replace F : FX X cX1_isDigit RX1 1 (some .boolean) SL 0 := F
  show J X 0 [(0, iv v_letter)] [] (g0)
  refine jifP (P := fun v => Bz v → J X 17 [(0, iv v_letter)] (iv v :: []) (g0)) (c := (48 ≤ v_letter) ∧ (v_letter ≤ 57)) (1) (0) (fun Ht Hf => ?_) (fun r3 => ?_)
  · refine jr_iload_n (pc := 0) F 0 dX1_isDigit_0 rfl rfl ?_
    refine jr_bipush (pc := 1) F dX1_isDigit_1 (by decide) ?_
    refine jr_icmp_lt (pc := 3) (tgt := 16) F rgp_letter (show Rg 48 from ⟨by decide, by decide⟩) dX1_isDigit_3 (by decide) (fun h1 => ?_) (fun h1 => ?_)
    · refine jr_iconst (pc := 16) F dX1_isDigit_16 ?_
      exact Hf (fun q => (ng_le h1) q.1) (Or.inl rfl)
    refine jr_iload_n (pc := 6) F 0 dX1_isDigit_6 rfl rfl ?_
    refine jr_bipush (pc := 7) F dX1_isDigit_7 (by decide) ?_
    refine jr_icmp_gt (pc := 9) (tgt := 16) F rgp_letter (show Rg 57 from ⟨by decide, by decide⟩) dX1_isDigit_9 (by decide) (fun h2 => ?_) (fun h2 => ?_)
    · refine jr_iconst (pc := 16) F dX1_isDigit_16 ?_
      exact Hf (fun q => (ng_le h2) q.2) (Or.inl rfl)
    refine jr_iconst (pc := 12) F dX1_isDigit_12 ?_
    refine jr_goto (pc := 13) (tgt := 17) F dX1_isDigit_13 (by decide) ?_
    exact Ht ⟨h1, h2⟩ (Or.inr rfl)
  exact jr_zret (pc := 17) F hQ rfl r3 dX1_isDigit_17 ⟨_, rfl, r3, rfl, (Ok_some k)⟩
set_option maxHeartbeats 4000000 in
set_option maxRecDepth 100000 in
theorem snd_X1_letterAt {L0 : LT} {v_place : Int} {g0 : GG} (rgp_place : Rg v_place) {Q : (Int) → Prop} (k : Ok (X1_letterAt_f L0 v_place) Q) : MetG SL yX1_letterAt cX1_letterAt 2 (some .int) 0 (fun ad => [.ref (ad (2, 0, 0)), iv v_place]) (gs g0 2 0 L0) (fun v g' => ∃ x : Int, v = some (iv x) ∧ Rg x ∧ g' = gs g0 2 0 L0 ∧ Q x) := by
  refine met_intro SL_ok (by decide +kernel) (fun ad => Nat.le_of_ble_eq_true rfl) (fun X F hQ hR => ?_)
  replace F : FX X cX1_letterAt RX1 2 (some .int) SL 0 := F
  show J X 0 [(0, .ref (xad X (2, 0, 0))), (1, iv v_place)] [] (gs g0 2 0 L0)
  obtain ⟨c1, k⟩ := Ok_grd k
  refine jifP (P := fun v => Rg v → J X 22 [(0, .ref (xad X (2, 0, 0))), (1, iv v_place)] (iv v :: []) (gs g0 2 0 L0)) (c := (0 ≤ v_place) ∧ (v_place < (L0 0 1))) (L0 1 v_place) ((-1)) (fun Ht Hf => ?_) (fun r6 => ?_)
  · refine jr_iload_n (pc := 0) F 1 dX1_letterAt_0 rfl rfl ?_
    refine jr_if_lt (pc := 1) (tgt := 21) F rgp_place dX1_letterAt_1 (by decide) (fun h2 => ?_) (fun h2 => ?_)
    · refine jr_iconst (pc := 21) F dX1_letterAt_21 ?_
      exact Hf (fun q => (ng_le h2) q.1) (show Rg (-1) from ⟨by decide, by decide⟩)
    refine jr_iload_n (pc := 4) F 1 dX1_letterAt_4 rfl rfl ?_
    refine jr_aload_n (pc := 5) F 0 dX1_letterAt_5 rfl rfl ?_
    refine jr_getI (pc := 6) F (L0 0 1) f_1_15 m2_0 rfl (gs_at' _ _ _ _ _ _) dX1_letterAt_6 (fun r3 => ?_)
    refine jr_icmp_ge (pc := 9) (tgt := 21) F rgp_place r3 dX1_letterAt_9 (by decide) (fun h4 => ?_) (fun h4 => ?_)
    · refine jr_iconst (pc := 21) F dX1_letterAt_21 ?_
      exact Hf (fun q => (ng_lt h4) q.2) (show Rg (-1) from ⟨by decide, by decide⟩)
    refine jr_aload_n (pc := 12) F 0 dX1_letterAt_12 rfl rfl ?_
    refine jr_getR (pc := 13) (b := (2, 0, 1)) F f_1_9 m2_0 rfl dX1_letterAt_13 ?_
    refine jr_iload_n (pc := 16) F 1 dX1_letterAt_16 rfl rfl ?_
    refine jr_iald (pc := 17) F (L0 1 v_place) m2_1 (by decide) (c1 ⟨h2, h4⟩) (gs_at' _ _ _ _ _ _) dX1_letterAt_17 (fun r5 => ?_)
    refine jr_goto (pc := 18) (tgt := 22) F dX1_letterAt_18 (by decide) ?_
    exact Ht ⟨h2, h4⟩ r5
  exact jr_iret (pc := 22) F hQ rfl dX1_letterAt_22 ⟨_, rfl, r6, rfl, (Ok_some k)⟩
set_option maxHeartbeats 4000000 in
set_option maxRecDepth 100000 in
theorem snd_X1_brokenStatementAt {L0 : LT} {v_start : Int} {g0 : GG} (rgp_start : Rg v_start) {Q : (Int) → Prop} (k : Ok (X1_brokenStatementAt L0 v_start) Q) : MetG SL yX1_brokenStatementAt cX1_brokenStatementAt 5 (some .int) 1 (fun ad => [.ref (ad (2, 0, 0)), iv v_start]) (gs g0 2 0 L0) (fun v g' => ∃ x : Int, v = some (iv x) ∧ Rg x ∧ g' = gs g0 2 0 L0 ∧ Q x) := by
  refine met_intro SL_ok (by decide +kernel) (fun ad => Nat.le_of_ble_eq_true rfl) (fun X F hQ hR => ?_)
  replace F : FX X cX1_brokenStatementAt RX1 5 (some .int) SL 1 := F
  show J X 0 [(0, .ref (xad X (2, 0, 0))), (1, iv v_start)] [] (gs g0 2 0 L0)
  refine jr_aload_n (pc := 0) F 0 dX1_brokenStatementAt_0 rfl rfl ?_
  refine jr_iload_n (pc := 1) F 1 dX1_brokenStatementAt_1 rfl rfl ?_
  obtain ⟨c2, k⟩ := Ok_grd k
  refine jr_callV (pc := 2) (st := []) F [iv v_start] (snd_X1_letterAt  (g0 := g0) rgp_start (X1_letterAt_ok _ _ c2)) rfl ck_1_26 rfl m2_0 rfl rfl rfl (by decide) (Nat.le_of_ble_eq_true rfl) dX1_brokenStatementAt_2 rfl (fun v g' hq => ?_)
  obtain ⟨x, rfl, r1, eg, hx⟩ := hq
  subst hx
  refine J_eq eg ?_
  show J X 5 [(0, .ref (xad X (2, 0, 0))), (1, iv v_start)] [iv (X1_letterAt_v L0 v_start)] (gs g0 2 0 L0)
  refine jr_callS (pc := 5) (st := []) F [iv (X1_letterAt_v L0 v_start)] (snd_X1_digitsBehind (g0 := gs g0 2 0 L0) r1 (X1_digitsBehind_ok _ )) rfl ck_1_29 rfl rfl (by decide) (Nat.le_of_ble_eq_true rfl) dX1_brokenStatementAt_5 rfl (fun v g' hq => ?_)
  obtain ⟨x, rfl, r3, eg, hx⟩ := hq
  subst hx
  refine J_eq eg ?_
  show J X 8 [(0, .ref (xad X (2, 0, 0))), (1, iv v_start)] [iv (X1_digitsBehind_v (X1_letterAt_v L0 v_start))] (gs g0 2 0 L0)
  obtain ⟨x4, e5, k⟩ := Ok_let k
  have r6 : Rg x4 := rg_of e5 r3
  refine jr_top e5 ?_
  refine jr_istore_n (pc := 8) F [(2, iv x4), (0, .ref (xad X (2, 0, 0))), (1, iv v_start)] dX1_brokenStatementAt_8 rfl (by decide) rfl ?_
  refine jr_iload_n (pc := 9) F 0 dX1_brokenStatementAt_9 rfl rfl ?_
  refine jr_if_ne (pc := 10) (tgt := 15) F r6 dX1_brokenStatementAt_10 (by decide) (fun h7 => ?_) (fun h7 => ?_)
  · have k := Ok_f h7 k
    refine jr_iload_n (pc := 15) F 2 dX1_brokenStatementAt_15 rfl rfl ?_
    refine jr_iconst (pc := 16) F dX1_brokenStatementAt_16 ?_
    refine jr_iadd (pc := 17) F dX1_brokenStatementAt_17 ?_
    refine jr_iload_n (pc := 18) F 0 dX1_brokenStatementAt_18 rfl rfl ?_
    refine jr_iadd (pc := 19) F dX1_brokenStatementAt_19 ?_
    obtain ⟨x8, e9, k⟩ := Ok_let k
    have r10 : Rg x8 := rg_of e9 (rg_w _)
    refine jr_top e9 ?_
    refine jr_istore_n (pc := 20) F [(3, iv x8), (2, iv x4), (0, .ref (xad X (2, 0, 0))), (1, iv v_start)] dX1_brokenStatementAt_20 rfl (by decide) rfl ?_
    refine jr_iload_n (pc := 21) F 3 dX1_brokenStatementAt_21 rfl rfl ?_
    refine jr_iconst (pc := 22) F dX1_brokenStatementAt_22 ?_
    refine jr_iadd (pc := 23) F dX1_brokenStatementAt_23 ?_
    obtain ⟨x11, e12, k⟩ := Ok_let k
    have r13 : Rg x11 := rg_of e12 (rg_w _)
    refine jr_top e12 ?_
    refine jr_istore (pc := 24) F [(4, iv x11), (3, iv x8), (2, iv x4), (0, .ref (xad X (2, 0, 0))), (1, iv v_start)] dX1_brokenStatementAt_24 (by decide) rfl ?_
    refine jr_sub F [3, 4, 2, 1, 0] [(0, .ref (xad X (2, 0, 0))), (1, iv v_start), (2, iv x4), (3, iv x8), (4, iv x11)] rfl ?_
    refine lpj (P := fun s : Int => Rg (s) → J X 26 [(0, .ref (xad X (2, 0, 0))), (1, iv v_start), (2, iv x4), (3, iv x8), (4, iv s)] [] (gs g0 2 0 L0)) (PE := fun o : ((Int) ⊕ (Int)) => match o with | .inl r => Rg (r) → J X 53 [(0, .ref (xad X (2, 0, 0))), (1, iv v_start), (2, iv x4), (3, iv x8), (4, iv r)] [] (gs g0 2 0 L0) | .inr y => Q (y)) k (fun s14 Q15 k hC16 hE17 r19 => ?_) (fun o k => ?_) (fun h => h r13)
    · refine jr_iload (pc := 26) F 4 dX1_brokenStatementAt_26 rfl ?_
      refine jr_iload_n (pc := 28) F 3 dX1_brokenStatementAt_28 rfl rfl ?_
      refine jr_icmp_ge (pc := 29) (tgt := 53) F r19 r10 dX1_brokenStatementAt_29 (by decide) (fun h20 => ?_) (fun h20 => ?_)
      · have k := Ok_f (ng_lt h20) k
        exact hE17 (Sum.inl s14) (Ok_some k) r19
      have k := Ok_t h20 k
      obtain ⟨c21, k⟩ := Ok_grd k
      refine cnd (c := (X1_isDigit_v (X1_letterAt_v L0 s14)) = 0) (GT := J X 44 [(0, .ref (xad X (2, 0, 0))), (1, iv v_start), (2, iv x4), (3, iv x8), (4, iv s14)] [] (gs g0 2 0 L0)) (GF := J X 47 [(0, .ref (xad X (2, 0, 0))), (1, iv v_start), (2, iv x4), (3, iv x8), (4, iv s14)] [] (gs g0 2 0 L0)) k (fun HT HF => ?_) (fun h25 k => ?_) (fun h25 k => ?_)
      · refine jr_aload_n (pc := 32) F 0 dX1_brokenStatementAt_32 rfl rfl ?_
        refine jr_iload (pc := 33) F 4 dX1_brokenStatementAt_33 rfl ?_
        refine jr_callV (pc := 35) (st := []) F [iv s14] (snd_X1_letterAt  (g0 := g0) r19 (X1_letterAt_ok _ _ c21)) rfl ck_1_26 rfl m2_0 rfl rfl rfl (by decide) (Nat.le_of_ble_eq_true rfl) dX1_brokenStatementAt_35 rfl (fun v g' hq => ?_)
        obtain ⟨x, rfl, r22, eg, hx⟩ := hq
        subst hx
        refine J_eq eg ?_
        show J X 38 [(0, .ref (xad X (2, 0, 0))), (1, iv v_start), (2, iv x4), (3, iv x8), (4, iv s14)] [iv (X1_letterAt_v L0 s14)] (gs g0 2 0 L0)
        refine jr_callS (pc := 38) (st := []) F [iv (X1_letterAt_v L0 s14)] (snd_X1_isDigit (g0 := gs g0 2 0 L0) r22 (X1_isDigit_ok _ )) rfl ck_1_32 rfl rfl (by decide) (Nat.le_of_ble_eq_true rfl) dX1_brokenStatementAt_38 rfl (fun v g' hq => ?_)
        obtain ⟨x, rfl, r23, eg, hx⟩ := hq
        subst hx
        refine J_eq eg ?_
        show J X 41 [(0, .ref (xad X (2, 0, 0))), (1, iv v_start), (2, iv x4), (3, iv x8), (4, iv s14)] [iv (X1_isDigit_v (X1_letterAt_v L0 s14))] (gs g0 2 0 L0)
        refine jr_if_ne (pc := 41) (tgt := 47) F (rg_z r23) dX1_brokenStatementAt_41 (by decide) (fun h24 => ?_) (fun h24 => ?_)
        · exact HF h24
        exact HT h24
      · refine jr_iload (pc := 44) F 4 dX1_brokenStatementAt_44 rfl ?_
        exact jr_iret (pc := 46) F hQ rfl dX1_brokenStatementAt_46 ⟨_, rfl, r19, rfl, (hE17 (Sum.inr _) (Ok_some k))⟩
      refine jr_iinc (pc := 47) F [(4, iv (w32 (s14 + 1))), (0, .ref (xad X (2, 0, 0))), (1, iv v_start), (2, iv x4), (3, iv x8)] 4 dX1_brokenStatementAt_47 rfl (by decide) rfl ?_
      refine jr_goto (pc := 50) (tgt := 26) F dX1_brokenStatementAt_50 (by decide) ?_
      refine jr_sub F [1, 2, 3, 4, 0] [(0, .ref (xad X (2, 0, 0))), (1, iv v_start), (2, iv x4), (3, iv x8), (4, iv (w32 (s14 + 1)))] rfl ?_
      exact hC16 (w32 (s14 + 1)) (Ok_some k) (rg_w _)
    rcases o with z18 | y
    rotate_left
    · show Q (y)
      exact Ok_some k
    intro r26
    obtain ⟨c27, k⟩ := Ok_grd k
    refine jifP (P := fun v => Rg v → J X 68 [(0, .ref (xad X (2, 0, 0))), (1, iv v_start), (2, iv x4), (3, iv x8), (4, iv z18)] (iv v :: []) (gs g0 2 0 L0)) (c := (X1_letterAt_v L0 x8) = 59) ((-1)) (x8) (fun Ht Hf => ?_) (fun r30 => ?_)
    · refine jr_aload_n (pc := 53) F 0 dX1_brokenStatementAt_53 rfl rfl ?_
      refine jr_iload_n (pc := 54) F 3 dX1_brokenStatementAt_54 rfl rfl ?_
      refine jr_callV (pc := 55) (st := []) F [iv x8] (snd_X1_letterAt  (g0 := g0) r10 (X1_letterAt_ok _ _ c27)) rfl ck_1_26 rfl m2_0 rfl rfl rfl (by decide) (Nat.le_of_ble_eq_true rfl) dX1_brokenStatementAt_55 rfl (fun v g' hq => ?_)
      obtain ⟨x, rfl, r28, eg, hx⟩ := hq
      subst hx
      refine J_eq eg ?_
      show J X 58 [(0, .ref (xad X (2, 0, 0))), (1, iv v_start), (2, iv x4), (3, iv x8), (4, iv z18)] [iv (X1_letterAt_v L0 x8)] (gs g0 2 0 L0)
      refine jr_bipush (pc := 58) F dX1_brokenStatementAt_58 (by decide) ?_
      refine jr_icmp_ne (pc := 60) (tgt := 67) F r28 (show Rg 59 from ⟨by decide, by decide⟩) dX1_brokenStatementAt_60 (by decide) (fun h29 => ?_) (fun h29 => ?_)
      · refine jr_iload_n (pc := 67) F 3 dX1_brokenStatementAt_67 rfl rfl ?_
        exact Hf h29 r10
      refine jr_iconst (pc := 63) F dX1_brokenStatementAt_63 ?_
      refine jr_goto (pc := 64) (tgt := 68) F dX1_brokenStatementAt_64 (by decide) ?_
      exact Ht h29 (show Rg (-1) from ⟨by decide, by decide⟩)
    exact jr_iret (pc := 68) F hQ rfl dX1_brokenStatementAt_68 ⟨_, rfl, r30, rfl, (Ok_some k)⟩
  have k := Ok_t h7 k
  refine jr_iload_n (pc := 13) F 2 dX1_brokenStatementAt_13 rfl rfl ?_
  exact jr_iret (pc := 14) F hQ rfl dX1_brokenStatementAt_14 ⟨_, rfl, rgp_start, rfl, (Ok_some k)⟩
set_option maxHeartbeats 4000000 in
set_option maxRecDepth 100000 in
theorem snd_X1_lengthAt {L0 : LT} {v_place : Int} {g0 : GG} (rgp_place : Rg v_place) {Q : (Int) → Prop} (k : Ok (X1_lengthAt_f L0 v_place) Q) : MetG SL yX1_lengthAt cX1_lengthAt 2 (some .int) 1 (fun ad => [.ref (ad (2, 0, 0)), iv v_place]) (gs g0 2 0 L0) (fun v g' => ∃ x : Int, v = some (iv x) ∧ Rg x ∧ g' = gs g0 2 0 L0 ∧ Q x) := by
  refine met_intro SL_ok (by decide +kernel) (fun ad => Nat.le_of_ble_eq_true rfl) (fun X F hQ hR => ?_)
  replace F : FX X cX1_lengthAt RX1 2 (some .int) SL 1 := F
  show J X 0 [(0, .ref (xad X (2, 0, 0))), (1, iv v_place)] [] (gs g0 2 0 L0)
  refine jr_aload_n (pc := 0) F 0 dX1_lengthAt_0 rfl rfl ?_
  refine jr_iload_n (pc := 1) F 1 dX1_lengthAt_1 rfl rfl ?_
  obtain ⟨c2, k⟩ := Ok_grd k
  refine jr_callV (pc := 2) (st := []) F [iv v_place] (snd_X1_letterAt  (g0 := g0) rgp_place (X1_letterAt_ok _ _ c2)) rfl ck_1_26 rfl m2_0 rfl rfl rfl (by decide) (Nat.le_of_ble_eq_true rfl) dX1_lengthAt_2 rfl (fun v g' hq => ?_)
  obtain ⟨x, rfl, r1, eg, hx⟩ := hq
  subst hx
  refine J_eq eg ?_
  show J X 5 [(0, .ref (xad X (2, 0, 0))), (1, iv v_place)] [iv (X1_letterAt_v L0 v_place)] (gs g0 2 0 L0)
  refine jr_callS (pc := 5) (st := []) F [iv (X1_letterAt_v L0 v_place)] (snd_X1_digitsBehind (g0 := gs g0 2 0 L0) r1 (X1_digitsBehind_ok _ )) rfl ck_1_29 rfl rfl (by decide) (Nat.le_of_ble_eq_true rfl) dX1_lengthAt_5 rfl (fun v g' hq => ?_)
  obtain ⟨x, rfl, r3, eg, hx⟩ := hq
  subst hx
  refine J_eq eg ?_
  show J X 8 [(0, .ref (xad X (2, 0, 0))), (1, iv v_place)] [iv (X1_digitsBehind_v (X1_letterAt_v L0 v_place))] (gs g0 2 0 L0)
  refine jr_iconst (pc := 8) F dX1_lengthAt_8 ?_
  refine jr_iadd (pc := 9) F dX1_lengthAt_9 ?_
  exact jr_iret (pc := 10) F hQ rfl dX1_lengthAt_10 ⟨_, rfl, (rg_w _), rfl, (Ok_some k)⟩
set_option maxHeartbeats 4000000 in
set_option maxRecDepth 100000 in
theorem snd_X1_brokenAt {L0 : LT} {g0 : GG}  {Q : (Int) → Prop} (k : Ok (X1_brokenAt L0) Q) : MetG SL yX1_brokenAt cX1_brokenAt 4 (some .int) 2 (fun ad => [.ref (ad (2, 0, 0))]) (gs g0 2 0 L0) (fun v g' => ∃ x : Int, v = some (iv x) ∧ Rg x ∧ g' = gs g0 2 0 L0 ∧ Q x) := by
  refine met_intro SL_ok (by decide +kernel) (fun ad => Nat.le_of_ble_eq_true rfl) (fun X F hQ hR => ?_)
  replace F : FX X cX1_brokenAt RX1 4 (some .int) SL 2 := F
  show J X 0 [(0, .ref (xad X (2, 0, 0)))] [] (gs g0 2 0 L0)
  refine jr_iconst (pc := 0) F dX1_brokenAt_0 ?_
  refine jr_istore_n (pc := 1) F [(1, iv 0), (0, .ref (xad X (2, 0, 0)))] dX1_brokenAt_1 rfl (by decide) rfl ?_
  refine jr_iconst (pc := 2) F dX1_brokenAt_2 ?_
  refine jr_istore_n (pc := 3) F [(2, iv 0), (1, iv 0), (0, .ref (xad X (2, 0, 0)))] dX1_brokenAt_3 rfl (by decide) rfl ?_
  refine jr_sub F [2, 1, 0] [(0, .ref (xad X (2, 0, 0))), (1, iv 0), (2, iv 0)] rfl ?_
  refine lpj (P := fun s : Int × Int => Rg (s.1) → Rg (s.2) → J X 4 [(0, .ref (xad X (2, 0, 0))), (1, iv s.1), (2, iv s.2)] [] (gs g0 2 0 L0)) (PE := fun o : ((Int × Int) ⊕ (Int)) => match o with | .inl r => Rg (r.1) → Rg (r.2) → J X 46 [(0, .ref (xad X (2, 0, 0))), (1, iv r.1), (2, iv r.2)] [] (gs g0 2 0 L0) | .inr y => Q (y)) k (fun s1 Q2 k hC3 hE4 r6 r7 => ?_) (fun o k => ?_) (fun h => h (show Rg 0 from ⟨by decide, by decide⟩) (show Rg 0 from ⟨by decide, by decide⟩))
  · refine jr_iload_n (pc := 4) F 2 dX1_brokenAt_4 rfl rfl ?_
    refine jr_bipush (pc := 5) F dX1_brokenAt_5 (by decide) ?_
    refine jr_icmp_ge (pc := 7) (tgt := 46) F r7 (show Rg 24 from ⟨by decide, by decide⟩) dX1_brokenAt_7 (by decide) (fun h8 => ?_) (fun h8 => ?_)
    · have k := Ok_f (ng_lt h8) k
      exact hE4 (Sum.inl (s1.1, s1.2)) (Ok_some k) r6 r7
    have k := Ok_t h8 k
    refine jr_aload_n (pc := 10) F 0 dX1_brokenAt_10 rfl rfl ?_
    refine jr_iload_n (pc := 11) F 1 dX1_brokenAt_11 rfl rfl ?_
    have k := Ok_bind k
    refine jr_callV (pc := 12) (st := []) F [iv s1.1] (snd_X1_brokenStatementAt  (g0 := g0) r6 k) rfl ck_1_19 rfl m2_0 rfl rfl rfl (by decide) (Nat.le_of_ble_eq_true rfl) dX1_brokenAt_12 rfl (fun v g' hq => ?_)
    obtain ⟨z10, rfl, r9, eg, k⟩ := hq
    refine J_eq eg ?_
    show J X 15 [(0, .ref (xad X (2, 0, 0))), (1, iv s1.1), (2, iv s1.2)] [iv z10] (gs g0 2 0 L0)
    refine jr_istore_n (pc := 15) F [(3, iv z10), (0, .ref (xad X (2, 0, 0))), (1, iv s1.1), (2, iv s1.2)] dX1_brokenAt_15 rfl (by decide) rfl ?_
    refine jr_iload_n (pc := 16) F 0 dX1_brokenAt_16 rfl rfl ?_
    refine jr_if_lt (pc := 17) (tgt := 22) F r9 dX1_brokenAt_17 (by decide) (fun h11 => ?_) (fun h11 => ?_)
    · have k := Ok_f (ng_le h11) k
      refine jr_iload_n (pc := 22) F 2 dX1_brokenAt_22 rfl rfl ?_
      refine jr_aload_n (pc := 23) F 1 dX1_brokenAt_23 rfl rfl ?_
      refine jr_iload_n (pc := 24) F 2 dX1_brokenAt_24 rfl rfl ?_
      obtain ⟨c13, k⟩ := Ok_grd k
      refine jr_callV (pc := 25) (st := [iv s1.1]) F [iv s1.1] (snd_X1_lengthAt  (g0 := g0) r6 (X1_lengthAt_ok _ _ c13)) rfl ck_1_23 rfl m2_0 rfl rfl rfl (by decide) (Nat.le_of_ble_eq_true rfl) dX1_brokenAt_25 rfl (fun v g' hq => ?_)
      obtain ⟨x, rfl, r12, eg, hx⟩ := hq
      subst hx
      refine J_eq eg ?_
      show J X 28 [(3, iv z10), (0, .ref (xad X (2, 0, 0))), (1, iv s1.1), (2, iv s1.2)] [iv (X1_lengthAt_v L0 s1.1), iv s1.1] (gs g0 2 0 L0)
      refine jr_iadd (pc := 28) F dX1_brokenAt_28 ?_
      obtain ⟨x14, e15, k⟩ := Ok_let k
      have r16 : Rg x14 := rg_of e15 (rg_w _)
      refine jr_top e15 ?_
      refine jr_istore_n (pc := 29) F [(1, iv x14), (3, iv z10), (0, .ref (xad X (2, 0, 0))), (2, iv s1.2)] dX1_brokenAt_29 rfl (by decide) rfl ?_
      refine jr_iload_n (pc := 30) F 0 dX1_brokenAt_30 rfl rfl ?_
      refine jr_aload_n (pc := 31) F 2 dX1_brokenAt_31 rfl rfl ?_
      refine jr_getI (pc := 32) F (L0 0 1) f_1_15 m2_0 rfl (gs_at' _ _ _ _ _ _) dX1_brokenAt_32 (fun r17 => ?_)
      refine jr_icmp_lt (pc := 35) (tgt := 40) F r16 r17 dX1_brokenAt_35 (by decide) (fun h18 => ?_) (fun h18 => ?_)
      · have k := Ok_f (ng_le h18) k
        refine jr_iinc (pc := 40) F [(2, iv (w32 (s1.2 + 1))), (1, iv x14), (3, iv z10), (0, .ref (xad X (2, 0, 0)))] 3 dX1_brokenAt_40 rfl (by decide) rfl ?_
        refine jr_goto (pc := 43) (tgt := 4) F dX1_brokenAt_43 (by decide) ?_
        refine jr_sub F [3, 1, 0] [(0, .ref (xad X (2, 0, 0))), (1, iv x14), (2, iv (w32 (s1.2 + 1)))] rfl ?_
        exact hC3 (x14, w32 (s1.2 + 1)) (Ok_some k) r16 (rg_w _)
      have k := Ok_t h18 k
      refine jr_iconst (pc := 38) F dX1_brokenAt_38 ?_
      exact jr_iret (pc := 39) F hQ rfl dX1_brokenAt_39 ⟨_, rfl, (show Rg (-1) from ⟨by decide, by decide⟩), rfl, (hE4 (Sum.inr _) (Ok_some k))⟩
    have k := Ok_t h11 k
    refine jr_iload_n (pc := 20) F 0 dX1_brokenAt_20 rfl rfl ?_
    exact jr_iret (pc := 21) F hQ rfl dX1_brokenAt_21 ⟨_, rfl, r9, rfl, (hE4 (Sum.inr _) (Ok_some k))⟩
  rcases o with z5 | y
  rotate_left
  · show Q (y)
    exact Ok_some k
  intro r19 r20
  refine jr_iload_n (pc := 46) F 1 dX1_brokenAt_46 rfl rfl ?_
  exact jr_iret (pc := 47) F hQ rfl dX1_brokenAt_47 ⟨_, rfl, r19, rfl, (Ok_some k)⟩
set_option maxHeartbeats 4000000 in
set_option maxRecDepth 100000 in
theorem snd_X1_number {L0 : LT} {v_place : Int} {v_digits : Int} {g0 : GG} (rgp_place : Rg v_place) (rgp_digits : Rg v_digits) {Q : (Int) → Prop} (k : Ok (X1_number L0 v_place v_digits) Q) : MetG SL yX1_number cX1_number 5 (some .int) 1 (fun ad => [.ref (ad (2, 0, 0)), iv v_place, iv v_digits]) (gs g0 2 0 L0) (fun v g' => ∃ x : Int, v = some (iv x) ∧ Rg x ∧ g' = gs g0 2 0 L0 ∧ Q x) := by
  refine met_intro SL_ok (by decide +kernel) (fun ad => Nat.le_of_ble_eq_true rfl) (fun X F hQ hR => ?_)
  replace F : FX X cX1_number RX1 5 (some .int) SL 1 := F
  show J X 0 [(0, .ref (xad X (2, 0, 0))), (1, iv v_place), (2, iv v_digits)] [] (gs g0 2 0 L0)
  refine jr_iconst (pc := 0) F dX1_number_0 ?_
  refine jr_istore_n (pc := 1) F [(3, iv 0), (0, .ref (xad X (2, 0, 0))), (1, iv v_place), (2, iv v_digits)] dX1_number_1 rfl (by decide) rfl ?_
  refine jr_iload_n (pc := 2) F 2 dX1_number_2 rfl rfl ?_
  refine jr_istore (pc := 3) F [(4, iv v_place), (3, iv 0), (0, .ref (xad X (2, 0, 0))), (1, iv v_place), (2, iv v_digits)] dX1_number_3 (by decide) rfl ?_
  refine jr_sub F [2, 3, 4, 1, 0] [(0, .ref (xad X (2, 0, 0))), (1, iv v_place), (2, iv v_digits), (3, iv 0), (4, iv v_place)] rfl ?_
  refine lpj (P := fun s : Int × Int => Rg (s.1) → Rg (s.2) → J X 5 [(0, .ref (xad X (2, 0, 0))), (1, iv v_place), (2, iv v_digits), (3, iv s.1), (4, iv s.2)] [] (gs g0 2 0 L0)) (PE := fun r : Int × Int => Rg (r.1) → Rg (r.2) → J X 34 [(0, .ref (xad X (2, 0, 0))), (1, iv v_place), (2, iv v_digits), (3, iv r.1), (4, iv r.2)] [] (gs g0 2 0 L0)) k (fun s1 Q2 k hC3 hE4 r6 r7 => ?_) (fun z5 k => ?_) (fun h => h (show Rg 0 from ⟨by decide, by decide⟩) rgp_place)
  · refine jr_iload (pc := 5) F 4 dX1_number_5 rfl ?_
    refine jr_iload_n (pc := 7) F 1 dX1_number_7 rfl rfl ?_
    refine jr_iload_n (pc := 8) F 2 dX1_number_8 rfl rfl ?_
    refine jr_iadd (pc := 9) F dX1_number_9 ?_
    refine jr_icmp_ge (pc := 10) (tgt := 34) F r7 (rg_w _) dX1_number_10 (by decide) (fun h8 => ?_) (fun h8 => ?_)
    · have k := Ok_f (ng_lt h8) k
      exact hE4 (s1.1, s1.2) (Ok_some k) r6 r7
    have k := Ok_t h8 k
    refine jr_bipush (pc := 13) F dX1_number_13 (by decide) ?_
    refine jr_iload_n (pc := 15) F 3 dX1_number_15 rfl rfl ?_
    refine jr_imul (pc := 16) F dX1_number_16 ?_
    refine jr_aload_n (pc := 17) F 0 dX1_number_17 rfl rfl ?_
    refine jr_iload (pc := 18) F 4 dX1_number_18 rfl ?_
    obtain ⟨c10, k⟩ := Ok_grd k
    refine jr_callV (pc := 20) (st := [iv (w32 (10 * s1.1))]) F [iv s1.2] (snd_X1_letterAt  (g0 := g0) r7 (X1_letterAt_ok _ _ c10)) rfl ck_1_26 rfl m2_0 rfl rfl rfl (by decide) (Nat.le_of_ble_eq_true rfl) dX1_number_20 rfl (fun v g' hq => ?_)
    obtain ⟨x, rfl, r9, eg, hx⟩ := hq
    subst hx
    refine J_eq eg ?_
    show J X 23 [(0, .ref (xad X (2, 0, 0))), (1, iv v_place), (2, iv v_digits), (3, iv s1.1), (4, iv s1.2)] [iv (X1_letterAt_v L0 s1.2), iv (w32 (10 * s1.1))] (gs g0 2 0 L0)
    refine jr_iadd (pc := 23) F dX1_number_23 ?_
    refine jr_bipush (pc := 24) F dX1_number_24 (by decide) ?_
    refine jr_isub (pc := 26) F dX1_number_26 ?_
    obtain ⟨x11, e12, k⟩ := Ok_let k
    have r13 : Rg x11 := rg_of e12 (rg_w _)
    refine jr_top e12 ?_
    refine jr_istore_n (pc := 27) F [(3, iv x11), (0, .ref (xad X (2, 0, 0))), (1, iv v_place), (2, iv v_digits), (4, iv s1.2)] dX1_number_27 rfl (by decide) rfl ?_
    refine jr_iinc (pc := 28) F [(4, iv (w32 (s1.2 + 1))), (3, iv x11), (0, .ref (xad X (2, 0, 0))), (1, iv v_place), (2, iv v_digits)] 4 dX1_number_28 rfl (by decide) rfl ?_
    refine jr_goto (pc := 31) (tgt := 5) F dX1_number_31 (by decide) ?_
    refine jr_sub F [2, 3, 4, 1, 0] [(0, .ref (xad X (2, 0, 0))), (1, iv v_place), (2, iv v_digits), (3, iv x11), (4, iv (w32 (s1.2 + 1)))] rfl ?_
    exact hC3 (x11, w32 (s1.2 + 1)) (Ok_some k) r13 (rg_w _)
  intro r14 r15
  refine jr_iload_n (pc := 34) F 3 dX1_number_34 rfl rfl ?_
  exact jr_iret (pc := 35) F hQ rfl dX1_number_35 ⟨_, rfl, r14, rfl, (Ok_some k)⟩
set_option maxHeartbeats 4000000 in
set_option maxRecDepth 100000 in
theorem snd_X2_addTrain {L0 : LT} {v_newWeight : Int} {v_newWarmth : Int} {v_newPace : Int} {l : Nat} (hl : l < 11) {g0 : GG} (rgp_newWeight : Rg v_newWeight) (rgp_newWarmth : Rg v_newWarmth) (rgp_newPace : Rg v_newPace) {Q : (Int × LT) → Prop} (k : Ok (X2_addTrain L0 v_newWeight v_newWarmth v_newPace) Q) : MetG SL yX2_addTrain cX2_addTrain 4 (some .boolean) 0 (fun ad => [.ref (ad (1, l, 0)), iv v_newWeight, iv v_newWarmth, iv v_newPace]) (gs g0 1 l L0) (fun v g' => ∃ (x : Int) (L' : LT), v = some (iv x) ∧ Bz x ∧ g' = gs g0 1 l L' ∧ Q (x, L')) := by
  refine met_intro SL_ok (by decide +kernel) (fun ad => Nat.le_of_ble_eq_true rfl) (fun X F hQ hR => ?_)
  replace F : FX X cX2_addTrain RX2 4 (some .boolean) SL 0 := F
  show J X 0 [(0, .ref (xad X (1, l, 0))), (1, iv v_newWeight), (2, iv v_newWarmth), (3, iv v_newPace)] [] (gs g0 1 l L0)
  refine cnd (c := (((((v_newWeight < 1) ∨ (60 < v_newWeight)) ∨ (9 < v_newWarmth)) ∨ (v_newPace < 1)) ∨ (3 < v_newPace)) ∨ (5 ≤ (L0 0 4))) (GT := J X 35 [(0, .ref (xad X (1, l, 0))), (1, iv v_newWeight), (2, iv v_newWarmth), (3, iv v_newPace)] [] (gs g0 1 l L0)) (GF := J X 37 [(0, .ref (xad X (1, l, 0))), (1, iv v_newWeight), (2, iv v_newWarmth), (3, iv v_newPace)] [] (gs g0 1 l L0)) k (fun HT HF => ?_) (fun h8 k => ?_) (fun h8 k => ?_)
  · refine jr_iload_n (pc := 0) F 1 dX2_addTrain_0 rfl rfl ?_
    refine jr_iconst (pc := 1) F dX2_addTrain_1 ?_
    refine jr_icmp_lt (pc := 2) (tgt := 35) F rgp_newWeight (show Rg 1 from ⟨by decide, by decide⟩) dX2_addTrain_2 (by decide) (fun h1 => ?_) (fun h1 => ?_)
    · exact HT (Or.inl (Or.inl (Or.inl (Or.inl (Or.inl h1)))))
    refine jr_iload_n (pc := 5) F 1 dX2_addTrain_5 rfl rfl ?_
    refine jr_bipush (pc := 6) F dX2_addTrain_6 (by decide) ?_
    refine jr_icmp_gt (pc := 8) (tgt := 35) F rgp_newWeight (show Rg 60 from ⟨by decide, by decide⟩) dX2_addTrain_8 (by decide) (fun h2 => ?_) (fun h2 => ?_)
    · exact HT (Or.inl (Or.inl (Or.inl (Or.inl (Or.inr h2)))))
    refine jr_iload_n (pc := 11) F 2 dX2_addTrain_11 rfl rfl ?_
    refine jr_bipush (pc := 12) F dX2_addTrain_12 (by decide) ?_
    refine jr_icmp_gt (pc := 14) (tgt := 35) F rgp_newWarmth (show Rg 9 from ⟨by decide, by decide⟩) dX2_addTrain_14 (by decide) (fun h3 => ?_) (fun h3 => ?_)
    · exact HT (Or.inl (Or.inl (Or.inl (Or.inr h3))))
    refine jr_iload_n (pc := 17) F 3 dX2_addTrain_17 rfl rfl ?_
    refine jr_iconst (pc := 18) F dX2_addTrain_18 ?_
    refine jr_icmp_lt (pc := 19) (tgt := 35) F rgp_newPace (show Rg 1 from ⟨by decide, by decide⟩) dX2_addTrain_19 (by decide) (fun h4 => ?_) (fun h4 => ?_)
    · exact HT (Or.inl (Or.inl (Or.inr h4)))
    refine jr_iload_n (pc := 22) F 3 dX2_addTrain_22 rfl rfl ?_
    refine jr_iconst (pc := 23) F dX2_addTrain_23 ?_
    refine jr_icmp_gt (pc := 24) (tgt := 35) F rgp_newPace (show Rg 3 from ⟨by decide, by decide⟩) dX2_addTrain_24 (by decide) (fun h5 => ?_) (fun h5 => ?_)
    · exact HT (Or.inl (Or.inr h5))
    refine jr_aload_n (pc := 27) F 0 dX2_addTrain_27 rfl rfl ?_
    refine jr_getI (pc := 28) F (L0 0 4) f_2_24 (mL_0 hl) rfl (gs_at' _ _ _ _ _ _) dX2_addTrain_28 (fun r6 => ?_)
    refine jr_iconst (pc := 31) F dX2_addTrain_31 ?_
    refine jr_icmp_lt (pc := 32) (tgt := 37) F r6 (show Rg 5 from ⟨by decide, by decide⟩) dX2_addTrain_32 (by decide) (fun h7 => ?_) (fun h7 => ?_)
    · exact HF (fun q => q.elim (fun q => q.elim (fun q => q.elim (fun q => q.elim (fun q => q.elim (ng_lt h1) (ng_lt h2)) (ng_lt h3)) (ng_lt h4)) (ng_lt h5)) (ng_le h7))
    exact HT (Or.inr h7)
  · refine jr_iconst (pc := 35) F dX2_addTrain_35 ?_
    exact jr_zret (pc := 36) F hQ rfl (Or.inl rfl) dX2_addTrain_36 ⟨_, _, rfl, (Or.inl rfl), rfl, (Ok_some k)⟩
  refine jr_aload_n (pc := 37) F 0 dX2_addTrain_37 rfl rfl ?_
  refine jr_getR (pc := 38) (b := (1, l, 9)) F f_2_37 (mL_0 hl) rfl dX2_addTrain_38 ?_
  refine jr_aload_n (pc := 41) F 0 dX2_addTrain_41 rfl rfl ?_
  refine jr_getI (pc := 42) F (L0 0 4) f_2_24 (mL_0 hl) rfl (gs_at' _ _ _ _ _ _) dX2_addTrain_42 (fun r9 => ?_)
  refine jr_iload_n (pc := 45) F 1 dX2_addTrain_45 rfl rfl ?_
  obtain ⟨c10, k⟩ := Ok_grd k
  obtain ⟨L11, e12, k⟩ := Ok_let k
  refine jr_iast (pc := 46) F (gs g0 1 l L11) (mL_9 hl) (by decide) c10 rgp_newWeight (put1 e12) dX2_addTrain_46 ?_
  refine jr_aload_n (pc := 47) F 0 dX2_addTrain_47 rfl rfl ?_
  refine jr_getR (pc := 48) (b := (1, l, 10)) F f_2_40 (mL_0 hl) rfl dX2_addTrain_48 ?_
  refine jr_aload_n (pc := 51) F 0 dX2_addTrain_51 rfl rfl ?_
  refine jr_getI (pc := 52) F (L11 0 4) f_2_24 (mL_0 hl) rfl (gs_at' _ _ _ _ _ _) dX2_addTrain_52 (fun r13 => ?_)
  refine jr_iload_n (pc := 55) F 2 dX2_addTrain_55 rfl rfl ?_
  obtain ⟨c14, k⟩ := Ok_grd k
  obtain ⟨L15, e16, k⟩ := Ok_let k
  refine jr_iast (pc := 56) F (gs g0 1 l L15) (mL_10 hl) (by decide) c14 rgp_newWarmth (put1 e16) dX2_addTrain_56 ?_
  refine jr_aload_n (pc := 57) F 0 dX2_addTrain_57 rfl rfl ?_
  refine jr_getR (pc := 58) (b := (1, l, 11)) F f_2_43 (mL_0 hl) rfl dX2_addTrain_58 ?_
  refine jr_aload_n (pc := 61) F 0 dX2_addTrain_61 rfl rfl ?_
  refine jr_getI (pc := 62) F (L15 0 4) f_2_24 (mL_0 hl) rfl (gs_at' _ _ _ _ _ _) dX2_addTrain_62 (fun r17 => ?_)
  refine jr_iload_n (pc := 65) F 3 dX2_addTrain_65 rfl rfl ?_
  obtain ⟨c18, k⟩ := Ok_grd k
  obtain ⟨L19, e20, k⟩ := Ok_let k
  refine jr_iast (pc := 66) F (gs g0 1 l L19) (mL_11 hl) (by decide) c18 rgp_newPace (put1 e20) dX2_addTrain_66 ?_
  refine jr_aload_n (pc := 67) F 0 dX2_addTrain_67 rfl rfl ?_
  refine jr_getR (pc := 68) (b := (1, l, 12)) F f_2_46 (mL_0 hl) rfl dX2_addTrain_68 ?_
  refine jr_aload_n (pc := 71) F 0 dX2_addTrain_71 rfl rfl ?_
  refine jr_getI (pc := 72) F (L19 0 4) f_2_24 (mL_0 hl) rfl (gs_at' _ _ _ _ _ _) dX2_addTrain_72 (fun r21 => ?_)
  refine jr_iconst (pc := 75) F dX2_addTrain_75 ?_
  obtain ⟨c22, k⟩ := Ok_grd k
  obtain ⟨L23, e24, k⟩ := Ok_let k
  refine jr_iast (pc := 76) F (gs g0 1 l L23) (mL_12 hl) (by decide) c22 (show Rg (-1) from ⟨by decide, by decide⟩) (put1 e24) dX2_addTrain_76 ?_
  refine jr_aload_n (pc := 77) F 0 dX2_addTrain_77 rfl rfl ?_
  refine jr_getR (pc := 78) (b := (1, l, 13)) F f_2_49 (mL_0 hl) rfl dX2_addTrain_78 ?_
  refine jr_aload_n (pc := 81) F 0 dX2_addTrain_81 rfl rfl ?_
  refine jr_getI (pc := 82) F (L23 0 4) f_2_24 (mL_0 hl) rfl (gs_at' _ _ _ _ _ _) dX2_addTrain_82 (fun r25 => ?_)
  refine jr_iconst (pc := 85) F dX2_addTrain_85 ?_
  obtain ⟨c26, k⟩ := Ok_grd k
  obtain ⟨L27, e28, k⟩ := Ok_let k
  refine jr_iast (pc := 86) F (gs g0 1 l L27) (mL_13 hl) (by decide) c26 (show Rg 0 from ⟨by decide, by decide⟩) (put1 e28) dX2_addTrain_86 ?_
  refine jr_aload_n (pc := 87) F 0 dX2_addTrain_87 rfl rfl ?_
  refine jr_getR (pc := 88) (b := (1, l, 14)) F f_2_52 (mL_0 hl) rfl dX2_addTrain_88 ?_
  refine jr_aload_n (pc := 91) F 0 dX2_addTrain_91 rfl rfl ?_
  refine jr_getI (pc := 92) F (L27 0 4) f_2_24 (mL_0 hl) rfl (gs_at' _ _ _ _ _ _) dX2_addTrain_92 (fun r29 => ?_)
  refine jr_iconst (pc := 95) F dX2_addTrain_95 ?_
  obtain ⟨c30, k⟩ := Ok_grd k
  obtain ⟨L31, e32, k⟩ := Ok_let k
  refine jr_iast (pc := 96) F (gs g0 1 l L31) (mL_14 hl) (by decide) c30 (show Rg 0 from ⟨by decide, by decide⟩) (put1 e32) dX2_addTrain_96 ?_
  refine jr_aload_n (pc := 97) F 0 dX2_addTrain_97 rfl rfl ?_
  refine jr_getR (pc := 98) (b := (1, l, 16)) F f_2_58 (mL_0 hl) rfl dX2_addTrain_98 ?_
  refine jr_aload_n (pc := 101) F 0 dX2_addTrain_101 rfl rfl ?_
  refine jr_getI (pc := 102) F (L31 0 4) f_2_24 (mL_0 hl) rfl (gs_at' _ _ _ _ _ _) dX2_addTrain_102 (fun r33 => ?_)
  refine jr_bipush (pc := 105) F dX2_addTrain_105 (by decide) ?_
  obtain ⟨c34, k⟩ := Ok_grd k
  obtain ⟨L35, e36, k⟩ := Ok_let k
  refine jr_iast (pc := 107) F (gs g0 1 l L35) (mL_16 hl) (by decide) c34 (show Rg (-9) from ⟨by decide, by decide⟩) (put1 e36) dX2_addTrain_107 ?_
  refine jr_aload_n (pc := 108) F 0 dX2_addTrain_108 rfl rfl ?_
  refine jr_dup (pc := 109) F dX2_addTrain_109 rfl ?_
  refine jr_getI (pc := 110) F (L35 0 4) f_2_24 (mL_0 hl) rfl (gs_at' _ _ _ _ _ _) dX2_addTrain_110 (fun r37 => ?_)
  refine jr_iconst (pc := 113) F dX2_addTrain_113 ?_
  refine jr_iadd (pc := 114) F dX2_addTrain_114 ?_
  obtain ⟨L38, e39, k⟩ := Ok_let k
  refine jr_putI (pc := 115) F (gs g0 1 l L38) fw_2_24 (mL_0 hl) rfl (rg_w _) (put1 e39) dX2_addTrain_115 ?_
  refine jr_iconst (pc := 118) F dX2_addTrain_118 ?_
  exact jr_zret (pc := 119) F hQ rfl (Or.inr rfl) dX2_addTrain_119 ⟨_, _, rfl, (Or.inr rfl), rfl, (Ok_some k)⟩
set_option maxHeartbeats 4000000 in
set_option maxRecDepth 100000 in
theorem snd_X2_bears {L0 : LT} {v_yard : Int} {v_load : Int} {l : Nat} (hl : l < 11) {g0 : GG} (rgp_yard : Rg v_yard) (rgp_load : Rg v_load) {Q : (Int) → Prop} (k : Ok (X2_bears_f L0 v_yard v_load) Q) : MetG SL yX2_bears cX2_bears 3 (some .boolean) 1 (fun ad => [.ref (ad (1, l, 0)), iv v_yard, iv v_load]) (gs g0 1 l L0) (fun v g' => ∃ x : Int, v = some (iv x) ∧ Bz x ∧ g' = gs g0 1 l L0 ∧ Q x) := by
  refine met_intro SL_ok (by decide +kernel) (fun ad => Nat.le_of_ble_eq_true rfl) (fun X F hQ hR => ?_)
  replace F : FX X cX2_bears RX2 3 (some .boolean) SL 1 := F
  show J X 0 [(0, .ref (xad X (1, l, 0))), (1, iv v_yard), (2, iv v_load)] [] (gs g0 1 l L0)
  obtain ⟨c1, k⟩ := Ok_grd k
  refine jifP (P := fun v => Bz v → J X 30 [(0, .ref (xad X (1, l, 0))), (1, iv v_yard), (2, iv v_load)] (iv v :: []) (gs g0 1 l L0)) (c := (X0_wants_v (L0 6 v_yard) (L0 7 v_yard) v_load) ≤ (L0 8 v_yard)) (1) (0) (fun Ht Hf => ?_) (fun r7 => ?_)
  · refine jr_aload_n (pc := 0) F 0 dX2_bears_0 rfl rfl ?_
    refine jr_getR (pc := 1) (b := (1, l, 8)) F f_2_34 (mL_0 hl) rfl dX2_bears_1 ?_
    refine jr_iload_n (pc := 4) F 1 dX2_bears_4 rfl rfl ?_
    refine jr_iald (pc := 5) F (L0 8 v_yard) (mL_8 hl) (by decide) c1 (gs_at' _ _ _ _ _ _) dX2_bears_5 (fun r2 => ?_)
    refine jr_aload_n (pc := 6) F 0 dX2_bears_6 rfl rfl ?_
    refine jr_getR (pc := 7) (b := (1, l, 6)) F f_2_27 (mL_0 hl) rfl dX2_bears_7 ?_
    refine jr_iload_n (pc := 10) F 1 dX2_bears_10 rfl rfl ?_
    refine jr_iald (pc := 11) F (L0 6 v_yard) (mL_6 hl) (by decide) c1 (gs_at' _ _ _ _ _ _) dX2_bears_11 (fun r3 => ?_)
    refine jr_aload_n (pc := 12) F 0 dX2_bears_12 rfl rfl ?_
    refine jr_getR (pc := 13) (b := (1, l, 7)) F f_2_31 (mL_0 hl) rfl dX2_bears_13 ?_
    refine jr_iload_n (pc := 16) F 1 dX2_bears_16 rfl rfl ?_
    refine jr_iald (pc := 17) F (L0 7 v_yard) (mL_7 hl) (by decide) c1 (gs_at' _ _ _ _ _ _) dX2_bears_17 (fun r4 => ?_)
    refine jr_iload_n (pc := 18) F 2 dX2_bears_18 rfl rfl ?_
    refine jr_callS (pc := 19) (st := [iv (L0 8 v_yard)]) F [iv (L0 6 v_yard), iv (L0 7 v_yard), iv v_load] (snd_X0_wants (g0 := gs g0 1 l L0) r3 r4 rgp_load (X0_wants_ok _ _ _ )) rfl ck_2_118 rfl rfl (by decide) (Nat.le_of_ble_eq_true rfl) dX2_bears_19 rfl (fun v g' hq => ?_)
    obtain ⟨x, rfl, r5, eg, hx⟩ := hq
    subst hx
    refine J_eq eg ?_
    show J X 22 [(0, .ref (xad X (1, l, 0))), (1, iv v_yard), (2, iv v_load)] [iv (X0_wants_v (L0 6 v_yard) (L0 7 v_yard) v_load), iv (L0 8 v_yard)] (gs g0 1 l L0)
    refine jr_icmp_lt (pc := 22) (tgt := 29) F r2 r5 dX2_bears_22 (by decide) (fun h6 => ?_) (fun h6 => ?_)
    · refine jr_iconst (pc := 29) F dX2_bears_29 ?_
      exact Hf (ng_le h6) (Or.inl rfl)
    refine jr_iconst (pc := 25) F dX2_bears_25 ?_
    refine jr_goto (pc := 26) (tgt := 30) F dX2_bears_26 (by decide) ?_
    exact Ht h6 (Or.inr rfl)
  exact jr_zret (pc := 30) F hQ rfl r7 dX2_bears_30 ⟨_, rfl, r7, rfl, (Ok_some k)⟩
set_option maxHeartbeats 4000000 in
set_option maxRecDepth 100000 in
theorem snd_X2_allBear {L0 : LT} {v_load : Int} {l : Nat} (hl : l < 11) {g0 : GG} (rgp_load : Rg v_load) {Q : (Int) → Prop} (k : Ok (X2_allBear L0 v_load) Q) : MetG SL yX2_allBear cX2_allBear 3 (some .boolean) 2 (fun ad => [.ref (ad (1, l, 0)), iv v_load]) (gs g0 1 l L0) (fun v g' => ∃ x : Int, v = some (iv x) ∧ Bz x ∧ g' = gs g0 1 l L0 ∧ Q x) := by
  refine met_intro SL_ok (by decide +kernel) (fun ad => Nat.le_of_ble_eq_true rfl) (fun X F hQ hR => ?_)
  replace F : FX X cX2_allBear RX2 3 (some .boolean) SL 2 := F
  show J X 0 [(0, .ref (xad X (1, l, 0))), (1, iv v_load)] [] (gs g0 1 l L0)
  refine jr_iconst (pc := 0) F dX2_allBear_0 ?_
  refine jr_istore_n (pc := 1) F [(2, iv 0), (0, .ref (xad X (1, l, 0))), (1, iv v_load)] dX2_allBear_1 rfl (by decide) rfl ?_
  refine jr_sub F [1, 2, 0] [(0, .ref (xad X (1, l, 0))), (1, iv v_load), (2, iv 0)] rfl ?_
  refine lpj (P := fun s : Int => Rg (s) → J X 2 [(0, .ref (xad X (1, l, 0))), (1, iv v_load), (2, iv s)] [] (gs g0 1 l L0)) (PE := fun o : ((Int) ⊕ (Int)) => match o with | .inl r => Rg (r) → J X 27 [(0, .ref (xad X (1, l, 0))), (1, iv v_load), (2, iv r)] [] (gs g0 1 l L0) | .inr y => Q (y)) k (fun s1 Q2 k hC3 hE4 r6 => ?_) (fun o k => ?_) (fun h => h (show Rg 0 from ⟨by decide, by decide⟩))
  · refine jr_iload_n (pc := 2) F 2 dX2_allBear_2 rfl rfl ?_
    refine jr_aload_n (pc := 3) F 0 dX2_allBear_3 rfl rfl ?_
    refine jr_getI (pc := 4) F (L0 0 0) f_2_9 (mL_0 hl) rfl (gs_at' _ _ _ _ _ _) dX2_allBear_4 (fun r7 => ?_)
    refine jr_icmp_ge (pc := 7) (tgt := 27) F r6 r7 dX2_allBear_7 (by decide) (fun h8 => ?_) (fun h8 => ?_)
    · have k := Ok_f (ng_lt h8) k
      exact hE4 (Sum.inl s1) (Ok_some k) r6
    have k := Ok_t h8 k
    obtain ⟨c9, k⟩ := Ok_grd k
    refine cnd (c := (X2_bears_v L0 s1 v_load) = 0) (GT := J X 19 [(0, .ref (xad X (1, l, 0))), (1, iv v_load), (2, iv s1)] [] (gs g0 1 l L0)) (GF := J X 21 [(0, .ref (xad X (1, l, 0))), (1, iv v_load), (2, iv s1)] [] (gs g0 1 l L0)) k (fun HT HF => ?_) (fun h12 k => ?_) (fun h12 k => ?_)
    · refine jr_aload_n (pc := 10) F 0 dX2_allBear_10 rfl rfl ?_
      refine jr_iload_n (pc := 11) F 2 dX2_allBear_11 rfl rfl ?_
      refine jr_iload_n (pc := 12) F 1 dX2_allBear_12 rfl rfl ?_
      refine jr_callV (pc := 13) (st := []) F [iv s1, iv v_load] (snd_X2_bears hl (g0 := g0) r6 rgp_load (X2_bears_ok _ _ _ c9)) rfl ck_2_125 rfl (mL_0 hl) rfl rfl rfl (by decide) (Nat.le_of_ble_eq_true rfl) dX2_allBear_13 rfl (fun v g' hq => ?_)
      obtain ⟨x, rfl, r10, eg, hx⟩ := hq
      subst hx
      refine J_eq eg ?_
      show J X 16 [(0, .ref (xad X (1, l, 0))), (1, iv v_load), (2, iv s1)] [iv (X2_bears_v L0 s1 v_load)] (gs g0 1 l L0)
      refine jr_if_ne (pc := 16) (tgt := 21) F (rg_z r10) dX2_allBear_16 (by decide) (fun h11 => ?_) (fun h11 => ?_)
      · exact HF h11
      exact HT h11
    · refine jr_iconst (pc := 19) F dX2_allBear_19 ?_
      exact jr_zret (pc := 20) F hQ rfl (Or.inl rfl) dX2_allBear_20 ⟨_, rfl, (Or.inl rfl), rfl, (hE4 (Sum.inr _) (Ok_some k))⟩
    refine jr_iinc (pc := 21) F [(2, iv (w32 (s1 + 1))), (0, .ref (xad X (1, l, 0))), (1, iv v_load)] 2 dX2_allBear_21 rfl (by decide) rfl ?_
    refine jr_goto (pc := 24) (tgt := 2) F dX2_allBear_24 (by decide) ?_
    refine jr_sub F [1, 2, 0] [(0, .ref (xad X (1, l, 0))), (1, iv v_load), (2, iv (w32 (s1 + 1)))] rfl ?_
    exact hC3 (w32 (s1 + 1)) (Ok_some k) (rg_w _)
  rcases o with z5 | y
  rotate_left
  · show Q (y)
    exact Ok_some k
  intro r13
  refine jr_iconst (pc := 27) F dX2_allBear_27 ?_
  exact jr_zret (pc := 28) F hQ rfl (Or.inr rfl) dX2_allBear_28 ⟨_, rfl, (Or.inr rfl), rfl, (Ok_some k)⟩
set_option maxHeartbeats 4000000 in
set_option maxRecDepth 100000 in
theorem snd_X2_allFrost {L0 : LT} {l : Nat} (hl : l < 11) {g0 : GG}  {Q : (Int) → Prop} (k : Ok (X2_allFrost L0) Q) : MetG SL yX2_allFrost cX2_allFrost 3 (some .int) 0 (fun ad => [.ref (ad (1, l, 0))]) (gs g0 1 l L0) (fun v g' => ∃ x : Int, v = some (iv x) ∧ Rg x ∧ g' = gs g0 1 l L0 ∧ Q x) := by
  refine met_intro SL_ok (by decide +kernel) (fun ad => Nat.le_of_ble_eq_true rfl) (fun X F hQ hR => ?_)
  replace F : FX X cX2_allFrost RX2 3 (some .int) SL 0 := F
  show J X 0 [(0, .ref (xad X (1, l, 0)))] [] (gs g0 1 l L0)
  refine jr_iconst (pc := 0) F dX2_allFrost_0 ?_
  refine jr_istore_n (pc := 1) F [(1, iv 0), (0, .ref (xad X (1, l, 0)))] dX2_allFrost_1 rfl (by decide) rfl ?_
  refine jr_iconst (pc := 2) F dX2_allFrost_2 ?_
  refine jr_istore_n (pc := 3) F [(2, iv 0), (1, iv 0), (0, .ref (xad X (1, l, 0)))] dX2_allFrost_3 rfl (by decide) rfl ?_
  refine jr_sub F [2, 1, 0] [(0, .ref (xad X (1, l, 0))), (1, iv 0), (2, iv 0)] rfl ?_
  refine lpj (P := fun s : Int × Int => Rg (s.1) → Rg (s.2) → J X 4 [(0, .ref (xad X (1, l, 0))), (1, iv s.1), (2, iv s.2)] [] (gs g0 1 l L0)) (PE := fun r : Int × Int => Rg (r.1) → Rg (r.2) → J X 27 [(0, .ref (xad X (1, l, 0))), (1, iv r.1), (2, iv r.2)] [] (gs g0 1 l L0)) k (fun s1 Q2 k hC3 hE4 r6 r7 => ?_) (fun z5 k => ?_) (fun h => h (show Rg 0 from ⟨by decide, by decide⟩) (show Rg 0 from ⟨by decide, by decide⟩))
  · refine jr_iload_n (pc := 4) F 2 dX2_allFrost_4 rfl rfl ?_
    refine jr_aload_n (pc := 5) F 0 dX2_allFrost_5 rfl rfl ?_
    refine jr_getI (pc := 6) F (L0 0 0) f_2_9 (mL_0 hl) rfl (gs_at' _ _ _ _ _ _) dX2_allFrost_6 (fun r8 => ?_)
    refine jr_icmp_ge (pc := 9) (tgt := 27) F r7 r8 dX2_allFrost_9 (by decide) (fun h9 => ?_) (fun h9 => ?_)
    · have k := Ok_f (ng_lt h9) k
      exact hE4 (s1.1, s1.2) (Ok_some k) r6 r7
    have k := Ok_t h9 k
    refine jr_iload_n (pc := 12) F 1 dX2_allFrost_12 rfl rfl ?_
    refine jr_aload_n (pc := 13) F 0 dX2_allFrost_13 rfl rfl ?_
    refine jr_getR (pc := 14) (b := (1, l, 8)) F f_2_34 (mL_0 hl) rfl dX2_allFrost_14 ?_
    refine jr_iload_n (pc := 17) F 2 dX2_allFrost_17 rfl rfl ?_
    obtain ⟨c10, k⟩ := Ok_grd k
    refine jr_iald (pc := 18) F (L0 8 s1.2) (mL_8 hl) (by decide) c10 (gs_at' _ _ _ _ _ _) dX2_allFrost_18 (fun r11 => ?_)
    refine jr_iadd (pc := 19) F dX2_allFrost_19 ?_
    obtain ⟨x12, e13, k⟩ := Ok_let k
    have r14 : Rg x12 := rg_of e13 (rg_w _)
    refine jr_top e13 ?_
    refine jr_istore_n (pc := 20) F [(1, iv x12), (0, .ref (xad X (1, l, 0))), (2, iv s1.2)] dX2_allFrost_20 rfl (by decide) rfl ?_
    refine jr_iinc (pc := 21) F [(2, iv (w32 (s1.2 + 1))), (1, iv x12), (0, .ref (xad X (1, l, 0)))] 2 dX2_allFrost_21 rfl (by decide) rfl ?_
    refine jr_goto (pc := 24) (tgt := 4) F dX2_allFrost_24 (by decide) ?_
    refine jr_sub F [2, 1, 0] [(0, .ref (xad X (1, l, 0))), (1, iv x12), (2, iv (w32 (s1.2 + 1)))] rfl ?_
    exact hC3 (x12, w32 (s1.2 + 1)) (Ok_some k) r14 (rg_w _)
  intro r15 r16
  refine jr_iload_n (pc := 27) F 1 dX2_allFrost_27 rfl rfl ?_
  exact jr_iret (pc := 28) F hQ rfl dX2_allFrost_28 ⟨_, rfl, r15, rfl, (Ok_some k)⟩
set_option maxHeartbeats 4000000 in
set_option maxRecDepth 100000 in
theorem snd_X2_takeTrain {L0 : LT} {v_train : Int} {O : LT} {v_theirs : Int} {l : Nat} (hl : l < 11) {g0 : GG} {l2 : Nat} (hl2 : l2 < 11) (hne : ¬ l2 = l) (hO : g0 1 l2 = O) (rgp_train : Rg v_train) (rgp_theirs : Rg v_theirs) {Q : (LT) → Prop} (k : Ok (X2_takeTrain L0 v_train O v_theirs) Q) : MetG SL yX2_takeTrain cX2_takeTrain 4 none 0 (fun ad => [.ref (ad (1, l, 0)), iv v_train, .ref (ad (1, l2, 0)), iv v_theirs]) (gs g0 1 l L0) (fun v g' => ∃ L' : LT, v = none ∧ g' = gs g0 1 l L' ∧ Q L') := by
  refine met_intro SL_ok (by decide +kernel) (fun ad => Nat.le_of_ble_eq_true rfl) (fun X F hQ hR => ?_)
  replace F : FX X cX2_takeTrain RX2 4 none SL 0 := F
  show J X 0 [(0, .ref (xad X (1, l, 0))), (1, iv v_train), (2, .ref (xad X (1, l2, 0))), (3, iv v_theirs)] [] (gs g0 1 l L0)
  refine jr_aload_n (pc := 0) F 0 dX2_takeTrain_0 rfl rfl ?_
  refine jr_getR (pc := 1) (b := (1, l, 9)) F f_2_37 (mL_0 hl) rfl dX2_takeTrain_1 ?_
  refine jr_iload_n (pc := 4) F 1 dX2_takeTrain_4 rfl rfl ?_
  refine jr_aload_n (pc := 5) F 2 dX2_takeTrain_5 rfl rfl ?_
  refine jr_getR (pc := 6) (b := (1, l2, 9)) F f_2_37 (mL_0 hl2) rfl dX2_takeTrain_6 ?_
  refine jr_iload_n (pc := 9) F 3 dX2_takeTrain_9 rfl rfl ?_
  obtain ⟨c1, k⟩ := Ok_grd k
  refine jr_iald (pc := 10) F (O 9 v_theirs) (mL_9 hl2) (by decide) c1 (gs_oth hO hne) dX2_takeTrain_10 (fun r2 => ?_)
  obtain ⟨c3, k⟩ := Ok_grd k
  obtain ⟨L4, e5, k⟩ := Ok_let k
  refine jr_iast (pc := 11) F (gs g0 1 l L4) (mL_9 hl) (by decide) c3 r2 (put1 e5) dX2_takeTrain_11 ?_
  refine jr_aload_n (pc := 12) F 0 dX2_takeTrain_12 rfl rfl ?_
  refine jr_getR (pc := 13) (b := (1, l, 10)) F f_2_40 (mL_0 hl) rfl dX2_takeTrain_13 ?_
  refine jr_iload_n (pc := 16) F 1 dX2_takeTrain_16 rfl rfl ?_
  refine jr_aload_n (pc := 17) F 2 dX2_takeTrain_17 rfl rfl ?_
  refine jr_getR (pc := 18) (b := (1, l2, 10)) F f_2_40 (mL_0 hl2) rfl dX2_takeTrain_18 ?_
  refine jr_iload_n (pc := 21) F 3 dX2_takeTrain_21 rfl rfl ?_
  refine jr_iald (pc := 22) F (O 10 v_theirs) (mL_10 hl2) (by decide) c1 (gs_oth hO hne) dX2_takeTrain_22 (fun r6 => ?_)
  obtain ⟨L7, e8, k⟩ := Ok_let k
  refine jr_iast (pc := 23) F (gs g0 1 l L7) (mL_10 hl) (by decide) c3 r6 (put1 e8) dX2_takeTrain_23 ?_
  refine jr_aload_n (pc := 24) F 0 dX2_takeTrain_24 rfl rfl ?_
  refine jr_getR (pc := 25) (b := (1, l, 11)) F f_2_43 (mL_0 hl) rfl dX2_takeTrain_25 ?_
  refine jr_iload_n (pc := 28) F 1 dX2_takeTrain_28 rfl rfl ?_
  refine jr_aload_n (pc := 29) F 2 dX2_takeTrain_29 rfl rfl ?_
  refine jr_getR (pc := 30) (b := (1, l2, 11)) F f_2_43 (mL_0 hl2) rfl dX2_takeTrain_30 ?_
  refine jr_iload_n (pc := 33) F 3 dX2_takeTrain_33 rfl rfl ?_
  refine jr_iald (pc := 34) F (O 11 v_theirs) (mL_11 hl2) (by decide) c1 (gs_oth hO hne) dX2_takeTrain_34 (fun r9 => ?_)
  obtain ⟨L10, e11, k⟩ := Ok_let k
  refine jr_iast (pc := 35) F (gs g0 1 l L10) (mL_11 hl) (by decide) c3 r9 (put1 e11) dX2_takeTrain_35 ?_
  refine jr_aload_n (pc := 36) F 0 dX2_takeTrain_36 rfl rfl ?_
  refine jr_getR (pc := 37) (b := (1, l, 12)) F f_2_46 (mL_0 hl) rfl dX2_takeTrain_37 ?_
  refine jr_iload_n (pc := 40) F 1 dX2_takeTrain_40 rfl rfl ?_
  refine jr_aload_n (pc := 41) F 2 dX2_takeTrain_41 rfl rfl ?_
  refine jr_getR (pc := 42) (b := (1, l2, 12)) F f_2_46 (mL_0 hl2) rfl dX2_takeTrain_42 ?_
  refine jr_iload_n (pc := 45) F 3 dX2_takeTrain_45 rfl rfl ?_
  refine jr_iald (pc := 46) F (O 12 v_theirs) (mL_12 hl2) (by decide) c1 (gs_oth hO hne) dX2_takeTrain_46 (fun r12 => ?_)
  obtain ⟨L13, e14, k⟩ := Ok_let k
  refine jr_iast (pc := 47) F (gs g0 1 l L13) (mL_12 hl) (by decide) c3 r12 (put1 e14) dX2_takeTrain_47 ?_
  refine jr_aload_n (pc := 48) F 0 dX2_takeTrain_48 rfl rfl ?_
  refine jr_getR (pc := 49) (b := (1, l, 13)) F f_2_49 (mL_0 hl) rfl dX2_takeTrain_49 ?_
  refine jr_iload_n (pc := 52) F 1 dX2_takeTrain_52 rfl rfl ?_
  refine jr_aload_n (pc := 53) F 2 dX2_takeTrain_53 rfl rfl ?_
  refine jr_getR (pc := 54) (b := (1, l2, 13)) F f_2_49 (mL_0 hl2) rfl dX2_takeTrain_54 ?_
  refine jr_iload_n (pc := 57) F 3 dX2_takeTrain_57 rfl rfl ?_
  refine jr_iald (pc := 58) F (O 13 v_theirs) (mL_13 hl2) (by decide) c1 (gs_oth hO hne) dX2_takeTrain_58 (fun r15 => ?_)
  obtain ⟨L16, e17, k⟩ := Ok_let k
  refine jr_iast (pc := 59) F (gs g0 1 l L16) (mL_13 hl) (by decide) c3 r15 (put1 e17) dX2_takeTrain_59 ?_
  refine jr_aload_n (pc := 60) F 0 dX2_takeTrain_60 rfl rfl ?_
  refine jr_getR (pc := 61) (b := (1, l, 14)) F f_2_52 (mL_0 hl) rfl dX2_takeTrain_61 ?_
  refine jr_iload_n (pc := 64) F 1 dX2_takeTrain_64 rfl rfl ?_
  refine jr_aload_n (pc := 65) F 2 dX2_takeTrain_65 rfl rfl ?_
  refine jr_getR (pc := 66) (b := (1, l2, 14)) F f_2_52 (mL_0 hl2) rfl dX2_takeTrain_66 ?_
  refine jr_iload_n (pc := 69) F 3 dX2_takeTrain_69 rfl rfl ?_
  refine jr_iald (pc := 70) F (O 14 v_theirs) (mL_14 hl2) (by decide) c1 (gs_oth hO hne) dX2_takeTrain_70 (fun r18 => ?_)
  obtain ⟨L19, e20, k⟩ := Ok_let k
  refine jr_iast (pc := 71) F (gs g0 1 l L19) (mL_14 hl) (by decide) c3 r18 (put1 e20) dX2_takeTrain_71 ?_
  exact jr_vret (pc := 72) F hQ rfl dX2_takeTrain_72 ⟨_, rfl, rfl, (Ok_some k)⟩
set_option maxHeartbeats 4000000 in
set_option maxRecDepth 100000 in
theorem snd_X2_become {L0 : LT} {O : LT} {l : Nat} (hl : l < 11) {g0 : GG} {l2 : Nat} (hl2 : l2 < 11) (hne : ¬ l2 = l) (hO : g0 1 l2 = O)  {Q : (LT) → Prop} (k : Ok (X2_become L0 O) Q) : MetG SL yX2_become cX2_become 3 none 1 (fun ad => [.ref (ad (1, l, 0)), .ref (ad (1, l2, 0))]) (gs g0 1 l L0) (fun v g' => ∃ L' : LT, v = none ∧ g' = gs g0 1 l L' ∧ Q L') := by
  refine met_intro SL_ok (by decide +kernel) (fun ad => Nat.le_of_ble_eq_true rfl) (fun X F hQ hR => ?_)
  replace F : FX X cX2_become RX2 3 none SL 1 := F
  show J X 0 [(0, .ref (xad X (1, l, 0))), (1, .ref (xad X (1, l2, 0)))] [] (gs g0 1 l L0)
  refine jr_aload_n (pc := 0) F 0 dX2_become_0 rfl rfl ?_
  refine jr_aload_n (pc := 1) F 1 dX2_become_1 rfl rfl ?_
  refine jr_getI (pc := 2) F (O 0 0) f_2_9 (mL_0 hl2) rfl (gs_oth hO hne) dX2_become_2 (fun r1 => ?_)
  obtain ⟨L2, e3, k⟩ := Ok_let k
  refine jr_putI (pc := 5) F (gs g0 1 l L2) fw_2_9 (mL_0 hl) rfl r1 (put1 e3) dX2_become_5 ?_
  refine jr_aload_n (pc := 8) F 0 dX2_become_8 rfl rfl ?_
  refine jr_aload_n (pc := 9) F 1 dX2_become_9 rfl rfl ?_
  refine jr_getI (pc := 10) F (O 0 1) f_2_15 (mL_0 hl2) rfl (gs_oth hO hne) dX2_become_10 (fun r4 => ?_)
  obtain ⟨L5, e6, k⟩ := Ok_let k
  refine jr_putI (pc := 13) F (gs g0 1 l L5) fw_2_15 (mL_0 hl) rfl r4 (put1 e6) dX2_become_13 ?_
  refine jr_aload_n (pc := 16) F 0 dX2_become_16 rfl rfl ?_
  refine jr_aload_n (pc := 17) F 1 dX2_become_17 rfl rfl ?_
  refine jr_getI (pc := 18) F (O 0 2) f_2_18 (mL_0 hl2) rfl (gs_oth hO hne) dX2_become_18 (fun r7 => ?_)
  obtain ⟨L8, e9, k⟩ := Ok_let k
  refine jr_putI (pc := 21) F (gs g0 1 l L8) fw_2_18 (mL_0 hl) rfl r7 (put1 e9) dX2_become_21 ?_
  refine jr_aload_n (pc := 24) F 0 dX2_become_24 rfl rfl ?_
  refine jr_aload_n (pc := 25) F 1 dX2_become_25 rfl rfl ?_
  refine jr_getI (pc := 26) F (O 0 3) f_2_21 (mL_0 hl2) rfl (gs_oth hO hne) dX2_become_26 (fun r10 => ?_)
  obtain ⟨L11, e12, k⟩ := Ok_let k
  refine jr_putI (pc := 29) F (gs g0 1 l L11) fw_2_21 (mL_0 hl) rfl r10 (put1 e12) dX2_become_29 ?_
  refine jr_aload_n (pc := 32) F 0 dX2_become_32 rfl rfl ?_
  refine jr_aload_n (pc := 33) F 1 dX2_become_33 rfl rfl ?_
  refine jr_getI (pc := 34) F (O 0 4) f_2_24 (mL_0 hl2) rfl (gs_oth hO hne) dX2_become_34 (fun r13 => ?_)
  obtain ⟨L14, e15, k⟩ := Ok_let k
  refine jr_putI (pc := 37) F (gs g0 1 l L14) fw_2_24 (mL_0 hl) rfl r13 (put1 e15) dX2_become_37 ?_
  refine jr_aload_n (pc := 40) F 1 dX2_become_40 rfl rfl ?_
  refine jr_getR (pc := 41) (b := (1, l2, 6)) F f_2_27 (mL_0 hl2) rfl dX2_become_41 ?_
  refine jr_iconst (pc := 44) F dX2_become_44 ?_
  refine jr_aload_n (pc := 45) F 0 dX2_become_45 rfl rfl ?_
  refine jr_getR (pc := 46) (b := (1, l, 6)) F f_2_27 (mL_0 hl) rfl dX2_become_46 ?_
  refine jr_iconst (pc := 49) F dX2_become_49 ?_
  refine jr_bipush (pc := 50) F dX2_become_50 (by decide) ?_
  obtain ⟨L16, e17, k⟩ := Ok_let k
  refine jr_copy (pc := 52) (n := 16) F (gs g0 1 l L16) lb_2_67 (mL_6 hl) (mL_6 hl2) (by decide) (by decide) (by decide) (cpg e17 hO hne) rfl (by decide) dX2_become_52 ?_
  refine jr_aload_n (pc := 55) F 1 dX2_become_55 rfl rfl ?_
  refine jr_getR (pc := 56) (b := (1, l2, 7)) F f_2_31 (mL_0 hl2) rfl dX2_become_56 ?_
  refine jr_iconst (pc := 59) F dX2_become_59 ?_
  refine jr_aload_n (pc := 60) F 0 dX2_become_60 rfl rfl ?_
  refine jr_getR (pc := 61) (b := (1, l, 7)) F f_2_31 (mL_0 hl) rfl dX2_become_61 ?_
  refine jr_iconst (pc := 64) F dX2_become_64 ?_
  refine jr_bipush (pc := 65) F dX2_become_65 (by decide) ?_
  obtain ⟨L18, e19, k⟩ := Ok_let k
  refine jr_copy (pc := 67) (n := 16) F (gs g0 1 l L18) lb_2_67 (mL_7 hl) (mL_7 hl2) (by decide) (by decide) (by decide) (cpg e19 hO hne) rfl (by decide) dX2_become_67 ?_
  refine jr_aload_n (pc := 70) F 1 dX2_become_70 rfl rfl ?_
  refine jr_getR (pc := 71) (b := (1, l2, 8)) F f_2_34 (mL_0 hl2) rfl dX2_become_71 ?_
  refine jr_iconst (pc := 74) F dX2_become_74 ?_
  refine jr_aload_n (pc := 75) F 0 dX2_become_75 rfl rfl ?_
  refine jr_getR (pc := 76) (b := (1, l, 8)) F f_2_34 (mL_0 hl) rfl dX2_become_76 ?_
  refine jr_iconst (pc := 79) F dX2_become_79 ?_
  refine jr_bipush (pc := 80) F dX2_become_80 (by decide) ?_
  obtain ⟨L20, e21, k⟩ := Ok_let k
  refine jr_copy (pc := 82) (n := 16) F (gs g0 1 l L20) lb_2_67 (mL_8 hl) (mL_8 hl2) (by decide) (by decide) (by decide) (cpg e21 hO hne) rfl (by decide) dX2_become_82 ?_
  refine jr_aload_n (pc := 85) F 0 dX2_become_85 rfl rfl ?_
  refine jr_iconst (pc := 86) F dX2_become_86 ?_
  obtain ⟨L22, e23, k⟩ := Ok_let k
  refine jr_putI (pc := 87) F (gs g0 1 l L22) fw_2_55 (mL_0 hl) rfl (show Rg 0 from ⟨by decide, by decide⟩) (put1 e23) dX2_become_87 ?_
  refine jr_iconst (pc := 90) F dX2_become_90 ?_
  refine jr_istore_n (pc := 91) F [(2, iv 0), (0, .ref (xad X (1, l, 0))), (1, .ref (xad X (1, l2, 0)))] dX2_become_91 rfl (by decide) rfl ?_
  refine jr_sub F [1, 2, 0] [(0, .ref (xad X (1, l, 0))), (1, .ref (xad X (1, l2, 0))), (2, iv 0)] rfl ?_
  refine lpj (P := fun s : Int × LT => Rg (s.1) → J X 92 [(0, .ref (xad X (1, l, 0))), (1, .ref (xad X (1, l2, 0))), (2, iv s.1)] [] (gs g0 1 l s.2)) (PE := fun r : Int × LT => Rg (r.1) → J X 121 [(0, .ref (xad X (1, l, 0))), (1, .ref (xad X (1, l2, 0))), (2, iv r.1)] [] (gs g0 1 l r.2)) k (fun s24 Q25 k hC26 hE27 r29 => ?_) (fun z28 k => ?_) (fun h => h (show Rg 0 from ⟨by decide, by decide⟩))
  · refine jr_iload_n (pc := 92) F 2 dX2_become_92 rfl rfl ?_
    refine jr_aload_n (pc := 93) F 0 dX2_become_93 rfl rfl ?_
    refine jr_getI (pc := 94) F (s24.2 0 4) f_2_24 (mL_0 hl) rfl (gs_at' _ _ _ _ _ _) dX2_become_94 (fun r30 => ?_)
    refine jr_icmp_ge (pc := 97) (tgt := 121) F r29 r30 dX2_become_97 (by decide) (fun h31 => ?_) (fun h31 => ?_)
    · have k := Ok_f (ng_lt h31) k
      exact hE27 (s24.1, s24.2) (Ok_some k) r29
    have k := Ok_t h31 k
    refine jr_aload_n (pc := 100) F 0 dX2_become_100 rfl rfl ?_
    refine jr_iload_n (pc := 101) F 2 dX2_become_101 rfl rfl ?_
    refine jr_aload_n (pc := 102) F 1 dX2_become_102 rfl rfl ?_
    refine jr_iload_n (pc := 103) F 2 dX2_become_103 rfl rfl ?_
    have k := Ok_bind k
    refine jr_callV (pc := 104) (st := []) F [iv s24.1, .ref (xad X (1, l2, 0)), iv s24.1] (snd_X2_takeTrain hl (g0 := g0) hl2 hne hO r29 r29 k) rfl ck_2_73 rfl (mL_0 hl) rfl rfl rfl (by decide) (Nat.le_of_ble_eq_true rfl) dX2_become_104 rfl (fun v g' hq => ?_)
    obtain ⟨z33, rfl, eg, k⟩ := hq
    refine J_eq eg ?_
    show J X 107 [(0, .ref (xad X (1, l, 0))), (1, .ref (xad X (1, l2, 0))), (2, iv s24.1)] [] (gs g0 1 l z33)
    refine jr_aload_n (pc := 107) F 0 dX2_become_107 rfl rfl ?_
    refine jr_getR (pc := 108) (b := (1, l, 16)) F f_2_58 (mL_0 hl) rfl dX2_become_108 ?_
    refine jr_iload_n (pc := 111) F 2 dX2_become_111 rfl rfl ?_
    refine jr_bipush (pc := 112) F dX2_become_112 (by decide) ?_
    obtain ⟨c34, k⟩ := Ok_grd k
    obtain ⟨L35, e36, k⟩ := Ok_let k
    refine jr_iast (pc := 114) F (gs g0 1 l L35) (mL_16 hl) (by decide) c34 (show Rg (-9) from ⟨by decide, by decide⟩) (put1 e36) dX2_become_114 ?_
    refine jr_iinc (pc := 115) F [(2, iv (w32 (s24.1 + 1))), (0, .ref (xad X (1, l, 0))), (1, .ref (xad X (1, l2, 0)))] 2 dX2_become_115 rfl (by decide) rfl ?_
    refine jr_goto (pc := 118) (tgt := 92) F dX2_become_118 (by decide) ?_
    refine jr_sub F [1, 2, 0] [(0, .ref (xad X (1, l, 0))), (1, .ref (xad X (1, l2, 0))), (2, iv (w32 (s24.1 + 1)))] rfl ?_
    exact hC26 (w32 (s24.1 + 1), L35) (Ok_some k) (rg_w _)
  intro r37
  exact jr_vret (pc := 121) F hQ rfl dX2_become_121 ⟨_, rfl, rfl, (Ok_some k)⟩
set_option maxHeartbeats 4000000 in
set_option maxRecDepth 100000 in
theorem snd_X2_becomeMany {L0 : LT} {v_n : Int} {l : Nat} (hl : l < 11) {g0 : GG} (rgp_n : Rg v_n) {Q : (Int × LT) → Prop} (k : Ok (X2_becomeMany L0 v_n) Q) : MetG SL yX2_becomeMany cX2_becomeMany 3 (some .boolean) 0 (fun ad => [.ref (ad (1, l, 0)), iv v_n]) (gs g0 1 l L0) (fun v g' => ∃ (x : Int) (L' : LT), v = some (iv x) ∧ Bz x ∧ g' = gs g0 1 l L' ∧ Q (x, L')) := by
  refine met_intro SL_ok (by decide +kernel) (fun ad => Nat.le_of_ble_eq_true rfl) (fun X F hQ hR => ?_)
  replace F : FX X cX2_becomeMany RX2 3 (some .boolean) SL 0 := F
  show J X 0 [(0, .ref (xad X (1, l, 0))), (1, iv v_n)] [] (gs g0 1 l L0)
  refine cnd (c := (v_n < 2) ∨ (16 < v_n)) (GT := J X 11 [(0, .ref (xad X (1, l, 0))), (1, iv v_n)] [] (gs g0 1 l L0)) (GF := J X 13 [(0, .ref (xad X (1, l, 0))), (1, iv v_n)] [] (gs g0 1 l L0)) k (fun HT HF => ?_) (fun h3 k => ?_) (fun h3 k => ?_)
  · refine jr_iload_n (pc := 0) F 1 dX2_becomeMany_0 rfl rfl ?_
    refine jr_iconst (pc := 1) F dX2_becomeMany_1 ?_
    refine jr_icmp_lt (pc := 2) (tgt := 11) F rgp_n (show Rg 2 from ⟨by decide, by decide⟩) dX2_becomeMany_2 (by decide) (fun h1 => ?_) (fun h1 => ?_)
    · exact HT (Or.inl h1)
    refine jr_iload_n (pc := 5) F 1 dX2_becomeMany_5 rfl rfl ?_
    refine jr_bipush (pc := 6) F dX2_becomeMany_6 (by decide) ?_
    refine jr_icmp_le (pc := 8) (tgt := 13) F rgp_n (show Rg 16 from ⟨by decide, by decide⟩) dX2_becomeMany_8 (by decide) (fun h2 => ?_) (fun h2 => ?_)
    · exact HF (fun q => q.elim (ng_lt h1) (ng_lt h2))
    exact HT (Or.inr h2)
  · refine jr_iconst (pc := 11) F dX2_becomeMany_11 ?_
    exact jr_zret (pc := 12) F hQ rfl (Or.inl rfl) dX2_becomeMany_12 ⟨_, _, rfl, (Or.inl rfl), rfl, (Ok_some k)⟩
  refine jr_iconst (pc := 13) F dX2_becomeMany_13 ?_
  refine jr_istore_n (pc := 14) F [(2, iv 0), (0, .ref (xad X (1, l, 0))), (1, iv v_n)] dX2_becomeMany_14 rfl (by decide) rfl ?_
  refine jr_sub F [1, 2, 0] [(0, .ref (xad X (1, l, 0))), (1, iv v_n), (2, iv 0)] rfl ?_
  refine lpj (P := fun s : Int => Rg (s) → J X 15 [(0, .ref (xad X (1, l, 0))), (1, iv v_n), (2, iv s)] [] (gs g0 1 l L0)) (PE := fun o : ((Int) ⊕ (Int × LT)) => match o with | .inl r => Rg (r) → J X 50 [(0, .ref (xad X (1, l, 0))), (1, iv v_n), (2, iv r)] [] (gs g0 1 l L0) | .inr y => Q (y)) k (fun s4 Q5 k hC6 hE7 r9 => ?_) (fun o k => ?_) (fun h => h (show Rg 0 from ⟨by decide, by decide⟩))
  · refine jr_iload_n (pc := 15) F 2 dX2_becomeMany_15 rfl rfl ?_
    refine jr_aload_n (pc := 16) F 0 dX2_becomeMany_16 rfl rfl ?_
    refine jr_getI (pc := 17) F (L0 0 4) f_2_24 (mL_0 hl) rfl (gs_at' _ _ _ _ _ _) dX2_becomeMany_17 (fun r10 => ?_)
    refine jr_icmp_ge (pc := 20) (tgt := 50) F r9 r10 dX2_becomeMany_20 (by decide) (fun h11 => ?_) (fun h11 => ?_)
    · have k := Ok_f (ng_lt h11) k
      exact hE7 (Sum.inl s4) (Ok_some k) r9
    have k := Ok_t h11 k
    obtain ⟨c12, k⟩ := Ok_grd k
    refine cnd (c := ((L0 14 s4) = 0) ∧ (v_n ≤ (L0 12 s4))) (GT := J X 42 [(0, .ref (xad X (1, l, 0))), (1, iv v_n), (2, iv s4)] [] (gs g0 1 l L0)) (GF := J X 44 [(0, .ref (xad X (1, l, 0))), (1, iv v_n), (2, iv s4)] [] (gs g0 1 l L0)) k (fun HT HF => ?_) (fun h17 k => ?_) (fun h17 k => ?_)
    · refine jr_aload_n (pc := 23) F 0 dX2_becomeMany_23 rfl rfl ?_
      refine jr_getR (pc := 24) (b := (1, l, 14)) F f_2_52 (mL_0 hl) rfl dX2_becomeMany_24 ?_
      refine jr_iload_n (pc := 27) F 2 dX2_becomeMany_27 rfl rfl ?_
      refine jr_iald (pc := 28) F (L0 14 s4) (mL_14 hl) (by decide) c12 (gs_at' _ _ _ _ _ _) dX2_becomeMany_28 (fun r13 => ?_)
      refine jr_if_ne (pc := 29) (tgt := 44) F r13 dX2_becomeMany_29 (by decide) (fun h14 => ?_) (fun h14 => ?_)
      · exact HF (fun q => h14 q.1)
      refine jr_aload_n (pc := 32) F 0 dX2_becomeMany_32 rfl rfl ?_
      refine jr_getR (pc := 33) (b := (1, l, 12)) F f_2_46 (mL_0 hl) rfl dX2_becomeMany_33 ?_
      refine jr_iload_n (pc := 36) F 2 dX2_becomeMany_36 rfl rfl ?_
      refine jr_iald (pc := 37) F (L0 12 s4) (mL_12 hl) (by decide) c12 (gs_at' _ _ _ _ _ _) dX2_becomeMany_37 (fun r15 => ?_)
      refine jr_iload_n (pc := 38) F 1 dX2_becomeMany_38 rfl rfl ?_
      refine jr_icmp_lt (pc := 39) (tgt := 44) F r15 rgp_n dX2_becomeMany_39 (by decide) (fun h16 => ?_) (fun h16 => ?_)
      · exact HF (fun q => (ng_le h16) q.2)
      exact HT ⟨h14, h16⟩
    · refine jr_iconst (pc := 42) F dX2_becomeMany_42 ?_
      exact jr_zret (pc := 43) F hQ rfl (Or.inl rfl) dX2_becomeMany_43 ⟨_, _, rfl, (Or.inl rfl), rfl, (hE7 (Sum.inr _) (Ok_some k))⟩
    refine jr_iinc (pc := 44) F [(2, iv (w32 (s4 + 1))), (0, .ref (xad X (1, l, 0))), (1, iv v_n)] 2 dX2_becomeMany_44 rfl (by decide) rfl ?_
    refine jr_goto (pc := 47) (tgt := 15) F dX2_becomeMany_47 (by decide) ?_
    refine jr_sub F [1, 2, 0] [(0, .ref (xad X (1, l, 0))), (1, iv v_n), (2, iv (w32 (s4 + 1)))] rfl ?_
    exact hC6 (w32 (s4 + 1)) (Ok_some k) (rg_w _)
  rcases o with z8 | y
  rotate_left
  · show Q (y)
    exact Ok_some k
  intro r18
  refine jr_aload_n (pc := 50) F 0 dX2_becomeMany_50 rfl rfl ?_
  refine jr_iload_n (pc := 51) F 1 dX2_becomeMany_51 rfl rfl ?_
  obtain ⟨L19, e20, k⟩ := Ok_let k
  refine jr_putI (pc := 52) F (gs g0 1 l L19) fw_2_9 (mL_0 hl) rfl rgp_n (put1 e20) dX2_becomeMany_52 ?_
  refine jr_iconst (pc := 55) F dX2_becomeMany_55 ?_
  exact jr_zret (pc := 56) F hQ rfl (Or.inr rfl) dX2_becomeMany_56 ⟨_, _, rfl, (Or.inr rfl), rfl, (Ok_some k)⟩
set_option maxHeartbeats 4000000 in
set_option maxRecDepth 100000 in
theorem snd_X2_becomeYard {L0 : LT} {v_yard : Int} {v_newKind : Int} {v_newFigure : Int} {v_newFrost : Int} {l : Nat} (hl : l < 11) {g0 : GG} (rgp_yard : Rg v_yard) (rgp_newKind : Rg v_newKind) (rgp_newFigure : Rg v_newFigure) (rgp_newFrost : Rg v_newFrost) {Q : (Int × LT) → Prop} (k : Ok (X2_becomeYard L0 v_yard v_newKind v_newFigure v_newFrost) Q) : MetG SL yX2_becomeYard cX2_becomeYard 5 (some .boolean) 0 (fun ad => [.ref (ad (1, l, 0)), iv v_yard, iv v_newKind, iv v_newFigure, iv v_newFrost]) (gs g0 1 l L0) (fun v g' => ∃ (x : Int) (L' : LT), v = some (iv x) ∧ Bz x ∧ g' = gs g0 1 l L' ∧ Q (x, L')) := by
  refine met_intro SL_ok (by decide +kernel) (fun ad => Nat.le_of_ble_eq_true rfl) (fun X F hQ hR => ?_)
  replace F : FX X cX2_becomeYard RX2 5 (some .boolean) SL 0 := F
  show J X 0 [(0, .ref (xad X (1, l, 0))), (1, iv v_yard), (2, iv v_newKind), (3, iv v_newFigure), (4, iv v_newFrost)] [] (gs g0 1 l L0)
  refine cnd (c := (((v_yard < 0) ∨ ((L0 0 0) ≤ v_yard)) ∨ (v_newKind < 0)) ∨ (5 < v_newKind)) (GT := J X 21 [(0, .ref (xad X (1, l, 0))), (1, iv v_yard), (2, iv v_newKind), (3, iv v_newFigure), (4, iv v_newFrost)] [] (gs g0 1 l L0)) (GF := J X 23 [(0, .ref (xad X (1, l, 0))), (1, iv v_yard), (2, iv v_newKind), (3, iv v_newFigure), (4, iv v_newFrost)] [] (gs g0 1 l L0)) k (fun HT HF => ?_) (fun h6 k => ?_) (fun h6 k => ?_)
  · refine jr_iload_n (pc := 0) F 1 dX2_becomeYard_0 rfl rfl ?_
    refine jr_if_lt (pc := 1) (tgt := 21) F rgp_yard dX2_becomeYard_1 (by decide) (fun h1 => ?_) (fun h1 => ?_)
    · exact HT (Or.inl (Or.inl (Or.inl h1)))
    refine jr_iload_n (pc := 4) F 1 dX2_becomeYard_4 rfl rfl ?_
    refine jr_aload_n (pc := 5) F 0 dX2_becomeYard_5 rfl rfl ?_
    refine jr_getI (pc := 6) F (L0 0 0) f_2_9 (mL_0 hl) rfl (gs_at' _ _ _ _ _ _) dX2_becomeYard_6 (fun r2 => ?_)
    refine jr_icmp_ge (pc := 9) (tgt := 21) F rgp_yard r2 dX2_becomeYard_9 (by decide) (fun h3 => ?_) (fun h3 => ?_)
    · exact HT (Or.inl (Or.inl (Or.inr h3)))
    refine jr_iload_n (pc := 12) F 2 dX2_becomeYard_12 rfl rfl ?_
    refine jr_if_lt (pc := 13) (tgt := 21) F rgp_newKind dX2_becomeYard_13 (by decide) (fun h4 => ?_) (fun h4 => ?_)
    · exact HT (Or.inl (Or.inr h4))
    refine jr_iload_n (pc := 16) F 2 dX2_becomeYard_16 rfl rfl ?_
    refine jr_iconst (pc := 17) F dX2_becomeYard_17 ?_
    refine jr_icmp_le (pc := 18) (tgt := 23) F rgp_newKind (show Rg 5 from ⟨by decide, by decide⟩) dX2_becomeYard_18 (by decide) (fun h5 => ?_) (fun h5 => ?_)
    · exact HF (fun q => q.elim (fun q => q.elim (fun q => q.elim (ng_lt h1) (ng_le h3)) (ng_lt h4)) (ng_lt h5))
    exact HT (Or.inr h5)
  · refine jr_iconst (pc := 21) F dX2_becomeYard_21 ?_
    exact jr_zret (pc := 22) F hQ rfl (Or.inl rfl) dX2_becomeYard_22 ⟨_, _, rfl, (Or.inl rfl), rfl, (Ok_some k)⟩
  refine jr_aload_n (pc := 23) F 0 dX2_becomeYard_23 rfl rfl ?_
  refine jr_getR (pc := 24) (b := (1, l, 6)) F f_2_27 (mL_0 hl) rfl dX2_becomeYard_24 ?_
  refine jr_iload_n (pc := 27) F 1 dX2_becomeYard_27 rfl rfl ?_
  refine jr_iload_n (pc := 28) F 2 dX2_becomeYard_28 rfl rfl ?_
  obtain ⟨c7, k⟩ := Ok_grd k
  obtain ⟨L8, e9, k⟩ := Ok_let k
  refine jr_iast (pc := 29) F (gs g0 1 l L8) (mL_6 hl) (by decide) c7 rgp_newKind (put1 e9) dX2_becomeYard_29 ?_
  refine jr_aload_n (pc := 30) F 0 dX2_becomeYard_30 rfl rfl ?_
  refine jr_getR (pc := 31) (b := (1, l, 7)) F f_2_31 (mL_0 hl) rfl dX2_becomeYard_31 ?_
  refine jr_iload_n (pc := 34) F 1 dX2_becomeYard_34 rfl rfl ?_
  refine jr_iload_n (pc := 35) F 3 dX2_becomeYard_35 rfl rfl ?_
  obtain ⟨L10, e11, k⟩ := Ok_let k
  refine jr_iast (pc := 36) F (gs g0 1 l L10) (mL_7 hl) (by decide) c7 rgp_newFigure (put1 e11) dX2_becomeYard_36 ?_
  refine jr_aload_n (pc := 37) F 0 dX2_becomeYard_37 rfl rfl ?_
  refine jr_getR (pc := 38) (b := (1, l, 8)) F f_2_34 (mL_0 hl) rfl dX2_becomeYard_38 ?_
  refine jr_iload_n (pc := 41) F 1 dX2_becomeYard_41 rfl rfl ?_
  refine jr_iload (pc := 42) F 4 dX2_becomeYard_42 rfl ?_
  obtain ⟨L12, e13, k⟩ := Ok_let k
  refine jr_iast (pc := 44) F (gs g0 1 l L12) (mL_8 hl) (by decide) c7 rgp_newFrost (put1 e13) dX2_becomeYard_44 ?_
  refine jr_iconst (pc := 45) F dX2_becomeYard_45 ?_
  exact jr_zret (pc := 46) F hQ rfl (Or.inr rfl) dX2_becomeYard_46 ⟨_, _, rfl, (Or.inr rfl), rfl, (Ok_some k)⟩
set_option maxHeartbeats 4000000 in
set_option maxRecDepth 100000 in
theorem snd_X2_besideNeighbours {L0 : LT} {v_yard : Int} {l : Nat} (hl : l < 11) {g0 : GG} (rgp_yard : Rg v_yard) {Q : (Int) → Prop} (k : Ok (X2_besideNeighbours_f L0 v_yard) Q) : MetG SL yX2_besideNeighbours cX2_besideNeighbours 4 (some .int) 0 (fun ad => [.ref (ad (1, l, 0)), iv v_yard]) (gs g0 1 l L0) (fun v g' => ∃ x : Int, v = some (iv x) ∧ Rg x ∧ g' = gs g0 1 l L0 ∧ Q x) := by
  refine met_intro SL_ok (by decide +kernel) (fun ad => Nat.le_of_ble_eq_true rfl) (fun X F hQ hR => ?_)
  replace F : FX X cX2_besideNeighbours RX2 4 (some .int) SL 0 := F
  show J X 0 [(0, .ref (xad X (1, l, 0))), (1, iv v_yard)] [] (gs g0 1 l L0)
  refine jifP (P := fun v => Rg v → J X 13 [(0, .ref (xad X (1, l, 0))), (1, iv v_yard)] (iv v :: []) (gs g0 1 l L0)) (c := 0 < v_yard) (w32 (v_yard - 1)) (w32 (v_yard + 1)) (fun Ht Hf => ?_) (fun r2 => ?_)
  · refine jr_iload_n (pc := 0) F 1 dX2_besideNeighbours_0 rfl rfl ?_
    refine jr_if_le (pc := 1) (tgt := 10) F rgp_yard dX2_besideNeighbours_1 (by decide) (fun h1 => ?_) (fun h1 => ?_)
    · refine jr_iload_n (pc := 10) F 1 dX2_besideNeighbours_10 rfl rfl ?_
      refine jr_iconst (pc := 11) F dX2_besideNeighbours_11 ?_
      refine jr_iadd (pc := 12) F dX2_besideNeighbours_12 ?_
      exact Hf (ng_lt h1) (rg_w _)
    refine jr_iload_n (pc := 4) F 1 dX2_besideNeighbours_4 rfl rfl ?_
    refine jr_iconst (pc := 5) F dX2_besideNeighbours_5 ?_
    refine jr_isub (pc := 6) F dX2_besideNeighbours_6 ?_
    refine jr_goto (pc := 7) (tgt := 13) F dX2_besideNeighbours_7 (by decide) ?_
    exact Ht h1 (rg_w _)
  obtain ⟨x3, e4, k⟩ := Ok_let k
  have r5 : Rg x3 := rg_of e4 r2
  refine jr_top e4 ?_
  refine jr_istore_n (pc := 13) F [(2, iv x3), (0, .ref (xad X (1, l, 0))), (1, iv v_yard)] dX2_besideNeighbours_13 rfl (by decide) rfl ?_
  refine jifP (P := fun v => Rg v → J X 33 [(2, iv x3), (0, .ref (xad X (1, l, 0))), (1, iv v_yard)] (iv v :: []) (gs g0 1 l L0)) (c := v_yard < (w32 ((L0 0 0) - 1))) (w32 (v_yard + 1)) (w32 (v_yard - 1)) (fun Ht Hf => ?_) (fun r8 => ?_)
  · refine jr_iload_n (pc := 14) F 2 dX2_besideNeighbours_14 rfl rfl ?_
    refine jr_aload_n (pc := 15) F 1 dX2_besideNeighbours_15 rfl rfl ?_
    refine jr_getI (pc := 16) F (L0 0 0) f_2_9 (mL_0 hl) rfl (gs_at' _ _ _ _ _ _) dX2_besideNeighbours_16 (fun r6 => ?_)
    refine jr_iconst (pc := 19) F dX2_besideNeighbours_19 ?_
    refine jr_isub (pc := 20) F dX2_besideNeighbours_20 ?_
    refine jr_icmp_ge (pc := 21) (tgt := 30) F rgp_yard (rg_w _) dX2_besideNeighbours_21 (by decide) (fun h7 => ?_) (fun h7 => ?_)
    · refine jr_iload_n (pc := 30) F 2 dX2_besideNeighbours_30 rfl rfl ?_
      refine jr_iconst (pc := 31) F dX2_besideNeighbours_31 ?_
      refine jr_isub (pc := 32) F dX2_besideNeighbours_32 ?_
      exact Hf (ng_lt h7) (rg_w _)
    refine jr_iload_n (pc := 24) F 2 dX2_besideNeighbours_24 rfl rfl ?_
    refine jr_iconst (pc := 25) F dX2_besideNeighbours_25 ?_
    refine jr_iadd (pc := 26) F dX2_besideNeighbours_26 ?_
    refine jr_goto (pc := 27) (tgt := 33) F dX2_besideNeighbours_27 (by decide) ?_
    exact Ht h7 (rg_w _)
  obtain ⟨x9, e10, k⟩ := Ok_let k
  have r11 : Rg x9 := rg_of e10 r8
  refine jr_top e10 ?_
  refine jr_istore_n (pc := 33) F [(3, iv x9), (2, iv x3), (0, .ref (xad X (1, l, 0))), (1, iv v_yard)] dX2_besideNeighbours_33 rfl (by decide) rfl ?_
  refine jr_aload_n (pc := 34) F 2 dX2_besideNeighbours_34 rfl rfl ?_
  refine jr_getR (pc := 35) (b := (1, l, 8)) F f_2_34 (mL_0 hl) rfl dX2_besideNeighbours_35 ?_
  refine jr_iload_n (pc := 38) F 3 dX2_besideNeighbours_38 rfl rfl ?_
  obtain ⟨c12, k⟩ := Ok_grd k
  refine jr_iald (pc := 39) F (L0 8 v_yard) (mL_8 hl) (by decide) c12 (gs_at' _ _ _ _ _ _) dX2_besideNeighbours_39 (fun r13 => ?_)
  refine jr_aload_n (pc := 40) F 2 dX2_besideNeighbours_40 rfl rfl ?_
  refine jr_getR (pc := 41) (b := (1, l, 8)) F f_2_34 (mL_0 hl) rfl dX2_besideNeighbours_41 ?_
  refine jr_iload_n (pc := 44) F 1 dX2_besideNeighbours_44 rfl rfl ?_
  obtain ⟨c14, k⟩ := Ok_grd k
  refine jr_iald (pc := 45) F (L0 8 x3) (mL_8 hl) (by decide) c14 (gs_at' _ _ _ _ _ _) dX2_besideNeighbours_45 (fun r15 => ?_)
  refine jr_aload_n (pc := 46) F 2 dX2_besideNeighbours_46 rfl rfl ?_
  refine jr_getR (pc := 47) (b := (1, l, 8)) F f_2_34 (mL_0 hl) rfl dX2_besideNeighbours_47 ?_
  refine jr_iload_n (pc := 50) F 0 dX2_besideNeighbours_50 rfl rfl ?_
  obtain ⟨c16, k⟩ := Ok_grd k
  refine jr_iald (pc := 51) F (L0 8 x9) (mL_8 hl) (by decide) c16 (gs_at' _ _ _ _ _ _) dX2_besideNeighbours_51 (fun r17 => ?_)
  refine jr_iadd (pc := 52) F dX2_besideNeighbours_52 ?_
  refine jr_iconst (pc := 53) F dX2_besideNeighbours_53 ?_
  refine jr_idiv (pc := 54) F (rg_w _) (show Rg 2 from ⟨by decide, by decide⟩) (by decide) dX2_besideNeighbours_54 ?_
  refine jr_isub (pc := 55) F dX2_besideNeighbours_55 ?_
  exact jr_iret (pc := 56) F hQ rfl dX2_besideNeighbours_56 ⟨_, rfl, (rg_w _), rfl, (Ok_some k)⟩
set_option maxHeartbeats 4000000 in
set_option maxRecDepth 100000 in
theorem snd_X2_feelWeather {L0 : LT} {l : Nat} (hl : l < 11) {g0 : GG}  {Q : (LT) → Prop} (k : Ok (X2_feelWeather L0) Q) : MetG SL yX2_feelWeather cX2_feelWeather 2 none 2 (fun ad => [.ref (ad (1, l, 0))]) (gs g0 1 l L0) (fun v g' => ∃ L' : LT, v = none ∧ g' = gs g0 1 l L' ∧ Q L') := by
  refine met_intro SL_ok (by decide +kernel) (fun ad => Nat.le_of_ble_eq_true rfl) (fun X F hQ hR => ?_)
  replace F : FX X cX2_feelWeather RX2 2 none SL 2 := F
  show J X 0 [(0, .ref (xad X (1, l, 0)))] [] (gs g0 1 l L0)
  refine jr_iconst (pc := 0) F dX2_feelWeather_0 ?_
  refine jr_istore_n (pc := 1) F [(1, iv 0), (0, .ref (xad X (1, l, 0)))] dX2_feelWeather_1 rfl (by decide) rfl ?_
  refine jr_sub F [1, 0] [(0, .ref (xad X (1, l, 0))), (1, iv 0)] rfl ?_
  refine lpj (P := fun s : Int × LT => Rg (s.1) → J X 2 [(0, .ref (xad X (1, l, 0))), (1, iv s.1)] [] (gs g0 1 l s.2)) (PE := fun r : Int × LT => Rg (r.1) → J X 66 [(0, .ref (xad X (1, l, 0))), (1, iv r.1)] [] (gs g0 1 l r.2)) k (fun s1 Q2 k hC3 hE4 r6 => ?_) (fun z5 k => ?_) (fun h => h (show Rg 0 from ⟨by decide, by decide⟩))
  · refine jr_iload_n (pc := 2) F 1 dX2_feelWeather_2 rfl rfl ?_
    refine jr_aload_n (pc := 3) F 0 dX2_feelWeather_3 rfl rfl ?_
    refine jr_getI (pc := 4) F (s1.2 0 0) f_2_9 (mL_0 hl) rfl (gs_at' _ _ _ _ _ _) dX2_feelWeather_4 (fun r7 => ?_)
    refine jr_icmp_ge (pc := 7) (tgt := 66) F r6 r7 dX2_feelWeather_7 (by decide) (fun h8 => ?_) (fun h8 => ?_)
    · have k := Ok_f (ng_lt h8) k
      exact hE4 (s1.1, s1.2) (Ok_some k) r6
    have k := Ok_t h8 k
    refine jr_aload_n (pc := 10) F 0 dX2_feelWeather_10 rfl rfl ?_
    refine jr_getR (pc := 11) (b := (1, l, 17)) F f_2_61 (mL_0 hl) rfl dX2_feelWeather_11 ?_
    refine jr_iload_n (pc := 14) F 1 dX2_feelWeather_14 rfl rfl ?_
    refine jr_aload_n (pc := 15) F 0 dX2_feelWeather_15 rfl rfl ?_
    refine jr_getR (pc := 16) (b := (1, l, 6)) F f_2_27 (mL_0 hl) rfl dX2_feelWeather_16 ?_
    refine jr_iload_n (pc := 19) F 1 dX2_feelWeather_19 rfl rfl ?_
    obtain ⟨c9, k⟩ := Ok_grd k
    refine jr_iald (pc := 20) F (s1.2 6 s1.1) (mL_6 hl) (by decide) c9 (gs_at' _ _ _ _ _ _) dX2_feelWeather_20 (fun r10 => ?_)
    refine jr_aload_n (pc := 21) F 0 dX2_feelWeather_21 rfl rfl ?_
    refine jr_getR (pc := 22) (b := (1, l, 7)) F f_2_31 (mL_0 hl) rfl dX2_feelWeather_22 ?_
    refine jr_iload_n (pc := 25) F 1 dX2_feelWeather_25 rfl rfl ?_
    refine jr_iald (pc := 26) F (s1.2 7 s1.1) (mL_7 hl) (by decide) c9 (gs_at' _ _ _ _ _ _) dX2_feelWeather_26 (fun r11 => ?_)
    refine jr_aload_n (pc := 27) F 0 dX2_feelWeather_27 rfl rfl ?_
    refine jr_getI (pc := 28) F (s1.2 0 2) f_2_18 (mL_0 hl) rfl (gs_at' _ _ _ _ _ _) dX2_feelWeather_28 (fun r12 => ?_)
    refine jr_callS (pc := 31) (st := [iv s1.1, .ref (xad X (1, l, 17))]) F [iv (s1.2 6 s1.1), iv (s1.2 7 s1.1), iv (s1.2 0 2)] (snd_X0_freezes (g0 := gs g0 1 l s1.2) r10 r11 r12 (X0_freezes_ok _ _ _ )) rfl ck_2_87 rfl rfl (by decide) (Nat.le_of_ble_eq_true rfl) dX2_feelWeather_31 rfl (fun v g' hq => ?_)
    obtain ⟨x, rfl, r13, eg, hx⟩ := hq
    subst hx
    refine J_eq eg ?_
    show J X 34 [(0, .ref (xad X (1, l, 0))), (1, iv s1.1)] [iv (X0_freezes_v (s1.2 6 s1.1) (s1.2 7 s1.1) (s1.2 0 2)), iv s1.1, .ref (xad X (1, l, 17))] (gs g0 1 l s1.2)
    obtain ⟨L14, e15, k⟩ := Ok_let k
    refine jr_iast (pc := 34) F (gs g0 1 l L14) (mL_17 hl) (by decide) c9 r13 (put1 e15) dX2_feelWeather_34 ?_
    refine jr_aload_n (pc := 35) F 0 dX2_feelWeather_35 rfl rfl ?_
    refine jr_getR (pc := 36) (b := (1, l, 18)) F f_2_64 (mL_0 hl) rfl dX2_feelWeather_36 ?_
    refine jr_iload_n (pc := 39) F 1 dX2_feelWeather_39 rfl rfl ?_
    refine jr_aload_n (pc := 40) F 0 dX2_feelWeather_40 rfl rfl ?_
    refine jr_getR (pc := 41) (b := (1, l, 6)) F f_2_27 (mL_0 hl) rfl dX2_feelWeather_41 ?_
    refine jr_iload_n (pc := 44) F 1 dX2_feelWeather_44 rfl rfl ?_
    refine jr_iald (pc := 45) F (L14 6 s1.1) (mL_6 hl) (by decide) c9 (gs_at' _ _ _ _ _ _) dX2_feelWeather_45 (fun r16 => ?_)
    refine jr_aload_n (pc := 46) F 0 dX2_feelWeather_46 rfl rfl ?_
    refine jr_getR (pc := 47) (b := (1, l, 7)) F f_2_31 (mL_0 hl) rfl dX2_feelWeather_47 ?_
    refine jr_iload_n (pc := 50) F 1 dX2_feelWeather_50 rfl rfl ?_
    refine jr_iald (pc := 51) F (L14 7 s1.1) (mL_7 hl) (by decide) c9 (gs_at' _ _ _ _ _ _) dX2_feelWeather_51 (fun r17 => ?_)
    refine jr_aload_n (pc := 52) F 0 dX2_feelWeather_52 rfl rfl ?_
    refine jr_getI (pc := 53) F (L14 0 3) f_2_21 (mL_0 hl) rfl (gs_at' _ _ _ _ _ _) dX2_feelWeather_53 (fun r18 => ?_)
    refine jr_callS (pc := 56) (st := [iv s1.1, .ref (xad X (1, l, 18))]) F [iv (L14 6 s1.1), iv (L14 7 s1.1), iv (L14 0 3)] (snd_X0_melts (g0 := gs g0 1 l L14) r16 r17 r18 (X0_melts_ok _ _ _ )) rfl ck_2_93 rfl rfl (by decide) (Nat.le_of_ble_eq_true rfl) dX2_feelWeather_56 rfl (fun v g' hq => ?_)
    obtain ⟨x, rfl, r19, eg, hx⟩ := hq
    subst hx
    refine J_eq eg ?_
    show J X 59 [(0, .ref (xad X (1, l, 0))), (1, iv s1.1)] [iv (X0_melts_v (L14 6 s1.1) (L14 7 s1.1) (L14 0 3)), iv s1.1, .ref (xad X (1, l, 18))] (gs g0 1 l L14)
    obtain ⟨L20, e21, k⟩ := Ok_let k
    refine jr_iast (pc := 59) F (gs g0 1 l L20) (mL_18 hl) (by decide) c9 r19 (put1 e21) dX2_feelWeather_59 ?_
    refine jr_iinc (pc := 60) F [(1, iv (w32 (s1.1 + 1))), (0, .ref (xad X (1, l, 0)))] 1 dX2_feelWeather_60 rfl (by decide) rfl ?_
    refine jr_goto (pc := 63) (tgt := 2) F dX2_feelWeather_63 (by decide) ?_
    refine jr_sub F [1, 0] [(0, .ref (xad X (1, l, 0))), (1, iv (w32 (s1.1 + 1)))] rfl ?_
    exact hC3 (w32 (s1.1 + 1), L20) (Ok_some k) (rg_w _)
  intro r22
  exact jr_vret (pc := 66) F hQ rfl dX2_feelWeather_66 ⟨_, rfl, rfl, (Ok_some k)⟩
set_option maxHeartbeats 4000000 in
set_option maxRecDepth 100000 in
theorem snd_X2_freezeAll {L0 : LT} {l : Nat} (hl : l < 11) {g0 : GG}  {Q : (LT) → Prop} (k : Ok (X2_freezeAll L0) Q) : MetG SL yX2_freezeAll cX2_freezeAll 2 none 1 (fun ad => [.ref (ad (1, l, 0))]) (gs g0 1 l L0) (fun v g' => ∃ L' : LT, v = none ∧ g' = gs g0 1 l L' ∧ Q L') := by
  refine met_intro SL_ok (by decide +kernel) (fun ad => Nat.le_of_ble_eq_true rfl) (fun X F hQ hR => ?_)
  replace F : FX X cX2_freezeAll RX2 2 none SL 1 := F
  show J X 0 [(0, .ref (xad X (1, l, 0)))] [] (gs g0 1 l L0)
  refine jr_iconst (pc := 0) F dX2_freezeAll_0 ?_
  refine jr_istore_n (pc := 1) F [(1, iv 0), (0, .ref (xad X (1, l, 0)))] dX2_freezeAll_1 rfl (by decide) rfl ?_
  refine jr_sub F [1, 0] [(0, .ref (xad X (1, l, 0))), (1, iv 0)] rfl ?_
  refine lpj (P := fun s : Int × LT => Rg (s.1) → J X 2 [(0, .ref (xad X (1, l, 0))), (1, iv s.1)] [] (gs g0 1 l s.2)) (PE := fun r : Int × LT => Rg (r.1) → J X 40 [(0, .ref (xad X (1, l, 0))), (1, iv r.1)] [] (gs g0 1 l r.2)) k (fun s1 Q2 k hC3 hE4 r6 => ?_) (fun z5 k => ?_) (fun h => h (show Rg 0 from ⟨by decide, by decide⟩))
  · refine jr_iload_n (pc := 2) F 1 dX2_freezeAll_2 rfl rfl ?_
    refine jr_aload_n (pc := 3) F 0 dX2_freezeAll_3 rfl rfl ?_
    refine jr_getI (pc := 4) F (s1.2 0 0) f_2_9 (mL_0 hl) rfl (gs_at' _ _ _ _ _ _) dX2_freezeAll_4 (fun r7 => ?_)
    refine jr_icmp_ge (pc := 7) (tgt := 40) F r6 r7 dX2_freezeAll_7 (by decide) (fun h8 => ?_) (fun h8 => ?_)
    · have k := Ok_f (ng_lt h8) k
      exact hE4 (s1.1, s1.2) (Ok_some k) r6
    have k := Ok_t h8 k
    refine jr_aload_n (pc := 10) F 0 dX2_freezeAll_10 rfl rfl ?_
    refine jr_getR (pc := 11) (b := (1, l, 8)) F f_2_34 (mL_0 hl) rfl dX2_freezeAll_11 ?_
    refine jr_iload_n (pc := 14) F 1 dX2_freezeAll_14 rfl rfl ?_
    refine jr_bipush (pc := 15) F dX2_freezeAll_15 (by decide) ?_
    refine jr_aload_n (pc := 17) F 0 dX2_freezeAll_17 rfl rfl ?_
    refine jr_getR (pc := 18) (b := (1, l, 8)) F f_2_34 (mL_0 hl) rfl dX2_freezeAll_18 ?_
    refine jr_iload_n (pc := 21) F 1 dX2_freezeAll_21 rfl rfl ?_
    obtain ⟨c9, k⟩ := Ok_grd k
    refine jr_iald (pc := 22) F (s1.2 8 s1.1) (mL_8 hl) (by decide) c9 (gs_at' _ _ _ _ _ _) dX2_freezeAll_22 (fun r10 => ?_)
    refine jr_aload_n (pc := 23) F 0 dX2_freezeAll_23 rfl rfl ?_
    refine jr_getR (pc := 24) (b := (1, l, 17)) F f_2_61 (mL_0 hl) rfl dX2_freezeAll_24 ?_
    refine jr_iload_n (pc := 27) F 1 dX2_freezeAll_27 rfl rfl ?_
    refine jr_iald (pc := 28) F (s1.2 17 s1.1) (mL_17 hl) (by decide) c9 (gs_at' _ _ _ _ _ _) dX2_freezeAll_28 (fun r11 => ?_)
    refine jr_iadd (pc := 29) F dX2_freezeAll_29 ?_
    refine jr_mmin (pc := 30) F (show Rg 99 from ⟨by decide, by decide⟩) (rg_w _) lb_2_109 (by decide) (Nat.le_of_ble_eq_true rfl) dX2_freezeAll_30 ?_
    obtain ⟨L12, e13, k⟩ := Ok_let k
    refine jr_iast (pc := 33) F (gs g0 1 l L12) (mL_8 hl) (by decide) c9 (rg_imin (show Rg 99 from ⟨by decide, by decide⟩) (rg_w _)) (put1 e13) dX2_freezeAll_33 ?_
    refine jr_iinc (pc := 34) F [(1, iv (w32 (s1.1 + 1))), (0, .ref (xad X (1, l, 0)))] 1 dX2_freezeAll_34 rfl (by decide) rfl ?_
    refine jr_goto (pc := 37) (tgt := 2) F dX2_freezeAll_37 (by decide) ?_
    refine jr_sub F [1, 0] [(0, .ref (xad X (1, l, 0))), (1, iv (w32 (s1.1 + 1)))] rfl ?_
    exact hC3 (w32 (s1.1 + 1), L12) (Ok_some k) (rg_w _)
  intro r14
  exact jr_vret (pc := 40) F hQ rfl dX2_freezeAll_40 ⟨_, rfl, rfl, (Ok_some k)⟩
set_option maxHeartbeats 4000000 in
set_option maxRecDepth 100000 in
theorem snd_X2_meltAll {L0 : LT} {l : Nat} (hl : l < 11) {g0 : GG}  {Q : (LT) → Prop} (k : Ok (X2_meltAll L0) Q) : MetG SL yX2_meltAll cX2_meltAll 2 none 1 (fun ad => [.ref (ad (1, l, 0))]) (gs g0 1 l L0) (fun v g' => ∃ L' : LT, v = none ∧ g' = gs g0 1 l L' ∧ Q L') := by
  refine met_intro SL_ok (by decide +kernel) (fun ad => Nat.le_of_ble_eq_true rfl) (fun X F hQ hR => ?_)
  replace F : FX X cX2_meltAll RX2 2 none SL 1 := F
  show J X 0 [(0, .ref (xad X (1, l, 0)))] [] (gs g0 1 l L0)
  refine jr_iconst (pc := 0) F dX2_meltAll_0 ?_
  refine jr_istore_n (pc := 1) F [(1, iv 0), (0, .ref (xad X (1, l, 0)))] dX2_meltAll_1 rfl (by decide) rfl ?_
  refine jr_sub F [1, 0] [(0, .ref (xad X (1, l, 0))), (1, iv 0)] rfl ?_
  refine lpj (P := fun s : Int × LT => Rg (s.1) → J X 2 [(0, .ref (xad X (1, l, 0))), (1, iv s.1)] [] (gs g0 1 l s.2)) (PE := fun r : Int × LT => Rg (r.1) → J X 39 [(0, .ref (xad X (1, l, 0))), (1, iv r.1)] [] (gs g0 1 l r.2)) k (fun s1 Q2 k hC3 hE4 r6 => ?_) (fun z5 k => ?_) (fun h => h (show Rg 0 from ⟨by decide, by decide⟩))
  · refine jr_iload_n (pc := 2) F 1 dX2_meltAll_2 rfl rfl ?_
    refine jr_aload_n (pc := 3) F 0 dX2_meltAll_3 rfl rfl ?_
    refine jr_getI (pc := 4) F (s1.2 0 0) f_2_9 (mL_0 hl) rfl (gs_at' _ _ _ _ _ _) dX2_meltAll_4 (fun r7 => ?_)
    refine jr_icmp_ge (pc := 7) (tgt := 39) F r6 r7 dX2_meltAll_7 (by decide) (fun h8 => ?_) (fun h8 => ?_)
    · have k := Ok_f (ng_lt h8) k
      exact hE4 (s1.1, s1.2) (Ok_some k) r6
    have k := Ok_t h8 k
    refine jr_aload_n (pc := 10) F 0 dX2_meltAll_10 rfl rfl ?_
    refine jr_getR (pc := 11) (b := (1, l, 8)) F f_2_34 (mL_0 hl) rfl dX2_meltAll_11 ?_
    refine jr_iload_n (pc := 14) F 1 dX2_meltAll_14 rfl rfl ?_
    refine jr_iconst (pc := 15) F dX2_meltAll_15 ?_
    refine jr_aload_n (pc := 16) F 0 dX2_meltAll_16 rfl rfl ?_
    refine jr_getR (pc := 17) (b := (1, l, 8)) F f_2_34 (mL_0 hl) rfl dX2_meltAll_17 ?_
    refine jr_iload_n (pc := 20) F 1 dX2_meltAll_20 rfl rfl ?_
    obtain ⟨c9, k⟩ := Ok_grd k
    refine jr_iald (pc := 21) F (s1.2 8 s1.1) (mL_8 hl) (by decide) c9 (gs_at' _ _ _ _ _ _) dX2_meltAll_21 (fun r10 => ?_)
    refine jr_aload_n (pc := 22) F 0 dX2_meltAll_22 rfl rfl ?_
    refine jr_getR (pc := 23) (b := (1, l, 18)) F f_2_64 (mL_0 hl) rfl dX2_meltAll_23 ?_
    refine jr_iload_n (pc := 26) F 1 dX2_meltAll_26 rfl rfl ?_
    refine jr_iald (pc := 27) F (s1.2 18 s1.1) (mL_18 hl) (by decide) c9 (gs_at' _ _ _ _ _ _) dX2_meltAll_27 (fun r11 => ?_)
    refine jr_isub (pc := 28) F dX2_meltAll_28 ?_
    refine jr_mmax (pc := 29) F (show Rg 0 from ⟨by decide, by decide⟩) (rg_w _) lb_2_115 (by decide) (Nat.le_of_ble_eq_true rfl) dX2_meltAll_29 ?_
    obtain ⟨L12, e13, k⟩ := Ok_let k
    refine jr_iast (pc := 32) F (gs g0 1 l L12) (mL_8 hl) (by decide) c9 (rg_imax (show Rg 0 from ⟨by decide, by decide⟩) (rg_w _)) (put1 e13) dX2_meltAll_32 ?_
    refine jr_iinc (pc := 33) F [(1, iv (w32 (s1.1 + 1))), (0, .ref (xad X (1, l, 0)))] 1 dX2_meltAll_33 rfl (by decide) rfl ?_
    refine jr_goto (pc := 36) (tgt := 2) F dX2_meltAll_36 (by decide) ?_
    refine jr_sub F [1, 0] [(0, .ref (xad X (1, l, 0))), (1, iv (w32 (s1.1 + 1)))] rfl ?_
    exact hC3 (w32 (s1.1 + 1), L12) (Ok_some k) (rg_w _)
  intro r14
  exact jr_vret (pc := 39) F hQ rfl dX2_meltAll_39 ⟨_, rfl, rfl, (Ok_some k)⟩
set_option maxHeartbeats 4000000 in
set_option maxRecDepth 100000 in
theorem snd_X2_isTaken {L0 : LT} {v_yard : Int} {l : Nat} (hl : l < 11) {g0 : GG} (rgp_yard : Rg v_yard) {Q : (Int) → Prop} (k : Ok (X2_isTaken L0 v_yard) Q) : MetG SL yX2_isTaken cX2_isTaken 3 (some .boolean) 0 (fun ad => [.ref (ad (1, l, 0)), iv v_yard]) (gs g0 1 l L0) (fun v g' => ∃ x : Int, v = some (iv x) ∧ Bz x ∧ g' = gs g0 1 l L0 ∧ Q x) := by
  refine met_intro SL_ok (by decide +kernel) (fun ad => Nat.le_of_ble_eq_true rfl) (fun X F hQ hR => ?_)
  replace F : FX X cX2_isTaken RX2 3 (some .boolean) SL 0 := F
  show J X 0 [(0, .ref (xad X (1, l, 0))), (1, iv v_yard)] [] (gs g0 1 l L0)
  obtain ⟨c1, k⟩ := Ok_grd k
  refine cnd (c := ((L0 6 v_yard) = 3) ∨ ((L0 6 v_yard) = 4)) (GT := J X 20 [(0, .ref (xad X (1, l, 0))), (1, iv v_yard)] [] (gs g0 1 l L0)) (GF := J X 22 [(0, .ref (xad X (1, l, 0))), (1, iv v_yard)] [] (gs g0 1 l L0)) k (fun HT HF => ?_) (fun h6 k => ?_) (fun h6 k => ?_)
  · refine jr_aload_n (pc := 0) F 0 dX2_isTaken_0 rfl rfl ?_
    refine jr_getR (pc := 1) (b := (1, l, 6)) F f_2_27 (mL_0 hl) rfl dX2_isTaken_1 ?_
    refine jr_iload_n (pc := 4) F 1 dX2_isTaken_4 rfl rfl ?_
    refine jr_iald (pc := 5) F (L0 6 v_yard) (mL_6 hl) (by decide) c1 (gs_at' _ _ _ _ _ _) dX2_isTaken_5 (fun r2 => ?_)
    refine jr_iconst (pc := 6) F dX2_isTaken_6 ?_
    refine jr_icmp_eq (pc := 7) (tgt := 20) F r2 (show Rg 3 from ⟨by decide, by decide⟩) dX2_isTaken_7 (by decide) (fun h3 => ?_) (fun h3 => ?_)
    · exact HT (Or.inl h3)
    refine jr_aload_n (pc := 10) F 0 dX2_isTaken_10 rfl rfl ?_
    refine jr_getR (pc := 11) (b := (1, l, 6)) F f_2_27 (mL_0 hl) rfl dX2_isTaken_11 ?_
    refine jr_iload_n (pc := 14) F 1 dX2_isTaken_14 rfl rfl ?_
    refine jr_iald (pc := 15) F (L0 6 v_yard) (mL_6 hl) (by decide) c1 (gs_at' _ _ _ _ _ _) dX2_isTaken_15 (fun r4 => ?_)
    refine jr_iconst (pc := 16) F dX2_isTaken_16 ?_
    refine jr_icmp_ne (pc := 17) (tgt := 22) F r4 (show Rg 4 from ⟨by decide, by decide⟩) dX2_isTaken_17 (by decide) (fun h5 => ?_) (fun h5 => ?_)
    · exact HF (fun q => q.elim h3 h5)
    exact HT (Or.inr h5)
  · refine jr_iconst (pc := 20) F dX2_isTaken_20 ?_
    exact jr_zret (pc := 21) F hQ rfl (Or.inl rfl) dX2_isTaken_21 ⟨_, rfl, (Or.inl rfl), rfl, (Ok_some k)⟩
  refine jr_iconst (pc := 22) F dX2_isTaken_22 ?_
  refine jr_istore_n (pc := 23) F [(2, iv 0), (0, .ref (xad X (1, l, 0))), (1, iv v_yard)] dX2_isTaken_23 rfl (by decide) rfl ?_
  refine jr_sub F [1, 2, 0] [(0, .ref (xad X (1, l, 0))), (1, iv v_yard), (2, iv 0)] rfl ?_
  refine lpj (P := fun s : Int => Rg (s) → J X 24 [(0, .ref (xad X (1, l, 0))), (1, iv v_yard), (2, iv s)] [] (gs g0 1 l L0)) (PE := fun o : ((Int) ⊕ (Int)) => match o with | .inl r => Rg (r) → J X 59 [(0, .ref (xad X (1, l, 0))), (1, iv v_yard), (2, iv r)] [] (gs g0 1 l L0) | .inr y => Q (y)) k (fun s7 Q8 k hC9 hE10 r12 => ?_) (fun o k => ?_) (fun h => h (show Rg 0 from ⟨by decide, by decide⟩))
  · refine jr_iload_n (pc := 24) F 2 dX2_isTaken_24 rfl rfl ?_
    refine jr_aload_n (pc := 25) F 0 dX2_isTaken_25 rfl rfl ?_
    refine jr_getI (pc := 26) F (L0 0 4) f_2_24 (mL_0 hl) rfl (gs_at' _ _ _ _ _ _) dX2_isTaken_26 (fun r13 => ?_)
    refine jr_icmp_ge (pc := 29) (tgt := 59) F r12 r13 dX2_isTaken_29 (by decide) (fun h14 => ?_) (fun h14 => ?_)
    · have k := Ok_f (ng_lt h14) k
      exact hE10 (Sum.inl s7) (Ok_some k) r12
    have k := Ok_t h14 k
    obtain ⟨c15, k⟩ := Ok_grd k
    refine cnd (c := ((L0 14 s7) = 0) ∧ ((L0 12 s7) = v_yard)) (GT := J X 51 [(0, .ref (xad X (1, l, 0))), (1, iv v_yard), (2, iv s7)] [] (gs g0 1 l L0)) (GF := J X 53 [(0, .ref (xad X (1, l, 0))), (1, iv v_yard), (2, iv s7)] [] (gs g0 1 l L0)) k (fun HT HF => ?_) (fun h20 k => ?_) (fun h20 k => ?_)
    · refine jr_aload_n (pc := 32) F 0 dX2_isTaken_32 rfl rfl ?_
      refine jr_getR (pc := 33) (b := (1, l, 14)) F f_2_52 (mL_0 hl) rfl dX2_isTaken_33 ?_
      refine jr_iload_n (pc := 36) F 2 dX2_isTaken_36 rfl rfl ?_
      refine jr_iald (pc := 37) F (L0 14 s7) (mL_14 hl) (by decide) c15 (gs_at' _ _ _ _ _ _) dX2_isTaken_37 (fun r16 => ?_)
      refine jr_if_ne (pc := 38) (tgt := 53) F r16 dX2_isTaken_38 (by decide) (fun h17 => ?_) (fun h17 => ?_)
      · exact HF (fun q => h17 q.1)
      refine jr_aload_n (pc := 41) F 0 dX2_isTaken_41 rfl rfl ?_
      refine jr_getR (pc := 42) (b := (1, l, 12)) F f_2_46 (mL_0 hl) rfl dX2_isTaken_42 ?_
      refine jr_iload_n (pc := 45) F 2 dX2_isTaken_45 rfl rfl ?_
      refine jr_iald (pc := 46) F (L0 12 s7) (mL_12 hl) (by decide) c15 (gs_at' _ _ _ _ _ _) dX2_isTaken_46 (fun r18 => ?_)
      refine jr_iload_n (pc := 47) F 1 dX2_isTaken_47 rfl rfl ?_
      refine jr_icmp_ne (pc := 48) (tgt := 53) F r18 rgp_yard dX2_isTaken_48 (by decide) (fun h19 => ?_) (fun h19 => ?_)
      · exact HF (fun q => h19 q.2)
      exact HT ⟨h17, h19⟩
    · refine jr_iconst (pc := 51) F dX2_isTaken_51 ?_
      exact jr_zret (pc := 52) F hQ rfl (Or.inr rfl) dX2_isTaken_52 ⟨_, rfl, (Or.inr rfl), rfl, (hE10 (Sum.inr _) (Ok_some k))⟩
    refine jr_iinc (pc := 53) F [(2, iv (w32 (s7 + 1))), (0, .ref (xad X (1, l, 0))), (1, iv v_yard)] 2 dX2_isTaken_53 rfl (by decide) rfl ?_
    refine jr_goto (pc := 56) (tgt := 24) F dX2_isTaken_56 (by decide) ?_
    refine jr_sub F [1, 2, 0] [(0, .ref (xad X (1, l, 0))), (1, iv v_yard), (2, iv (w32 (s7 + 1)))] rfl ?_
    exact hC9 (w32 (s7 + 1)) (Ok_some k) (rg_w _)
  rcases o with z11 | y
  rotate_left
  · show Q (y)
    exact Ok_some k
  intro r21
  refine jr_iconst (pc := 59) F dX2_isTaken_59 ?_
  exact jr_zret (pc := 60) F hQ rfl (Or.inl rfl) dX2_isTaken_60 ⟨_, rfl, (Or.inl rfl), rfl, (Ok_some k)⟩
set_option maxHeartbeats 4000000 in
set_option maxRecDepth 100000 in
theorem snd_X2_moveTrain {L0 : LT} {v_train : Int} {l : Nat} (hl : l < 11) {g0 : GG} (rgp_train : Rg v_train) {Q : (LT) → Prop} (k : Ok (X2_moveTrain L0 v_train) Q) : MetG SL yX2_moveTrain cX2_moveTrain 4 none 1 (fun ad => [.ref (ad (1, l, 0)), iv v_train]) (gs g0 1 l L0) (fun v g' => ∃ L' : LT, v = none ∧ g' = gs g0 1 l L' ∧ Q L') := by
  refine met_intro SL_ok (by decide +kernel) (fun ad => Nat.le_of_ble_eq_true rfl) (fun X F hQ hR => ?_)
  replace F : FX X cX2_moveTrain RX2 4 none SL 1 := F
  show J X 0 [(0, .ref (xad X (1, l, 0))), (1, iv v_train)] [] (gs g0 1 l L0)
  refine jr_aload_n (pc := 0) F 0 dX2_moveTrain_0 rfl rfl ?_
  refine jr_getR (pc := 1) (b := (1, l, 13)) F f_2_49 (mL_0 hl) rfl dX2_moveTrain_1 ?_
  refine jr_iload_n (pc := 4) F 1 dX2_moveTrain_4 rfl rfl ?_
  obtain ⟨c1, k⟩ := Ok_grd k
  refine jr_iald (pc := 5) F (L0 13 v_train) (mL_13 hl) (by decide) c1 (gs_at' _ _ _ _ _ _) dX2_moveTrain_5 (fun r2 => ?_)
  refine jr_if_le (pc := 6) (tgt := 20) F r2 dX2_moveTrain_6 (by decide) (fun h3 => ?_) (fun h3 => ?_)
  · have k := Ok_f (ng_lt h3) k
    refine jr_iconst (pc := 20) F dX2_moveTrain_20 ?_
    refine jr_istore_n (pc := 21) F [(2, iv 0), (0, .ref (xad X (1, l, 0))), (1, iv v_train)] dX2_moveTrain_21 rfl (by decide) rfl ?_
    refine jr_sub F [1, 2, 0] [(0, .ref (xad X (1, l, 0))), (1, iv v_train), (2, iv 0)] rfl ?_
    refine lpj (P := fun s : Int × LT => Rg (s.1) → J X 22 [(0, .ref (xad X (1, l, 0))), (1, iv v_train), (2, iv s.1)] [] (gs g0 1 l s.2)) (PE := fun o : ((Int × LT) ⊕ (LT)) => match o with | .inl r => Rg (r.1) → J X 142 [(0, .ref (xad X (1, l, 0))), (1, iv v_train), (2, iv r.1)] [] (gs g0 1 l r.2) | .inr y => Q (y)) k (fun s4 Q5 k hC6 hE7 r9 => ?_) (fun o k => ?_) (fun h => h (show Rg 0 from ⟨by decide, by decide⟩))
    · refine jr_iload_n (pc := 22) F 2 dX2_moveTrain_22 rfl rfl ?_
      refine jr_aload_n (pc := 23) F 0 dX2_moveTrain_23 rfl rfl ?_
      refine jr_getR (pc := 24) (b := (1, l, 11)) F f_2_43 (mL_0 hl) rfl dX2_moveTrain_24 ?_
      refine jr_iload_n (pc := 27) F 1 dX2_moveTrain_27 rfl rfl ?_
      refine jr_iald (pc := 28) F (s4.2 11 v_train) (mL_11 hl) (by decide) c1 (gs_at' _ _ _ _ _ _) dX2_moveTrain_28 (fun r10 => ?_)
      refine jr_icmp_ge (pc := 29) (tgt := 142) F r9 r10 dX2_moveTrain_29 (by decide) (fun h11 => ?_) (fun h11 => ?_)
      · have k := Ok_f (ng_lt h11) k
        exact hE7 (Sum.inl (s4.1, s4.2)) (Ok_some k) r9
      have k := Ok_t h11 k
      refine jr_aload_n (pc := 32) F 0 dX2_moveTrain_32 rfl rfl ?_
      refine jr_getR (pc := 33) (b := (1, l, 12)) F f_2_46 (mL_0 hl) rfl dX2_moveTrain_33 ?_
      refine jr_iload_n (pc := 36) F 1 dX2_moveTrain_36 rfl rfl ?_
      refine jr_iald (pc := 37) F (s4.2 12 v_train) (mL_12 hl) (by decide) c1 (gs_at' _ _ _ _ _ _) dX2_moveTrain_37 (fun r12 => ?_)
      refine jr_iconst (pc := 38) F dX2_moveTrain_38 ?_
      refine jr_iadd (pc := 39) F dX2_moveTrain_39 ?_
      obtain ⟨x13, e14, k⟩ := Ok_let k
      have r15 : Rg x13 := rg_of e14 (rg_w _)
      refine jr_top e14 ?_
      refine jr_istore_n (pc := 40) F [(3, iv x13), (0, .ref (xad X (1, l, 0))), (1, iv v_train), (2, iv s4.1)] dX2_moveTrain_40 rfl (by decide) rfl ?_
      refine jr_iload_n (pc := 41) F 0 dX2_moveTrain_41 rfl rfl ?_
      refine jr_aload_n (pc := 42) F 1 dX2_moveTrain_42 rfl rfl ?_
      refine jr_getI (pc := 43) F (s4.2 0 0) f_2_9 (mL_0 hl) rfl (gs_at' _ _ _ _ _ _) dX2_moveTrain_43 (fun r16 => ?_)
      refine jr_icmp_lt (pc := 46) (tgt := 67) F r15 r16 dX2_moveTrain_46 (by decide) (fun h17 => ?_) (fun h17 => ?_)
      · have k := Ok_f (ng_le h17) k
        refine jr_aload_n (pc := 67) F 1 dX2_moveTrain_67 rfl rfl ?_
        refine jr_getR (pc := 68) (b := (1, l, 8)) F f_2_34 (mL_0 hl) rfl dX2_moveTrain_68 ?_
        refine jr_iload_n (pc := 71) F 0 dX2_moveTrain_71 rfl rfl ?_
        obtain ⟨c18, k⟩ := Ok_grd k
        refine jr_iald (pc := 72) F (s4.2 8 x13) (mL_8 hl) (by decide) c18 (gs_at' _ _ _ _ _ _) dX2_moveTrain_72 (fun r19 => ?_)
        refine jr_aload_n (pc := 73) F 1 dX2_moveTrain_73 rfl rfl ?_
        refine jr_getR (pc := 74) (b := (1, l, 6)) F f_2_27 (mL_0 hl) rfl dX2_moveTrain_74 ?_
        refine jr_iload_n (pc := 77) F 0 dX2_moveTrain_77 rfl rfl ?_
        refine jr_iald (pc := 78) F (s4.2 6 x13) (mL_6 hl) (by decide) c18 (gs_at' _ _ _ _ _ _) dX2_moveTrain_78 (fun r20 => ?_)
        refine jr_aload_n (pc := 79) F 1 dX2_moveTrain_79 rfl rfl ?_
        refine jr_getR (pc := 80) (b := (1, l, 7)) F f_2_31 (mL_0 hl) rfl dX2_moveTrain_80 ?_
        refine jr_iload_n (pc := 83) F 0 dX2_moveTrain_83 rfl rfl ?_
        refine jr_iald (pc := 84) F (s4.2 7 x13) (mL_7 hl) (by decide) c18 (gs_at' _ _ _ _ _ _) dX2_moveTrain_84 (fun r21 => ?_)
        refine jr_aload_n (pc := 85) F 1 dX2_moveTrain_85 rfl rfl ?_
        refine jr_getR (pc := 86) (b := (1, l, 9)) F f_2_37 (mL_0 hl) rfl dX2_moveTrain_86 ?_
        refine jr_iload_n (pc := 89) F 2 dX2_moveTrain_89 rfl rfl ?_
        refine jr_iald (pc := 90) F (s4.2 9 v_train) (mL_9 hl) (by decide) c1 (gs_at' _ _ _ _ _ _) dX2_moveTrain_90 (fun r22 => ?_)
        refine jr_callS (pc := 91) (st := [iv (s4.2 8 x13)]) F [iv (s4.2 6 x13), iv (s4.2 7 x13), iv (s4.2 9 v_train)] (snd_X0_wants (g0 := gs g0 1 l s4.2) r20 r21 r22 (X0_wants_ok _ _ _ )) rfl ck_2_118 rfl rfl (by decide) (Nat.le_of_ble_eq_true rfl) dX2_moveTrain_91 rfl (fun v g' hq => ?_)
        obtain ⟨x, rfl, r23, eg, hx⟩ := hq
        subst hx
        refine J_eq eg ?_
        show J X 94 [(3, iv x13), (0, .ref (xad X (1, l, 0))), (1, iv v_train), (2, iv s4.1)] [iv (X0_wants_v (s4.2 6 x13) (s4.2 7 x13) (s4.2 9 v_train)), iv (s4.2 8 x13)] (gs g0 1 l s4.2)
        refine jr_icmp_lt (pc := 94) (tgt := 105) F r19 r23 dX2_moveTrain_94 (by decide) (fun h24 => ?_) (fun h24 => ?_)
        · have k := Ok_t h24 k
          exact jr_vret (pc := 105) F hQ rfl dX2_moveTrain_105 ⟨_, rfl, rfl, (hE7 (Sum.inr _) (Ok_some k))⟩
        have k := Ok_f (ng_lt h24) k
        refine jr_aload_n (pc := 97) F 1 dX2_moveTrain_97 rfl rfl ?_
        refine jr_iload_n (pc := 98) F 0 dX2_moveTrain_98 rfl rfl ?_
        have k := Ok_bind k
        refine jr_callV (pc := 99) (st := []) F [iv x13] (snd_X2_isTaken hl (g0 := g0) r15 k) rfl ck_2_121 rfl (mL_0 hl) rfl rfl rfl (by decide) (Nat.le_of_ble_eq_true rfl) dX2_moveTrain_99 rfl (fun v g' hq => ?_)
        obtain ⟨z26, rfl, r25, eg, k⟩ := hq
        refine J_eq eg ?_
        show J X 102 [(3, iv x13), (0, .ref (xad X (1, l, 0))), (1, iv v_train), (2, iv s4.1)] [iv z26] (gs g0 1 l s4.2)
        refine jr_if_eq (pc := 102) (tgt := 106) F (rg_z r25) dX2_moveTrain_102 (by decide) (fun h27 => ?_) (fun h27 => ?_)
        · have k := Ok_f (fun q => q h27) k
          refine jr_aload_n (pc := 106) F 1 dX2_moveTrain_106 rfl rfl ?_
          refine jr_getR (pc := 107) (b := (1, l, 12)) F f_2_46 (mL_0 hl) rfl dX2_moveTrain_107 ?_
          refine jr_iload_n (pc := 110) F 2 dX2_moveTrain_110 rfl rfl ?_
          refine jr_iload_n (pc := 111) F 0 dX2_moveTrain_111 rfl rfl ?_
          obtain ⟨L28, e29, k⟩ := Ok_let k
          refine jr_iast (pc := 112) F (gs g0 1 l L28) (mL_12 hl) (by decide) c1 r15 (put1 e29) dX2_moveTrain_112 ?_
          refine jr_aload_n (pc := 113) F 1 dX2_moveTrain_113 rfl rfl ?_
          refine jr_getR (pc := 114) (b := (1, l, 8)) F f_2_34 (mL_0 hl) rfl dX2_moveTrain_114 ?_
          refine jr_iload_n (pc := 117) F 0 dX2_moveTrain_117 rfl rfl ?_
          refine jr_iconst (pc := 118) F dX2_moveTrain_118 ?_
          refine jr_aload_n (pc := 119) F 1 dX2_moveTrain_119 rfl rfl ?_
          refine jr_getR (pc := 120) (b := (1, l, 8)) F f_2_34 (mL_0 hl) rfl dX2_moveTrain_120 ?_
          refine jr_iload_n (pc := 123) F 0 dX2_moveTrain_123 rfl rfl ?_
          refine jr_iald (pc := 124) F (L28 8 x13) (mL_8 hl) (by decide) c18 (gs_at' _ _ _ _ _ _) dX2_moveTrain_124 (fun r30 => ?_)
          refine jr_aload_n (pc := 125) F 1 dX2_moveTrain_125 rfl rfl ?_
          refine jr_getR (pc := 126) (b := (1, l, 10)) F f_2_40 (mL_0 hl) rfl dX2_moveTrain_126 ?_
          refine jr_iload_n (pc := 129) F 2 dX2_moveTrain_129 rfl rfl ?_
          refine jr_iald (pc := 130) F (L28 10 v_train) (mL_10 hl) (by decide) c1 (gs_at' _ _ _ _ _ _) dX2_moveTrain_130 (fun r31 => ?_)
          refine jr_isub (pc := 131) F dX2_moveTrain_131 ?_
          refine jr_mmax (pc := 132) F (show Rg 0 from ⟨by decide, by decide⟩) (rg_w _) lb_2_115 (by decide) (Nat.le_of_ble_eq_true rfl) dX2_moveTrain_132 ?_
          obtain ⟨L32, e33, k⟩ := Ok_let k
          refine jr_iast (pc := 135) F (gs g0 1 l L32) (mL_8 hl) (by decide) c18 (rg_imax (show Rg 0 from ⟨by decide, by decide⟩) (rg_w _)) (put1 e33) dX2_moveTrain_135 ?_
          refine jr_iinc (pc := 136) F [(2, iv (w32 (s4.1 + 1))), (3, iv x13), (0, .ref (xad X (1, l, 0))), (1, iv v_train)] 3 dX2_moveTrain_136 rfl (by decide) rfl ?_
          refine jr_goto (pc := 139) (tgt := 22) F dX2_moveTrain_139 (by decide) ?_
          refine jr_sub F [2, 3, 0] [(0, .ref (xad X (1, l, 0))), (1, iv v_train), (2, iv (w32 (s4.1 + 1)))] rfl ?_
          exact hC6 (w32 (s4.1 + 1), L32) (Ok_some k) (rg_w _)
        have k := Ok_t h27 k
        exact jr_vret (pc := 105) F hQ rfl dX2_moveTrain_105 ⟨_, rfl, rfl, (hE7 (Sum.inr _) (Ok_some k))⟩
      have k := Ok_t h17 k
      refine jr_aload_n (pc := 49) F 1 dX2_moveTrain_49 rfl rfl ?_
      refine jr_getR (pc := 50) (b := (1, l, 14)) F f_2_52 (mL_0 hl) rfl dX2_moveTrain_50 ?_
      refine jr_iload_n (pc := 53) F 2 dX2_moveTrain_53 rfl rfl ?_
      refine jr_iconst (pc := 54) F dX2_moveTrain_54 ?_
      obtain ⟨L34, e35, k⟩ := Ok_let k
      refine jr_iast (pc := 55) F (gs g0 1 l L34) (mL_14 hl) (by decide) c1 (show Rg 1 from ⟨by decide, by decide⟩) (put1 e35) dX2_moveTrain_55 ?_
      refine jr_aload_n (pc := 56) F 1 dX2_moveTrain_56 rfl rfl ?_
      refine jr_getR (pc := 57) (b := (1, l, 16)) F f_2_58 (mL_0 hl) rfl dX2_moveTrain_57 ?_
      refine jr_iload_n (pc := 60) F 2 dX2_moveTrain_60 rfl rfl ?_
      refine jr_aload_n (pc := 61) F 1 dX2_moveTrain_61 rfl rfl ?_
      refine jr_getI (pc := 62) F (L34 0 14) f_2_55 (mL_0 hl) rfl (gs_at' _ _ _ _ _ _) dX2_moveTrain_62 (fun r36 => ?_)
      obtain ⟨L37, e38, k⟩ := Ok_let k
      refine jr_iast (pc := 65) F (gs g0 1 l L37) (mL_16 hl) (by decide) c1 r36 (put1 e38) dX2_moveTrain_65 ?_
      exact jr_vret (pc := 66) F hQ rfl dX2_moveTrain_66 ⟨_, rfl, rfl, (hE7 (Sum.inr _) (Ok_some k))⟩
    rcases o with z8 | y
    rotate_left
    · show Q (y)
      exact Ok_some k
    intro r39
    exact jr_vret (pc := 142) F hQ rfl dX2_moveTrain_142 ⟨_, rfl, rfl, (Ok_some k)⟩
  have k := Ok_t h3 k
  refine jr_aload_n (pc := 9) F 0 dX2_moveTrain_9 rfl rfl ?_
  refine jr_getR (pc := 10) (b := (1, l, 13)) F f_2_49 (mL_0 hl) rfl dX2_moveTrain_10 ?_
  refine jr_iload_n (pc := 13) F 1 dX2_moveTrain_13 rfl rfl ?_
  refine jr_dup2 (pc := 14) F dX2_moveTrain_14 rfl rfl ?_
  refine jr_iald (pc := 15) F (L0 13 v_train) (mL_13 hl) (by decide) c1 (gs_at' _ _ _ _ _ _) dX2_moveTrain_15 (fun r40 => ?_)
  refine jr_iconst (pc := 16) F dX2_moveTrain_16 ?_
  refine jr_isub (pc := 17) F dX2_moveTrain_17 ?_
  obtain ⟨L41, e42, k⟩ := Ok_let k
  refine jr_iast (pc := 18) F (gs g0 1 l L41) (mL_13 hl) (by decide) c1 (rg_w _) (put1 e42) dX2_moveTrain_18 ?_
  exact jr_vret (pc := 19) F hQ rfl dX2_moveTrain_19 ⟨_, rfl, rfl, (Ok_some k)⟩
set_option maxHeartbeats 4000000 in
set_option maxRecDepth 100000 in
theorem snd_X2_sinkTrains {L0 : LT} {l : Nat} (hl : l < 11) {g0 : GG}  {Q : (LT) → Prop} (k : Ok (X2_sinkTrains L0) Q) : MetG SL yX2_sinkTrains cX2_sinkTrains 3 none 1 (fun ad => [.ref (ad (1, l, 0))]) (gs g0 1 l L0) (fun v g' => ∃ L' : LT, v = none ∧ g' = gs g0 1 l L' ∧ Q L') := by
  refine met_intro SL_ok (by decide +kernel) (fun ad => Nat.le_of_ble_eq_true rfl) (fun X F hQ hR => ?_)
  replace F : FX X cX2_sinkTrains RX2 3 none SL 1 := F
  show J X 0 [(0, .ref (xad X (1, l, 0)))] [] (gs g0 1 l L0)
  refine jr_iconst (pc := 0) F dX2_sinkTrains_0 ?_
  refine jr_istore_n (pc := 1) F [(1, iv 0), (0, .ref (xad X (1, l, 0)))] dX2_sinkTrains_1 rfl (by decide) rfl ?_
  refine jr_sub F [1, 0] [(0, .ref (xad X (1, l, 0))), (1, iv 0)] rfl ?_
  refine lpj (P := fun s : Int × LT => Rg (s.1) → J X 2 [(0, .ref (xad X (1, l, 0))), (1, iv s.1)] [] (gs g0 1 l s.2)) (PE := fun r : Int × LT => Rg (r.1) → J X 86 [(0, .ref (xad X (1, l, 0))), (1, iv r.1)] [] (gs g0 1 l r.2)) k (fun s1 Q2 k hC3 hE4 r6 => ?_) (fun z5 k => ?_) (fun h => h (show Rg 0 from ⟨by decide, by decide⟩))
  · refine jr_iload_n (pc := 2) F 1 dX2_sinkTrains_2 rfl rfl ?_
    refine jr_aload_n (pc := 3) F 0 dX2_sinkTrains_3 rfl rfl ?_
    refine jr_getI (pc := 4) F (s1.2 0 4) f_2_24 (mL_0 hl) rfl (gs_at' _ _ _ _ _ _) dX2_sinkTrains_4 (fun r7 => ?_)
    refine jr_icmp_ge (pc := 7) (tgt := 86) F r6 r7 dX2_sinkTrains_7 (by decide) (fun h8 => ?_) (fun h8 => ?_)
    · have k := Ok_f (ng_lt h8) k
      exact hE4 (s1.1, s1.2) (Ok_some k) r6
    have k := Ok_t h8 k
    refine jr_aload_n (pc := 10) F 0 dX2_sinkTrains_10 rfl rfl ?_
    refine jr_getR (pc := 11) (b := (1, l, 12)) F f_2_46 (mL_0 hl) rfl dX2_sinkTrains_11 ?_
    refine jr_iload_n (pc := 14) F 1 dX2_sinkTrains_14 rfl rfl ?_
    obtain ⟨c9, k⟩ := Ok_grd k
    refine jr_iald (pc := 15) F (s1.2 12 s1.1) (mL_12 hl) (by decide) c9 (gs_at' _ _ _ _ _ _) dX2_sinkTrains_15 (fun r10 => ?_)
    obtain ⟨x11, e12, k⟩ := Ok_let k
    have r13 : Rg x11 := rg_of e12 r10
    refine jr_top e12 ?_
    refine jr_istore_n (pc := 16) F [(2, iv x11), (0, .ref (xad X (1, l, 0))), (1, iv s1.1)] dX2_sinkTrains_16 rfl (by decide) rfl ?_
    obtain ⟨c14, k⟩ := Ok_grd k
    refine cnd (c := (((s1.2 14 s1.1) = 0) ∧ (¬ x11 = (-1))) ∧ ((s1.2 8 x11) < (jdiv (X0_wants_v (s1.2 6 x11) (s1.2 7 x11) (s1.2 9 s1.1)) 2))) (GT := J X 63 [(2, iv x11), (0, .ref (xad X (1, l, 0))), (1, iv s1.1)] [] (gs g0 1 l s1.2)) (GF := J X 80 [(2, iv x11), (0, .ref (xad X (1, l, 0))), (1, iv s1.1)] [] (gs g0 1 l s1.2)) k (fun HT HF => ?_) (fun h24 k => ?_) (fun h24 k => ?_)
    · refine jr_aload_n (pc := 17) F 1 dX2_sinkTrains_17 rfl rfl ?_
      refine jr_getR (pc := 18) (b := (1, l, 14)) F f_2_52 (mL_0 hl) rfl dX2_sinkTrains_18 ?_
      refine jr_iload_n (pc := 21) F 2 dX2_sinkTrains_21 rfl rfl ?_
      refine jr_iald (pc := 22) F (s1.2 14 s1.1) (mL_14 hl) (by decide) c9 (gs_at' _ _ _ _ _ _) dX2_sinkTrains_22 (fun r15 => ?_)
      refine jr_if_ne (pc := 23) (tgt := 80) F r15 dX2_sinkTrains_23 (by decide) (fun h16 => ?_) (fun h16 => ?_)
      · exact HF (fun q => (fun q => h16 q.1) q.1)
      refine jr_iload_n (pc := 26) F 0 dX2_sinkTrains_26 rfl rfl ?_
      refine jr_iconst (pc := 27) F dX2_sinkTrains_27 ?_
      refine jr_icmp_eq (pc := 28) (tgt := 80) F r13 (show Rg (-1) from ⟨by decide, by decide⟩) dX2_sinkTrains_28 (by decide) (fun h17 => ?_) (fun h17 => ?_)
      · exact HF (fun q => (fun q => (fun q => q h17) q.2) q.1)
      refine jr_aload_n (pc := 31) F 1 dX2_sinkTrains_31 rfl rfl ?_
      refine jr_getR (pc := 32) (b := (1, l, 8)) F f_2_34 (mL_0 hl) rfl dX2_sinkTrains_32 ?_
      refine jr_iload_n (pc := 35) F 0 dX2_sinkTrains_35 rfl rfl ?_
      refine jr_iald (pc := 36) F (s1.2 8 x11) (mL_8 hl) (by decide) (c14 ⟨h16, h17⟩) (gs_at' _ _ _ _ _ _) dX2_sinkTrains_36 (fun r18 => ?_)
      refine jr_aload_n (pc := 37) F 1 dX2_sinkTrains_37 rfl rfl ?_
      refine jr_getR (pc := 38) (b := (1, l, 6)) F f_2_27 (mL_0 hl) rfl dX2_sinkTrains_38 ?_
      refine jr_iload_n (pc := 41) F 0 dX2_sinkTrains_41 rfl rfl ?_
      refine jr_iald (pc := 42) F (s1.2 6 x11) (mL_6 hl) (by decide) (c14 ⟨h16, h17⟩) (gs_at' _ _ _ _ _ _) dX2_sinkTrains_42 (fun r19 => ?_)
      refine jr_aload_n (pc := 43) F 1 dX2_sinkTrains_43 rfl rfl ?_
      refine jr_getR (pc := 44) (b := (1, l, 7)) F f_2_31 (mL_0 hl) rfl dX2_sinkTrains_44 ?_
      refine jr_iload_n (pc := 47) F 0 dX2_sinkTrains_47 rfl rfl ?_
      refine jr_iald (pc := 48) F (s1.2 7 x11) (mL_7 hl) (by decide) (c14 ⟨h16, h17⟩) (gs_at' _ _ _ _ _ _) dX2_sinkTrains_48 (fun r20 => ?_)
      refine jr_aload_n (pc := 49) F 1 dX2_sinkTrains_49 rfl rfl ?_
      refine jr_getR (pc := 50) (b := (1, l, 9)) F f_2_37 (mL_0 hl) rfl dX2_sinkTrains_50 ?_
      refine jr_iload_n (pc := 53) F 2 dX2_sinkTrains_53 rfl rfl ?_
      refine jr_iald (pc := 54) F (s1.2 9 s1.1) (mL_9 hl) (by decide) c9 (gs_at' _ _ _ _ _ _) dX2_sinkTrains_54 (fun r21 => ?_)
      refine jr_callS (pc := 55) (st := [iv (s1.2 8 x11)]) F [iv (s1.2 6 x11), iv (s1.2 7 x11), iv (s1.2 9 s1.1)] (snd_X0_wants (g0 := gs g0 1 l s1.2) r19 r20 r21 (X0_wants_ok _ _ _ )) rfl ck_2_118 rfl rfl (by decide) (Nat.le_of_ble_eq_true rfl) dX2_sinkTrains_55 rfl (fun v g' hq => ?_)
      obtain ⟨x, rfl, r22, eg, hx⟩ := hq
      subst hx
      refine J_eq eg ?_
      show J X 58 [(2, iv x11), (0, .ref (xad X (1, l, 0))), (1, iv s1.1)] [iv (X0_wants_v (s1.2 6 x11) (s1.2 7 x11) (s1.2 9 s1.1)), iv (s1.2 8 x11)] (gs g0 1 l s1.2)
      refine jr_iconst (pc := 58) F dX2_sinkTrains_58 ?_
      refine jr_idiv (pc := 59) F r22 (show Rg 2 from ⟨by decide, by decide⟩) (by decide) dX2_sinkTrains_59 ?_
      refine jr_icmp_ge (pc := 60) (tgt := 80) F r18 (rg_div _ _) dX2_sinkTrains_60 (by decide) (fun h23 => ?_) (fun h23 => ?_)
      · exact HF (fun q => (ng_lt h23) q.2)
      exact HT ⟨⟨h16, h17⟩, h23⟩
    · refine jr_aload_n (pc := 63) F 1 dX2_sinkTrains_63 rfl rfl ?_
      refine jr_getR (pc := 64) (b := (1, l, 14)) F f_2_52 (mL_0 hl) rfl dX2_sinkTrains_64 ?_
      refine jr_iload_n (pc := 67) F 2 dX2_sinkTrains_67 rfl rfl ?_
      refine jr_iconst (pc := 68) F dX2_sinkTrains_68 ?_
      obtain ⟨L25, e26, k⟩ := Ok_let k
      refine jr_iast (pc := 69) F (gs g0 1 l L25) (mL_14 hl) (by decide) c9 (show Rg 2 from ⟨by decide, by decide⟩) (put1 e26) dX2_sinkTrains_69 ?_
      refine jr_aload_n (pc := 70) F 1 dX2_sinkTrains_70 rfl rfl ?_
      refine jr_getR (pc := 71) (b := (1, l, 16)) F f_2_58 (mL_0 hl) rfl dX2_sinkTrains_71 ?_
      refine jr_iload_n (pc := 74) F 2 dX2_sinkTrains_74 rfl rfl ?_
      refine jr_aload_n (pc := 75) F 1 dX2_sinkTrains_75 rfl rfl ?_
      refine jr_getI (pc := 76) F (L25 0 14) f_2_55 (mL_0 hl) rfl (gs_at' _ _ _ _ _ _) dX2_sinkTrains_76 (fun r27 => ?_)
      obtain ⟨L28, e29, k⟩ := Ok_let k
      refine jr_iast (pc := 79) F (gs g0 1 l L28) (mL_16 hl) (by decide) c9 r27 (put1 e29) dX2_sinkTrains_79 ?_
      refine jr_iinc (pc := 80) F [(1, iv (w32 (s1.1 + 1))), (2, iv x11), (0, .ref (xad X (1, l, 0)))] 2 dX2_sinkTrains_80 rfl (by decide) rfl ?_
      refine jr_goto (pc := 83) (tgt := 2) F dX2_sinkTrains_83 (by decide) ?_
      refine jr_sub F [2, 0] [(0, .ref (xad X (1, l, 0))), (1, iv (w32 (s1.1 + 1)))] rfl ?_
      exact hC3 (w32 (s1.1 + 1), L28) (Ok_some k) (rg_w _)
    refine jr_iinc (pc := 80) F [(1, iv (w32 (s1.1 + 1))), (2, iv x11), (0, .ref (xad X (1, l, 0)))] 2 dX2_sinkTrains_80 rfl (by decide) rfl ?_
    refine jr_goto (pc := 83) (tgt := 2) F dX2_sinkTrains_83 (by decide) ?_
    refine jr_sub F [2, 0] [(0, .ref (xad X (1, l, 0))), (1, iv (w32 (s1.1 + 1)))] rfl ?_
    exact hC3 (w32 (s1.1 + 1), s1.2) (Ok_some k) (rg_w _)
  intro r30
  exact jr_vret (pc := 86) F hQ rfl dX2_sinkTrains_86 ⟨_, rfl, rfl, (Ok_some k)⟩
set_option maxHeartbeats 4000000 in
set_option maxRecDepth 100000 in
theorem snd_X2_passHour {L0 : LT} {l : Nat} (hl : l < 11) {g0 : GG}  {Q : (LT) → Prop} (k : Ok (X2_passHour L0) Q) : MetG SL yX2_passHour cX2_passHour 3 none 2 (fun ad => [.ref (ad (1, l, 0))]) (gs g0 1 l L0) (fun v g' => ∃ L' : LT, v = none ∧ g' = gs g0 1 l L' ∧ Q L') := by
  refine met_intro SL_ok (by decide +kernel) (fun ad => Nat.le_of_ble_eq_true rfl) (fun X F hQ hR => ?_)
  replace F : FX X cX2_passHour RX2 3 none SL 2 := F
  show J X 0 [(0, .ref (xad X (1, l, 0)))] [] (gs g0 1 l L0)
  refine jr_aload_n (pc := 0) F 0 dX2_passHour_0 rfl rfl ?_
  refine jr_dup (pc := 1) F dX2_passHour_1 rfl ?_
  refine jr_getI (pc := 2) F (L0 0 14) f_2_55 (mL_0 hl) rfl (gs_at' _ _ _ _ _ _) dX2_passHour_2 (fun r1 => ?_)
  refine jr_iconst (pc := 5) F dX2_passHour_5 ?_
  refine jr_iadd (pc := 6) F dX2_passHour_6 ?_
  obtain ⟨L2, e3, k⟩ := Ok_let k
  refine jr_putI (pc := 7) F (gs g0 1 l L2) fw_2_55 (mL_0 hl) rfl (rg_w _) (put1 e3) dX2_passHour_7 ?_
  refine jr_aload_n (pc := 10) F 0 dX2_passHour_10 rfl rfl ?_
  refine jr_getI (pc := 11) F (L2 0 1) f_2_15 (mL_0 hl) rfl (gs_at' _ _ _ _ _ _) dX2_passHour_11 (fun r4 => ?_)
  refine jr_bipush (pc := 14) F dX2_passHour_14 (by decide) ?_
  refine jr_irem (pc := 16) F r4 (show Rg 24 from ⟨by decide, by decide⟩) (by decide) dX2_passHour_16 ?_
  obtain ⟨x5, e6, k⟩ := Ok_let k
  have r7 : Rg x5 := rg_of e6 (rg_rem r4 (show Rg 24 from ⟨by decide, by decide⟩))
  refine jr_top e6 ?_
  refine jr_istore_n (pc := 17) F [(1, iv x5), (0, .ref (xad X (1, l, 0)))] dX2_passHour_17 rfl (by decide) rfl ?_
  refine jn (P := fun v : LT => J X 52 [(0, .ref (xad X (1, l, 0))), (1, iv x5)] [] (gs g0 1 l v)) k (fun Q9 k hJ10 => ?_) (fun z8 k  => ?_)
  · refine cnd (c := (18 ≤ x5) ∨ (x5 ≤ 5)) (GT := J X 29 [(1, iv x5), (0, .ref (xad X (1, l, 0)))] [] (gs g0 1 l L2)) (GF := J X 36 [(1, iv x5), (0, .ref (xad X (1, l, 0)))] [] (gs g0 1 l L2)) k (fun HT HF => ?_) (fun h14 k => ?_) (fun h14 k => ?_)
    · refine jr_iload_n (pc := 18) F 0 dX2_passHour_18 rfl rfl ?_
      refine jr_bipush (pc := 19) F dX2_passHour_19 (by decide) ?_
      refine jr_icmp_ge (pc := 21) (tgt := 29) F r7 (show Rg 18 from ⟨by decide, by decide⟩) dX2_passHour_21 (by decide) (fun h12 => ?_) (fun h12 => ?_)
      · exact HT (Or.inl h12)
      refine jr_iload_n (pc := 24) F 0 dX2_passHour_24 rfl rfl ?_
      refine jr_iconst (pc := 25) F dX2_passHour_25 ?_
      refine jr_icmp_gt (pc := 26) (tgt := 36) F r7 (show Rg 5 from ⟨by decide, by decide⟩) dX2_passHour_26 (by decide) (fun h13 => ?_) (fun h13 => ?_)
      · exact HF (fun q => q.elim (ng_le h12) (ng_le h13))
      exact HT (Or.inr h13)
    · refine jr_aload_n (pc := 29) F 1 dX2_passHour_29 rfl rfl ?_
      have k := Ok_bind k
      refine jr_callV (pc := 30) (st := []) F [] (snd_X2_freezeAll hl (g0 := g0)  k) rfl ck_2_96 rfl (mL_0 hl) rfl rfl rfl (by decide) (Nat.le_of_ble_eq_true rfl) dX2_passHour_30 rfl (fun v g' hq => ?_)
      obtain ⟨z16, rfl, eg, k⟩ := hq
      refine J_eq eg ?_
      show J X 33 [(1, iv x5), (0, .ref (xad X (1, l, 0)))] [] (gs g0 1 l z16)
      refine jr_goto (pc := 33) (tgt := 52) F dX2_passHour_33 (by decide) ?_
      refine jr_sub F [1, 0] [(0, .ref (xad X (1, l, 0))), (1, iv x5)] rfl ?_
      exact hJ10 z16 (Ok_some k) 
    refine cnd (c := (10 ≤ x5) ∧ (x5 ≤ 15)) (GT := J X 48 [(1, iv x5), (0, .ref (xad X (1, l, 0)))] [] (gs g0 1 l L2)) (GF := J X 52 [(1, iv x5), (0, .ref (xad X (1, l, 0)))] [] (gs g0 1 l L2)) k (fun HT HF => ?_) (fun h19 k => ?_) (fun h19 k => ?_)
    · refine jr_iload_n (pc := 36) F 0 dX2_passHour_36 rfl rfl ?_
      refine jr_bipush (pc := 37) F dX2_passHour_37 (by decide) ?_
      refine jr_icmp_lt (pc := 39) (tgt := 52) F r7 (show Rg 10 from ⟨by decide, by decide⟩) dX2_passHour_39 (by decide) (fun h17 => ?_) (fun h17 => ?_)
      · exact HF (fun q => (ng_le h17) q.1)
      refine jr_iload_n (pc := 42) F 0 dX2_passHour_42 rfl rfl ?_
      refine jr_bipush (pc := 43) F dX2_passHour_43 (by decide) ?_
      refine jr_icmp_gt (pc := 45) (tgt := 52) F r7 (show Rg 15 from ⟨by decide, by decide⟩) dX2_passHour_45 (by decide) (fun h18 => ?_) (fun h18 => ?_)
      · exact HF (fun q => (ng_le h18) q.2)
      exact HT ⟨h17, h18⟩
    · refine jr_aload_n (pc := 48) F 1 dX2_passHour_48 rfl rfl ?_
      have k := Ok_bind k
      refine jr_callV (pc := 49) (st := []) F [] (snd_X2_meltAll hl (g0 := g0)  k) rfl ck_2_99 rfl (mL_0 hl) rfl rfl rfl (by decide) (Nat.le_of_ble_eq_true rfl) dX2_passHour_49 rfl (fun v g' hq => ?_)
      obtain ⟨z21, rfl, eg, k⟩ := hq
      refine J_eq eg ?_
      show J X 52 [(1, iv x5), (0, .ref (xad X (1, l, 0)))] [] (gs g0 1 l z21)
      refine jr_sub F [1, 0] [(0, .ref (xad X (1, l, 0))), (1, iv x5)] rfl ?_
      exact hJ10 z21 (Ok_some k) 
    refine jr_sub F [1, 0] [(0, .ref (xad X (1, l, 0))), (1, iv x5)] rfl ?_
    exact hJ10 L2 (Ok_some k) 
  refine jr_iconst (pc := 52) F dX2_passHour_52 ?_
  refine jr_istore_n (pc := 53) F [(2, iv 0), (0, .ref (xad X (1, l, 0))), (1, iv x5)] dX2_passHour_53 rfl (by decide) rfl ?_
  refine jr_sub F [1, 2, 0] [(0, .ref (xad X (1, l, 0))), (1, iv x5), (2, iv 0)] rfl ?_
  refine lpj (P := fun s : Int × LT => Rg (s.1) → J X 54 [(0, .ref (xad X (1, l, 0))), (1, iv x5), (2, iv s.1)] [] (gs g0 1 l s.2)) (PE := fun r : Int × LT => Rg (r.1) → J X 82 [(0, .ref (xad X (1, l, 0))), (1, iv x5), (2, iv r.1)] [] (gs g0 1 l r.2)) k (fun s22 Q23 k hC24 hE25 r27 => ?_) (fun z26 k => ?_) (fun h => h (show Rg 0 from ⟨by decide, by decide⟩))
  · refine jr_iload_n (pc := 54) F 2 dX2_passHour_54 rfl rfl ?_
    refine jr_aload_n (pc := 55) F 0 dX2_passHour_55 rfl rfl ?_
    refine jr_getI (pc := 56) F (s22.2 0 4) f_2_24 (mL_0 hl) rfl (gs_at' _ _ _ _ _ _) dX2_passHour_56 (fun r28 => ?_)
    refine jr_icmp_ge (pc := 59) (tgt := 82) F r27 r28 dX2_passHour_59 (by decide) (fun h29 => ?_) (fun h29 => ?_)
    · have k := Ok_f (ng_lt h29) k
      exact hE25 (s22.1, s22.2) (Ok_some k) r27
    have k := Ok_t h29 k
    refine jr_aload_n (pc := 62) F 0 dX2_passHour_62 rfl rfl ?_
    refine jr_getR (pc := 63) (b := (1, l, 14)) F f_2_52 (mL_0 hl) rfl dX2_passHour_63 ?_
    refine jr_iload_n (pc := 66) F 2 dX2_passHour_66 rfl rfl ?_
    obtain ⟨c30, k⟩ := Ok_grd k
    refine jr_iald (pc := 67) F (s22.2 14 s22.1) (mL_14 hl) (by decide) c30 (gs_at' _ _ _ _ _ _) dX2_passHour_67 (fun r31 => ?_)
    refine jr_if_ne (pc := 68) (tgt := 76) F r31 dX2_passHour_68 (by decide) (fun h32 => ?_) (fun h32 => ?_)
    · have k := Ok_f h32 k
      refine jr_iinc (pc := 76) F [(2, iv (w32 (s22.1 + 1))), (0, .ref (xad X (1, l, 0))), (1, iv x5)] 2 dX2_passHour_76 rfl (by decide) rfl ?_
      refine jr_goto (pc := 79) (tgt := 54) F dX2_passHour_79 (by decide) ?_
      refine jr_sub F [1, 2, 0] [(0, .ref (xad X (1, l, 0))), (1, iv x5), (2, iv (w32 (s22.1 + 1)))] rfl ?_
      exact hC24 (w32 (s22.1 + 1), s22.2) (Ok_some k) (rg_w _)
    have k := Ok_t h32 k
    refine jr_aload_n (pc := 71) F 0 dX2_passHour_71 rfl rfl ?_
    refine jr_iload_n (pc := 72) F 2 dX2_passHour_72 rfl rfl ?_
    have k := Ok_bind k
    refine jr_callV (pc := 73) (st := []) F [iv s22.1] (snd_X2_moveTrain hl (g0 := g0) r27 k) rfl ck_2_102 rfl (mL_0 hl) rfl rfl rfl (by decide) (Nat.le_of_ble_eq_true rfl) dX2_passHour_73 rfl (fun v g' hq => ?_)
    obtain ⟨z34, rfl, eg, k⟩ := hq
    refine J_eq eg ?_
    show J X 76 [(0, .ref (xad X (1, l, 0))), (1, iv x5), (2, iv s22.1)] [] (gs g0 1 l z34)
    refine jr_iinc (pc := 76) F [(2, iv (w32 (s22.1 + 1))), (0, .ref (xad X (1, l, 0))), (1, iv x5)] 2 dX2_passHour_76 rfl (by decide) rfl ?_
    refine jr_goto (pc := 79) (tgt := 54) F dX2_passHour_79 (by decide) ?_
    refine jr_sub F [1, 2, 0] [(0, .ref (xad X (1, l, 0))), (1, iv x5), (2, iv (w32 (s22.1 + 1)))] rfl ?_
    exact hC24 (w32 (s22.1 + 1), z34) (Ok_some k) (rg_w _)
  intro r35
  refine jr_aload_n (pc := 82) F 0 dX2_passHour_82 rfl rfl ?_
  have k := Ok_bind k
  refine jr_callV (pc := 83) (st := []) F [] (snd_X2_sinkTrains hl (g0 := g0)  k) rfl ck_2_106 rfl (mL_0 hl) rfl rfl rfl (by decide) (Nat.le_of_ble_eq_true rfl) dX2_passHour_83 rfl (fun v g' hq => ?_)
  obtain ⟨z37, rfl, eg, k⟩ := hq
  refine J_eq eg ?_
  show J X 86 [(0, .ref (xad X (1, l, 0))), (1, iv x5), (2, iv z26.1)] [] (gs g0 1 l z37)
  refine jr_aload_n (pc := 86) F 0 dX2_passHour_86 rfl rfl ?_
  refine jr_dup (pc := 87) F dX2_passHour_87 rfl ?_
  refine jr_getI (pc := 88) F (z37 0 1) f_2_15 (mL_0 hl) rfl (gs_at' _ _ _ _ _ _) dX2_passHour_88 (fun r38 => ?_)
  refine jr_iconst (pc := 91) F dX2_passHour_91 ?_
  refine jr_iadd (pc := 92) F dX2_passHour_92 ?_
  obtain ⟨L39, e40, k⟩ := Ok_let k
  refine jr_putI (pc := 93) F (gs g0 1 l L39) fw_2_15 (mL_0 hl) rfl (rg_w _) (put1 e40) dX2_passHour_93 ?_
  exact jr_vret (pc := 96) F hQ rfl dX2_passHour_96 ⟨_, rfl, rfl, (Ok_some k)⟩
set_option maxHeartbeats 4000000 in
set_option maxRecDepth 100000 in
theorem snd_X2_go {L0 : LT} {v_n : Int} {l : Nat} (hl : l < 11) {g0 : GG} (rgp_n : Rg v_n) {Q : (LT) → Prop} (k : Ok (X2_go L0 v_n) Q) : MetG SL yX2_go cX2_go 3 none 3 (fun ad => [.ref (ad (1, l, 0)), iv v_n]) (gs g0 1 l L0) (fun v g' => ∃ L' : LT, v = none ∧ g' = gs g0 1 l L' ∧ Q L') := by
  refine met_intro SL_ok (by decide +kernel) (fun ad => Nat.le_of_ble_eq_true rfl) (fun X F hQ hR => ?_)
  replace F : FX X cX2_go RX2 3 none SL 3 := F
  show J X 0 [(0, .ref (xad X (1, l, 0))), (1, iv v_n)] [] (gs g0 1 l L0)
  refine jr_aload_n (pc := 0) F 0 dX2_go_0 rfl rfl ?_
  have k := Ok_bind k
  refine jr_callV (pc := 1) (st := []) F [] (snd_X2_feelWeather hl (g0 := g0)  k) rfl ck_2_77 rfl (mL_0 hl) rfl rfl rfl (by decide) (Nat.le_of_ble_eq_true rfl) dX2_go_1 rfl (fun v g' hq => ?_)
  obtain ⟨z2, rfl, eg, k⟩ := hq
  refine J_eq eg ?_
  show J X 4 [(0, .ref (xad X (1, l, 0))), (1, iv v_n)] [] (gs g0 1 l z2)
  refine jr_iconst (pc := 4) F dX2_go_4 ?_
  refine jr_istore_n (pc := 5) F [(2, iv 0), (0, .ref (xad X (1, l, 0))), (1, iv v_n)] dX2_go_5 rfl (by decide) rfl ?_
  refine jr_sub F [1, 2, 0] [(0, .ref (xad X (1, l, 0))), (1, iv v_n), (2, iv 0)] rfl ?_
  refine lpj (P := fun s : Int × LT => Rg (s.1) → J X 6 [(0, .ref (xad X (1, l, 0))), (1, iv v_n), (2, iv s.1)] [] (gs g0 1 l s.2)) (PE := fun r : Int × LT => Rg (r.1) → J X 21 [(0, .ref (xad X (1, l, 0))), (1, iv v_n), (2, iv r.1)] [] (gs g0 1 l r.2)) k (fun s3 Q4 k hC5 hE6 r8 => ?_) (fun z7 k => ?_) (fun h => h (show Rg 0 from ⟨by decide, by decide⟩))
  · refine jr_iload_n (pc := 6) F 2 dX2_go_6 rfl rfl ?_
    refine jr_iload_n (pc := 7) F 1 dX2_go_7 rfl rfl ?_
    refine jr_icmp_ge (pc := 8) (tgt := 21) F r8 rgp_n dX2_go_8 (by decide) (fun h9 => ?_) (fun h9 => ?_)
    · have k := Ok_f (ng_lt h9) k
      exact hE6 (s3.1, s3.2) (Ok_some k) r8
    have k := Ok_t h9 k
    refine jr_aload_n (pc := 11) F 0 dX2_go_11 rfl rfl ?_
    have k := Ok_bind k
    refine jr_callV (pc := 12) (st := []) F [] (snd_X2_passHour hl (g0 := g0)  k) rfl ck_2_80 rfl (mL_0 hl) rfl rfl rfl (by decide) (Nat.le_of_ble_eq_true rfl) dX2_go_12 rfl (fun v g' hq => ?_)
    obtain ⟨z11, rfl, eg, k⟩ := hq
    refine J_eq eg ?_
    show J X 15 [(0, .ref (xad X (1, l, 0))), (1, iv v_n), (2, iv s3.1)] [] (gs g0 1 l z11)
    refine jr_iinc (pc := 15) F [(2, iv (w32 (s3.1 + 1))), (0, .ref (xad X (1, l, 0))), (1, iv v_n)] 2 dX2_go_15 rfl (by decide) rfl ?_
    refine jr_goto (pc := 18) (tgt := 6) F dX2_go_18 (by decide) ?_
    refine jr_sub F [1, 2, 0] [(0, .ref (xad X (1, l, 0))), (1, iv v_n), (2, iv (w32 (s3.1 + 1)))] rfl ?_
    exact hC5 (w32 (s3.1 + 1), z11) (Ok_some k) (rg_w _)
  intro r12
  exact jr_vret (pc := 21) F hQ rfl dX2_go_21 ⟨_, rfl, rfl, (Ok_some k)⟩
set_option maxHeartbeats 4000000 in
set_option maxRecDepth 100000 in
theorem snd_X2_howMany {L0 : LT} {v_state : Int} {l : Nat} (hl : l < 11) {g0 : GG} (rgp_state : Rg v_state) {Q : (Int) → Prop} (k : Ok (X2_howMany L0 v_state) Q) : MetG SL yX2_howMany cX2_howMany 4 (some .int) 0 (fun ad => [.ref (ad (1, l, 0)), iv v_state]) (gs g0 1 l L0) (fun v g' => ∃ x : Int, v = some (iv x) ∧ Rg x ∧ g' = gs g0 1 l L0 ∧ Q x) := by
  refine met_intro SL_ok (by decide +kernel) (fun ad => Nat.le_of_ble_eq_true rfl) (fun X F hQ hR => ?_)
  replace F : FX X cX2_howMany RX2 4 (some .int) SL 0 := F
  show J X 0 [(0, .ref (xad X (1, l, 0))), (1, iv v_state)] [] (gs g0 1 l L0)
  refine jr_iconst (pc := 0) F dX2_howMany_0 ?_
  refine jr_istore_n (pc := 1) F [(2, iv 0), (0, .ref (xad X (1, l, 0))), (1, iv v_state)] dX2_howMany_1 rfl (by decide) rfl ?_
  refine jr_iconst (pc := 2) F dX2_howMany_2 ?_
  refine jr_istore_n (pc := 3) F [(3, iv 0), (2, iv 0), (0, .ref (xad X (1, l, 0))), (1, iv v_state)] dX2_howMany_3 rfl (by decide) rfl ?_
  refine jr_sub F [2, 3, 1, 0] [(0, .ref (xad X (1, l, 0))), (1, iv v_state), (2, iv 0), (3, iv 0)] rfl ?_
  refine lpj (P := fun s : Int × Int => Rg (s.1) → Rg (s.2) → J X 4 [(0, .ref (xad X (1, l, 0))), (1, iv v_state), (2, iv s.1), (3, iv s.2)] [] (gs g0 1 l L0)) (PE := fun r : Int × Int => Rg (r.1) → Rg (r.2) → J X 31 [(0, .ref (xad X (1, l, 0))), (1, iv v_state), (2, iv r.1), (3, iv r.2)] [] (gs g0 1 l L0)) k (fun s1 Q2 k hC3 hE4 r6 r7 => ?_) (fun z5 k => ?_) (fun h => h (show Rg 0 from ⟨by decide, by decide⟩) (show Rg 0 from ⟨by decide, by decide⟩))
  · refine jr_iload_n (pc := 4) F 3 dX2_howMany_4 rfl rfl ?_
    refine jr_aload_n (pc := 5) F 0 dX2_howMany_5 rfl rfl ?_
    refine jr_getI (pc := 6) F (L0 0 4) f_2_24 (mL_0 hl) rfl (gs_at' _ _ _ _ _ _) dX2_howMany_6 (fun r8 => ?_)
    refine jr_icmp_ge (pc := 9) (tgt := 31) F r7 r8 dX2_howMany_9 (by decide) (fun h9 => ?_) (fun h9 => ?_)
    · have k := Ok_f (ng_lt h9) k
      exact hE4 (s1.1, s1.2) (Ok_some k) r6 r7
    have k := Ok_t h9 k
    refine jr_aload_n (pc := 12) F 0 dX2_howMany_12 rfl rfl ?_
    refine jr_getR (pc := 13) (b := (1, l, 14)) F f_2_52 (mL_0 hl) rfl dX2_howMany_13 ?_
    refine jr_iload_n (pc := 16) F 3 dX2_howMany_16 rfl rfl ?_
    obtain ⟨c10, k⟩ := Ok_grd k
    refine jr_iald (pc := 17) F (L0 14 s1.2) (mL_14 hl) (by decide) c10 (gs_at' _ _ _ _ _ _) dX2_howMany_17 (fun r11 => ?_)
    refine jr_iload_n (pc := 18) F 1 dX2_howMany_18 rfl rfl ?_
    refine jr_icmp_ne (pc := 19) (tgt := 25) F r11 rgp_state dX2_howMany_19 (by decide) (fun h12 => ?_) (fun h12 => ?_)
    · have k := Ok_f h12 k
      refine jr_iinc (pc := 25) F [(3, iv (w32 (s1.2 + 1))), (0, .ref (xad X (1, l, 0))), (1, iv v_state), (2, iv s1.1)] 3 dX2_howMany_25 rfl (by decide) rfl ?_
      refine jr_goto (pc := 28) (tgt := 4) F dX2_howMany_28 (by decide) ?_
      refine jr_sub F [1, 2, 3, 0] [(0, .ref (xad X (1, l, 0))), (1, iv v_state), (2, iv s1.1), (3, iv (w32 (s1.2 + 1)))] rfl ?_
      exact hC3 (s1.1, w32 (s1.2 + 1)) (Ok_some k) r6 (rg_w _)
    have k := Ok_t h12 k
    refine jr_iinc (pc := 22) F [(2, iv (w32 (s1.1 + 1))), (0, .ref (xad X (1, l, 0))), (1, iv v_state), (3, iv s1.2)] 2 dX2_howMany_22 rfl (by decide) rfl ?_
    refine jr_iinc (pc := 25) F [(3, iv (w32 (s1.2 + 1))), (2, iv (w32 (s1.1 + 1))), (0, .ref (xad X (1, l, 0))), (1, iv v_state)] 3 dX2_howMany_25 rfl (by decide) rfl ?_
    refine jr_goto (pc := 28) (tgt := 4) F dX2_howMany_28 (by decide) ?_
    refine jr_sub F [2, 3, 1, 0] [(0, .ref (xad X (1, l, 0))), (1, iv v_state), (2, iv (w32 (s1.1 + 1))), (3, iv (w32 (s1.2 + 1)))] rfl ?_
    exact hC3 (w32 (s1.1 + 1), w32 (s1.2 + 1)) (Ok_some k) (rg_w _) (rg_w _)
  intro r13 r14
  refine jr_iload_n (pc := 31) F 2 dX2_howMany_31 rfl rfl ?_
  exact jr_iret (pc := 32) F hQ rfl dX2_howMany_32 ⟨_, rfl, r13, rfl, (Ok_some k)⟩
set_option maxHeartbeats 4000000 in
set_option maxRecDepth 100000 in
theorem snd_X2_goWhileAnyGoes {L0 : LT} {v_n : Int} {l : Nat} (hl : l < 11) {g0 : GG} (rgp_n : Rg v_n) {Q : (LT) → Prop} (k : Ok (X2_goWhileAnyGoes L0 v_n) Q) : MetG SL yX2_goWhileAnyGoes cX2_goWhileAnyGoes 3 none 3 (fun ad => [.ref (ad (1, l, 0)), iv v_n]) (gs g0 1 l L0) (fun v g' => ∃ L' : LT, v = none ∧ g' = gs g0 1 l L' ∧ Q L') := by
  refine met_intro SL_ok (by decide +kernel) (fun ad => Nat.le_of_ble_eq_true rfl) (fun X F hQ hR => ?_)
  replace F : FX X cX2_goWhileAnyGoes RX2 3 none SL 3 := F
  show J X 0 [(0, .ref (xad X (1, l, 0))), (1, iv v_n)] [] (gs g0 1 l L0)
  refine jr_aload_n (pc := 0) F 0 dX2_goWhileAnyGoes_0 rfl rfl ?_
  have k := Ok_bind k
  refine jr_callV (pc := 1) (st := []) F [] (snd_X2_feelWeather hl (g0 := g0)  k) rfl ck_2_77 rfl (mL_0 hl) rfl rfl rfl (by decide) (Nat.le_of_ble_eq_true rfl) dX2_goWhileAnyGoes_1 rfl (fun v g' hq => ?_)
  obtain ⟨z2, rfl, eg, k⟩ := hq
  refine J_eq eg ?_
  show J X 4 [(0, .ref (xad X (1, l, 0))), (1, iv v_n)] [] (gs g0 1 l z2)
  refine jr_iconst (pc := 4) F dX2_goWhileAnyGoes_4 ?_
  refine jr_istore_n (pc := 5) F [(2, iv 0), (0, .ref (xad X (1, l, 0))), (1, iv v_n)] dX2_goWhileAnyGoes_5 rfl (by decide) rfl ?_
  refine jr_sub F [1, 2, 0] [(0, .ref (xad X (1, l, 0))), (1, iv v_n), (2, iv 0)] rfl ?_
  refine lpj (P := fun s : Int × LT => Rg (s.1) → J X 6 [(0, .ref (xad X (1, l, 0))), (1, iv v_n), (2, iv s.1)] [] (gs g0 1 l s.2)) (PE := fun r : Int × LT => Rg (r.1) → J X 29 [(0, .ref (xad X (1, l, 0))), (1, iv v_n), (2, iv r.1)] [] (gs g0 1 l r.2)) k (fun s3 Q4 k hC5 hE6 r8 => ?_) (fun z7 k => ?_) (fun h => h (show Rg 0 from ⟨by decide, by decide⟩))
  · refine jr_iload_n (pc := 6) F 2 dX2_goWhileAnyGoes_6 rfl rfl ?_
    refine jr_iload_n (pc := 7) F 1 dX2_goWhileAnyGoes_7 rfl rfl ?_
    refine jr_icmp_ge (pc := 8) (tgt := 29) F r8 rgp_n dX2_goWhileAnyGoes_8 (by decide) (fun h9 => ?_) (fun h9 => ?_)
    · have k := Ok_f (ng_lt h9) k
      exact hE6 (s3.1, s3.2) (Ok_some k) r8
    have k := Ok_t h9 k
    refine jr_aload_n (pc := 11) F 0 dX2_goWhileAnyGoes_11 rfl rfl ?_
    refine jr_iconst (pc := 12) F dX2_goWhileAnyGoes_12 ?_
    have k := Ok_bind k
    refine jr_callV (pc := 13) (st := []) F [iv 0] (snd_X2_howMany hl (g0 := g0) (show Rg 0 from ⟨by decide, by decide⟩) k) rfl ck_2_83 rfl (mL_0 hl) rfl rfl rfl (by decide) (Nat.le_of_ble_eq_true rfl) dX2_goWhileAnyGoes_13 rfl (fun v g' hq => ?_)
    obtain ⟨z11, rfl, r10, eg, k⟩ := hq
    refine J_eq eg ?_
    show J X 16 [(0, .ref (xad X (1, l, 0))), (1, iv v_n), (2, iv s3.1)] [iv z11] (gs g0 1 l s3.2)
    refine jr_if_le (pc := 16) (tgt := 29) F r10 dX2_goWhileAnyGoes_16 (by decide) (fun h12 => ?_) (fun h12 => ?_)
    · have k := Ok_f (ng_lt h12) k
      exact hE6 (s3.1, s3.2) (Ok_some k) r8
    have k := Ok_t h12 k
    refine jr_aload_n (pc := 19) F 0 dX2_goWhileAnyGoes_19 rfl rfl ?_
    have k := Ok_bind k
    refine jr_callV (pc := 20) (st := []) F [] (snd_X2_passHour hl (g0 := g0)  k) rfl ck_2_80 rfl (mL_0 hl) rfl rfl rfl (by decide) (Nat.le_of_ble_eq_true rfl) dX2_goWhileAnyGoes_20 rfl (fun v g' hq => ?_)
    obtain ⟨z14, rfl, eg, k⟩ := hq
    refine J_eq eg ?_
    show J X 23 [(0, .ref (xad X (1, l, 0))), (1, iv v_n), (2, iv s3.1)] [] (gs g0 1 l z14)
    refine jr_iinc (pc := 23) F [(2, iv (w32 (s3.1 + 1))), (0, .ref (xad X (1, l, 0))), (1, iv v_n)] 2 dX2_goWhileAnyGoes_23 rfl (by decide) rfl ?_
    refine jr_goto (pc := 26) (tgt := 6) F dX2_goWhileAnyGoes_26 (by decide) ?_
    refine jr_sub F [1, 2, 0] [(0, .ref (xad X (1, l, 0))), (1, iv v_n), (2, iv (w32 (s3.1 + 1)))] rfl ?_
    exact hC5 (w32 (s3.1 + 1), z14) (Ok_some k) (rg_w _)
  intro r15
  exact jr_vret (pc := 29) F hQ rfl dX2_goWhileAnyGoes_29 ⟨_, rfl, rfl, (Ok_some k)⟩
set_option maxHeartbeats 4000000 in
set_option maxRecDepth 100000 in
theorem snd_X2_goWhileOnItsWay {L0 : LT} {v_train : Int} {v_n : Int} {l : Nat} (hl : l < 11) {g0 : GG} (rgp_train : Rg v_train) (rgp_n : Rg v_n) {Q : (LT) → Prop} (k : Ok (X2_goWhileOnItsWay L0 v_train v_n) Q) : MetG SL yX2_goWhileOnItsWay cX2_goWhileOnItsWay 4 none 3 (fun ad => [.ref (ad (1, l, 0)), iv v_train, iv v_n]) (gs g0 1 l L0) (fun v g' => ∃ L' : LT, v = none ∧ g' = gs g0 1 l L' ∧ Q L') := by
  refine met_intro SL_ok (by decide +kernel) (fun ad => Nat.le_of_ble_eq_true rfl) (fun X F hQ hR => ?_)
  replace F : FX X cX2_goWhileOnItsWay RX2 4 none SL 3 := F
  show J X 0 [(0, .ref (xad X (1, l, 0))), (1, iv v_train), (2, iv v_n)] [] (gs g0 1 l L0)
  refine jr_aload_n (pc := 0) F 0 dX2_goWhileOnItsWay_0 rfl rfl ?_
  have k := Ok_bind k
  refine jr_callV (pc := 1) (st := []) F [] (snd_X2_feelWeather hl (g0 := g0)  k) rfl ck_2_77 rfl (mL_0 hl) rfl rfl rfl (by decide) (Nat.le_of_ble_eq_true rfl) dX2_goWhileOnItsWay_1 rfl (fun v g' hq => ?_)
  obtain ⟨z2, rfl, eg, k⟩ := hq
  refine J_eq eg ?_
  show J X 4 [(0, .ref (xad X (1, l, 0))), (1, iv v_train), (2, iv v_n)] [] (gs g0 1 l z2)
  refine jr_iconst (pc := 4) F dX2_goWhileOnItsWay_4 ?_
  refine jr_istore_n (pc := 5) F [(3, iv 0), (0, .ref (xad X (1, l, 0))), (1, iv v_train), (2, iv v_n)] dX2_goWhileOnItsWay_5 rfl (by decide) rfl ?_
  refine jr_sub F [1, 2, 3, 0] [(0, .ref (xad X (1, l, 0))), (1, iv v_train), (2, iv v_n), (3, iv 0)] rfl ?_
  refine lpj (P := fun s : Int × LT => Rg (s.1) → J X 6 [(0, .ref (xad X (1, l, 0))), (1, iv v_train), (2, iv v_n), (3, iv s.1)] [] (gs g0 1 l s.2)) (PE := fun r : Int × LT => Rg (r.1) → J X 30 [(0, .ref (xad X (1, l, 0))), (1, iv v_train), (2, iv v_n), (3, iv r.1)] [] (gs g0 1 l r.2)) k (fun s3 Q4 k hC5 hE6 r8 => ?_) (fun z7 k => ?_) (fun h => h (show Rg 0 from ⟨by decide, by decide⟩))
  · obtain ⟨c9, k⟩ := Ok_grd k
    refine cnd (c := (s3.1 < v_n) ∧ ((s3.2 14 v_train) = 0)) (GT := J X 20 [(0, .ref (xad X (1, l, 0))), (1, iv v_train), (2, iv v_n), (3, iv s3.1)] [] (gs g0 1 l s3.2)) (GF := J X 30 [(0, .ref (xad X (1, l, 0))), (1, iv v_train), (2, iv v_n), (3, iv s3.1)] [] (gs g0 1 l s3.2)) k (fun HT HF => ?_) (fun h13 k => ?_) (fun h13 k => ?_)
    · refine jr_iload_n (pc := 6) F 3 dX2_goWhileOnItsWay_6 rfl rfl ?_
      refine jr_iload_n (pc := 7) F 2 dX2_goWhileOnItsWay_7 rfl rfl ?_
      refine jr_icmp_ge (pc := 8) (tgt := 30) F r8 rgp_n dX2_goWhileOnItsWay_8 (by decide) (fun h10 => ?_) (fun h10 => ?_)
      · exact HF (fun q => (ng_lt h10) q.1)
      refine jr_aload_n (pc := 11) F 0 dX2_goWhileOnItsWay_11 rfl rfl ?_
      refine jr_getR (pc := 12) (b := (1, l, 14)) F f_2_52 (mL_0 hl) rfl dX2_goWhileOnItsWay_12 ?_
      refine jr_iload_n (pc := 15) F 1 dX2_goWhileOnItsWay_15 rfl rfl ?_
      refine jr_iald (pc := 16) F (s3.2 14 v_train) (mL_14 hl) (by decide) (c9 h10) (gs_at' _ _ _ _ _ _) dX2_goWhileOnItsWay_16 (fun r11 => ?_)
      refine jr_if_ne (pc := 17) (tgt := 30) F r11 dX2_goWhileOnItsWay_17 (by decide) (fun h12 => ?_) (fun h12 => ?_)
      · exact HF (fun q => h12 q.2)
      exact HT ⟨h10, h12⟩
    · refine jr_aload_n (pc := 20) F 0 dX2_goWhileOnItsWay_20 rfl rfl ?_
      have k := Ok_bind k
      refine jr_callV (pc := 21) (st := []) F [] (snd_X2_passHour hl (g0 := g0)  k) rfl ck_2_80 rfl (mL_0 hl) rfl rfl rfl (by decide) (Nat.le_of_ble_eq_true rfl) dX2_goWhileOnItsWay_21 rfl (fun v g' hq => ?_)
      obtain ⟨z15, rfl, eg, k⟩ := hq
      refine J_eq eg ?_
      show J X 24 [(0, .ref (xad X (1, l, 0))), (1, iv v_train), (2, iv v_n), (3, iv s3.1)] [] (gs g0 1 l z15)
      refine jr_iinc (pc := 24) F [(3, iv (w32 (s3.1 + 1))), (0, .ref (xad X (1, l, 0))), (1, iv v_train), (2, iv v_n)] 3 dX2_goWhileOnItsWay_24 rfl (by decide) rfl ?_
      refine jr_goto (pc := 27) (tgt := 6) F dX2_goWhileOnItsWay_27 (by decide) ?_
      refine jr_sub F [1, 2, 3, 0] [(0, .ref (xad X (1, l, 0))), (1, iv v_train), (2, iv v_n), (3, iv (w32 (s3.1 + 1)))] rfl ?_
      exact hC5 (w32 (s3.1 + 1), z15) (Ok_some k) (rg_w _)
    exact hE6 (s3.1, s3.2) (Ok_some k) r8
  intro r16
  exact jr_vret (pc := 30) F hQ rfl dX2_goWhileOnItsWay_30 ⟨_, rfl, rfl, (Ok_some k)⟩
set_option maxHeartbeats 4000000 in
set_option maxRecDepth 100000 in
theorem snd_X2_greatestFrost {L0 : LT} {l : Nat} (hl : l < 11) {g0 : GG}  {Q : (Int) → Prop} (k : Ok (X2_greatestFrost L0) Q) : MetG SL yX2_greatestFrost cX2_greatestFrost 3 (some .int) 1 (fun ad => [.ref (ad (1, l, 0))]) (gs g0 1 l L0) (fun v g' => ∃ x : Int, v = some (iv x) ∧ Rg x ∧ g' = gs g0 1 l L0 ∧ Q x) := by
  refine met_intro SL_ok (by decide +kernel) (fun ad => Nat.le_of_ble_eq_true rfl) (fun X F hQ hR => ?_)
  replace F : FX X cX2_greatestFrost RX2 3 (some .int) SL 1 := F
  show J X 0 [(0, .ref (xad X (1, l, 0)))] [] (gs g0 1 l L0)
  refine jr_iconst (pc := 0) F dX2_greatestFrost_0 ?_
  refine jr_istore_n (pc := 1) F [(1, iv 0), (0, .ref (xad X (1, l, 0)))] dX2_greatestFrost_1 rfl (by decide) rfl ?_
  refine jr_iconst (pc := 2) F dX2_greatestFrost_2 ?_
  refine jr_istore_n (pc := 3) F [(2, iv 0), (1, iv 0), (0, .ref (xad X (1, l, 0)))] dX2_greatestFrost_3 rfl (by decide) rfl ?_
  refine jr_sub F [2, 1, 0] [(0, .ref (xad X (1, l, 0))), (1, iv 0), (2, iv 0)] rfl ?_
  refine lpj (P := fun s : Int × Int => Rg (s.1) → Rg (s.2) → J X 4 [(0, .ref (xad X (1, l, 0))), (1, iv s.1), (2, iv s.2)] [] (gs g0 1 l L0)) (PE := fun r : Int × Int => Rg (r.1) → Rg (r.2) → J X 29 [(0, .ref (xad X (1, l, 0))), (1, iv r.1), (2, iv r.2)] [] (gs g0 1 l L0)) k (fun s1 Q2 k hC3 hE4 r6 r7 => ?_) (fun z5 k => ?_) (fun h => h (show Rg 0 from ⟨by decide, by decide⟩) (show Rg 0 from ⟨by decide, by decide⟩))
  · refine jr_iload_n (pc := 4) F 2 dX2_greatestFrost_4 rfl rfl ?_
    refine jr_aload_n (pc := 5) F 0 dX2_greatestFrost_5 rfl rfl ?_
    refine jr_getI (pc := 6) F (L0 0 0) f_2_9 (mL_0 hl) rfl (gs_at' _ _ _ _ _ _) dX2_greatestFrost_6 (fun r8 => ?_)
    refine jr_icmp_ge (pc := 9) (tgt := 29) F r7 r8 dX2_greatestFrost_9 (by decide) (fun h9 => ?_) (fun h9 => ?_)
    · have k := Ok_f (ng_lt h9) k
      exact hE4 (s1.1, s1.2) (Ok_some k) r6 r7
    have k := Ok_t h9 k
    refine jr_iload_n (pc := 12) F 1 dX2_greatestFrost_12 rfl rfl ?_
    refine jr_aload_n (pc := 13) F 0 dX2_greatestFrost_13 rfl rfl ?_
    refine jr_getR (pc := 14) (b := (1, l, 8)) F f_2_34 (mL_0 hl) rfl dX2_greatestFrost_14 ?_
    refine jr_iload_n (pc := 17) F 2 dX2_greatestFrost_17 rfl rfl ?_
    obtain ⟨c10, k⟩ := Ok_grd k
    refine jr_iald (pc := 18) F (L0 8 s1.2) (mL_8 hl) (by decide) c10 (gs_at' _ _ _ _ _ _) dX2_greatestFrost_18 (fun r11 => ?_)
    refine jr_mmax (pc := 19) F r6 r11 lb_2_115 (by decide) (Nat.le_of_ble_eq_true rfl) dX2_greatestFrost_19 ?_
    obtain ⟨x12, e13, k⟩ := Ok_let k
    have r14 : Rg x12 := rg_of e13 (rg_imax r6 r11)
    refine jr_top e13 ?_
    refine jr_istore_n (pc := 22) F [(1, iv x12), (0, .ref (xad X (1, l, 0))), (2, iv s1.2)] dX2_greatestFrost_22 rfl (by decide) rfl ?_
    refine jr_iinc (pc := 23) F [(2, iv (w32 (s1.2 + 1))), (1, iv x12), (0, .ref (xad X (1, l, 0)))] 2 dX2_greatestFrost_23 rfl (by decide) rfl ?_
    refine jr_goto (pc := 26) (tgt := 4) F dX2_greatestFrost_26 (by decide) ?_
    refine jr_sub F [2, 1, 0] [(0, .ref (xad X (1, l, 0))), (1, iv x12), (2, iv (w32 (s1.2 + 1)))] rfl ?_
    exact hC3 (x12, w32 (s1.2 + 1)) (Ok_some k) r14 (rg_w _)
  intro r15 r16
  refine jr_iload_n (pc := 29) F 1 dX2_greatestFrost_29 rfl rfl ?_
  exact jr_iret (pc := 30) F hQ rfl dX2_greatestFrost_30 ⟨_, rfl, r15, rfl, (Ok_some k)⟩
set_option maxHeartbeats 4000000 in
set_option maxRecDepth 100000 in
theorem snd_X2_isAhead {L0 : LT} {v_train : Int} {l : Nat} (hl : l < 11) {g0 : GG} (rgp_train : Rg v_train) {Q : (Int) → Prop} (k : Ok (X2_isAhead_f L0 v_train) Q) : MetG SL yX2_isAhead cX2_isAhead 2 (some .boolean) 0 (fun ad => [.ref (ad (1, l, 0)), iv v_train]) (gs g0 1 l L0) (fun v g' => ∃ x : Int, v = some (iv x) ∧ Bz x ∧ g' = gs g0 1 l L0 ∧ Q x) := by
  refine met_intro SL_ok (by decide +kernel) (fun ad => Nat.le_of_ble_eq_true rfl) (fun X F hQ hR => ?_)
  replace F : FX X cX2_isAhead RX2 2 (some .boolean) SL 0 := F
  show J X 0 [(0, .ref (xad X (1, l, 0))), (1, iv v_train)] [] (gs g0 1 l L0)
  obtain ⟨c1, k⟩ := Ok_grd k
  refine jifP (P := fun v => Bz v → J X 24 [(0, .ref (xad X (1, l, 0))), (1, iv v_train)] (iv v :: []) (gs g0 1 l L0)) (c := ((L0 14 v_train) = 0) ∧ ((L0 12 v_train) = (-1))) (1) (0) (fun Ht Hf => ?_) (fun r6 => ?_)
  · refine jr_aload_n (pc := 0) F 0 dX2_isAhead_0 rfl rfl ?_
    refine jr_getR (pc := 1) (b := (1, l, 14)) F f_2_52 (mL_0 hl) rfl dX2_isAhead_1 ?_
    refine jr_iload_n (pc := 4) F 1 dX2_isAhead_4 rfl rfl ?_
    refine jr_iald (pc := 5) F (L0 14 v_train) (mL_14 hl) (by decide) c1 (gs_at' _ _ _ _ _ _) dX2_isAhead_5 (fun r2 => ?_)
    refine jr_if_ne (pc := 6) (tgt := 23) F r2 dX2_isAhead_6 (by decide) (fun h3 => ?_) (fun h3 => ?_)
    · refine jr_iconst (pc := 23) F dX2_isAhead_23 ?_
      exact Hf (fun q => h3 q.1) (Or.inl rfl)
    refine jr_aload_n (pc := 9) F 0 dX2_isAhead_9 rfl rfl ?_
    refine jr_getR (pc := 10) (b := (1, l, 12)) F f_2_46 (mL_0 hl) rfl dX2_isAhead_10 ?_
    refine jr_iload_n (pc := 13) F 1 dX2_isAhead_13 rfl rfl ?_
    refine jr_iald (pc := 14) F (L0 12 v_train) (mL_12 hl) (by decide) c1 (gs_at' _ _ _ _ _ _) dX2_isAhead_14 (fun r4 => ?_)
    refine jr_iconst (pc := 15) F dX2_isAhead_15 ?_
    refine jr_icmp_ne (pc := 16) (tgt := 23) F r4 (show Rg (-1) from ⟨by decide, by decide⟩) dX2_isAhead_16 (by decide) (fun h5 => ?_) (fun h5 => ?_)
    · refine jr_iconst (pc := 23) F dX2_isAhead_23 ?_
      exact Hf (fun q => h5 q.2) (Or.inl rfl)
    refine jr_iconst (pc := 19) F dX2_isAhead_19 ?_
    refine jr_goto (pc := 20) (tgt := 24) F dX2_isAhead_20 (by decide) ?_
    exact Ht ⟨h3, h5⟩ (Or.inr rfl)
  exact jr_zret (pc := 24) F hQ rfl r6 dX2_isAhead_24 ⟨_, rfl, r6, rfl, (Ok_some k)⟩
set_option maxHeartbeats 4000000 in
set_option maxRecDepth 100000 in
theorem snd_X2_letWait {L0 : LT} {v_train : Int} {v_wait : Int} {l : Nat} (hl : l < 11) {g0 : GG} (rgp_train : Rg v_train) (rgp_wait : Rg v_wait) {Q : (Int × LT) → Prop} (k : Ok (X2_letWait L0 v_train v_wait) Q) : MetG SL yX2_letWait cX2_letWait 3 (some .boolean) 0 (fun ad => [.ref (ad (1, l, 0)), iv v_train, iv v_wait]) (gs g0 1 l L0) (fun v g' => ∃ (x : Int) (L' : LT), v = some (iv x) ∧ Bz x ∧ g' = gs g0 1 l L' ∧ Q (x, L')) := by
  refine met_intro SL_ok (by decide +kernel) (fun ad => Nat.le_of_ble_eq_true rfl) (fun X F hQ hR => ?_)
  replace F : FX X cX2_letWait RX2 3 (some .boolean) SL 0 := F
  show J X 0 [(0, .ref (xad X (1, l, 0))), (1, iv v_train), (2, iv v_wait)] [] (gs g0 1 l L0)
  refine cnd (c := (((v_train < 0) ∨ ((L0 0 4) ≤ v_train)) ∨ (v_wait < 0)) ∨ (48 < v_wait)) (GT := J X 22 [(0, .ref (xad X (1, l, 0))), (1, iv v_train), (2, iv v_wait)] [] (gs g0 1 l L0)) (GF := J X 24 [(0, .ref (xad X (1, l, 0))), (1, iv v_train), (2, iv v_wait)] [] (gs g0 1 l L0)) k (fun HT HF => ?_) (fun h6 k => ?_) (fun h6 k => ?_)
  · refine jr_iload_n (pc := 0) F 1 dX2_letWait_0 rfl rfl ?_
    refine jr_if_lt (pc := 1) (tgt := 22) F rgp_train dX2_letWait_1 (by decide) (fun h1 => ?_) (fun h1 => ?_)
    · exact HT (Or.inl (Or.inl (Or.inl h1)))
    refine jr_iload_n (pc := 4) F 1 dX2_letWait_4 rfl rfl ?_
    refine jr_aload_n (pc := 5) F 0 dX2_letWait_5 rfl rfl ?_
    refine jr_getI (pc := 6) F (L0 0 4) f_2_24 (mL_0 hl) rfl (gs_at' _ _ _ _ _ _) dX2_letWait_6 (fun r2 => ?_)
    refine jr_icmp_ge (pc := 9) (tgt := 22) F rgp_train r2 dX2_letWait_9 (by decide) (fun h3 => ?_) (fun h3 => ?_)
    · exact HT (Or.inl (Or.inl (Or.inr h3)))
    refine jr_iload_n (pc := 12) F 2 dX2_letWait_12 rfl rfl ?_
    refine jr_if_lt (pc := 13) (tgt := 22) F rgp_wait dX2_letWait_13 (by decide) (fun h4 => ?_) (fun h4 => ?_)
    · exact HT (Or.inl (Or.inr h4))
    refine jr_iload_n (pc := 16) F 2 dX2_letWait_16 rfl rfl ?_
    refine jr_bipush (pc := 17) F dX2_letWait_17 (by decide) ?_
    refine jr_icmp_le (pc := 19) (tgt := 24) F rgp_wait (show Rg 48 from ⟨by decide, by decide⟩) dX2_letWait_19 (by decide) (fun h5 => ?_) (fun h5 => ?_)
    · exact HF (fun q => q.elim (fun q => q.elim (fun q => q.elim (ng_lt h1) (ng_le h3)) (ng_lt h4)) (ng_lt h5))
    exact HT (Or.inr h5)
  · refine jr_iconst (pc := 22) F dX2_letWait_22 ?_
    exact jr_zret (pc := 23) F hQ rfl (Or.inl rfl) dX2_letWait_23 ⟨_, _, rfl, (Or.inl rfl), rfl, (Ok_some k)⟩
  refine jr_aload_n (pc := 24) F 0 dX2_letWait_24 rfl rfl ?_
  refine jr_getR (pc := 25) (b := (1, l, 14)) F f_2_52 (mL_0 hl) rfl dX2_letWait_25 ?_
  refine jr_iload_n (pc := 28) F 1 dX2_letWait_28 rfl rfl ?_
  obtain ⟨c7, k⟩ := Ok_grd k
  refine jr_iald (pc := 29) F (L0 14 v_train) (mL_14 hl) (by decide) c7 (gs_at' _ _ _ _ _ _) dX2_letWait_29 (fun r8 => ?_)
  refine jr_if_eq (pc := 30) (tgt := 35) F r8 dX2_letWait_30 (by decide) (fun h9 => ?_) (fun h9 => ?_)
  · have k := Ok_f (fun q => q h9) k
    refine jr_aload_n (pc := 35) F 0 dX2_letWait_35 rfl rfl ?_
    refine jr_getR (pc := 36) (b := (1, l, 13)) F f_2_49 (mL_0 hl) rfl dX2_letWait_36 ?_
    refine jr_iload_n (pc := 39) F 1 dX2_letWait_39 rfl rfl ?_
    refine jr_iload_n (pc := 40) F 2 dX2_letWait_40 rfl rfl ?_
    obtain ⟨L10, e11, k⟩ := Ok_let k
    refine jr_iast (pc := 41) F (gs g0 1 l L10) (mL_13 hl) (by decide) c7 rgp_wait (put1 e11) dX2_letWait_41 ?_
    refine jr_iconst (pc := 42) F dX2_letWait_42 ?_
    exact jr_zret (pc := 43) F hQ rfl (Or.inr rfl) dX2_letWait_43 ⟨_, _, rfl, (Or.inr rfl), rfl, (Ok_some k)⟩
  have k := Ok_t h9 k
  refine jr_iconst (pc := 33) F dX2_letWait_33 ?_
  exact jr_zret (pc := 34) F hQ rfl (Or.inl rfl) dX2_letWait_34 ⟨_, _, rfl, (Or.inl rfl), rfl, (Ok_some k)⟩
set_option maxHeartbeats 4000000 in
set_option maxRecDepth 100000 in
theorem snd_X2_nearestHalt {L0 : LT} {v_from : Int} {l : Nat} (hl : l < 11) {g0 : GG} (rgp_from : Rg v_from) {Q : (Int) → Prop} (k : Ok (X2_nearestHalt L0 v_from) Q) : MetG SL yX2_nearestHalt cX2_nearestHalt 4 (some .int) 1 (fun ad => [.ref (ad (1, l, 0)), iv v_from]) (gs g0 1 l L0) (fun v g' => ∃ x : Int, v = some (iv x) ∧ Rg x ∧ g' = gs g0 1 l L0 ∧ Q x) := by
  refine met_intro SL_ok (by decide +kernel) (fun ad => Nat.le_of_ble_eq_true rfl) (fun X F hQ hR => ?_)
  replace F : FX X cX2_nearestHalt RX2 4 (some .int) SL 1 := F
  show J X 0 [(0, .ref (xad X (1, l, 0))), (1, iv v_from)] [] (gs g0 1 l L0)
  refine jr_bipush (pc := 0) F dX2_nearestHalt_0 (by decide) ?_
  refine jr_istore_n (pc := 2) F [(2, iv (-9)), (0, .ref (xad X (1, l, 0))), (1, iv v_from)] dX2_nearestHalt_2 rfl (by decide) rfl ?_
  refine jr_iconst (pc := 3) F dX2_nearestHalt_3 ?_
  refine jr_istore_n (pc := 4) F [(3, iv 0), (2, iv (-9)), (0, .ref (xad X (1, l, 0))), (1, iv v_from)] dX2_nearestHalt_4 rfl (by decide) rfl ?_
  refine jr_sub F [2, 3, 1, 0] [(0, .ref (xad X (1, l, 0))), (1, iv v_from), (2, iv (-9)), (3, iv 0)] rfl ?_
  refine lpj (P := fun s : Int × Int => Rg (s.1) → Rg (s.2) → J X 5 [(0, .ref (xad X (1, l, 0))), (1, iv v_from), (2, iv s.1), (3, iv s.2)] [] (gs g0 1 l L0)) (PE := fun r : Int × Int => Rg (r.1) → Rg (r.2) → J X 52 [(0, .ref (xad X (1, l, 0))), (1, iv v_from), (2, iv r.1), (3, iv r.2)] [] (gs g0 1 l L0)) k (fun s1 Q2 k hC3 hE4 r6 r7 => ?_) (fun z5 k => ?_) (fun h => h (show Rg (-9) from ⟨by decide, by decide⟩) (show Rg 0 from ⟨by decide, by decide⟩))
  · refine jr_iload_n (pc := 5) F 3 dX2_nearestHalt_5 rfl rfl ?_
    refine jr_aload_n (pc := 6) F 0 dX2_nearestHalt_6 rfl rfl ?_
    refine jr_getI (pc := 7) F (L0 0 0) f_2_9 (mL_0 hl) rfl (gs_at' _ _ _ _ _ _) dX2_nearestHalt_7 (fun r8 => ?_)
    refine jr_icmp_ge (pc := 10) (tgt := 52) F r7 r8 dX2_nearestHalt_10 (by decide) (fun h9 => ?_) (fun h9 => ?_)
    · have k := Ok_f (ng_lt h9) k
      exact hE4 (s1.1, s1.2) (Ok_some k) r6 r7
    have k := Ok_t h9 k
    obtain ⟨c10, k⟩ := Ok_grd k
    refine cnd (c := ((L0 6 s1.2) = 4) ∧ ((s1.1 = (-9)) ∨ ((iabs (w32 (s1.2 - v_from))) < (iabs (w32 (s1.1 - v_from)))))) (GT := J X 44 [(0, .ref (xad X (1, l, 0))), (1, iv v_from), (2, iv s1.1), (3, iv s1.2)] [] (gs g0 1 l L0)) (GF := J X 46 [(0, .ref (xad X (1, l, 0))), (1, iv v_from), (2, iv s1.1), (3, iv s1.2)] [] (gs g0 1 l L0)) k (fun HT HF => ?_) (fun h15 k => ?_) (fun h15 k => ?_)
    · refine jr_aload_n (pc := 13) F 0 dX2_nearestHalt_13 rfl rfl ?_
      refine jr_getR (pc := 14) (b := (1, l, 6)) F f_2_27 (mL_0 hl) rfl dX2_nearestHalt_14 ?_
      refine jr_iload_n (pc := 17) F 3 dX2_nearestHalt_17 rfl rfl ?_
      refine jr_iald (pc := 18) F (L0 6 s1.2) (mL_6 hl) (by decide) c10 (gs_at' _ _ _ _ _ _) dX2_nearestHalt_18 (fun r11 => ?_)
      refine jr_iconst (pc := 19) F dX2_nearestHalt_19 ?_
      refine jr_icmp_ne (pc := 20) (tgt := 46) F r11 (show Rg 4 from ⟨by decide, by decide⟩) dX2_nearestHalt_20 (by decide) (fun h12 => ?_) (fun h12 => ?_)
      · exact HF (fun q => h12 q.1)
      refine jr_iload_n (pc := 23) F 2 dX2_nearestHalt_23 rfl rfl ?_
      refine jr_bipush (pc := 24) F dX2_nearestHalt_24 (by decide) ?_
      refine jr_icmp_eq (pc := 26) (tgt := 44) F r6 (show Rg (-9) from ⟨by decide, by decide⟩) dX2_nearestHalt_26 (by decide) (fun h13 => ?_) (fun h13 => ?_)
      · exact HT ⟨h12, (Or.inl h13)⟩
      refine jr_iload_n (pc := 29) F 3 dX2_nearestHalt_29 rfl rfl ?_
      refine jr_iload_n (pc := 30) F 1 dX2_nearestHalt_30 rfl rfl ?_
      refine jr_isub (pc := 31) F dX2_nearestHalt_31 ?_
      refine jr_mabs (pc := 32) F (rg_w _) lb_2_129 (by decide) (Nat.le_of_ble_eq_true rfl) dX2_nearestHalt_32 ?_
      refine jr_iload_n (pc := 35) F 2 dX2_nearestHalt_35 rfl rfl ?_
      refine jr_iload_n (pc := 36) F 1 dX2_nearestHalt_36 rfl rfl ?_
      refine jr_isub (pc := 37) F dX2_nearestHalt_37 ?_
      refine jr_mabs (pc := 38) F (rg_w _) lb_2_129 (by decide) (Nat.le_of_ble_eq_true rfl) dX2_nearestHalt_38 ?_
      refine jr_icmp_ge (pc := 41) (tgt := 46) F (rg_iabs (rg_w _)) (rg_iabs (rg_w _)) dX2_nearestHalt_41 (by decide) (fun h14 => ?_) (fun h14 => ?_)
      · exact HF (fun q => (fun q => q.elim h13 (ng_lt h14)) q.2)
      exact HT ⟨h12, (Or.inr h14)⟩
    · refine jr_iload_n (pc := 44) F 3 dX2_nearestHalt_44 rfl rfl ?_
      refine jr_istore_n (pc := 45) F [(2, iv s1.2), (0, .ref (xad X (1, l, 0))), (1, iv v_from), (3, iv s1.2)] dX2_nearestHalt_45 rfl (by decide) rfl ?_
      refine jr_iinc (pc := 46) F [(3, iv (w32 (s1.2 + 1))), (2, iv s1.2), (0, .ref (xad X (1, l, 0))), (1, iv v_from)] 3 dX2_nearestHalt_46 rfl (by decide) rfl ?_
      refine jr_goto (pc := 49) (tgt := 5) F dX2_nearestHalt_49 (by decide) ?_
      refine jr_sub F [2, 3, 1, 0] [(0, .ref (xad X (1, l, 0))), (1, iv v_from), (2, iv s1.2), (3, iv (w32 (s1.2 + 1)))] rfl ?_
      exact hC3 (s1.2, w32 (s1.2 + 1)) (Ok_some k) r7 (rg_w _)
    refine jr_iinc (pc := 46) F [(3, iv (w32 (s1.2 + 1))), (0, .ref (xad X (1, l, 0))), (1, iv v_from), (2, iv s1.1)] 3 dX2_nearestHalt_46 rfl (by decide) rfl ?_
    refine jr_goto (pc := 49) (tgt := 5) F dX2_nearestHalt_49 (by decide) ?_
    refine jr_sub F [1, 2, 3, 0] [(0, .ref (xad X (1, l, 0))), (1, iv v_from), (2, iv s1.1), (3, iv (w32 (s1.2 + 1)))] rfl ?_
    exact hC3 (s1.1, w32 (s1.2 + 1)) (Ok_some k) r6 (rg_w _)
  intro r16 r17
  refine jr_iload_n (pc := 52) F 2 dX2_nearestHalt_52 rfl rfl ?_
  exact jr_iret (pc := 53) F hQ rfl dX2_nearestHalt_53 ⟨_, rfl, r16, rfl, (Ok_some k)⟩
set_option maxHeartbeats 4000000 in
set_option maxRecDepth 100000 in
theorem snd_X2_noneBears {L0 : LT} {v_load : Int} {l : Nat} (hl : l < 11) {g0 : GG} (rgp_load : Rg v_load) {Q : (Int) → Prop} (k : Ok (X2_noneBears L0 v_load) Q) : MetG SL yX2_noneBears cX2_noneBears 3 (some .boolean) 2 (fun ad => [.ref (ad (1, l, 0)), iv v_load]) (gs g0 1 l L0) (fun v g' => ∃ x : Int, v = some (iv x) ∧ Bz x ∧ g' = gs g0 1 l L0 ∧ Q x) := by
  refine met_intro SL_ok (by decide +kernel) (fun ad => Nat.le_of_ble_eq_true rfl) (fun X F hQ hR => ?_)
  replace F : FX X cX2_noneBears RX2 3 (some .boolean) SL 2 := F
  show J X 0 [(0, .ref (xad X (1, l, 0))), (1, iv v_load)] [] (gs g0 1 l L0)
  refine jr_iconst (pc := 0) F dX2_noneBears_0 ?_
  refine jr_istore_n (pc := 1) F [(2, iv 0), (0, .ref (xad X (1, l, 0))), (1, iv v_load)] dX2_noneBears_1 rfl (by decide) rfl ?_
  refine jr_sub F [1, 2, 0] [(0, .ref (xad X (1, l, 0))), (1, iv v_load), (2, iv 0)] rfl ?_
  refine lpj (P := fun s : Int => Rg (s) → J X 2 [(0, .ref (xad X (1, l, 0))), (1, iv v_load), (2, iv s)] [] (gs g0 1 l L0)) (PE := fun o : ((Int) ⊕ (Int)) => match o with | .inl r => Rg (r) → J X 27 [(0, .ref (xad X (1, l, 0))), (1, iv v_load), (2, iv r)] [] (gs g0 1 l L0) | .inr y => Q (y)) k (fun s1 Q2 k hC3 hE4 r6 => ?_) (fun o k => ?_) (fun h => h (show Rg 0 from ⟨by decide, by decide⟩))
  · refine jr_iload_n (pc := 2) F 2 dX2_noneBears_2 rfl rfl ?_
    refine jr_aload_n (pc := 3) F 0 dX2_noneBears_3 rfl rfl ?_
    refine jr_getI (pc := 4) F (L0 0 0) f_2_9 (mL_0 hl) rfl (gs_at' _ _ _ _ _ _) dX2_noneBears_4 (fun r7 => ?_)
    refine jr_icmp_ge (pc := 7) (tgt := 27) F r6 r7 dX2_noneBears_7 (by decide) (fun h8 => ?_) (fun h8 => ?_)
    · have k := Ok_f (ng_lt h8) k
      exact hE4 (Sum.inl s1) (Ok_some k) r6
    have k := Ok_t h8 k
    refine jr_aload_n (pc := 10) F 0 dX2_noneBears_10 rfl rfl ?_
    refine jr_iload_n (pc := 11) F 2 dX2_noneBears_11 rfl rfl ?_
    refine jr_iload_n (pc := 12) F 1 dX2_noneBears_12 rfl rfl ?_
    obtain ⟨c10, k⟩ := Ok_grd k
    refine jr_callV (pc := 13) (st := []) F [iv s1, iv v_load] (snd_X2_bears hl (g0 := g0) r6 rgp_load (X2_bears_ok _ _ _ c10)) rfl ck_2_125 rfl (mL_0 hl) rfl rfl rfl (by decide) (Nat.le_of_ble_eq_true rfl) dX2_noneBears_13 rfl (fun v g' hq => ?_)
    obtain ⟨x, rfl, r9, eg, hx⟩ := hq
    subst hx
    refine J_eq eg ?_
    show J X 16 [(0, .ref (xad X (1, l, 0))), (1, iv v_load), (2, iv s1)] [iv (X2_bears_v L0 s1 v_load)] (gs g0 1 l L0)
    refine jr_if_eq (pc := 16) (tgt := 21) F (rg_z r9) dX2_noneBears_16 (by decide) (fun h11 => ?_) (fun h11 => ?_)
    · have k := Ok_f (fun q => q h11) k
      refine jr_iinc (pc := 21) F [(2, iv (w32 (s1 + 1))), (0, .ref (xad X (1, l, 0))), (1, iv v_load)] 2 dX2_noneBears_21 rfl (by decide) rfl ?_
      refine jr_goto (pc := 24) (tgt := 2) F dX2_noneBears_24 (by decide) ?_
      refine jr_sub F [1, 2, 0] [(0, .ref (xad X (1, l, 0))), (1, iv v_load), (2, iv (w32 (s1 + 1)))] rfl ?_
      exact hC3 (w32 (s1 + 1)) (Ok_some k) (rg_w _)
    have k := Ok_t h11 k
    refine jr_iconst (pc := 19) F dX2_noneBears_19 ?_
    exact jr_zret (pc := 20) F hQ rfl (Or.inl rfl) dX2_noneBears_20 ⟨_, rfl, (Or.inl rfl), rfl, (hE4 (Sum.inr _) (Ok_some k))⟩
  rcases o with z5 | y
  rotate_left
  · show Q (y)
    exact Ok_some k
  intro r12
  refine jr_iconst (pc := 27) F dX2_noneBears_27 ?_
  exact jr_zret (pc := 28) F hQ rfl (Or.inr rfl) dX2_noneBears_28 ⟨_, rfl, (Or.inr rfl), rfl, (Ok_some k)⟩
set_option maxHeartbeats 4000000 in
set_option maxRecDepth 100000 in
theorem snd_X2_pour {L0 : LT} {v_yard : Int} {l : Nat} (hl : l < 11) {g0 : GG} (rgp_yard : Rg v_yard) {Q : (LT) → Prop} (k : Ok (X2_pour L0 v_yard) Q) : MetG SL yX2_pour cX2_pour 2 none 1 (fun ad => [.ref (ad (1, l, 0)), iv v_yard]) (gs g0 1 l L0) (fun v g' => ∃ L' : LT, v = none ∧ g' = gs g0 1 l L' ∧ Q L') := by
  refine met_intro SL_ok (by decide +kernel) (fun ad => Nat.le_of_ble_eq_true rfl) (fun X F hQ hR => ?_)
  replace F : FX X cX2_pour RX2 2 none SL 1 := F
  show J X 0 [(0, .ref (xad X (1, l, 0))), (1, iv v_yard)] [] (gs g0 1 l L0)
  refine jr_aload_n (pc := 0) F 0 dX2_pour_0 rfl rfl ?_
  refine jr_getR (pc := 1) (b := (1, l, 8)) F f_2_34 (mL_0 hl) rfl dX2_pour_1 ?_
  refine jr_iload_n (pc := 4) F 1 dX2_pour_4 rfl rfl ?_
  refine jr_bipush (pc := 5) F dX2_pour_5 (by decide) ?_
  refine jr_aload_n (pc := 7) F 0 dX2_pour_7 rfl rfl ?_
  refine jr_getR (pc := 8) (b := (1, l, 8)) F f_2_34 (mL_0 hl) rfl dX2_pour_8 ?_
  refine jr_iload_n (pc := 11) F 1 dX2_pour_11 rfl rfl ?_
  obtain ⟨c1, k⟩ := Ok_grd k
  refine jr_iald (pc := 12) F (L0 8 v_yard) (mL_8 hl) (by decide) c1 (gs_at' _ _ _ _ _ _) dX2_pour_12 (fun r2 => ?_)
  refine jr_bipush (pc := 13) F dX2_pour_13 (by decide) ?_
  refine jr_iadd (pc := 15) F dX2_pour_15 ?_
  refine jr_mmin (pc := 16) F (show Rg 99 from ⟨by decide, by decide⟩) (rg_w _) lb_2_109 (by decide) (Nat.le_of_ble_eq_true rfl) dX2_pour_16 ?_
  obtain ⟨L3, e4, k⟩ := Ok_let k
  refine jr_iast (pc := 19) F (gs g0 1 l L3) (mL_8 hl) (by decide) c1 (rg_imin (show Rg 99 from ⟨by decide, by decide⟩) (rg_w _)) (put1 e4) dX2_pour_19 ?_
  exact jr_vret (pc := 20) F hQ rfl dX2_pour_20 ⟨_, rfl, rfl, (Ok_some k)⟩
set_option maxHeartbeats 4000000 in
set_option maxRecDepth 100000 in
theorem snd_X2_weakest {L0 : LT} {l : Nat} (hl : l < 11) {g0 : GG}  {Q : (Int) → Prop} (k : Ok (X2_weakest L0) Q) : MetG SL yX2_weakest cX2_weakest 3 (some .int) 0 (fun ad => [.ref (ad (1, l, 0))]) (gs g0 1 l L0) (fun v g' => ∃ x : Int, v = some (iv x) ∧ Rg x ∧ g' = gs g0 1 l L0 ∧ Q x) := by
  refine met_intro SL_ok (by decide +kernel) (fun ad => Nat.le_of_ble_eq_true rfl) (fun X F hQ hR => ?_)
  replace F : FX X cX2_weakest RX2 3 (some .int) SL 0 := F
  show J X 0 [(0, .ref (xad X (1, l, 0)))] [] (gs g0 1 l L0)
  refine jr_iconst (pc := 0) F dX2_weakest_0 ?_
  refine jr_istore_n (pc := 1) F [(1, iv 0), (0, .ref (xad X (1, l, 0)))] dX2_weakest_1 rfl (by decide) rfl ?_
  refine jr_iconst (pc := 2) F dX2_weakest_2 ?_
  refine jr_istore_n (pc := 3) F [(2, iv 1), (1, iv 0), (0, .ref (xad X (1, l, 0)))] dX2_weakest_3 rfl (by decide) rfl ?_
  refine jr_sub F [2, 1, 0] [(0, .ref (xad X (1, l, 0))), (1, iv 0), (2, iv 1)] rfl ?_
  refine lpj (P := fun s : Int × Int => Rg (s.1) → Rg (s.2) → J X 4 [(0, .ref (xad X (1, l, 0))), (1, iv s.1), (2, iv s.2)] [] (gs g0 1 l L0)) (PE := fun r : Int × Int => Rg (r.1) → Rg (r.2) → J X 35 [(0, .ref (xad X (1, l, 0))), (1, iv r.1), (2, iv r.2)] [] (gs g0 1 l L0)) k (fun s1 Q2 k hC3 hE4 r6 r7 => ?_) (fun z5 k => ?_) (fun h => h (show Rg 0 from ⟨by decide, by decide⟩) (show Rg 1 from ⟨by decide, by decide⟩))
  · refine jr_iload_n (pc := 4) F 2 dX2_weakest_4 rfl rfl ?_
    refine jr_aload_n (pc := 5) F 0 dX2_weakest_5 rfl rfl ?_
    refine jr_getI (pc := 6) F (L0 0 0) f_2_9 (mL_0 hl) rfl (gs_at' _ _ _ _ _ _) dX2_weakest_6 (fun r8 => ?_)
    refine jr_icmp_ge (pc := 9) (tgt := 35) F r7 r8 dX2_weakest_9 (by decide) (fun h9 => ?_) (fun h9 => ?_)
    · have k := Ok_f (ng_lt h9) k
      exact hE4 (s1.1, s1.2) (Ok_some k) r6 r7
    have k := Ok_t h9 k
    refine jr_aload_n (pc := 12) F 0 dX2_weakest_12 rfl rfl ?_
    refine jr_getR (pc := 13) (b := (1, l, 8)) F f_2_34 (mL_0 hl) rfl dX2_weakest_13 ?_
    refine jr_iload_n (pc := 16) F 2 dX2_weakest_16 rfl rfl ?_
    obtain ⟨c10, k⟩ := Ok_grd k
    refine jr_iald (pc := 17) F (L0 8 s1.2) (mL_8 hl) (by decide) c10 (gs_at' _ _ _ _ _ _) dX2_weakest_17 (fun r11 => ?_)
    refine jr_aload_n (pc := 18) F 0 dX2_weakest_18 rfl rfl ?_
    refine jr_getR (pc := 19) (b := (1, l, 8)) F f_2_34 (mL_0 hl) rfl dX2_weakest_19 ?_
    refine jr_iload_n (pc := 22) F 1 dX2_weakest_22 rfl rfl ?_
    obtain ⟨c12, k⟩ := Ok_grd k
    refine jr_iald (pc := 23) F (L0 8 s1.1) (mL_8 hl) (by decide) c12 (gs_at' _ _ _ _ _ _) dX2_weakest_23 (fun r13 => ?_)
    refine jr_icmp_ge (pc := 24) (tgt := 29) F r11 r13 dX2_weakest_24 (by decide) (fun h14 => ?_) (fun h14 => ?_)
    · have k := Ok_f (ng_lt h14) k
      refine jr_iinc (pc := 29) F [(2, iv (w32 (s1.2 + 1))), (0, .ref (xad X (1, l, 0))), (1, iv s1.1)] 2 dX2_weakest_29 rfl (by decide) rfl ?_
      refine jr_goto (pc := 32) (tgt := 4) F dX2_weakest_32 (by decide) ?_
      refine jr_sub F [1, 2, 0] [(0, .ref (xad X (1, l, 0))), (1, iv s1.1), (2, iv (w32 (s1.2 + 1)))] rfl ?_
      exact hC3 (s1.1, w32 (s1.2 + 1)) (Ok_some k) r6 (rg_w _)
    have k := Ok_t h14 k
    refine jr_iload_n (pc := 27) F 2 dX2_weakest_27 rfl rfl ?_
    refine jr_istore_n (pc := 28) F [(1, iv s1.2), (0, .ref (xad X (1, l, 0))), (2, iv s1.2)] dX2_weakest_28 rfl (by decide) rfl ?_
    refine jr_iinc (pc := 29) F [(2, iv (w32 (s1.2 + 1))), (1, iv s1.2), (0, .ref (xad X (1, l, 0)))] 2 dX2_weakest_29 rfl (by decide) rfl ?_
    refine jr_goto (pc := 32) (tgt := 4) F dX2_weakest_32 (by decide) ?_
    refine jr_sub F [2, 1, 0] [(0, .ref (xad X (1, l, 0))), (1, iv s1.2), (2, iv (w32 (s1.2 + 1)))] rfl ?_
    exact hC3 (s1.2, w32 (s1.2 + 1)) (Ok_some k) r7 (rg_w _)
  intro r15 r16
  refine jr_iload_n (pc := 35) F 1 dX2_weakest_35 rfl rfl ?_
  exact jr_iret (pc := 36) F hQ rfl dX2_weakest_36 ⟨_, rfl, r15, rfl, (Ok_some k)⟩
set_option maxHeartbeats 4000000 in
set_option maxRecDepth 100000 in
theorem snd_X3_dropOldest {C0 : GG} {M : LT}  {Q : (GG) → Prop} (k : Ok (X3_dropOldest C0) Q) : MetG SL yX3_dropOldest cX3_dropOldest 3 none 0 (fun ad => [.ref (ad (3, 0, 0))]) (gs C0 4 0 M) (fun v g' => ∃ L' : GG, v = none ∧ g' = gs L' 4 0 M ∧ Q L') := by
  refine met_intro SL_ok (by decide +kernel) (fun ad => Nat.le_of_ble_eq_true rfl) (fun X F hQ hR => ?_)
  replace F : FX X cX3_dropOldest RX3 3 none SL 0 := F
  show J X 0 [(0, .ref (xad X (3, 0, 0)))] [] (gs C0 4 0 M)
  refine jr_aload_n (pc := 0) F 0 dX3_dropOldest_0 rfl rfl ?_
  refine jr_getR (pc := 1) (b := (3, 0, 1)) F f_3_11 m3_0 rfl dX3_dropOldest_1 ?_
  refine jr_iconst (pc := 4) F dX3_dropOldest_4 ?_
  obtain ⟨c1, k⟩ := Ok_grd k
  obtain ⟨c2, k⟩ := Ok_grd k
  refine jr_aald (pc := 5) (b := (1, (C0 3 0 1 0).toNat, 0)) F m3_1 (by decide) c1 (drL c2) dX3_dropOldest_5 ?_
  refine jr_astore_n (pc := 6) F [(1, .ref (xad X (1, (C0 3 0 1 0).toNat, 0))), (0, .ref (xad X (3, 0, 0)))] dX3_dropOldest_6 rfl (by decide) rfl ?_
  refine jr_iconst (pc := 7) F dX3_dropOldest_7 ?_
  refine jr_istore_n (pc := 8) F [(2, iv 1), (1, .ref (xad X (1, (C0 3 0 1 0).toNat, 0))), (0, .ref (xad X (3, 0, 0)))] dX3_dropOldest_8 rfl (by decide) rfl ?_
  refine jr_sub F [2, 1, 0] [(0, .ref (xad X (3, 0, 0))), (1, .ref (xad X (1, (C0 3 0 1 0).toNat, 0))), (2, iv 1)] rfl ?_
  refine lpj (P := fun s : Int × GG => Rg (s.1) → J X 9 [(0, .ref (xad X (3, 0, 0))), (1, .ref (xad X (1, (C0 3 0 1 0).toNat, 0))), (2, iv s.1)] [] (gs s.2 4 0 M)) (PE := fun r : Int × GG => Rg (r.1) → J X 35 [(0, .ref (xad X (3, 0, 0))), (1, .ref (xad X (1, (C0 3 0 1 0).toNat, 0))), (2, iv r.1)] [] (gs r.2 4 0 M)) k (fun s3 Q4 k hC5 hE6 r8 => ?_) (fun z7 k => ?_) (fun h => h (show Rg 1 from ⟨by decide, by decide⟩))
  · refine jr_iload_n (pc := 9) F 2 dX3_dropOldest_9 rfl rfl ?_
    refine jr_bipush (pc := 10) F dX3_dropOldest_10 (by decide) ?_
    refine jr_icmp_ge (pc := 12) (tgt := 35) F r8 (show Rg 8 from ⟨by decide, by decide⟩) dX3_dropOldest_12 (by decide) (fun h9 => ?_) (fun h9 => ?_)
    · have k := Ok_f (ng_lt h9) k
      exact hE6 (s3.1, s3.2) (Ok_some k) r8
    have k := Ok_t h9 k
    refine jr_aload_n (pc := 15) F 0 dX3_dropOldest_15 rfl rfl ?_
    refine jr_getR (pc := 16) (b := (3, 0, 1)) F f_3_11 m3_0 rfl dX3_dropOldest_16 ?_
    refine jr_iload_n (pc := 19) F 2 dX3_dropOldest_19 rfl rfl ?_
    refine jr_iconst (pc := 20) F dX3_dropOldest_20 ?_
    refine jr_isub (pc := 21) F dX3_dropOldest_21 ?_
    refine jr_aload_n (pc := 22) F 0 dX3_dropOldest_22 rfl rfl ?_
    refine jr_getR (pc := 23) (b := (3, 0, 1)) F f_3_11 m3_0 rfl dX3_dropOldest_23 ?_
    refine jr_iload_n (pc := 26) F 2 dX3_dropOldest_26 rfl rfl ?_
    obtain ⟨c10, k⟩ := Ok_grd k
    obtain ⟨c11, k⟩ := Ok_grd k
    refine jr_aald (pc := 27) (b := (1, (s3.2 3 0 1 s3.1).toNat, 0)) F m3_1 (by decide) c10 (drL c11) dX3_dropOldest_27 ?_
    obtain ⟨c12, k⟩ := Ok_grd k
    obtain ⟨C13, e14, k⟩ := Ok_let k
    refine jr_aast (pc := 28) (x := s3.2 3 0 1 s3.1) F (gs C13 4 0 M) m3_1 (mL_0 (tn11 c11)) (by decide) c12 (rgL11 c11) (drL c11) (put2 e14 (by decide)) dX3_dropOldest_28 ?_
    refine jr_iinc (pc := 29) F [(2, iv (w32 (s3.1 + 1))), (0, .ref (xad X (3, 0, 0))), (1, .ref (xad X (1, (C0 3 0 1 0).toNat, 0)))] 2 dX3_dropOldest_29 rfl (by decide) rfl ?_
    refine jr_goto (pc := 32) (tgt := 9) F dX3_dropOldest_32 (by decide) ?_
    refine jr_sub F [1, 2, 0] [(0, .ref (xad X (3, 0, 0))), (1, .ref (xad X (1, (C0 3 0 1 0).toNat, 0))), (2, iv (w32 (s3.1 + 1)))] rfl ?_
    exact hC5 (w32 (s3.1 + 1), C13) (Ok_some k) (rg_w _)
  intro r15
  refine jr_aload_n (pc := 35) F 0 dX3_dropOldest_35 rfl rfl ?_
  refine jr_getR (pc := 36) (b := (3, 0, 1)) F f_3_11 m3_0 rfl dX3_dropOldest_36 ?_
  refine jr_bipush (pc := 39) F dX3_dropOldest_39 (by decide) ?_
  refine jr_aload_n (pc := 41) F 1 dX3_dropOldest_41 rfl rfl ?_
  obtain ⟨c16, k⟩ := Ok_grd k
  obtain ⟨C17, e18, k⟩ := Ok_let k
  refine jr_aast (pc := 42) (x := C0 3 0 1 0) F (gs C17 4 0 M) m3_1 (mL_0 (tn11 c2)) (by decide) c16 (rgL11 c2) (drL c2) (put2 e18 (by decide)) dX3_dropOldest_42 ?_
  refine jr_aload_n (pc := 43) F 0 dX3_dropOldest_43 rfl rfl ?_
  refine jr_dup (pc := 44) F dX3_dropOldest_44 rfl ?_
  refine jr_getI (pc := 45) F (C17 3 0 0 1) f_3_17 m3_0 rfl rfl dX3_dropOldest_45 (fun r19 => ?_)
  refine jr_iconst (pc := 48) F dX3_dropOldest_48 ?_
  refine jr_isub (pc := 49) F dX3_dropOldest_49 ?_
  obtain ⟨C20, e21, k⟩ := Ok_let k
  refine jr_putI (pc := 50) F (gs C20 4 0 M) fw_3_17 m3_0 rfl (rg_w _) (put2 e21 (by decide)) dX3_dropOldest_50 ?_
  exact jr_vret (pc := 53) F hQ rfl dX3_dropOldest_53 ⟨_, rfl, rfl, (Ok_some k)⟩
set_option maxHeartbeats 4000000 in
set_option maxRecDepth 100000 in
theorem snd_X3_forget {C0 : GG} {M : LT}  {Q : (GG) → Prop} (k : Ok (X3_forget C0) Q) : MetG SL yX3_forget cX3_forget 1 none 0 (fun ad => [.ref (ad (3, 0, 0))]) (gs C0 4 0 M) (fun v g' => ∃ L' : GG, v = none ∧ g' = gs L' 4 0 M ∧ Q L') := by
  refine met_intro SL_ok (by decide +kernel) (fun ad => Nat.le_of_ble_eq_true rfl) (fun X F hQ hR => ?_)
  replace F : FX X cX3_forget RX3 1 none SL 0 := F
  show J X 0 [(0, .ref (xad X (3, 0, 0)))] [] (gs C0 4 0 M)
  refine jr_aload_n (pc := 0) F 0 dX3_forget_0 rfl rfl ?_
  refine jr_iconst (pc := 1) F dX3_forget_1 ?_
  obtain ⟨C1, e2, k⟩ := Ok_let k
  refine jr_putI (pc := 2) F (gs C1 4 0 M) fw_3_17 m3_0 rfl (show Rg 0 from ⟨by decide, by decide⟩) (put2 e2 (by decide)) dX3_forget_2 ?_
  exact jr_vret (pc := 5) F hQ rfl dX3_forget_5 ⟨_, rfl, rfl, (Ok_some k)⟩
set_option maxHeartbeats 4000000 in
set_option maxRecDepth 100000 in
theorem snd_X3_keep {C0 : GG} {v_line : Nat} {M : LT} (hl_v_line : v_line < 11)  {Q : (GG) → Prop} (k : Ok (X3_keep C0 v_line) Q) : MetG SL yX3_keep cX3_keep 2 none 2 (fun ad => [.ref (ad (3, 0, 0)), .ref (ad (1, v_line, 0))]) (gs C0 4 0 M) (fun v g' => ∃ L' : GG, v = none ∧ g' = gs L' 4 0 M ∧ Q L') := by
  refine met_intro SL_ok (by decide +kernel) (fun ad => Nat.le_of_ble_eq_true rfl) (fun X F hQ hR => ?_)
  replace F : FX X cX3_keep RX3 2 none SL 2 := F
  show J X 0 [(0, .ref (xad X (3, 0, 0))), (1, .ref (xad X (1, v_line, 0)))] [] (gs C0 4 0 M)
  refine jn (P := fun v : GG => J X 13 [(0, .ref (xad X (3, 0, 0))), (1, .ref (xad X (1, v_line, 0)))] [] (gs v 4 0 M)) k (fun Q2 k hJ3 => ?_) (fun z1 k  => ?_)
  · refine jr_aload_n (pc := 0) F 0 dX3_keep_0 rfl rfl ?_
    refine jr_getI (pc := 1) F (C0 3 0 0 1) f_3_17 m3_0 rfl rfl dX3_keep_1 (fun r5 => ?_)
    refine jr_bipush (pc := 4) F dX3_keep_4 (by decide) ?_
    refine jr_icmp_ne (pc := 6) (tgt := 13) F r5 (show Rg 8 from ⟨by decide, by decide⟩) dX3_keep_6 (by decide) (fun h6 => ?_) (fun h6 => ?_)
    · have k := Ok_f h6 k
      exact hJ3 C0 (Ok_some k) 
    have k := Ok_t h6 k
    refine jr_aload_n (pc := 9) F 0 dX3_keep_9 rfl rfl ?_
    have k := Ok_bind k
    refine jr_callV (pc := 10) (st := []) F [] (snd_X3_dropOldest (M := M)  k) rfl ck_3_22 rfl m3_0 rfl rfl rfl (by decide) (Nat.le_of_ble_eq_true rfl) dX3_keep_10 rfl (fun v g' hq => ?_)
    obtain ⟨z8, rfl, eg, k⟩ := hq
    refine J_eq eg ?_
    show J X 13 [(0, .ref (xad X (3, 0, 0))), (1, .ref (xad X (1, v_line, 0)))] [] (gs z8 4 0 M)
    exact hJ3 z8 (Ok_some k) 
  refine jr_aload_n (pc := 13) F 0 dX3_keep_13 rfl rfl ?_
  refine jr_getR (pc := 14) (b := (3, 0, 1)) F f_3_11 m3_0 rfl dX3_keep_14 ?_
  refine jr_aload_n (pc := 17) F 0 dX3_keep_17 rfl rfl ?_
  refine jr_getI (pc := 18) F (z1 3 0 0 1) f_3_17 m3_0 rfl rfl dX3_keep_18 (fun r9 => ?_)
  obtain ⟨c10, k⟩ := Ok_grd k
  obtain ⟨c11, k⟩ := Ok_grd k
  refine jr_aald (pc := 21) (b := (1, (z1 3 0 1 (z1 3 0 0 1)).toNat, 0)) F m3_1 (by decide) c10 (drL c11) dX3_keep_21 ?_
  refine jr_aload_n (pc := 22) F 1 dX3_keep_22 rfl rfl ?_
  obtain ⟨c12, k⟩ := Ok_grd k
  have k := Ok_bind k
  refine jr_callV (pc := 23) (st := []) F [.ref (xad X (1, v_line, 0))] (snd_X2_become (tn11 c11) (g0 := gs z1 4 0 M) hl_v_line c12 rfl  k) (gs_in z1 M 1 ((z1 3 0 1 (z1 3 0 0 1)).toNat) (by decide)) ck_3_25 rfl (mL_0 (tn11 c11)) rfl rfl rfl (by decide) (Nat.le_of_ble_eq_true rfl) dX3_keep_23 rfl (fun v g' hq => ?_)
  obtain ⟨z14, rfl, eg, k⟩ := hq
  rw [gs_comm (by decide)] at eg
  obtain ⟨C15, e16, k⟩ := Ok_let k
  rw [← e16] at eg
  refine J_eq eg ?_
  show J X 26 [(0, .ref (xad X (3, 0, 0))), (1, .ref (xad X (1, v_line, 0)))] [] (gs C15 4 0 M)
  refine jr_aload_n (pc := 26) F 0 dX3_keep_26 rfl rfl ?_
  refine jr_dup (pc := 27) F dX3_keep_27 rfl ?_
  refine jr_getI (pc := 28) F (C15 3 0 0 1) f_3_17 m3_0 rfl rfl dX3_keep_28 (fun r17 => ?_)
  refine jr_iconst (pc := 31) F dX3_keep_31 ?_
  refine jr_iadd (pc := 32) F dX3_keep_32 ?_
  obtain ⟨C18, e19, k⟩ := Ok_let k
  refine jr_putI (pc := 33) F (gs C18 4 0 M) fw_3_17 m3_0 rfl (rg_w _) (put2 e19 (by decide)) dX3_keep_33 ?_
  exact jr_vret (pc := 36) F hQ rfl dX3_keep_36 ⟨_, rfl, rfl, (Ok_some k)⟩
set_option maxHeartbeats 4000000 in
set_option maxRecDepth 100000 in
theorem snd_X3_takeBack {C0 : GG} {v_line : Nat} {M : LT} (hl_v_line : v_line < 11)  {Q : (GG) → Prop} (k : Ok (X3_takeBack C0 v_line) Q) : MetG SL yX3_takeBack cX3_takeBack 2 none 2 (fun ad => [.ref (ad (3, 0, 0)), .ref (ad (1, v_line, 0))]) (gs C0 4 0 M) (fun v g' => ∃ L' : GG, v = none ∧ g' = gs L' 4 0 M ∧ Q L') := by
  refine met_intro SL_ok (by decide +kernel) (fun ad => Nat.le_of_ble_eq_true rfl) (fun X F hQ hR => ?_)
  replace F : FX X cX3_takeBack RX3 2 none SL 2 := F
  show J X 0 [(0, .ref (xad X (3, 0, 0))), (1, .ref (xad X (1, v_line, 0)))] [] (gs C0 4 0 M)
  refine jr_aload_n (pc := 0) F 0 dX3_takeBack_0 rfl rfl ?_
  refine jr_getI (pc := 1) F (C0 3 0 0 1) f_3_17 m3_0 rfl rfl dX3_takeBack_1 (fun r1 => ?_)
  refine jr_if_le (pc := 4) (tgt := 30) F r1 dX3_takeBack_4 (by decide) (fun h2 => ?_) (fun h2 => ?_)
  · have k := Ok_f (ng_lt h2) k
    exact jr_vret (pc := 30) F hQ rfl dX3_takeBack_30 ⟨_, rfl, rfl, (Ok_some k)⟩
  have k := Ok_t h2 k
  refine jr_aload_n (pc := 7) F 0 dX3_takeBack_7 rfl rfl ?_
  refine jr_dup (pc := 8) F dX3_takeBack_8 rfl ?_
  refine jr_getI (pc := 9) F (C0 3 0 0 1) f_3_17 m3_0 rfl rfl dX3_takeBack_9 (fun r3 => ?_)
  refine jr_iconst (pc := 12) F dX3_takeBack_12 ?_
  refine jr_isub (pc := 13) F dX3_takeBack_13 ?_
  obtain ⟨C4, e5, k⟩ := Ok_let k
  refine jr_putI (pc := 14) F (gs C4 4 0 M) fw_3_17 m3_0 rfl (rg_w _) (put2 e5 (by decide)) dX3_takeBack_14 ?_
  refine jr_aload_n (pc := 17) F 1 dX3_takeBack_17 rfl rfl ?_
  refine jr_aload_n (pc := 18) F 0 dX3_takeBack_18 rfl rfl ?_
  refine jr_getR (pc := 19) (b := (3, 0, 1)) F f_3_11 m3_0 rfl dX3_takeBack_19 ?_
  refine jr_aload_n (pc := 22) F 0 dX3_takeBack_22 rfl rfl ?_
  refine jr_getI (pc := 23) F (C4 3 0 0 1) f_3_17 m3_0 rfl rfl dX3_takeBack_23 (fun r6 => ?_)
  obtain ⟨c7, k⟩ := Ok_grd k
  obtain ⟨c8, k⟩ := Ok_grd k
  refine jr_aald (pc := 26) (b := (1, (C4 3 0 1 (C4 3 0 0 1)).toNat, 0)) F m3_1 (by decide) c7 (drL c8) dX3_takeBack_26 ?_
  obtain ⟨c9, k⟩ := Ok_grd k
  have k := Ok_bind k
  refine jr_callV (pc := 27) (st := []) F [.ref (xad X (1, (C4 3 0 1 (C4 3 0 0 1)).toNat, 0))] (snd_X2_become hl_v_line (g0 := gs C4 4 0 M) (tn11 c8) c9 rfl  k) (gs_in C4 M 1 v_line (by decide)) ck_3_25 rfl (mL_0 hl_v_line) rfl rfl rfl (by decide) (Nat.le_of_ble_eq_true rfl) dX3_takeBack_27 rfl (fun v g' hq => ?_)
  obtain ⟨z11, rfl, eg, k⟩ := hq
  rw [gs_comm (by decide)] at eg
  obtain ⟨C12, e13, k⟩ := Ok_let k
  rw [← e13] at eg
  refine J_eq eg ?_
  show J X 30 [(0, .ref (xad X (3, 0, 0))), (1, .ref (xad X (1, v_line, 0)))] [] (gs C12 4 0 M)
  exact jr_vret (pc := 30) F hQ rfl dX3_takeBack_30 ⟨_, rfl, rfl, (Ok_some k)⟩
set_option maxHeartbeats 4000000 in
set_option maxRecDepth 100000 in
theorem snd_X4_refuse {C0 : GG} {v_number : Int} {M : LT} (rgp_number : Rg v_number) {Q : (Int × GG) → Prop} (k : Ok (X4_refuse C0 v_number) Q) : MetG SL yX4_refuse cX4_refuse 2 (some .int) 0 (fun ad => [.ref (ad (0, 0, 0)), iv v_number]) (gs C0 4 0 M) (fun v g' => ∃ (x : Int) (L' : GG), v = some (iv x) ∧ Rg x ∧ g' = gs L' 4 0 M ∧ Q (x, L')) := by
  refine met_intro SL_ok (by decide +kernel) (fun ad => Nat.le_of_ble_eq_true rfl) (fun X F hQ hR => ?_)
  replace F : FX X cX4_refuse RX4 2 (some .int) SL 0 := F
  show J X 0 [(0, .ref (xad X (0, 0, 0))), (1, iv v_number)] [] (gs C0 4 0 M)
  refine cnd (c := (v_number ≤ (-1)) ∧ ((-6) ≤ v_number)) (GT := J X 11 [(0, .ref (xad X (0, 0, 0))), (1, iv v_number)] [] (gs C0 4 0 M)) (GF := J X 22 [(0, .ref (xad X (0, 0, 0))), (1, iv v_number)] [] (gs C0 4 0 M)) k (fun HT HF => ?_) (fun h3 k => ?_) (fun h3 k => ?_)
  · refine jr_iload_n (pc := 0) F 1 dX4_refuse_0 rfl rfl ?_
    refine jr_iconst (pc := 1) F dX4_refuse_1 ?_
    refine jr_icmp_gt (pc := 2) (tgt := 22) F rgp_number (show Rg (-1) from ⟨by decide, by decide⟩) dX4_refuse_2 (by decide) (fun h1 => ?_) (fun h1 => ?_)
    · exact HF (fun q => (ng_le h1) q.1)
    refine jr_iload_n (pc := 5) F 1 dX4_refuse_5 rfl rfl ?_
    refine jr_bipush (pc := 6) F dX4_refuse_6 (by decide) ?_
    refine jr_icmp_lt (pc := 8) (tgt := 22) F rgp_number (show Rg (-6) from ⟨by decide, by decide⟩) dX4_refuse_8 (by decide) (fun h2 => ?_) (fun h2 => ?_)
    · exact HF (fun q => (ng_le h2) q.2)
    exact HT ⟨h1, h2⟩
  · refine jr_aload_n (pc := 11) F 0 dX4_refuse_11 rfl rfl ?_
    refine jr_getR (pc := 12) (b := (0, 0, 9)) F f_4_48 m0_0 rfl dX4_refuse_12 ?_
    refine jr_iload_n (pc := 15) F 1 dX4_refuse_15 rfl rfl ?_
    refine jr_ineg (pc := 16) F dX4_refuse_16 ?_
    refine jr_dup2 (pc := 17) F dX4_refuse_17 rfl rfl ?_
    obtain ⟨c4, k⟩ := Ok_grd k
    refine jr_iald (pc := 18) F (C0 0 0 9 (w32 (-v_number))) m0_9 (by decide) c4 rfl dX4_refuse_18 (fun r5 => ?_)
    refine jr_iconst (pc := 19) F dX4_refuse_19 ?_
    refine jr_iadd (pc := 20) F dX4_refuse_20 ?_
    obtain ⟨C6, e7, k⟩ := Ok_let k
    refine jr_iast (pc := 21) F (gs C6 4 0 M) m0_9 (by decide) c4 (rg_w _) (put2 e7 (by decide)) dX4_refuse_21 ?_
    refine jr_iload_n (pc := 22) F 1 dX4_refuse_22 rfl rfl ?_
    exact jr_iret (pc := 23) F hQ rfl dX4_refuse_23 ⟨_, _, rfl, rgp_number, rfl, (Ok_some k)⟩
  refine jr_iload_n (pc := 22) F 1 dX4_refuse_22 rfl rfl ?_
  exact jr_iret (pc := 23) F hQ rfl dX4_refuse_23 ⟨_, _, rfl, rgp_number, rfl, (Ok_some k)⟩
set_option maxHeartbeats 4000000 in
set_option maxRecDepth 100000 in
theorem snd_X4_back {C0 : GG} {M : LT}  {Q : (Int × GG) → Prop} (k : Ok (X4_back C0) Q) : MetG SL yX4_back cX4_back 1 (some .int) 3 (fun ad => [.ref (ad (0, 0, 0))]) (gs C0 4 0 M) (fun v g' => ∃ (x : Int) (L' : GG), v = some (iv x) ∧ Rg x ∧ g' = gs L' 4 0 M ∧ Q (x, L')) := by
  refine met_intro SL_ok (by decide +kernel) (fun ad => Nat.le_of_ble_eq_true rfl) (fun X F hQ hR => ?_)
  replace F : FX X cX4_back RX4 1 (some .int) SL 3 := F
  show J X 0 [(0, .ref (xad X (0, 0, 0)))] [] (gs C0 4 0 M)
  refine jr_aload_n (pc := 0) F 0 dX4_back_0 rfl rfl ?_
  refine jr_getR (pc := 1) (b := (3, 0, 0)) F f_4_29 m0_0 rfl dX4_back_1 ?_
  refine jr_getI (pc := 4) F (C0 3 0 0 1) f_4_186 m3_0 rfl rfl dX4_back_4 (fun r1 => ?_)
  refine jr_if_ne (pc := 7) (tgt := 17) F r1 dX4_back_7 (by decide) (fun h2 => ?_) (fun h2 => ?_)
  · have k := Ok_f h2 k
    refine jr_aload_n (pc := 17) F 0 dX4_back_17 rfl rfl ?_
    refine jr_getR (pc := 18) (b := (3, 0, 0)) F f_4_29 m0_0 rfl dX4_back_18 ?_
    refine jr_aload_n (pc := 21) F 0 dX4_back_21 rfl rfl ?_
    refine jr_getR (pc := 22) (b := (1, 0, 0)) F f_4_12 m0_0 rfl dX4_back_22 ?_
    have k := Ok_bind k
    refine jr_callV (pc := 25) (st := []) F [.ref (xad X (1, 0, 0))] (snd_X3_takeBack (M := M) h11_0  k) rfl ck_4_187 rfl m3_0 rfl rfl rfl (by decide) (Nat.le_of_ble_eq_true rfl) dX4_back_25 rfl (fun v g' hq => ?_)
    obtain ⟨z4, rfl, eg, k⟩ := hq
    refine J_eq eg ?_
    show J X 28 [(0, .ref (xad X (0, 0, 0)))] [] (gs z4 4 0 M)
    refine jr_aload_n (pc := 28) F 0 dX4_back_28 rfl rfl ?_
    refine jr_getR (pc := 29) (b := (3, 0, 0)) F f_4_29 m0_0 rfl dX4_back_29 ?_
    refine jr_getI (pc := 32) F (z4 3 0 0 1) f_4_186 m3_0 rfl rfl dX4_back_32 (fun r5 => ?_)
    exact jr_iret (pc := 35) F hQ rfl dX4_back_35 ⟨_, _, rfl, r5, rfl, (Ok_some k)⟩
  have k := Ok_t h2 k
  refine jr_aload_n (pc := 10) F 0 dX4_back_10 rfl rfl ?_
  refine jr_bipush (pc := 11) F dX4_back_11 (by decide) ?_
  have k := Ok_bind k
  refine jr_callV (pc := 13) (st := []) F [iv (-3)] (snd_X4_refuse (M := M) (show Rg (-3) from ⟨by decide, by decide⟩) k) rfl ck_4_61 rfl m0_0 rfl rfl rfl (by decide) (Nat.le_of_ble_eq_true rfl) dX4_back_13 rfl (fun v g' hq => ?_)
  obtain ⟨x, L', rfl, r6, eg, k⟩ := hq
  obtain ⟨z7, ez⟩ : ∃ z : Int × GG, z = (x, L') := ⟨_, rfl⟩
  obtain ⟨rfl, rfl⟩ : x = z7.1 ∧ L' = z7.2 := ⟨by rw [ez], by rw [ez]⟩
  clear ez
  refine J_eq eg ?_
  show J X 16 [(0, .ref (xad X (0, 0, 0)))] [iv z7.1] (gs z7.2 4 0 M)
  exact jr_iret (pc := 16) F hQ rfl dX4_back_16 ⟨_, _, rfl, r6, rfl, (Ok_some k)⟩
set_option maxHeartbeats 4000000 in
set_option maxRecDepth 100000 in
theorem snd_X4_getsThrough {C0 : GG} {v_train : Int} {M : LT} (rgp_train : Rg v_train) {Q : (Int × GG) → Prop} (k : Ok (X4_getsThrough C0 v_train) Q) : MetG SL yX4_getsThrough cX4_getsThrough 2 (some .boolean) 4 (fun ad => [.ref (ad (0, 0, 0)), iv v_train]) (gs C0 4 0 M) (fun v g' => ∃ (x : Int) (L' : GG), v = some (iv x) ∧ Bz x ∧ g' = gs L' 4 0 M ∧ Q (x, L')) := by
  refine met_intro SL_ok (by decide +kernel) (fun ad => Nat.le_of_ble_eq_true rfl) (fun X F hQ hR => ?_)
  replace F : FX X cX4_getsThrough RX4 2 (some .boolean) SL 4 := F
  show J X 0 [(0, .ref (xad X (0, 0, 0))), (1, iv v_train)] [] (gs C0 4 0 M)
  refine jr_aload_n (pc := 0) F 0 dX4_getsThrough_0 rfl rfl ?_
  refine jr_getR (pc := 1) (b := (1, 1, 0)) F f_4_16 m0_0 rfl dX4_getsThrough_1 ?_
  refine jr_iload_n (pc := 4) F 1 dX4_getsThrough_4 rfl rfl ?_
  refine jr_bipush (pc := 5) F dX4_getsThrough_5 (by decide) ?_
  have k := Ok_bind k
  refine jr_callV (pc := 7) (st := []) F [iv v_train, iv 72] (snd_X2_goWhileOnItsWay h11_1 (g0 := gs C0 4 0 M) rgp_train (show Rg 72 from ⟨by decide, by decide⟩) k) (gs_in C0 M 1 1 (by decide)) ck_4_270 rfl (mL_0 h11_1) rfl rfl rfl (by decide) (Nat.le_of_ble_eq_true rfl) dX4_getsThrough_7 rfl (fun v g' hq => ?_)
  obtain ⟨z2, rfl, eg, k⟩ := hq
  rw [gs_comm (by decide)] at eg
  obtain ⟨C3, e4, k⟩ := Ok_let k
  rw [← e4] at eg
  refine J_eq eg ?_
  show J X 10 [(0, .ref (xad X (0, 0, 0))), (1, iv v_train)] [] (gs C3 4 0 M)
  obtain ⟨c5, k⟩ := Ok_grd k
  refine jifP (P := fun v => Bz v → J X 28 [(0, .ref (xad X (0, 0, 0))), (1, iv v_train)] (iv v :: []) (gs C3 4 0 M)) (c := (C3 1 1 14 v_train) = 1) (1) (0) (fun Ht Hf => ?_) (fun r8 => ?_)
  · refine jr_aload_n (pc := 10) F 0 dX4_getsThrough_10 rfl rfl ?_
    refine jr_getR (pc := 11) (b := (1, 1, 0)) F f_4_16 m0_0 rfl dX4_getsThrough_11 ?_
    refine jr_getR (pc := 14) (b := (1, 1, 14)) F f_4_180 (mL_0 h11_1) rfl dX4_getsThrough_14 ?_
    refine jr_iload_n (pc := 17) F 1 dX4_getsThrough_17 rfl rfl ?_
    refine jr_iald (pc := 18) F (C3 1 1 14 v_train) (mL_14 h11_1) (by decide) c5 rfl dX4_getsThrough_18 (fun r6 => ?_)
    refine jr_iconst (pc := 19) F dX4_getsThrough_19 ?_
    refine jr_icmp_ne (pc := 20) (tgt := 27) F r6 (show Rg 1 from ⟨by decide, by decide⟩) dX4_getsThrough_20 (by decide) (fun h7 => ?_) (fun h7 => ?_)
    · refine jr_iconst (pc := 27) F dX4_getsThrough_27 ?_
      exact Hf h7 (Or.inl rfl)
    refine jr_iconst (pc := 23) F dX4_getsThrough_23 ?_
    refine jr_goto (pc := 24) (tgt := 28) F dX4_getsThrough_24 (by decide) ?_
    exact Ht h7 (Or.inr rfl)
  exact jr_zret (pc := 28) F hQ rfl r8 dX4_getsThrough_28 ⟨_, _, rfl, r8, rfl, (Ok_some k)⟩
set_option maxHeartbeats 4000000 in
set_option maxRecDepth 100000 in
theorem snd_X4_neither {v_what : Int} {g0 : GG} (rgp_what : Rg v_what) {Q : (Int) → Prop} (k : Ok (X4_neither_f v_what) Q) : MetG SL yX4_neither cX4_neither 1 (some .boolean) 0 (fun ad => [iv v_what]) (g0) (fun v g' => ∃ x : Int, v = some (iv x) ∧ Bz x ∧ g' = g0 ∧ Q x) := by
  refine met_intro SL_ok (by decide +kernel) (fun ad => Nat.le_of_ble_eq_true rfl) (fun X F hQ hR => ?_)
  replace F : FX X cX4_neither RX4 1 (some .boolean) SL 0 := F
  show J X 0 [(0, iv v_what)] [] (g0)
  refine jifP (P := fun v => Bz v → J X 14 [(0, iv v_what)] (iv v :: []) (g0)) (c := (¬ v_what = 0) ∧ (¬ v_what = 1)) (1) (0) (fun Ht Hf => ?_) (fun r3 => ?_)
  · refine jr_iload_n (pc := 0) F 0 dX4_neither_0 rfl rfl ?_
    refine jr_if_eq (pc := 1) (tgt := 13) F rgp_what dX4_neither_1 (by decide) (fun h1 => ?_) (fun h1 => ?_)
    · refine jr_iconst (pc := 13) F dX4_neither_13 ?_
      exact Hf (fun q => (fun q => q h1) q.1) (Or.inl rfl)
    refine jr_iload_n (pc := 4) F 0 dX4_neither_4 rfl rfl ?_
    refine jr_iconst (pc := 5) F dX4_neither_5 ?_
    refine jr_icmp_eq (pc := 6) (tgt := 13) F rgp_what (show Rg 1 from ⟨by decide, by decide⟩) dX4_neither_6 (by decide) (fun h2 => ?_) (fun h2 => ?_)
    · refine jr_iconst (pc := 13) F dX4_neither_13 ?_
      exact Hf (fun q => (fun q => q h2) q.2) (Or.inl rfl)
    refine jr_iconst (pc := 9) F dX4_neither_9 ?_
    refine jr_goto (pc := 10) (tgt := 14) F dX4_neither_10 (by decide) ?_
    exact Ht ⟨h1, h2⟩ (Or.inr rfl)
  exact jr_zret (pc := 14) F hQ rfl r3 dX4_neither_14 ⟨_, rfl, r3, rfl, (Ok_some k)⟩
set_option maxHeartbeats 4000000 in
set_option maxRecDepth 100000 in
theorem snd_X4_noTrain {C0 : GG} {v_train : Int} {M : LT} (rgp_train : Rg v_train) {Q : (Int) → Prop} (k : Ok (X4_noTrain_f C0 v_train) Q) : MetG SL yX4_noTrain cX4_noTrain 2 (some .boolean) 0 (fun ad => [.ref (ad (0, 0, 0)), iv v_train]) (gs C0 4 0 M) (fun v g' => ∃ x : Int, v = some (iv x) ∧ Bz x ∧ g' = gs C0 4 0 M ∧ Q x) := by
  refine met_intro SL_ok (by decide +kernel) (fun ad => Nat.le_of_ble_eq_true rfl) (fun X F hQ hR => ?_)
  replace F : FX X cX4_noTrain RX4 2 (some .boolean) SL 0 := F
  show J X 0 [(0, .ref (xad X (0, 0, 0))), (1, iv v_train)] [] (gs C0 4 0 M)
  refine jifP (P := fun v => Bz v → J X 20 [(0, .ref (xad X (0, 0, 0))), (1, iv v_train)] (iv v :: []) (gs C0 4 0 M)) (c := (v_train < 0) ∨ ((C0 1 0 0 4) ≤ v_train)) (1) (0) (fun Ht Hf => ?_) (fun r4 => ?_)
  · refine jr_iload_n (pc := 0) F 1 dX4_noTrain_0 rfl rfl ?_
    refine jr_if_lt (pc := 1) (tgt := 15) F rgp_train dX4_noTrain_1 (by decide) (fun h1 => ?_) (fun h1 => ?_)
    · refine jr_iconst (pc := 15) F dX4_noTrain_15 ?_
      refine jr_goto (pc := 16) (tgt := 20) F dX4_noTrain_16 (by decide) ?_
      exact Ht (Or.inl h1) (Or.inr rfl)
    refine jr_iload_n (pc := 4) F 1 dX4_noTrain_4 rfl rfl ?_
    refine jr_aload_n (pc := 5) F 0 dX4_noTrain_5 rfl rfl ?_
    refine jr_getR (pc := 6) (b := (1, 0, 0)) F f_4_12 m0_0 rfl dX4_noTrain_6 ?_
    refine jr_getI (pc := 9) F (C0 1 0 0 4) f_4_159 (mL_0 h11_0) rfl rfl dX4_noTrain_9 (fun r2 => ?_)
    refine jr_icmp_lt (pc := 12) (tgt := 19) F rgp_train r2 dX4_noTrain_12 (by decide) (fun h3 => ?_) (fun h3 => ?_)
    · refine jr_iconst (pc := 19) F dX4_noTrain_19 ?_
      exact Hf (fun q => q.elim (ng_lt h1) (ng_le h3)) (Or.inl rfl)
    refine jr_iconst (pc := 15) F dX4_noTrain_15 ?_
    refine jr_goto (pc := 16) (tgt := 20) F dX4_noTrain_16 (by decide) ?_
    exact Ht (Or.inr h3) (Or.inr rfl)
  exact jr_zret (pc := 20) F hQ rfl r4 dX4_noTrain_20 ⟨_, rfl, r4, rfl, (Ok_some k)⟩
set_option maxHeartbeats 4000000 in
set_option maxRecDepth 100000 in
theorem snd_X4_notAhead {C0 : GG} {v_train : Int} {M : LT} (rgp_train : Rg v_train) {Q : (Int) → Prop} (k : Ok (X4_notAhead_f C0 v_train) Q) : MetG SL yX4_notAhead cX4_notAhead 2 (some .int) 1 (fun ad => [.ref (ad (0, 0, 0)), iv v_train]) (gs C0 4 0 M) (fun v g' => ∃ x : Int, v = some (iv x) ∧ Rg x ∧ g' = gs C0 4 0 M ∧ Q x) := by
  refine met_intro SL_ok (by decide +kernel) (fun ad => Nat.le_of_ble_eq_true rfl) (fun X F hQ hR => ?_)
  replace F : FX X cX4_notAhead RX4 2 (some .int) SL 1 := F
  show J X 0 [(0, .ref (xad X (0, 0, 0))), (1, iv v_train)] [] (gs C0 4 0 M)
  refine jr_aload_n (pc := 0) F 0 dX4_notAhead_0 rfl rfl ?_
  refine jr_iload_n (pc := 1) F 1 dX4_notAhead_1 rfl rfl ?_
  refine jr_callV (pc := 2) (st := []) F [iv v_train] (snd_X4_noTrain (M := M) rgp_train (X4_noTrain_ok _ _ )) rfl ck_4_162 rfl m0_0 rfl rfl rfl (by decide) (Nat.le_of_ble_eq_true rfl) dX4_notAhead_2 rfl (fun v g' hq => ?_)
  obtain ⟨x, rfl, r1, eg, hx⟩ := hq
  subst hx
  refine J_eq eg ?_
  show J X 5 [(0, .ref (xad X (0, 0, 0))), (1, iv v_train)] [iv (X4_noTrain_v C0 v_train)] (gs C0 4 0 M)
  refine jr_if_eq (pc := 5) (tgt := 10) F (rg_z r1) dX4_notAhead_5 (by decide) (fun h2 => ?_) (fun h2 => ?_)
  · have k := Ok_f (fun q => q h2) k
    obtain ⟨c3, k⟩ := Ok_grd k
    refine jifP (P := fun v => Rg v → J X 27 [(0, .ref (xad X (0, 0, 0))), (1, iv v_train)] (iv v :: []) (gs C0 4 0 M)) (c := ¬ (X2_isAhead_v (C0 1 0) v_train) = 0) (0) ((-3)) (fun Ht Hf => ?_) (fun r6 => ?_)
    · refine jr_aload_n (pc := 10) F 0 dX4_notAhead_10 rfl rfl ?_
      refine jr_getR (pc := 11) (b := (1, 0, 0)) F f_4_12 m0_0 rfl dX4_notAhead_11 ?_
      refine jr_iload_n (pc := 14) F 1 dX4_notAhead_14 rfl rfl ?_
      refine jr_callV (pc := 15) (st := []) F [iv v_train] (snd_X2_isAhead h11_0 (g0 := gs C0 4 0 M) rgp_train (X2_isAhead_ok _ _ c3)) (gs_in C0 M 1 0 (by decide)) ck_4_252 rfl (mL_0 h11_0) rfl rfl rfl (by decide) (Nat.le_of_ble_eq_true rfl) dX4_notAhead_15 rfl (fun v g' hq => ?_)
      obtain ⟨x, rfl, r4, eg, hx⟩ := hq
      subst hx
      refine J_eq eg ?_
      refine J_eq (gs_in C0 M 1 0 (by decide)).symm ?_
      show J X 18 [(0, .ref (xad X (0, 0, 0))), (1, iv v_train)] [iv (X2_isAhead_v (C0 1 0) v_train)] (gs C0 4 0 M)
      refine jr_if_eq (pc := 18) (tgt := 25) F (rg_z r4) dX4_notAhead_18 (by decide) (fun h5 => ?_) (fun h5 => ?_)
      · refine jr_bipush (pc := 25) F dX4_notAhead_25 (by decide) ?_
        exact Hf (fun q => q h5) (show Rg (-3) from ⟨by decide, by decide⟩)
      refine jr_iconst (pc := 21) F dX4_notAhead_21 ?_
      refine jr_goto (pc := 22) (tgt := 27) F dX4_notAhead_22 (by decide) ?_
      exact Ht h5 (show Rg 0 from ⟨by decide, by decide⟩)
    exact jr_iret (pc := 27) F hQ rfl dX4_notAhead_27 ⟨_, rfl, r6, rfl, (Ok_some k)⟩
  have k := Ok_t h2 k
  refine jr_iconst (pc := 8) F dX4_notAhead_8 ?_
  exact jr_iret (pc := 9) F hQ rfl dX4_notAhead_9 ⟨_, rfl, (show Rg (-1) from ⟨by decide, by decide⟩), rfl, (Ok_some k)⟩
set_option maxHeartbeats 4000000 in
set_option maxRecDepth 100000 in
theorem snd_X4_bestWait {C0 : GG} {v_train : Int} {v_what : Int} {M : LT} (rgp_train : Rg v_train) (rgp_what : Rg v_what) {Q : (Int × GG) → Prop} (k : Ok (X4_bestWait C0 v_train v_what) Q) : MetG SL yX4_bestWait cX4_bestWait 7 (some .int) 5 (fun ad => [.ref (ad (0, 0, 0)), iv v_train, iv v_what]) (gs C0 4 0 M) (fun v g' => ∃ (x : Int) (L' : GG), v = some (iv x) ∧ Rg x ∧ g' = gs L' 4 0 M ∧ Q (x, L')) := by
  refine met_intro SL_ok (by decide +kernel) (fun ad => Nat.le_of_ble_eq_true rfl) (fun X F hQ hR => ?_)
  replace F : FX X cX4_bestWait RX4 7 (some .int) SL 5 := F
  show J X 0 [(0, .ref (xad X (0, 0, 0))), (1, iv v_train), (2, iv v_what)] [] (gs C0 4 0 M)
  refine jr_aload_n (pc := 0) F 0 dX4_bestWait_0 rfl rfl ?_
  refine jr_iload_n (pc := 1) F 1 dX4_bestWait_1 rfl rfl ?_
  refine jr_callV (pc := 2) (st := []) F [iv v_train] (snd_X4_noTrain (M := M) rgp_train (X4_noTrain_ok _ _ )) rfl ck_4_162 rfl m0_0 rfl rfl rfl (by decide) (Nat.le_of_ble_eq_true rfl) dX4_bestWait_2 rfl (fun v g' hq => ?_)
  obtain ⟨x, rfl, r1, eg, hx⟩ := hq
  subst hx
  refine J_eq eg ?_
  show J X 5 [(0, .ref (xad X (0, 0, 0))), (1, iv v_train), (2, iv v_what)] [iv (X4_noTrain_v C0 v_train)] (gs C0 4 0 M)
  refine jr_if_eq (pc := 5) (tgt := 14) F (rg_z r1) dX4_bestWait_5 (by decide) (fun h2 => ?_) (fun h2 => ?_)
  · have k := Ok_f (fun q => q h2) k
    refine jr_iload_n (pc := 14) F 2 dX4_bestWait_14 rfl rfl ?_
    refine jr_callS (pc := 15) (st := []) F [iv v_what] (snd_X4_neither (g0 := gs C0 4 0 M) rgp_what (X4_neither_ok _ )) rfl ck_4_153 rfl rfl (by decide) (Nat.le_of_ble_eq_true rfl) dX4_bestWait_15 rfl (fun v g' hq => ?_)
    obtain ⟨x, rfl, r3, eg, hx⟩ := hq
    subst hx
    refine J_eq eg ?_
    show J X 18 [(0, .ref (xad X (0, 0, 0))), (1, iv v_train), (2, iv v_what)] [iv (X4_neither_v v_what)] (gs C0 4 0 M)
    refine jr_if_eq (pc := 18) (tgt := 28) F (rg_z r3) dX4_bestWait_18 (by decide) (fun h4 => ?_) (fun h4 => ?_)
    · have k := Ok_f (fun q => q h4) k
      refine jr_aload_n (pc := 28) F 0 dX4_bestWait_28 rfl rfl ?_
      refine jr_iload_n (pc := 29) F 1 dX4_bestWait_29 rfl rfl ?_
      obtain ⟨c6, k⟩ := Ok_grd k
      refine jr_callV (pc := 30) (st := []) F [iv v_train] (snd_X4_notAhead (M := M) rgp_train (X4_notAhead_ok _ _ c6)) rfl ck_4_208 rfl m0_0 rfl rfl rfl (by decide) (Nat.le_of_ble_eq_true rfl) dX4_bestWait_30 rfl (fun v g' hq => ?_)
      obtain ⟨x, rfl, r5, eg, hx⟩ := hq
      subst hx
      refine J_eq eg ?_
      show J X 33 [(0, .ref (xad X (0, 0, 0))), (1, iv v_train), (2, iv v_what)] [iv (X4_notAhead_v C0 v_train)] (gs C0 4 0 M)
      obtain ⟨x7, e8, k⟩ := Ok_let k
      have r9 : Rg x7 := rg_of e8 r5
      refine jr_top e8 ?_
      refine jr_istore_n (pc := 33) F [(3, iv x7), (0, .ref (xad X (0, 0, 0))), (1, iv v_train), (2, iv v_what)] dX4_bestWait_33 rfl (by decide) rfl ?_
      refine jr_iload_n (pc := 34) F 0 dX4_bestWait_34 rfl rfl ?_
      refine jr_if_eq (pc := 35) (tgt := 44) F r9 dX4_bestWait_35 (by decide) (fun h10 => ?_) (fun h10 => ?_)
      · have k := Ok_f (fun q => q h10) k
        refine jr_bipush (pc := 44) F dX4_bestWait_44 (by decide) ?_
        refine jr_istore (pc := 46) F [(4, iv (-9)), (3, iv x7), (0, .ref (xad X (0, 0, 0))), (1, iv v_train), (2, iv v_what)] dX4_bestWait_46 (by decide) rfl ?_
        refine jr_bipush (pc := 48) F dX4_bestWait_48 (by decide) ?_
        refine jr_istore (pc := 50) F [(5, iv (-9)), (4, iv (-9)), (3, iv x7), (0, .ref (xad X (0, 0, 0))), (1, iv v_train), (2, iv v_what)] dX4_bestWait_50 (by decide) rfl ?_
        refine jr_iconst (pc := 52) F dX4_bestWait_52 ?_
        refine jr_istore (pc := 53) F [(6, iv 0), (5, iv (-9)), (4, iv (-9)), (3, iv x7), (0, .ref (xad X (0, 0, 0))), (1, iv v_train), (2, iv v_what)] dX4_bestWait_53 (by decide) rfl ?_
        refine jr_sub F [4, 5, 6, 3, 2, 1, 0] [(0, .ref (xad X (0, 0, 0))), (1, iv v_train), (2, iv v_what), (3, iv x7), (4, iv (-9)), (5, iv (-9)), (6, iv 0)] rfl ?_
        refine lpj (P := fun s : Int × Int × Int × GG => Rg (s.1) → Rg (s.2.1) → Rg (s.2.2.1) → J X 55 [(0, .ref (xad X (0, 0, 0))), (1, iv v_train), (2, iv v_what), (3, iv x7), (4, iv s.1), (5, iv s.2.1), (6, iv s.2.2.1)] [] (gs s.2.2.2 4 0 M)) (PE := fun r : Int × Int × Int × GG => Rg (r.1) → Rg (r.2.1) → Rg (r.2.2.1) → J X 134 [(0, .ref (xad X (0, 0, 0))), (1, iv v_train), (2, iv v_what), (3, iv x7), (4, iv r.1), (5, iv r.2.1), (6, iv r.2.2.1)] [] (gs r.2.2.2 4 0 M)) k (fun s11 Q12 k hC13 hE14 r16 r17 r18 => ?_) (fun z15 k => ?_) (fun h => h (show Rg (-9) from ⟨by decide, by decide⟩) (show Rg (-9) from ⟨by decide, by decide⟩) (show Rg 0 from ⟨by decide, by decide⟩))
        · refine jr_iload (pc := 55) F 6 dX4_bestWait_55 rfl ?_
          refine jr_bipush (pc := 57) F dX4_bestWait_57 (by decide) ?_
          refine jr_icmp_gt (pc := 59) (tgt := 134) F r18 (show Rg 48 from ⟨by decide, by decide⟩) dX4_bestWait_59 (by decide) (fun h19 => ?_) (fun h19 => ?_)
          · have k := Ok_f (ng_le h19) k
            exact hE14 (s11.1, s11.2.1, s11.2.2.1, s11.2.2.2) (Ok_some k) r16 r17 r18
          have k := Ok_t h19 k
          refine jr_aload_n (pc := 62) F 0 dX4_bestWait_62 rfl rfl ?_
          refine jr_getR (pc := 63) (b := (1, 1, 0)) F f_4_16 m0_0 rfl dX4_bestWait_63 ?_
          refine jr_aload_n (pc := 66) F 0 dX4_bestWait_66 rfl rfl ?_
          refine jr_getR (pc := 67) (b := (1, 0, 0)) F f_4_12 m0_0 rfl dX4_bestWait_67 ?_
          have k := Ok_bind k
          refine jr_callV (pc := 70) (st := []) F [.ref (xad X (1, 0, 0))] (snd_X2_become h11_1 (g0 := gs s11.2.2.2 4 0 M) h11_0 (by decide) rfl  k) (gs_in s11.2.2.2 M 1 1 (by decide)) ck_4_79 rfl (mL_0 h11_1) rfl rfl rfl (by decide) (Nat.le_of_ble_eq_true rfl) dX4_bestWait_70 rfl (fun v g' hq => ?_)
          obtain ⟨z21, rfl, eg, k⟩ := hq
          rw [gs_comm (by decide)] at eg
          obtain ⟨C22, e23, k⟩ := Ok_let k
          rw [← e23] at eg
          refine J_eq eg ?_
          show J X 73 [(0, .ref (xad X (0, 0, 0))), (1, iv v_train), (2, iv v_what), (3, iv x7), (4, iv s11.1), (5, iv s11.2.1), (6, iv s11.2.2.1)] [] (gs C22 4 0 M)
          refine jr_aload_n (pc := 73) F 0 dX4_bestWait_73 rfl rfl ?_
          refine jr_getR (pc := 74) (b := (1, 1, 0)) F f_4_16 m0_0 rfl dX4_bestWait_74 ?_
          refine jr_getR (pc := 77) (b := (1, 1, 13)) F f_4_177 (mL_0 h11_1) rfl dX4_bestWait_77 ?_
          refine jr_iload_n (pc := 80) F 1 dX4_bestWait_80 rfl rfl ?_
          refine jr_iload (pc := 81) F 6 dX4_bestWait_81 rfl ?_
          obtain ⟨c24, k⟩ := Ok_grd k
          obtain ⟨C25, e26, k⟩ := Ok_let k
          refine jr_iast (pc := 83) F (gs C25 4 0 M) (mL_13 h11_1) (by decide) c24 r18 (put2 e26 (by decide)) dX4_bestWait_83 ?_
          refine jr_aload_n (pc := 84) F 0 dX4_bestWait_84 rfl rfl ?_
          refine jr_iload_n (pc := 85) F 1 dX4_bestWait_85 rfl rfl ?_
          have k := Ok_bind k
          refine jr_callV (pc := 86) (st := []) F [iv v_train] (snd_X4_getsThrough (M := M) rgp_train k) rfl ck_4_211 rfl m0_0 rfl rfl rfl (by decide) (Nat.le_of_ble_eq_true rfl) dX4_bestWait_86 rfl (fun v g' hq => ?_)
          obtain ⟨x, L', rfl, r27, eg, k⟩ := hq
          obtain ⟨z28, ez⟩ : ∃ z : Int × GG, z = (x, L') := ⟨_, rfl⟩
          obtain ⟨rfl, rfl⟩ : x = z28.1 ∧ L' = z28.2 := ⟨by rw [ez], by rw [ez]⟩
          clear ez
          refine J_eq eg ?_
          show J X 89 [(0, .ref (xad X (0, 0, 0))), (1, iv v_train), (2, iv v_what), (3, iv x7), (4, iv s11.1), (5, iv s11.2.1), (6, iv s11.2.2.1)] [iv z28.1] (gs z28.2 4 0 M)
          refine jr_if_eq (pc := 89) (tgt := 128) F (rg_z r27) dX4_bestWait_89 (by decide) (fun h29 => ?_) (fun h29 => ?_)
          · have k := Ok_f (fun q => q h29) k
            refine jr_iinc (pc := 128) F [(6, iv (w32 (s11.2.2.1 + 1))), (0, .ref (xad X (0, 0, 0))), (1, iv v_train), (2, iv v_what), (3, iv x7), (4, iv s11.1), (5, iv s11.2.1)] 6 dX4_bestWait_128 rfl (by decide) rfl ?_
            refine jr_goto (pc := 131) (tgt := 55) F dX4_bestWait_131 (by decide) ?_
            refine jr_sub F [1, 2, 3, 4, 5, 6, 0] [(0, .ref (xad X (0, 0, 0))), (1, iv v_train), (2, iv v_what), (3, iv x7), (4, iv s11.1), (5, iv s11.2.1), (6, iv (w32 (s11.2.2.1 + 1)))] rfl ?_
            exact hC13 (s11.1, s11.2.1, w32 (s11.2.2.1 + 1), z28.2) (Ok_some k) r16 r17 (rg_w _)
          have k := Ok_t h29 k
          refine cnd (c := (s11.1 = (-9)) ∨ ((z28.2 1 1 16 v_train) < s11.2.1)) (GT := J X 113 [(0, .ref (xad X (0, 0, 0))), (1, iv v_train), (2, iv v_what), (3, iv x7), (4, iv s11.1), (5, iv s11.2.1), (6, iv s11.2.2.1)] [] (gs z28.2 4 0 M)) (GF := J X 128 [(0, .ref (xad X (0, 0, 0))), (1, iv v_train), (2, iv v_what), (3, iv x7), (4, iv s11.1), (5, iv s11.2.1), (6, iv s11.2.2.1)] [] (gs z28.2 4 0 M)) k (fun HT HF => ?_) (fun h33 k => ?_) (fun h33 k => ?_)
          · refine jr_iload (pc := 92) F 4 dX4_bestWait_92 rfl ?_
            refine jr_bipush (pc := 94) F dX4_bestWait_94 (by decide) ?_
            refine jr_icmp_eq (pc := 96) (tgt := 113) F r16 (show Rg (-9) from ⟨by decide, by decide⟩) dX4_bestWait_96 (by decide) (fun h30 => ?_) (fun h30 => ?_)
            · exact HT (Or.inl h30)
            refine jr_aload_n (pc := 99) F 0 dX4_bestWait_99 rfl rfl ?_
            refine jr_getR (pc := 100) (b := (1, 1, 0)) F f_4_16 m0_0 rfl dX4_bestWait_100 ?_
            refine jr_getR (pc := 103) (b := (1, 1, 16)) F f_4_193 (mL_0 h11_1) rfl dX4_bestWait_103 ?_
            refine jr_iload_n (pc := 106) F 1 dX4_bestWait_106 rfl rfl ?_
            refine jr_iald (pc := 107) F (z28.2 1 1 16 v_train) (mL_16 h11_1) (by decide) c24 rfl dX4_bestWait_107 (fun r31 => ?_)
            refine jr_iload (pc := 108) F 5 dX4_bestWait_108 rfl ?_
            refine jr_icmp_ge (pc := 110) (tgt := 128) F r31 r17 dX4_bestWait_110 (by decide) (fun h32 => ?_) (fun h32 => ?_)
            · exact HF (fun q => q.elim h30 (ng_lt h32))
            exact HT (Or.inr h32)
          · refine jr_iload (pc := 113) F 6 dX4_bestWait_113 rfl ?_
            refine jr_istore (pc := 115) F [(4, iv s11.2.2.1), (0, .ref (xad X (0, 0, 0))), (1, iv v_train), (2, iv v_what), (3, iv x7), (5, iv s11.2.1), (6, iv s11.2.2.1)] dX4_bestWait_115 (by decide) rfl ?_
            refine jr_aload_n (pc := 117) F 1 dX4_bestWait_117 rfl rfl ?_
            refine jr_getR (pc := 118) (b := (1, 1, 0)) F f_4_16 m0_0 rfl dX4_bestWait_118 ?_
            refine jr_getR (pc := 121) (b := (1, 1, 16)) F f_4_193 (mL_0 h11_1) rfl dX4_bestWait_121 ?_
            refine jr_iload_n (pc := 124) F 2 dX4_bestWait_124 rfl rfl ?_
            refine jr_iald (pc := 125) F (z28.2 1 1 16 v_train) (mL_16 h11_1) (by decide) c24 rfl dX4_bestWait_125 (fun r34 => ?_)
            obtain ⟨x35, e36, k⟩ := Ok_let k
            have r37 : Rg x35 := rg_of e36 r34
            refine jr_top e36 ?_
            refine jr_istore (pc := 126) F [(5, iv x35), (4, iv s11.2.2.1), (0, .ref (xad X (0, 0, 0))), (1, iv v_train), (2, iv v_what), (3, iv x7), (6, iv s11.2.2.1)] dX4_bestWait_126 (by decide) rfl ?_
            refine jr_iinc (pc := 128) F [(6, iv (w32 (s11.2.2.1 + 1))), (5, iv x35), (4, iv s11.2.2.1), (0, .ref (xad X (0, 0, 0))), (1, iv v_train), (2, iv v_what), (3, iv x7)] 6 dX4_bestWait_128 rfl (by decide) rfl ?_
            refine jr_goto (pc := 131) (tgt := 55) F dX4_bestWait_131 (by decide) ?_
            refine jr_sub F [3, 4, 5, 6, 2, 1, 0] [(0, .ref (xad X (0, 0, 0))), (1, iv v_train), (2, iv v_what), (3, iv x7), (4, iv s11.2.2.1), (5, iv x35), (6, iv (w32 (s11.2.2.1 + 1)))] rfl ?_
            exact hC13 (s11.2.2.1, x35, w32 (s11.2.2.1 + 1), z28.2) (Ok_some k) r18 r37 (rg_w _)
          refine jr_iinc (pc := 128) F [(6, iv (w32 (s11.2.2.1 + 1))), (0, .ref (xad X (0, 0, 0))), (1, iv v_train), (2, iv v_what), (3, iv x7), (4, iv s11.1), (5, iv s11.2.1)] 6 dX4_bestWait_128 rfl (by decide) rfl ?_
          refine jr_goto (pc := 131) (tgt := 55) F dX4_bestWait_131 (by decide) ?_
          refine jr_sub F [1, 2, 3, 4, 5, 6, 0] [(0, .ref (xad X (0, 0, 0))), (1, iv v_train), (2, iv v_what), (3, iv x7), (4, iv s11.1), (5, iv s11.2.1), (6, iv (w32 (s11.2.2.1 + 1)))] rfl ?_
          exact hC13 (s11.1, s11.2.1, w32 (s11.2.2.1 + 1), z28.2) (Ok_some k) r16 r17 (rg_w _)
        intro r38 r39 r40
        refine jifP (P := fun v => Rg v → J X 145 [(0, .ref (xad X (0, 0, 0))), (1, iv v_train), (2, iv v_what), (3, iv x7), (4, iv z15.1), (5, iv z15.2.1), (6, iv z15.2.2.1)] (iv v :: []) (gs z15.2.2.2 4 0 M)) (c := v_what = 0) (z15.1) (z15.2.1) (fun Ht Hf => ?_) (fun r42 => ?_)
        · refine jr_iload_n (pc := 134) F 2 dX4_bestWait_134 rfl rfl ?_
          refine jr_if_ne (pc := 135) (tgt := 143) F rgp_what dX4_bestWait_135 (by decide) (fun h41 => ?_) (fun h41 => ?_)
          · refine jr_iload (pc := 143) F 5 dX4_bestWait_143 rfl ?_
            exact Hf h41 r39
          refine jr_iload (pc := 138) F 4 dX4_bestWait_138 rfl ?_
          refine jr_goto (pc := 140) (tgt := 145) F dX4_bestWait_140 (by decide) ?_
          exact Ht h41 r38
        exact jr_iret (pc := 145) F hQ rfl dX4_bestWait_145 ⟨_, _, rfl, r42, rfl, (Ok_some k)⟩
      have k := Ok_t h10 k
      refine jr_aload_n (pc := 38) F 1 dX4_bestWait_38 rfl rfl ?_
      refine jr_iload_n (pc := 39) F 0 dX4_bestWait_39 rfl rfl ?_
      have k := Ok_bind k
      refine jr_callV (pc := 40) (st := []) F [iv x7] (snd_X4_refuse (M := M) r9 k) rfl ck_4_61 rfl m0_0 rfl rfl rfl (by decide) (Nat.le_of_ble_eq_true rfl) dX4_bestWait_40 rfl (fun v g' hq => ?_)
      obtain ⟨x, L', rfl, r43, eg, k⟩ := hq
      obtain ⟨z44, ez⟩ : ∃ z : Int × GG, z = (x, L') := ⟨_, rfl⟩
      obtain ⟨rfl, rfl⟩ : x = z44.1 ∧ L' = z44.2 := ⟨by rw [ez], by rw [ez]⟩
      clear ez
      refine J_eq eg ?_
      show J X 43 [(3, iv x7), (0, .ref (xad X (0, 0, 0))), (1, iv v_train), (2, iv v_what)] [iv z44.1] (gs z44.2 4 0 M)
      exact jr_iret (pc := 43) F hQ rfl dX4_bestWait_43 ⟨_, _, rfl, r43, rfl, (Ok_some k)⟩
    have k := Ok_t h4 k
    refine jr_aload_n (pc := 21) F 0 dX4_bestWait_21 rfl rfl ?_
    refine jr_bipush (pc := 22) F dX4_bestWait_22 (by decide) ?_
    have k := Ok_bind k
    refine jr_callV (pc := 24) (st := []) F [iv (-2)] (snd_X4_refuse (M := M) (show Rg (-2) from ⟨by decide, by decide⟩) k) rfl ck_4_61 rfl m0_0 rfl rfl rfl (by decide) (Nat.le_of_ble_eq_true rfl) dX4_bestWait_24 rfl (fun v g' hq => ?_)
    obtain ⟨x, L', rfl, r45, eg, k⟩ := hq
    obtain ⟨z46, ez⟩ : ∃ z : Int × GG, z = (x, L') := ⟨_, rfl⟩
    obtain ⟨rfl, rfl⟩ : x = z46.1 ∧ L' = z46.2 := ⟨by rw [ez], by rw [ez]⟩
    clear ez
    refine J_eq eg ?_
    show J X 27 [(0, .ref (xad X (0, 0, 0))), (1, iv v_train), (2, iv v_what)] [iv z46.1] (gs z46.2 4 0 M)
    exact jr_iret (pc := 27) F hQ rfl dX4_bestWait_27 ⟨_, _, rfl, r45, rfl, (Ok_some k)⟩
  have k := Ok_t h2 k
  refine jr_aload_n (pc := 8) F 0 dX4_bestWait_8 rfl rfl ?_
  refine jr_iconst (pc := 9) F dX4_bestWait_9 ?_
  have k := Ok_bind k
  refine jr_callV (pc := 10) (st := []) F [iv (-1)] (snd_X4_refuse (M := M) (show Rg (-1) from ⟨by decide, by decide⟩) k) rfl ck_4_61 rfl m0_0 rfl rfl rfl (by decide) (Nat.le_of_ble_eq_true rfl) dX4_bestWait_10 rfl (fun v g' hq => ?_)
  obtain ⟨x, L', rfl, r47, eg, k⟩ := hq
  obtain ⟨z48, ez⟩ : ∃ z : Int × GG, z = (x, L') := ⟨_, rfl⟩
  obtain ⟨rfl, rfl⟩ : x = z48.1 ∧ L' = z48.2 := ⟨by rw [ez], by rw [ez]⟩
  clear ez
  refine J_eq eg ?_
  show J X 13 [(0, .ref (xad X (0, 0, 0))), (1, iv v_train), (2, iv v_what)] [iv z48.1] (gs z48.2 4 0 M)
  exact jr_iret (pc := 13) F hQ rfl dX4_bestWait_13 ⟨_, _, rfl, r47, rfl, (Ok_some k)⟩
set_option maxHeartbeats 4000000 in
set_option maxRecDepth 100000 in
theorem snd_X4_throughInMind {C0 : GG} {M : LT}  {Q : (Int × GG) → Prop} (k : Ok (X4_throughInMind C0) Q) : MetG SL yX4_throughInMind cX4_throughInMind 1 (some .int) 4 (fun ad => [.ref (ad (0, 0, 0))]) (gs C0 4 0 M) (fun v g' => ∃ (x : Int) (L' : GG), v = some (iv x) ∧ Rg x ∧ g' = gs L' 4 0 M ∧ Q (x, L')) := by
  refine met_intro SL_ok (by decide +kernel) (fun ad => Nat.le_of_ble_eq_true rfl) (fun X F hQ hR => ?_)
  replace F : FX X cX4_throughInMind RX4 1 (some .int) SL 4 := F
  show J X 0 [(0, .ref (xad X (0, 0, 0)))] [] (gs C0 4 0 M)
  refine jr_aload_n (pc := 0) F 0 dX4_throughInMind_0 rfl rfl ?_
  refine jr_getR (pc := 1) (b := (1, 1, 0)) F f_4_16 m0_0 rfl dX4_throughInMind_1 ?_
  refine jr_bipush (pc := 4) F dX4_throughInMind_4 (by decide) ?_
  have k := Ok_bind k
  refine jr_callV (pc := 6) (st := []) F [iv 72] (snd_X2_goWhileAnyGoes h11_1 (g0 := gs C0 4 0 M) (show Rg 72 from ⟨by decide, by decide⟩) k) (gs_in C0 M 1 1 (by decide)) ck_4_334 rfl (mL_0 h11_1) rfl rfl rfl (by decide) (Nat.le_of_ble_eq_true rfl) dX4_throughInMind_6 rfl (fun v g' hq => ?_)
  obtain ⟨z2, rfl, eg, k⟩ := hq
  rw [gs_comm (by decide)] at eg
  obtain ⟨C3, e4, k⟩ := Ok_let k
  rw [← e4] at eg
  refine J_eq eg ?_
  show J X 9 [(0, .ref (xad X (0, 0, 0)))] [] (gs C3 4 0 M)
  refine jr_aload_n (pc := 9) F 0 dX4_throughInMind_9 rfl rfl ?_
  refine jr_getR (pc := 10) (b := (1, 1, 0)) F f_4_16 m0_0 rfl dX4_throughInMind_10 ?_
  refine jr_iconst (pc := 13) F dX4_throughInMind_13 ?_
  have k := Ok_bind k
  refine jr_callV (pc := 14) (st := []) F [iv 1] (snd_X2_howMany h11_1 (g0 := gs C3 4 0 M) (show Rg 1 from ⟨by decide, by decide⟩) k) (gs_in C3 M 1 1 (by decide)) ck_4_183 rfl (mL_0 h11_1) rfl rfl rfl (by decide) (Nat.le_of_ble_eq_true rfl) dX4_throughInMind_14 rfl (fun v g' hq => ?_)
  obtain ⟨z6, rfl, r5, eg, k⟩ := hq
  rw [← (gs_in C3 M 1 1 (by decide))] at eg
  refine J_eq eg ?_
  show J X 17 [(0, .ref (xad X (0, 0, 0)))] [iv z6] (gs C3 4 0 M)
  exact jr_iret (pc := 17) F hQ rfl dX4_throughInMind_17 ⟨_, _, rfl, r5, rfl, (Ok_some k)⟩
set_option maxHeartbeats 4000000 in
set_option maxRecDepth 100000 in
theorem snd_X4_othersThroughNow {C0 : GG} {v_train : Int} {M : LT} (rgp_train : Rg v_train) {Q : (Int × GG) → Prop} (k : Ok (X4_othersThroughNow C0 v_train) Q) : MetG SL yX4_othersThroughNow cX4_othersThroughNow 3 (some .int) 5 (fun ad => [.ref (ad (0, 0, 0)), iv v_train]) (gs C0 4 0 M) (fun v g' => ∃ (x : Int) (L' : GG), v = some (iv x) ∧ Rg x ∧ g' = gs L' 4 0 M ∧ Q (x, L')) := by
  refine met_intro SL_ok (by decide +kernel) (fun ad => Nat.le_of_ble_eq_true rfl) (fun X F hQ hR => ?_)
  replace F : FX X cX4_othersThroughNow RX4 3 (some .int) SL 5 := F
  show J X 0 [(0, .ref (xad X (0, 0, 0))), (1, iv v_train)] [] (gs C0 4 0 M)
  refine jr_aload_n (pc := 0) F 0 dX4_othersThroughNow_0 rfl rfl ?_
  refine jr_getR (pc := 1) (b := (1, 1, 0)) F f_4_16 m0_0 rfl dX4_othersThroughNow_1 ?_
  refine jr_aload_n (pc := 4) F 0 dX4_othersThroughNow_4 rfl rfl ?_
  refine jr_getR (pc := 5) (b := (1, 0, 0)) F f_4_12 m0_0 rfl dX4_othersThroughNow_5 ?_
  have k := Ok_bind k
  refine jr_callV (pc := 8) (st := []) F [.ref (xad X (1, 0, 0))] (snd_X2_become h11_1 (g0 := gs C0 4 0 M) h11_0 (by decide) rfl  k) (gs_in C0 M 1 1 (by decide)) ck_4_79 rfl (mL_0 h11_1) rfl rfl rfl (by decide) (Nat.le_of_ble_eq_true rfl) dX4_othersThroughNow_8 rfl (fun v g' hq => ?_)
  obtain ⟨z2, rfl, eg, k⟩ := hq
  rw [gs_comm (by decide)] at eg
  obtain ⟨C3, e4, k⟩ := Ok_let k
  rw [← e4] at eg
  refine J_eq eg ?_
  show J X 11 [(0, .ref (xad X (0, 0, 0))), (1, iv v_train)] [] (gs C3 4 0 M)
  refine jr_aload_n (pc := 11) F 0 dX4_othersThroughNow_11 rfl rfl ?_
  have k := Ok_bind k
  refine jr_callV (pc := 12) (st := []) F [] (snd_X4_throughInMind (M := M)  k) rfl ck_4_223 rfl m0_0 rfl rfl rfl (by decide) (Nat.le_of_ble_eq_true rfl) dX4_othersThroughNow_12 rfl (fun v g' hq => ?_)
  obtain ⟨x, L', rfl, r5, eg, k⟩ := hq
  obtain ⟨z6, ez⟩ : ∃ z : Int × GG, z = (x, L') := ⟨_, rfl⟩
  obtain ⟨rfl, rfl⟩ : x = z6.1 ∧ L' = z6.2 := ⟨by rw [ez], by rw [ez]⟩
  clear ez
  refine J_eq eg ?_
  show J X 15 [(0, .ref (xad X (0, 0, 0))), (1, iv v_train)] [iv z6.1] (gs z6.2 4 0 M)
  refine jr_istore_n (pc := 15) F [(2, iv z6.1), (0, .ref (xad X (0, 0, 0))), (1, iv v_train)] dX4_othersThroughNow_15 rfl (by decide) rfl ?_
  obtain ⟨c7, k⟩ := Ok_grd k
  refine jifP (P := fun v => Rg v → J X 36 [(2, iv z6.1), (0, .ref (xad X (0, 0, 0))), (1, iv v_train)] (iv v :: []) (gs z6.2 4 0 M)) (c := (z6.2 1 1 14 v_train) = 1) (w32 (z6.1 - 1)) (z6.1) (fun Ht Hf => ?_) (fun r10 => ?_)
  · refine jr_aload_n (pc := 16) F 1 dX4_othersThroughNow_16 rfl rfl ?_
    refine jr_getR (pc := 17) (b := (1, 1, 0)) F f_4_16 m0_0 rfl dX4_othersThroughNow_17 ?_
    refine jr_getR (pc := 20) (b := (1, 1, 14)) F f_4_180 (mL_0 h11_1) rfl dX4_othersThroughNow_20 ?_
    refine jr_iload_n (pc := 23) F 2 dX4_othersThroughNow_23 rfl rfl ?_
    refine jr_iald (pc := 24) F (z6.2 1 1 14 v_train) (mL_14 h11_1) (by decide) c7 rfl dX4_othersThroughNow_24 (fun r8 => ?_)
    refine jr_iconst (pc := 25) F dX4_othersThroughNow_25 ?_
    refine jr_icmp_ne (pc := 26) (tgt := 35) F r8 (show Rg 1 from ⟨by decide, by decide⟩) dX4_othersThroughNow_26 (by decide) (fun h9 => ?_) (fun h9 => ?_)
    · refine jr_iload_n (pc := 35) F 0 dX4_othersThroughNow_35 rfl rfl ?_
      exact Hf h9 r5
    refine jr_iload_n (pc := 29) F 0 dX4_othersThroughNow_29 rfl rfl ?_
    refine jr_iconst (pc := 30) F dX4_othersThroughNow_30 ?_
    refine jr_isub (pc := 31) F dX4_othersThroughNow_31 ?_
    refine jr_goto (pc := 32) (tgt := 36) F dX4_othersThroughNow_32 (by decide) ?_
    exact Ht h9 (rg_w _)
  exact jr_iret (pc := 36) F hQ rfl dX4_othersThroughNow_36 ⟨_, _, rfl, r10, rfl, (Ok_some k)⟩
set_option maxHeartbeats 4000000 in
set_option maxRecDepth 100000 in
theorem snd_X4_othersThroughWithout {C0 : GG} {v_train : Int} {M : LT} (rgp_train : Rg v_train) {Q : (Int × GG) → Prop} (k : Ok (X4_othersThroughWithout C0 v_train) Q) : MetG SL yX4_othersThroughWithout cX4_othersThroughWithout 2 (some .int) 5 (fun ad => [.ref (ad (0, 0, 0)), iv v_train]) (gs C0 4 0 M) (fun v g' => ∃ (x : Int) (L' : GG), v = some (iv x) ∧ Rg x ∧ g' = gs L' 4 0 M ∧ Q (x, L')) := by
  refine met_intro SL_ok (by decide +kernel) (fun ad => Nat.le_of_ble_eq_true rfl) (fun X F hQ hR => ?_)
  replace F : FX X cX4_othersThroughWithout RX4 2 (some .int) SL 5 := F
  show J X 0 [(0, .ref (xad X (0, 0, 0))), (1, iv v_train)] [] (gs C0 4 0 M)
  refine jr_aload_n (pc := 0) F 0 dX4_othersThroughWithout_0 rfl rfl ?_
  refine jr_getR (pc := 1) (b := (1, 1, 0)) F f_4_16 m0_0 rfl dX4_othersThroughWithout_1 ?_
  refine jr_aload_n (pc := 4) F 0 dX4_othersThroughWithout_4 rfl rfl ?_
  refine jr_getR (pc := 5) (b := (1, 0, 0)) F f_4_12 m0_0 rfl dX4_othersThroughWithout_5 ?_
  have k := Ok_bind k
  refine jr_callV (pc := 8) (st := []) F [.ref (xad X (1, 0, 0))] (snd_X2_become h11_1 (g0 := gs C0 4 0 M) h11_0 (by decide) rfl  k) (gs_in C0 M 1 1 (by decide)) ck_4_79 rfl (mL_0 h11_1) rfl rfl rfl (by decide) (Nat.le_of_ble_eq_true rfl) dX4_othersThroughWithout_8 rfl (fun v g' hq => ?_)
  obtain ⟨z2, rfl, eg, k⟩ := hq
  rw [gs_comm (by decide)] at eg
  obtain ⟨C3, e4, k⟩ := Ok_let k
  rw [← e4] at eg
  refine J_eq eg ?_
  show J X 11 [(0, .ref (xad X (0, 0, 0))), (1, iv v_train)] [] (gs C3 4 0 M)
  refine jr_aload_n (pc := 11) F 0 dX4_othersThroughWithout_11 rfl rfl ?_
  refine jr_getR (pc := 12) (b := (1, 1, 0)) F f_4_16 m0_0 rfl dX4_othersThroughWithout_12 ?_
  refine jr_getR (pc := 15) (b := (1, 1, 14)) F f_4_180 (mL_0 h11_1) rfl dX4_othersThroughWithout_15 ?_
  refine jr_iload_n (pc := 18) F 1 dX4_othersThroughWithout_18 rfl rfl ?_
  refine jr_iconst (pc := 19) F dX4_othersThroughWithout_19 ?_
  obtain ⟨c5, k⟩ := Ok_grd k
  obtain ⟨C6, e7, k⟩ := Ok_let k
  refine jr_iast (pc := 20) F (gs C6 4 0 M) (mL_14 h11_1) (by decide) c5 (show Rg 3 from ⟨by decide, by decide⟩) (put2 e7 (by decide)) dX4_othersThroughWithout_20 ?_
  refine jr_aload_n (pc := 21) F 0 dX4_othersThroughWithout_21 rfl rfl ?_
  have k := Ok_bind k
  refine jr_callV (pc := 22) (st := []) F [] (snd_X4_throughInMind (M := M)  k) rfl ck_4_223 rfl m0_0 rfl rfl rfl (by decide) (Nat.le_of_ble_eq_true rfl) dX4_othersThroughWithout_22 rfl (fun v g' hq => ?_)
  obtain ⟨x, L', rfl, r8, eg, k⟩ := hq
  obtain ⟨z9, ez⟩ : ∃ z : Int × GG, z = (x, L') := ⟨_, rfl⟩
  obtain ⟨rfl, rfl⟩ : x = z9.1 ∧ L' = z9.2 := ⟨by rw [ez], by rw [ez]⟩
  clear ez
  refine J_eq eg ?_
  show J X 25 [(0, .ref (xad X (0, 0, 0))), (1, iv v_train)] [iv z9.1] (gs z9.2 4 0 M)
  exact jr_iret (pc := 25) F hQ rfl dX4_othersThroughWithout_25 ⟨_, _, rfl, r8, rfl, (Ok_some k)⟩
