set_option maxHeartbeats 4000000 in
set_option maxRecDepth 100000 in
theorem snd_X5_tells {L0 : LT} {g0 : GG}  {Q : (Int × LT) → Prop} (k : Ok (X5_tells L0) Q) : MetG SL yX5_tells cX5_tells 3 (some .int) 1 (fun ad => [.ref (ad (4, 0, 0))]) (gs g0 4 0 L0) (fun v g' => ∃ (x : Int) (L' : LT), v = some (iv x) ∧ Rg x ∧ g' = gs g0 4 0 L' ∧ Q (x, L')) := by
  refine met_intro SL_ok (by decide +kernel) (fun ad => Nat.le_of_ble_eq_true rfl) (fun X F hQ hR => ?_)
  replace F : FX X cX5_tells RX5 3 (some .int) SL 1 := F
  show J X 0 [(0, .ref (xad X (4, 0, 0)))] [] (gs g0 4 0 L0)
  refine jr_aload_n (pc := 0) F 0 dX5_tells_0 rfl rfl ?_
  refine jr_iconst (pc := 1) F dX5_tells_1 ?_
  obtain ⟨L1, e2, k⟩ := Ok_let k
  refine jr_putI (pc := 2) F (gs g0 4 0 L1) fw_5_92 m4_0 rfl (show Rg 0 from ⟨by decide, by decide⟩) (put1 e2) dX5_tells_2 ?_
  refine jr_iconst (pc := 5) F dX5_tells_5 ?_
  refine jr_istore_n (pc := 6) F [(1, iv 0), (0, .ref (xad X (4, 0, 0)))] dX5_tells_6 rfl (by decide) rfl ?_
  refine jr_iconst (pc := 7) F dX5_tells_7 ?_
  refine jr_istore_n (pc := 8) F [(2, iv 1), (1, iv 0), (0, .ref (xad X (4, 0, 0)))] dX5_tells_8 rfl (by decide) rfl ?_
  refine jr_sub F [2, 1, 0] [(0, .ref (xad X (4, 0, 0))), (1, iv 0), (2, iv 1)] rfl ?_
  refine lpj (P := fun s : Int × Int => Rg (s.1) → Rg (s.2) → J X 9 [(0, .ref (xad X (4, 0, 0))), (1, iv s.1), (2, iv s.2)] [] (gs g0 4 0 L1)) (PE := fun r : Int × Int => Rg (r.1) → Rg (r.2) → J X 42 [(0, .ref (xad X (4, 0, 0))), (1, iv r.1), (2, iv r.2)] [] (gs g0 4 0 L1)) k (fun s3 Q4 k hC5 hE6 r8 r9 => ?_) (fun z7 k => ?_) (fun h => h (show Rg 0 from ⟨by decide, by decide⟩) (show Rg 1 from ⟨by decide, by decide⟩))
  · refine jr_iload_n (pc := 9) F 2 dX5_tells_9 rfl rfl ?_
    refine jr_aload_n (pc := 10) F 0 dX5_tells_10 rfl rfl ?_
    refine jr_getI (pc := 11) F (L1 0 0) f_5_7 m4_0 rfl (gs_at' _ _ _ _ _ _) dX5_tells_11 (fun r10 => ?_)
    refine jr_icmp_ge (pc := 14) (tgt := 42) F r9 r10 dX5_tells_14 (by decide) (fun h11 => ?_) (fun h11 => ?_)
    · have k := Ok_f (ng_lt h11) k
      exact hE6 (s3.1, s3.2) (Ok_some k) r8 r9
    have k := Ok_t h11 k
    obtain ⟨c12, k⟩ := Ok_grd k
    obtain ⟨c13, k⟩ := Ok_grd k
    refine jifP (P := fun v => Rg v → J X 35 [(0, .ref (xad X (4, 0, 0))), (1, iv s3.1), (2, iv s3.2)] (iv v :: []) (gs g0 4 0 L1)) (c := (X5_besideMean_v L1 s3.2) < (X5_besideMean_v L1 s3.1)) (s3.2) (s3.1) (fun Ht Hf => ?_) (fun r17 => ?_)
    · refine jr_aload_n (pc := 17) F 0 dX5_tells_17 rfl rfl ?_
      refine jr_iload_n (pc := 18) F 2 dX5_tells_18 rfl rfl ?_
      refine jr_callV (pc := 19) (st := []) F [iv s3.2] (snd_X5_besideMean  (g0 := g0) r9 (X5_besideMean_ok _ _ c12)) rfl ck_5_279 rfl m4_0 rfl rfl rfl (by decide) (Nat.le_of_ble_eq_true rfl) dX5_tells_19 rfl (fun v g' hq => ?_)
      obtain ⟨x, rfl, r14, eg, hx⟩ := hq
      subst hx
      refine J_eq eg ?_
      show J X 22 [(0, .ref (xad X (4, 0, 0))), (1, iv s3.1), (2, iv s3.2)] [iv (X5_besideMean_v L1 s3.2)] (gs g0 4 0 L1)
      refine jr_aload_n (pc := 22) F 0 dX5_tells_22 rfl rfl ?_
      refine jr_iload_n (pc := 23) F 1 dX5_tells_23 rfl rfl ?_
      refine jr_callV (pc := 24) (st := [iv (X5_besideMean_v L1 s3.2)]) F [iv s3.1] (snd_X5_besideMean  (g0 := g0) r8 (X5_besideMean_ok _ _ c13)) rfl ck_5_279 rfl m4_0 rfl rfl rfl (by decide) (Nat.le_of_ble_eq_true rfl) dX5_tells_24 rfl (fun v g' hq => ?_)
      obtain ⟨x, rfl, r15, eg, hx⟩ := hq
      subst hx
      refine J_eq eg ?_
      show J X 27 [(0, .ref (xad X (4, 0, 0))), (1, iv s3.1), (2, iv s3.2)] [iv (X5_besideMean_v L1 s3.1), iv (X5_besideMean_v L1 s3.2)] (gs g0 4 0 L1)
      refine jr_icmp_ge (pc := 27) (tgt := 34) F r14 r15 dX5_tells_27 (by decide) (fun h16 => ?_) (fun h16 => ?_)
      · refine jr_iload_n (pc := 34) F 1 dX5_tells_34 rfl rfl ?_
        exact Hf (ng_lt h16) r8
      refine jr_iload_n (pc := 30) F 2 dX5_tells_30 rfl rfl ?_
      refine jr_goto (pc := 31) (tgt := 35) F dX5_tells_31 (by decide) ?_
      exact Ht h16 r9
    obtain ⟨x18, e19, k⟩ := Ok_let k
    have r20 : Rg x18 := rg_of e19 r17
    refine jr_top e19 ?_
    refine jr_istore_n (pc := 35) F [(1, iv x18), (0, .ref (xad X (4, 0, 0))), (2, iv s3.2)] dX5_tells_35 rfl (by decide) rfl ?_
    refine jr_iinc (pc := 36) F [(2, iv (w32 (s3.2 + 1))), (1, iv x18), (0, .ref (xad X (4, 0, 0)))] 2 dX5_tells_36 rfl (by decide) rfl ?_
    refine jr_goto (pc := 39) (tgt := 9) F dX5_tells_39 (by decide) ?_
    refine jr_sub F [2, 1, 0] [(0, .ref (xad X (4, 0, 0))), (1, iv x18), (2, iv (w32 (s3.2 + 1)))] rfl ?_
    exact hC5 (x18, w32 (s3.2 + 1)) (Ok_some k) r20 (rg_w _)
  intro r21 r22
  refine jr_iload_n (pc := 42) F 1 dX5_tells_42 rfl rfl ?_
  exact jr_iret (pc := 43) F hQ rfl dX5_tells_43 ⟨_, _, rfl, r21, rfl, (Ok_some k)⟩
set_option maxHeartbeats 4000000 in
set_option maxRecDepth 100000 in
theorem snd_X5_thaw {L0 : LT} {g0 : GG}  {Q : (Int × LT) → Prop} (k : Ok (X5_thaw L0) Q) : MetG SL yX5_thaw cX5_thaw 5 (some .int) 4 (fun ad => [.ref (ad (4, 0, 0))]) (gs g0 4 0 L0) (fun v g' => ∃ (x : Int) (L' : LT), v = some (iv x) ∧ Rg x ∧ g' = gs g0 4 0 L' ∧ Q (x, L')) := by
  refine met_intro SL_ok (by decide +kernel) (fun ad => Nat.le_of_ble_eq_true rfl) (fun X F hQ hR => ?_)
  replace F : FX X cX5_thaw RX5 5 (some .int) SL 4 := F
  show J X 0 [(0, .ref (xad X (4, 0, 0)))] [] (gs g0 4 0 L0)
  refine jr_aload_n (pc := 0) F 0 dX5_thaw_0 rfl rfl ?_
  refine jr_iconst (pc := 1) F dX5_thaw_1 ?_
  obtain ⟨L1, e2, k⟩ := Ok_let k
  refine jr_putI (pc := 2) F (gs g0 4 0 L1) fw_5_92 m4_0 rfl (show Rg 0 from ⟨by decide, by decide⟩) (put1 e2) dX5_thaw_2 ?_
  refine jr_bipush (pc := 5) F dX5_thaw_5 (by decide) ?_
  refine jr_istore_n (pc := 7) F [(1, iv (-9)), (0, .ref (xad X (4, 0, 0)))] dX5_thaw_7 rfl (by decide) rfl ?_
  refine jr_aload_n (pc := 8) F 1 dX5_thaw_8 rfl rfl ?_
  have k := Ok_bind k
  refine jr_callV (pc := 9) (st := []) F [] (snd_X5_open  (g0 := g0)  k) rfl ck_5_203 rfl m4_0 rfl rfl rfl (by decide) (Nat.le_of_ble_eq_true rfl) dX5_thaw_9 rfl (fun v g' hq => ?_)
  obtain ⟨z4, rfl, eg, k⟩ := hq
  refine J_eq eg ?_
  show J X 12 [(1, iv (-9)), (0, .ref (xad X (4, 0, 0)))] [] (gs g0 4 0 z4)
  refine jr_iconst (pc := 12) F dX5_thaw_12 ?_
  refine jr_istore_n (pc := 13) F [(2, iv 0), (1, iv (-9)), (0, .ref (xad X (4, 0, 0)))] dX5_thaw_13 rfl (by decide) rfl ?_
  refine jr_sub F [2, 1, 0] [(0, .ref (xad X (4, 0, 0))), (1, iv (-9)), (2, iv 0)] rfl ?_
  refine lpj (P := fun s : Int × Int × LT => Rg (s.1) → Rg (s.2.1) → J X 14 [(0, .ref (xad X (4, 0, 0))), (1, iv s.1), (2, iv s.2.1)] [] (gs g0 4 0 s.2.2)) (PE := fun r : Int × Int × LT => Rg (r.1) → Rg (r.2.1) → J X 89 [(0, .ref (xad X (4, 0, 0))), (1, iv r.1), (2, iv r.2.1)] [] (gs g0 4 0 r.2.2)) k (fun s5 Q6 k hC7 hE8 r10 r11 => ?_) (fun z9 k => ?_) (fun h => h (show Rg (-9) from ⟨by decide, by decide⟩) (show Rg 0 from ⟨by decide, by decide⟩))
  · refine cnd (c := (s5.2.1 ≤ 72) ∧ (s5.1 < 0)) (GT := J X 24 [(0, .ref (xad X (4, 0, 0))), (1, iv s5.1), (2, iv s5.2.1)] [] (gs g0 4 0 s5.2.2)) (GF := J X 89 [(0, .ref (xad X (4, 0, 0))), (1, iv s5.1), (2, iv s5.2.1)] [] (gs g0 4 0 s5.2.2)) k (fun HT HF => ?_) (fun h14 k => ?_) (fun h14 k => ?_)
    · refine jr_iload_n (pc := 14) F 2 dX5_thaw_14 rfl rfl ?_
      refine jr_bipush (pc := 15) F dX5_thaw_15 (by decide) ?_
      refine jr_icmp_gt (pc := 17) (tgt := 89) F r11 (show Rg 72 from ⟨by decide, by decide⟩) dX5_thaw_17 (by decide) (fun h12 => ?_) (fun h12 => ?_)
      · exact HF (fun q => (ng_le h12) q.1)
      refine jr_iload_n (pc := 20) F 1 dX5_thaw_20 rfl rfl ?_
      refine jr_if_ge (pc := 21) (tgt := 89) F r10 dX5_thaw_21 (by decide) (fun h13 => ?_) (fun h13 => ?_)
      · exact HF (fun q => (ng_lt h13) q.2)
      exact HT ⟨h12, h13⟩
    · refine jn (P := fun v : LT => J X 32 [(0, .ref (xad X (4, 0, 0))), (1, iv s5.1), (2, iv s5.2.1)] [] (gs g0 4 0 v)) k (fun Q16 k hJ17 => ?_) (fun z15 k  => ?_)
      · refine jr_iload_n (pc := 24) F 2 dX5_thaw_24 rfl rfl ?_
        refine jr_if_le (pc := 25) (tgt := 32) F r11 dX5_thaw_25 (by decide) (fun h19 => ?_) (fun h19 => ?_)
        · have k := Ok_f (ng_lt h19) k
          exact hJ17 s5.2.2 (Ok_some k) 
        have k := Ok_t h19 k
        refine jr_aload_n (pc := 28) F 0 dX5_thaw_28 rfl rfl ?_
        have k := Ok_bind k
        refine jr_callV (pc := 29) (st := []) F [] (snd_X5_hourOn  (g0 := g0)  k) rfl ck_5_133 rfl m4_0 rfl rfl rfl (by decide) (Nat.le_of_ble_eq_true rfl) dX5_thaw_29 rfl (fun v g' hq => ?_)
        obtain ⟨z21, rfl, eg, k⟩ := hq
        refine J_eq eg ?_
        show J X 32 [(0, .ref (xad X (4, 0, 0))), (1, iv s5.1), (2, iv s5.2.1)] [] (gs g0 4 0 z21)
        exact hJ17 z21 (Ok_some k) 
      refine jr_iconst (pc := 32) F dX5_thaw_32 ?_
      refine jr_istore_n (pc := 33) F [(3, iv 0), (0, .ref (xad X (4, 0, 0))), (1, iv s5.1), (2, iv s5.2.1)] dX5_thaw_33 rfl (by decide) rfl ?_
      refine jr_iconst (pc := 34) F dX5_thaw_34 ?_
      refine jr_istore (pc := 35) F [(4, iv 0), (3, iv 0), (0, .ref (xad X (4, 0, 0))), (1, iv s5.1), (2, iv s5.2.1)] dX5_thaw_35 (by decide) rfl ?_
      refine jr_sub F [2, 3, 4, 1, 0] [(0, .ref (xad X (4, 0, 0))), (1, iv s5.1), (2, iv s5.2.1), (3, iv 0), (4, iv 0)] rfl ?_
      refine lpj (P := fun s : Int × Int => Bz (s.1) → Rg (s.2) → J X 37 [(0, .ref (xad X (4, 0, 0))), (1, iv s5.1), (2, iv s5.2.1), (3, iv s.1), (4, iv s.2)] [] (gs g0 4 0 z15)) (PE := fun r : Int × Int => Bz (r.1) → Rg (r.2) → J X 72 [(0, .ref (xad X (4, 0, 0))), (1, iv s5.1), (2, iv s5.2.1), (3, iv r.1), (4, iv r.2)] [] (gs g0 4 0 z15)) k (fun s22 Q23 k hC24 hE25 r27 r28 => ?_) (fun z26 k => ?_) (fun h => h (Or.inl rfl) (show Rg 0 from ⟨by decide, by decide⟩))
      · refine jr_iload (pc := 37) F 4 dX5_thaw_37 rfl ?_
        refine jr_aload_n (pc := 39) F 0 dX5_thaw_39 rfl rfl ?_
        refine jr_getI (pc := 40) F (z15 0 0) f_5_7 m4_0 rfl (gs_at' _ _ _ _ _ _) dX5_thaw_40 (fun r29 => ?_)
        refine jr_icmp_ge (pc := 43) (tgt := 72) F r28 r29 dX5_thaw_43 (by decide) (fun h30 => ?_) (fun h30 => ?_)
        · have k := Ok_f (ng_lt h30) k
          exact hE25 (s22.1, s22.2) (Ok_some k) r27 r28
        have k := Ok_t h30 k
        obtain ⟨c31, k⟩ := Ok_grd k
        refine jifP (P := fun v => Bz v → J X 65 [(0, .ref (xad X (4, 0, 0))), (1, iv s5.1), (2, iv s5.2.1), (3, iv s22.1), (4, iv s22.2)] (iv v :: []) (gs g0 4 0 z15)) (c := (¬ s22.1 = 0) ∨ (¬ (X5_bears_v z15 s22.2 1) = 0)) (1) (0) (fun Ht Hf => ?_) (fun r35 => ?_)
        · refine jr_iload_n (pc := 46) F 3 dX5_thaw_46 rfl rfl ?_
          refine jr_if_ne (pc := 47) (tgt := 60) F (rg_z r27) dX5_thaw_47 (by decide) (fun h32 => ?_) (fun h32 => ?_)
          · refine jr_iconst (pc := 60) F dX5_thaw_60 ?_
            refine jr_goto (pc := 61) (tgt := 65) F dX5_thaw_61 (by decide) ?_
            exact Ht (Or.inl h32) (Or.inr rfl)
          refine jr_aload_n (pc := 50) F 0 dX5_thaw_50 rfl rfl ?_
          refine jr_iload (pc := 51) F 4 dX5_thaw_51 rfl ?_
          refine jr_iconst (pc := 53) F dX5_thaw_53 ?_
          refine jr_callV (pc := 54) (st := []) F [iv s22.2, iv 1] (snd_X5_bears  (g0 := g0) r28 (show Rg 1 from ⟨by decide, by decide⟩) (X5_bears_ok _ _ _ (c31 (fun q => q h32)))) rfl ck_5_110 rfl m4_0 rfl rfl rfl (by decide) (Nat.le_of_ble_eq_true rfl) dX5_thaw_54 rfl (fun v g' hq => ?_)
          obtain ⟨x, rfl, r33, eg, hx⟩ := hq
          subst hx
          refine J_eq eg ?_
          show J X 57 [(0, .ref (xad X (4, 0, 0))), (1, iv s5.1), (2, iv s5.2.1), (3, iv s22.1), (4, iv s22.2)] [iv (X5_bears_v z15 s22.2 1)] (gs g0 4 0 z15)
          refine jr_if_eq (pc := 57) (tgt := 64) F (rg_z r33) dX5_thaw_57 (by decide) (fun h34 => ?_) (fun h34 => ?_)
          · refine jr_iconst (pc := 64) F dX5_thaw_64 ?_
            exact Hf (fun q => q.elim (fun q => q h32) (fun q => q h34)) (Or.inl rfl)
          refine jr_iconst (pc := 60) F dX5_thaw_60 ?_
          refine jr_goto (pc := 61) (tgt := 65) F dX5_thaw_61 (by decide) ?_
          exact Ht (Or.inr h34) (Or.inr rfl)
        obtain ⟨x36, e37, k⟩ := Ok_let k
        have r38 : Bz x36 := bz_of e37 r35
        refine jr_top e37 ?_
        refine jr_istore_n (pc := 65) F [(3, iv x36), (0, .ref (xad X (4, 0, 0))), (1, iv s5.1), (2, iv s5.2.1), (4, iv s22.2)] dX5_thaw_65 rfl (by decide) rfl ?_
        refine jr_iinc (pc := 66) F [(4, iv (w32 (s22.2 + 1))), (3, iv x36), (0, .ref (xad X (4, 0, 0))), (1, iv s5.1), (2, iv s5.2.1)] 4 dX5_thaw_66 rfl (by decide) rfl ?_
        refine jr_goto (pc := 69) (tgt := 37) F dX5_thaw_69 (by decide) ?_
        refine jr_sub F [2, 3, 4, 1, 0] [(0, .ref (xad X (4, 0, 0))), (1, iv s5.1), (2, iv s5.2.1), (3, iv x36), (4, iv (w32 (s22.2 + 1)))] rfl ?_
        exact hC24 (x36, w32 (s22.2 + 1)) (Ok_some k) r38 (rg_w _)
      intro r39 r40
      refine jifP (P := fun v => Rg v → J X 82 [(0, .ref (xad X (4, 0, 0))), (1, iv s5.1), (2, iv s5.2.1), (3, iv z26.1), (4, iv z26.2)] (iv v :: []) (gs g0 4 0 z15)) (c := ¬ z26.1 = 0) ((-9)) (s5.2.1) (fun Ht Hf => ?_) (fun r42 => ?_)
      · refine jr_iload_n (pc := 72) F 3 dX5_thaw_72 rfl rfl ?_
        refine jr_if_eq (pc := 73) (tgt := 81) F (rg_z r39) dX5_thaw_73 (by decide) (fun h41 => ?_) (fun h41 => ?_)
        · refine jr_iload_n (pc := 81) F 2 dX5_thaw_81 rfl rfl ?_
          exact Hf (fun q => q h41) r11
        refine jr_bipush (pc := 76) F dX5_thaw_76 (by decide) ?_
        refine jr_goto (pc := 78) (tgt := 82) F dX5_thaw_78 (by decide) ?_
        exact Ht h41 (show Rg (-9) from ⟨by decide, by decide⟩)
      obtain ⟨x43, e44, k⟩ := Ok_let k
      have r45 : Rg x43 := rg_of e44 r42
      refine jr_top e44 ?_
      refine jr_istore_n (pc := 82) F [(1, iv x43), (0, .ref (xad X (4, 0, 0))), (2, iv s5.2.1), (3, iv z26.1), (4, iv z26.2)] dX5_thaw_82 rfl (by decide) rfl ?_
      refine jr_iinc (pc := 83) F [(2, iv (w32 (s5.2.1 + 1))), (1, iv x43), (0, .ref (xad X (4, 0, 0))), (3, iv z26.1), (4, iv z26.2)] 2 dX5_thaw_83 rfl (by decide) rfl ?_
      refine jr_goto (pc := 86) (tgt := 14) F dX5_thaw_86 (by decide) ?_
      refine jr_sub F [2, 1, 0] [(0, .ref (xad X (4, 0, 0))), (1, iv x43), (2, iv (w32 (s5.2.1 + 1)))] rfl ?_
      exact hC7 (x43, w32 (s5.2.1 + 1), z15) (Ok_some k) r45 (rg_w _)
    exact hE8 (s5.1, s5.2.1, s5.2.2) (Ok_some k) r10 r11
  intro r46 r47
  refine jr_aload_n (pc := 89) F 0 dX5_thaw_89 rfl rfl ?_
  have k := Ok_bind k
  refine jr_callV (pc := 90) (st := []) F [] (snd_X5_close  (g0 := g0)  k) rfl ck_5_209 rfl m4_0 rfl rfl rfl (by decide) (Nat.le_of_ble_eq_true rfl) dX5_thaw_90 rfl (fun v g' hq => ?_)
  obtain ⟨z49, rfl, eg, k⟩ := hq
  refine J_eq eg ?_
  show J X 93 [(0, .ref (xad X (4, 0, 0))), (1, iv z9.1), (2, iv z9.2.1)] [] (gs g0 4 0 z49)
  refine jr_iload_n (pc := 93) F 1 dX5_thaw_93 rfl rfl ?_
  exact jr_iret (pc := 94) F hQ rfl dX5_thaw_94 ⟨_, _, rfl, r46, rfl, (Ok_some k)⟩
set_option maxHeartbeats 4000000 in
set_option maxRecDepth 100000 in
theorem snd_X5_thin {L0 : LT} {v_n : Int} {v_weight : Int} {g0 : GG} (rgp_n : Rg v_n) (rgp_weight : Rg v_weight) {Q : (Int × LT) → Prop} (k : Ok (X5_thin L0 v_n v_weight) Q) : MetG SL yX5_thin cX5_thin 6 (some .int) 5 (fun ad => [.ref (ad (4, 0, 0)), iv v_n, iv v_weight]) (gs g0 4 0 L0) (fun v g' => ∃ (x : Int) (L' : LT), v = some (iv x) ∧ Rg x ∧ g' = gs g0 4 0 L' ∧ Q (x, L')) := by
  refine met_intro SL_ok (by decide +kernel) (fun ad => Nat.le_of_ble_eq_true rfl) (fun X F hQ hR => ?_)
  replace F : FX X cX5_thin RX5 6 (some .int) SL 5 := F
  show J X 0 [(0, .ref (xad X (4, 0, 0))), (1, iv v_n), (2, iv v_weight)] [] (gs g0 4 0 L0)
  refine jr_aload_n (pc := 0) F 0 dX5_thin_0 rfl rfl ?_
  refine jr_iconst (pc := 1) F dX5_thin_1 ?_
  obtain ⟨L1, e2, k⟩ := Ok_let k
  refine jr_putI (pc := 2) F (gs g0 4 0 L1) fw_5_92 m4_0 rfl (show Rg 0 from ⟨by decide, by decide⟩) (put1 e2) dX5_thin_2 ?_
  refine jifP (P := fun v => Rg v → J X 37 [(0, .ref (xad X (4, 0, 0))), (1, iv v_n), (2, iv v_weight)] (iv v :: []) (gs g0 4 0 L1)) (c := (v_n < 0) ∨ (v_weight < 1)) ((-4)) (if (72 < v_n) ∨ (60 < v_weight) then (-6) else 0) (fun Ht Hf => ?_) (fun r8 => ?_)
  · refine jr_iload_n (pc := 5) F 1 dX5_thin_5 rfl rfl ?_
    refine jr_if_lt (pc := 6) (tgt := 14) F rgp_n dX5_thin_6 (by decide) (fun h3 => ?_) (fun h3 => ?_)
    · refine jr_bipush (pc := 14) F dX5_thin_14 (by decide) ?_
      refine jr_goto (pc := 16) (tgt := 37) F dX5_thin_16 (by decide) ?_
      exact Ht (Or.inl h3) (show Rg (-4) from ⟨by decide, by decide⟩)
    refine jr_iload_n (pc := 9) F 2 dX5_thin_9 rfl rfl ?_
    refine jr_iconst (pc := 10) F dX5_thin_10 ?_
    refine jr_icmp_ge (pc := 11) (tgt := 19) F rgp_weight (show Rg 1 from ⟨by decide, by decide⟩) dX5_thin_11 (by decide) (fun h4 => ?_) (fun h4 => ?_)
    · refine jifP (P := fun v => Rg v → J X 37 [(0, .ref (xad X (4, 0, 0))), (1, iv v_n), (2, iv v_weight)] (iv v :: []) (gs g0 4 0 L1)) (c := (72 < v_n) ∨ (60 < v_weight)) ((-6)) (0) (fun Ht Hf => ?_) (fun r7 => ?_)
      · refine jr_iload_n (pc := 19) F 1 dX5_thin_19 rfl rfl ?_
        refine jr_bipush (pc := 20) F dX5_thin_20 (by decide) ?_
        refine jr_icmp_gt (pc := 22) (tgt := 31) F rgp_n (show Rg 72 from ⟨by decide, by decide⟩) dX5_thin_22 (by decide) (fun h5 => ?_) (fun h5 => ?_)
        · refine jr_bipush (pc := 31) F dX5_thin_31 (by decide) ?_
          refine jr_goto (pc := 33) (tgt := 37) F dX5_thin_33 (by decide) ?_
          exact Ht (Or.inl h5) (show Rg (-6) from ⟨by decide, by decide⟩)
        refine jr_iload_n (pc := 25) F 2 dX5_thin_25 rfl rfl ?_
        refine jr_bipush (pc := 26) F dX5_thin_26 (by decide) ?_
        refine jr_icmp_le (pc := 28) (tgt := 36) F rgp_weight (show Rg 60 from ⟨by decide, by decide⟩) dX5_thin_28 (by decide) (fun h6 => ?_) (fun h6 => ?_)
        · refine jr_iconst (pc := 36) F dX5_thin_36 ?_
          exact Hf (fun q => q.elim (ng_lt h5) (ng_lt h6)) (show Rg 0 from ⟨by decide, by decide⟩)
        refine jr_bipush (pc := 31) F dX5_thin_31 (by decide) ?_
        refine jr_goto (pc := 33) (tgt := 37) F dX5_thin_33 (by decide) ?_
        exact Ht (Or.inr h6) (show Rg (-6) from ⟨by decide, by decide⟩)
      exact Hf (fun q => q.elim (ng_lt h3) (ng_lt h4)) r7
    refine jr_bipush (pc := 14) F dX5_thin_14 (by decide) ?_
    refine jr_goto (pc := 16) (tgt := 37) F dX5_thin_16 (by decide) ?_
    exact Ht (Or.inr h4) (show Rg (-4) from ⟨by decide, by decide⟩)
  obtain ⟨x9, e10, k⟩ := Ok_let k
  have r11 : Rg x9 := rg_of e10 r8
  refine jr_top e10 ?_
  refine jr_istore_n (pc := 37) F [(3, iv x9), (0, .ref (xad X (4, 0, 0))), (1, iv v_n), (2, iv v_weight)] dX5_thin_37 rfl (by decide) rfl ?_
  refine jr_iload_n (pc := 38) F 0 dX5_thin_38 rfl rfl ?_
  refine jr_if_ge (pc := 39) (tgt := 48) F r11 dX5_thin_39 (by decide) (fun h12 => ?_) (fun h12 => ?_)
  · have k := Ok_f (ng_lt h12) k
    refine jr_aload_n (pc := 48) F 1 dX5_thin_48 rfl rfl ?_
    have k := Ok_bind k
    refine jr_callV (pc := 49) (st := []) F [] (snd_X5_open  (g0 := g0)  k) rfl ck_5_203 rfl m4_0 rfl rfl rfl (by decide) (Nat.le_of_ble_eq_true rfl) dX5_thin_49 rfl (fun v g' hq => ?_)
    obtain ⟨z14, rfl, eg, k⟩ := hq
    refine J_eq eg ?_
    show J X 52 [(3, iv x9), (0, .ref (xad X (4, 0, 0))), (1, iv v_n), (2, iv v_weight)] [] (gs g0 4 0 z14)
    refine jr_aload_n (pc := 52) F 1 dX5_thin_52 rfl rfl ?_
    refine jr_iload_n (pc := 53) F 2 dX5_thin_53 rfl rfl ?_
    have k := Ok_bind k
    refine jr_callV (pc := 54) (st := []) F [iv v_n] (snd_X5_goHours  (g0 := g0) rgp_n k) rfl ck_5_197 rfl m4_0 rfl rfl rfl (by decide) (Nat.le_of_ble_eq_true rfl) dX5_thin_54 rfl (fun v g' hq => ?_)
    obtain ⟨z16, rfl, eg, k⟩ := hq
    refine J_eq eg ?_
    show J X 57 [(3, iv x9), (0, .ref (xad X (4, 0, 0))), (1, iv v_n), (2, iv v_weight)] [] (gs g0 4 0 z16)
    refine jr_bipush (pc := 57) F dX5_thin_57 (by decide) ?_
    refine jr_istore (pc := 59) F [(4, iv (-9)), (3, iv x9), (0, .ref (xad X (4, 0, 0))), (1, iv v_n), (2, iv v_weight)] dX5_thin_59 (by decide) rfl ?_
    refine jr_aload_n (pc := 61) F 2 dX5_thin_61 rfl rfl ?_
    refine jr_getI (pc := 62) F (z16 0 0) f_5_7 m4_0 rfl (gs_at' _ _ _ _ _ _) dX5_thin_62 (fun r17 => ?_)
    refine jr_iconst (pc := 65) F dX5_thin_65 ?_
    refine jr_isub (pc := 66) F dX5_thin_66 ?_
    obtain ⟨x18, e19, k⟩ := Ok_let k
    have r20 : Rg x18 := rg_of e19 (rg_w _)
    refine jr_top e19 ?_
    refine jr_istore (pc := 67) F [(5, iv x18), (4, iv (-9)), (3, iv x9), (0, .ref (xad X (4, 0, 0))), (1, iv v_n), (2, iv v_weight)] dX5_thin_67 (by decide) rfl ?_
    refine jr_sub F [3, 4, 5, 2, 1, 0] [(0, .ref (xad X (4, 0, 0))), (1, iv v_n), (2, iv v_weight), (3, iv x9), (4, iv (-9)), (5, iv x18)] rfl ?_
    refine lpj (P := fun s : Int × Int => Rg (s.1) → Rg (s.2) → J X 69 [(0, .ref (xad X (4, 0, 0))), (1, iv v_n), (2, iv v_weight), (3, iv x9), (4, iv s.1), (5, iv s.2)] [] (gs g0 4 0 z16)) (PE := fun r : Int × Int => Rg (r.1) → Rg (r.2) → J X 99 [(0, .ref (xad X (4, 0, 0))), (1, iv v_n), (2, iv v_weight), (3, iv x9), (4, iv r.1), (5, iv r.2)] [] (gs g0 4 0 z16)) k (fun s21 Q22 k hC23 hE24 r26 r27 => ?_) (fun z25 k => ?_) (fun h => h (show Rg (-9) from ⟨by decide, by decide⟩) r20)
    · refine jr_iload (pc := 69) F 5 dX5_thin_69 rfl ?_
      refine jr_if_lt (pc := 71) (tgt := 99) F r27 dX5_thin_71 (by decide) (fun h28 => ?_) (fun h28 => ?_)
      · have k := Ok_f (ng_le h28) k
        exact hE24 (s21.1, s21.2) (Ok_some k) r26 r27
      have k := Ok_t h28 k
      obtain ⟨c29, k⟩ := Ok_grd k
      refine jifP (P := fun v => Rg v → J X 91 [(0, .ref (xad X (4, 0, 0))), (1, iv v_n), (2, iv v_weight), (3, iv x9), (4, iv s21.1), (5, iv s21.2)] (iv v :: []) (gs g0 4 0 z16)) (c := ¬ (X5_bears_v z16 s21.2 v_weight) = 0) (s21.1) (s21.2) (fun Ht Hf => ?_) (fun r32 => ?_)
      · refine jr_aload_n (pc := 74) F 0 dX5_thin_74 rfl rfl ?_
        refine jr_iload (pc := 75) F 5 dX5_thin_75 rfl ?_
        refine jr_iload_n (pc := 77) F 2 dX5_thin_77 rfl rfl ?_
        refine jr_callV (pc := 78) (st := []) F [iv s21.2, iv v_weight] (snd_X5_bears  (g0 := g0) r27 rgp_weight (X5_bears_ok _ _ _ c29)) rfl ck_5_110 rfl m4_0 rfl rfl rfl (by decide) (Nat.le_of_ble_eq_true rfl) dX5_thin_78 rfl (fun v g' hq => ?_)
        obtain ⟨x, rfl, r30, eg, hx⟩ := hq
        subst hx
        refine J_eq eg ?_
        show J X 81 [(0, .ref (xad X (4, 0, 0))), (1, iv v_n), (2, iv v_weight), (3, iv x9), (4, iv s21.1), (5, iv s21.2)] [iv (X5_bears_v z16 s21.2 v_weight)] (gs g0 4 0 z16)
        refine jr_if_eq (pc := 81) (tgt := 89) F (rg_z r30) dX5_thin_81 (by decide) (fun h31 => ?_) (fun h31 => ?_)
        · refine jr_iload (pc := 89) F 5 dX5_thin_89 rfl ?_
          exact Hf (fun q => q h31) r27
        refine jr_iload (pc := 84) F 4 dX5_thin_84 rfl ?_
        refine jr_goto (pc := 86) (tgt := 91) F dX5_thin_86 (by decide) ?_
        exact Ht h31 r26
      obtain ⟨x33, e34, k⟩ := Ok_let k
      have r35 : Rg x33 := rg_of e34 r32
      refine jr_top e34 ?_
      refine jr_istore (pc := 91) F [(4, iv x33), (0, .ref (xad X (4, 0, 0))), (1, iv v_n), (2, iv v_weight), (3, iv x9), (5, iv s21.2)] dX5_thin_91 (by decide) rfl ?_
      refine jr_iinc (pc := 93) F [(5, iv (w32 (s21.2 + (-1)))), (4, iv x33), (0, .ref (xad X (4, 0, 0))), (1, iv v_n), (2, iv v_weight), (3, iv x9)] 5 dX5_thin_93 rfl (by decide) rfl ?_
      refine jr_goto (pc := 96) (tgt := 69) F dX5_thin_96 (by decide) ?_
      refine jr_sub F [2, 3, 4, 5, 1, 0] [(0, .ref (xad X (4, 0, 0))), (1, iv v_n), (2, iv v_weight), (3, iv x9), (4, iv x33), (5, iv (w32 (s21.2 + (-1))))] rfl ?_
      exact hC23 (x33, w32 (s21.2 + (-1))) (Ok_some k) r35 (rg_w _)
    intro r36 r37
    refine jr_aload_n (pc := 99) F 0 dX5_thin_99 rfl rfl ?_
    have k := Ok_bind k
    refine jr_callV (pc := 100) (st := []) F [] (snd_X5_close  (g0 := g0)  k) rfl ck_5_209 rfl m4_0 rfl rfl rfl (by decide) (Nat.le_of_ble_eq_true rfl) dX5_thin_100 rfl (fun v g' hq => ?_)
    obtain ⟨z39, rfl, eg, k⟩ := hq
    refine J_eq eg ?_
    show J X 103 [(0, .ref (xad X (4, 0, 0))), (1, iv v_n), (2, iv v_weight), (3, iv x9), (4, iv z25.1), (5, iv z25.2)] [] (gs g0 4 0 z39)
    refine jr_iload (pc := 103) F 4 dX5_thin_103 rfl ?_
    exact jr_iret (pc := 105) F hQ rfl dX5_thin_105 ⟨_, _, rfl, r36, rfl, (Ok_some k)⟩
  have k := Ok_t h12 k
  refine jr_aload_n (pc := 42) F 1 dX5_thin_42 rfl rfl ?_
  refine jr_iload_n (pc := 43) F 0 dX5_thin_43 rfl rfl ?_
  have k := Ok_bind k
  refine jr_callV (pc := 44) (st := []) F [iv x9] (snd_X5_refuse  (g0 := g0) r11 k) rfl ck_5_139 rfl m4_0 rfl rfl rfl (by decide) (Nat.le_of_ble_eq_true rfl) dX5_thin_44 rfl (fun v g' hq => ?_)
  obtain ⟨x, L', rfl, r40, eg, k⟩ := hq
  obtain ⟨z41, ez⟩ : ∃ z : Int × LT, z = (x, L') := ⟨_, rfl⟩
  obtain ⟨rfl, rfl⟩ : x = z41.1 ∧ L' = z41.2 := ⟨by rw [ez], by rw [ez]⟩
  clear ez
  refine J_eq eg ?_
  show J X 47 [(3, iv x9), (0, .ref (xad X (4, 0, 0))), (1, iv v_n), (2, iv v_weight)] [iv z41.1] (gs g0 4 0 z41.2)
  exact jr_iret (pc := 47) F hQ rfl dX5_thin_47 ⟨_, _, rfl, r40, rfl, (Ok_some k)⟩
set_option maxHeartbeats 4000000 in
set_option maxRecDepth 100000 in
theorem snd_X5_through {L0 : LT} {v_n : Int} {v_what : Int} {g0 : GG} (rgp_n : Rg v_n) (rgp_what : Rg v_what) {Q : (Int × LT) → Prop} (k : Ok (X5_through L0 v_n v_what) Q) : MetG SL yX5_through cX5_through 5 (some .int) 5 (fun ad => [.ref (ad (4, 0, 0)), iv v_n, iv v_what]) (gs g0 4 0 L0) (fun v g' => ∃ (x : Int) (L' : LT), v = some (iv x) ∧ Rg x ∧ g' = gs g0 4 0 L' ∧ Q (x, L')) := by
  refine met_intro SL_ok (by decide +kernel) (fun ad => Nat.le_of_ble_eq_true rfl) (fun X F hQ hR => ?_)
  replace F : FX X cX5_through RX5 5 (some .int) SL 5 := F
  show J X 0 [(0, .ref (xad X (4, 0, 0))), (1, iv v_n), (2, iv v_what)] [] (gs g0 4 0 L0)
  refine jr_aload_n (pc := 0) F 0 dX5_through_0 rfl rfl ?_
  refine jr_iconst (pc := 1) F dX5_through_1 ?_
  obtain ⟨L1, e2, k⟩ := Ok_let k
  refine jr_putI (pc := 2) F (gs g0 4 0 L1) fw_5_92 m4_0 rfl (show Rg 0 from ⟨by decide, by decide⟩) (put1 e2) dX5_through_2 ?_
  refine jr_iload_n (pc := 5) F 1 dX5_through_5 rfl rfl ?_
  refine jr_iconst (pc := 6) F dX5_through_6 ?_
  refine jr_bipush (pc := 7) F dX5_through_7 (by decide) ?_
  refine jr_callS (pc := 9) (st := []) F [iv v_n, iv 0, iv 72] (snd_X5_wrongNumber (g0 := gs g0 4 0 L1) rgp_n (show Rg 0 from ⟨by decide, by decide⟩) (show Rg 72 from ⟨by decide, by decide⟩) (X5_wrongNumber_ok _ _ _ )) rfl ck_5_236 rfl rfl (by decide) (Nat.le_of_ble_eq_true rfl) dX5_through_9 rfl (fun v g' hq => ?_)
  obtain ⟨x, rfl, r3, eg, hx⟩ := hq
  subst hx
  refine J_eq eg ?_
  show J X 12 [(0, .ref (xad X (4, 0, 0))), (1, iv v_n), (2, iv v_what)] [iv (X5_wrongNumber_v v_n 0 72)] (gs g0 4 0 L1)
  refine jr_iload_n (pc := 12) F 2 dX5_through_12 rfl rfl ?_
  refine jr_iconst (pc := 13) F dX5_through_13 ?_
  refine jr_callS (pc := 14) (st := []) F [iv (X5_wrongNumber_v v_n 0 72), iv v_what, iv 1] (snd_X5_wrongBit (g0 := gs g0 4 0 L1) r3 rgp_what (show Rg 1 from ⟨by decide, by decide⟩) (X5_wrongBit_ok _ _ _ )) rfl ck_5_246 rfl rfl (by decide) (Nat.le_of_ble_eq_true rfl) dX5_through_14 rfl (fun v g' hq => ?_)
  obtain ⟨x, rfl, r4, eg, hx⟩ := hq
  subst hx
  refine J_eq eg ?_
  show J X 17 [(0, .ref (xad X (4, 0, 0))), (1, iv v_n), (2, iv v_what)] [iv (X5_wrongBit_v (X5_wrongNumber_v v_n 0 72) v_what 1)] (gs g0 4 0 L1)
  obtain ⟨x5, e6, k⟩ := Ok_let k
  have r7 : Rg x5 := rg_of e6 r4
  refine jr_top e6 ?_
  refine jr_istore_n (pc := 17) F [(3, iv x5), (0, .ref (xad X (4, 0, 0))), (1, iv v_n), (2, iv v_what)] dX5_through_17 rfl (by decide) rfl ?_
  refine jr_iload_n (pc := 18) F 0 dX5_through_18 rfl rfl ?_
  refine jr_if_ge (pc := 19) (tgt := 28) F r7 dX5_through_19 (by decide) (fun h8 => ?_) (fun h8 => ?_)
  · have k := Ok_f (ng_lt h8) k
    refine jr_aload_n (pc := 28) F 1 dX5_through_28 rfl rfl ?_
    have k := Ok_bind k
    refine jr_callV (pc := 29) (st := []) F [] (snd_X5_open  (g0 := g0)  k) rfl ck_5_203 rfl m4_0 rfl rfl rfl (by decide) (Nat.le_of_ble_eq_true rfl) dX5_through_29 rfl (fun v g' hq => ?_)
    obtain ⟨z10, rfl, eg, k⟩ := hq
    refine J_eq eg ?_
    show J X 32 [(3, iv x5), (0, .ref (xad X (4, 0, 0))), (1, iv v_n), (2, iv v_what)] [] (gs g0 4 0 z10)
    refine jr_aload_n (pc := 32) F 1 dX5_through_32 rfl rfl ?_
    refine jr_iload_n (pc := 33) F 2 dX5_through_33 rfl rfl ?_
    have k := Ok_bind k
    refine jr_callV (pc := 34) (st := []) F [iv v_n] (snd_X5_goHours  (g0 := g0) rgp_n k) rfl ck_5_197 rfl m4_0 rfl rfl rfl (by decide) (Nat.le_of_ble_eq_true rfl) dX5_through_34 rfl (fun v g' hq => ?_)
    obtain ⟨z12, rfl, eg, k⟩ := hq
    refine J_eq eg ?_
    show J X 37 [(3, iv x5), (0, .ref (xad X (4, 0, 0))), (1, iv v_n), (2, iv v_what)] [] (gs g0 4 0 z12)
    refine jr_aload_n (pc := 37) F 1 dX5_through_37 rfl rfl ?_
    refine jr_iload_n (pc := 38) F 3 dX5_through_38 rfl rfl ?_
    refine jr_iconst (pc := 39) F dX5_through_39 ?_
    refine jr_iadd (pc := 40) F dX5_through_40 ?_
    have k := Ok_bind k
    refine jr_callV (pc := 41) (st := []) F [iv (w32 (v_what + 1))] (snd_X5_howMany  (g0 := g0) (rg_w _) k) rfl ck_5_243 rfl m4_0 rfl rfl rfl (by decide) (Nat.le_of_ble_eq_true rfl) dX5_through_41 rfl (fun v g' hq => ?_)
    obtain ⟨z14, rfl, r13, eg, k⟩ := hq
    refine J_eq eg ?_
    show J X 44 [(3, iv x5), (0, .ref (xad X (4, 0, 0))), (1, iv v_n), (2, iv v_what)] [iv z14] (gs g0 4 0 z12)
    refine jr_istore (pc := 44) F [(4, iv z14), (3, iv x5), (0, .ref (xad X (4, 0, 0))), (1, iv v_n), (2, iv v_what)] dX5_through_44 (by decide) rfl ?_
    refine jr_aload_n (pc := 46) F 2 dX5_through_46 rfl rfl ?_
    have k := Ok_bind k
    refine jr_callV (pc := 47) (st := []) F [] (snd_X5_close  (g0 := g0)  k) rfl ck_5_209 rfl m4_0 rfl rfl rfl (by decide) (Nat.le_of_ble_eq_true rfl) dX5_through_47 rfl (fun v g' hq => ?_)
    obtain ⟨z16, rfl, eg, k⟩ := hq
    refine J_eq eg ?_
    show J X 50 [(4, iv z14), (3, iv x5), (0, .ref (xad X (4, 0, 0))), (1, iv v_n), (2, iv v_what)] [] (gs g0 4 0 z16)
    refine jr_iload (pc := 50) F 0 dX5_through_50 rfl ?_
    exact jr_iret (pc := 52) F hQ rfl dX5_through_52 ⟨_, _, rfl, r13, rfl, (Ok_some k)⟩
  have k := Ok_t h8 k
  refine jr_aload_n (pc := 22) F 1 dX5_through_22 rfl rfl ?_
  refine jr_iload_n (pc := 23) F 0 dX5_through_23 rfl rfl ?_
  have k := Ok_bind k
  refine jr_callV (pc := 24) (st := []) F [iv x5] (snd_X5_refuse  (g0 := g0) r7 k) rfl ck_5_139 rfl m4_0 rfl rfl rfl (by decide) (Nat.le_of_ble_eq_true rfl) dX5_through_24 rfl (fun v g' hq => ?_)
  obtain ⟨x, L', rfl, r17, eg, k⟩ := hq
  obtain ⟨z18, ez⟩ : ∃ z : Int × LT, z = (x, L') := ⟨_, rfl⟩
  obtain ⟨rfl, rfl⟩ : x = z18.1 ∧ L' = z18.2 := ⟨by rw [ez], by rw [ez]⟩
  clear ez
  refine J_eq eg ?_
  show J X 27 [(3, iv x5), (0, .ref (xad X (4, 0, 0))), (1, iv v_n), (2, iv v_what)] [iv z18.1] (gs g0 4 0 z18.2)
  exact jr_iret (pc := 27) F hQ rfl dX5_through_27 ⟨_, _, rfl, r17, rfl, (Ok_some k)⟩
set_option maxHeartbeats 4000000 in
set_option maxRecDepth 100000 in
theorem snd_X5_timetable {L0 : LT} {v_one : Int} {v_other : Int} {g0 : GG} (rgp_one : Rg v_one) (rgp_other : Rg v_other) {Q : (Int × LT) → Prop} (k : Ok (X5_timetable L0 v_one v_other) Q) : MetG SL yX5_timetable cX5_timetable 10 (some .int) 5 (fun ad => [.ref (ad (4, 0, 0)), iv v_one, iv v_other]) (gs g0 4 0 L0) (fun v g' => ∃ (x : Int) (L' : LT), v = some (iv x) ∧ Rg x ∧ g' = gs g0 4 0 L' ∧ Q (x, L')) := by
  refine met_intro SL_ok (by decide +kernel) (fun ad => Nat.le_of_ble_eq_true rfl) (fun X F hQ hR => ?_)
  replace F : FX X cX5_timetable RX5 10 (some .int) SL 5 := F
  show J X 0 [(0, .ref (xad X (4, 0, 0))), (1, iv v_one), (2, iv v_other)] [] (gs g0 4 0 L0)
  refine jr_aload_n (pc := 0) F 0 dX5_timetable_0 rfl rfl ?_
  refine jr_iconst (pc := 1) F dX5_timetable_1 ?_
  obtain ⟨L1, e2, k⟩ := Ok_let k
  refine jr_putI (pc := 2) F (gs g0 4 0 L1) fw_5_92 m4_0 rfl (show Rg 0 from ⟨by decide, by decide⟩) (put1 e2) dX5_timetable_2 ?_
  refine jifP (P := fun v => Rg v → J X 31 [(0, .ref (xad X (4, 0, 0))), (1, iv v_one), (2, iv v_other)] (iv v :: []) (gs g0 4 0 L1)) (c := ((¬ (X5_isTrain_v L1 v_one) = 0) ∧ (¬ (X5_isTrain_v L1 v_other) = 0)) ∧ (¬ v_one = v_other)) (0) ((-1)) (fun Ht Hf => ?_) (fun r8 => ?_)
  · refine jr_aload_n (pc := 5) F 0 dX5_timetable_5 rfl rfl ?_
    refine jr_iload_n (pc := 6) F 1 dX5_timetable_6 rfl rfl ?_
    refine jr_callV (pc := 7) (st := []) F [iv v_one] (snd_X5_isTrain  (g0 := g0) rgp_one (X5_isTrain_ok _ _ )) rfl ck_5_192 rfl m4_0 rfl rfl rfl (by decide) (Nat.le_of_ble_eq_true rfl) dX5_timetable_7 rfl (fun v g' hq => ?_)
    obtain ⟨x, rfl, r3, eg, hx⟩ := hq
    subst hx
    refine J_eq eg ?_
    show J X 10 [(0, .ref (xad X (4, 0, 0))), (1, iv v_one), (2, iv v_other)] [iv (X5_isTrain_v L1 v_one)] (gs g0 4 0 L1)
    refine jr_if_eq (pc := 10) (tgt := 30) F (rg_z r3) dX5_timetable_10 (by decide) (fun h4 => ?_) (fun h4 => ?_)
    · refine jr_iconst (pc := 30) F dX5_timetable_30 ?_
      exact Hf (fun q => (fun q => (fun q => q h4) q.1) q.1) (show Rg (-1) from ⟨by decide, by decide⟩)
    refine jr_aload_n (pc := 13) F 0 dX5_timetable_13 rfl rfl ?_
    refine jr_iload_n (pc := 14) F 2 dX5_timetable_14 rfl rfl ?_
    refine jr_callV (pc := 15) (st := []) F [iv v_other] (snd_X5_isTrain  (g0 := g0) rgp_other (X5_isTrain_ok _ _ )) rfl ck_5_192 rfl m4_0 rfl rfl rfl (by decide) (Nat.le_of_ble_eq_true rfl) dX5_timetable_15 rfl (fun v g' hq => ?_)
    obtain ⟨x, rfl, r5, eg, hx⟩ := hq
    subst hx
    refine J_eq eg ?_
    show J X 18 [(0, .ref (xad X (4, 0, 0))), (1, iv v_one), (2, iv v_other)] [iv (X5_isTrain_v L1 v_other)] (gs g0 4 0 L1)
    refine jr_if_eq (pc := 18) (tgt := 30) F (rg_z r5) dX5_timetable_18 (by decide) (fun h6 => ?_) (fun h6 => ?_)
    · refine jr_iconst (pc := 30) F dX5_timetable_30 ?_
      exact Hf (fun q => (fun q => (fun q => q h6) q.2) q.1) (show Rg (-1) from ⟨by decide, by decide⟩)
    refine jr_iload_n (pc := 21) F 1 dX5_timetable_21 rfl rfl ?_
    refine jr_iload_n (pc := 22) F 2 dX5_timetable_22 rfl rfl ?_
    refine jr_icmp_eq (pc := 23) (tgt := 30) F rgp_one rgp_other dX5_timetable_23 (by decide) (fun h7 => ?_) (fun h7 => ?_)
    · refine jr_iconst (pc := 30) F dX5_timetable_30 ?_
      exact Hf (fun q => (fun q => q h7) q.2) (show Rg (-1) from ⟨by decide, by decide⟩)
    refine jr_iconst (pc := 26) F dX5_timetable_26 ?_
    refine jr_goto (pc := 27) (tgt := 31) F dX5_timetable_27 (by decide) ?_
    exact Ht ⟨⟨h4, h6⟩, h7⟩ (show Rg 0 from ⟨by decide, by decide⟩)
  obtain ⟨x9, e10, k⟩ := Ok_let k
  have r11 : Rg x9 := rg_of e10 r8
  refine jr_top e10 ?_
  refine jr_istore_n (pc := 31) F [(3, iv x9), (0, .ref (xad X (4, 0, 0))), (1, iv v_one), (2, iv v_other)] dX5_timetable_31 rfl (by decide) rfl ?_
  obtain ⟨c12, k⟩ := Ok_grd k
  obtain ⟨c13, k⟩ := Ok_grd k
  refine jifP (P := fun v => Rg v → J X 60 [(3, iv x9), (0, .ref (xad X (4, 0, 0))), (1, iv v_one), (2, iv v_other)] (iv v :: []) (gs g0 4 0 L1)) (c := (x9 = 0) ∧ (((X5_wrongAhead_v L1 v_one 0) < 0) ∨ ((X5_wrongAhead_v L1 v_other 0) < 0))) ((-3)) (x9) (fun Ht Hf => ?_) (fun r19 => ?_)
  · refine jr_iload_n (pc := 32) F 0 dX5_timetable_32 rfl rfl ?_
    refine jr_if_ne (pc := 33) (tgt := 59) F r11 dX5_timetable_33 (by decide) (fun h14 => ?_) (fun h14 => ?_)
    · refine jr_iload_n (pc := 59) F 0 dX5_timetable_59 rfl rfl ?_
      exact Hf (fun q => h14 q.1) r11
    refine jr_aload_n (pc := 36) F 1 dX5_timetable_36 rfl rfl ?_
    refine jr_iload_n (pc := 37) F 2 dX5_timetable_37 rfl rfl ?_
    refine jr_iconst (pc := 38) F dX5_timetable_38 ?_
    refine jr_callV (pc := 39) (st := []) F [iv v_one, iv 0] (snd_X5_wrongAhead  (g0 := g0) rgp_one (show Rg 0 from ⟨by decide, by decide⟩) (X5_wrongAhead_ok _ _ _ (c12 h14))) rfl ck_5_249 rfl m4_0 rfl rfl rfl (by decide) (Nat.le_of_ble_eq_true rfl) dX5_timetable_39 rfl (fun v g' hq => ?_)
    obtain ⟨x, rfl, r15, eg, hx⟩ := hq
    subst hx
    refine J_eq eg ?_
    show J X 42 [(3, iv x9), (0, .ref (xad X (4, 0, 0))), (1, iv v_one), (2, iv v_other)] [iv (X5_wrongAhead_v L1 v_one 0)] (gs g0 4 0 L1)
    refine jr_if_lt (pc := 42) (tgt := 54) F r15 dX5_timetable_42 (by decide) (fun h16 => ?_) (fun h16 => ?_)
    · refine jr_bipush (pc := 54) F dX5_timetable_54 (by decide) ?_
      refine jr_goto (pc := 56) (tgt := 60) F dX5_timetable_56 (by decide) ?_
      exact Ht ⟨h14, (Or.inl h16)⟩ (show Rg (-3) from ⟨by decide, by decide⟩)
    refine jr_aload_n (pc := 45) F 1 dX5_timetable_45 rfl rfl ?_
    refine jr_iload_n (pc := 46) F 3 dX5_timetable_46 rfl rfl ?_
    refine jr_iconst (pc := 47) F dX5_timetable_47 ?_
    refine jr_callV (pc := 48) (st := []) F [iv v_other, iv 0] (snd_X5_wrongAhead  (g0 := g0) rgp_other (show Rg 0 from ⟨by decide, by decide⟩) (X5_wrongAhead_ok _ _ _ (c13 h14 (ng_lt h16)))) rfl ck_5_249 rfl m4_0 rfl rfl rfl (by decide) (Nat.le_of_ble_eq_true rfl) dX5_timetable_48 rfl (fun v g' hq => ?_)
    obtain ⟨x, rfl, r17, eg, hx⟩ := hq
    subst hx
    refine J_eq eg ?_
    show J X 51 [(3, iv x9), (0, .ref (xad X (4, 0, 0))), (1, iv v_one), (2, iv v_other)] [iv (X5_wrongAhead_v L1 v_other 0)] (gs g0 4 0 L1)
    refine jr_if_ge (pc := 51) (tgt := 59) F r17 dX5_timetable_51 (by decide) (fun h18 => ?_) (fun h18 => ?_)
    · refine jr_iload_n (pc := 59) F 0 dX5_timetable_59 rfl rfl ?_
      exact Hf (fun q => (fun q => q.elim (ng_lt h16) (ng_lt h18)) q.2) r11
    refine jr_bipush (pc := 54) F dX5_timetable_54 (by decide) ?_
    refine jr_goto (pc := 56) (tgt := 60) F dX5_timetable_56 (by decide) ?_
    exact Ht ⟨h14, (Or.inr h18)⟩ (show Rg (-3) from ⟨by decide, by decide⟩)
  obtain ⟨x20, e21, k⟩ := Ok_let k
  have r22 : Rg x20 := rg_of e21 r19
  refine jr_top e21 ?_
  refine jr_istore_n (pc := 60) F [(3, iv x20), (0, .ref (xad X (4, 0, 0))), (1, iv v_one), (2, iv v_other)] dX5_timetable_60 rfl (by decide) rfl ?_
  refine jr_iload_n (pc := 61) F 0 dX5_timetable_61 rfl rfl ?_
  refine jr_if_ge (pc := 62) (tgt := 71) F r22 dX5_timetable_62 (by decide) (fun h23 => ?_) (fun h23 => ?_)
  · have k := Ok_f (ng_lt h23) k
    refine jr_bipush (pc := 71) F dX5_timetable_71 (by decide) ?_
    refine jr_istore (pc := 73) F [(4, iv (-9)), (3, iv x20), (0, .ref (xad X (4, 0, 0))), (1, iv v_one), (2, iv v_other)] dX5_timetable_73 (by decide) rfl ?_
    refine jr_bipush (pc := 75) F dX5_timetable_75 (by decide) ?_
    refine jr_istore (pc := 77) F [(5, iv 99), (4, iv (-9)), (3, iv x20), (0, .ref (xad X (4, 0, 0))), (1, iv v_one), (2, iv v_other)] dX5_timetable_77 (by decide) rfl ?_
    refine jr_aload_n (pc := 79) F 3 dX5_timetable_79 rfl rfl ?_
    have k := Ok_bind k
    refine jr_callV (pc := 80) (st := []) F [] (snd_X5_open  (g0 := g0)  k) rfl ck_5_203 rfl m4_0 rfl rfl rfl (by decide) (Nat.le_of_ble_eq_true rfl) dX5_timetable_80 rfl (fun v g' hq => ?_)
    obtain ⟨z25, rfl, eg, k⟩ := hq
    refine J_eq eg ?_
    show J X 83 [(5, iv 99), (4, iv (-9)), (3, iv x20), (0, .ref (xad X (4, 0, 0))), (1, iv v_one), (2, iv v_other)] [] (gs g0 4 0 z25)
    refine jr_iconst (pc := 83) F dX5_timetable_83 ?_
    refine jr_istore (pc := 84) F [(6, iv 0), (5, iv 99), (4, iv (-9)), (3, iv x20), (0, .ref (xad X (4, 0, 0))), (1, iv v_one), (2, iv v_other)] dX5_timetable_84 (by decide) rfl ?_
    refine jr_sub F [4, 5, 6, 3, 2, 1, 0] [(0, .ref (xad X (4, 0, 0))), (1, iv v_one), (2, iv v_other), (3, iv x20), (4, iv (-9)), (5, iv 99), (6, iv 0)] rfl ?_
    refine lpj (P := fun s : Int × Int × Int × LT => Rg (s.1) → Rg (s.2.1) → Rg (s.2.2.1) → J X 86 [(0, .ref (xad X (4, 0, 0))), (1, iv v_one), (2, iv v_other), (3, iv x20), (4, iv s.1), (5, iv s.2.1), (6, iv s.2.2.1)] [] (gs g0 4 0 s.2.2.2)) (PE := fun r : Int × Int × Int × LT => Rg (r.1) → Rg (r.2.1) → Rg (r.2.2.1) → J X 255 [(0, .ref (xad X (4, 0, 0))), (1, iv v_one), (2, iv v_other), (3, iv x20), (4, iv r.1), (5, iv r.2.1), (6, iv r.2.2.1)] [] (gs g0 4 0 r.2.2.2)) k (fun s26 Q27 k hC28 hE29 r31 r32 r33 => ?_) (fun z30 k => ?_) (fun h => h (show Rg (-9) from ⟨by decide, by decide⟩) (show Rg 99 from ⟨by decide, by decide⟩) (show Rg 0 from ⟨by decide, by decide⟩))
    · refine jr_iload (pc := 86) F 6 dX5_timetable_86 rfl ?_
      refine jr_bipush (pc := 88) F dX5_timetable_88 (by decide) ?_
      refine jr_icmp_gt (pc := 90) (tgt := 255) F r33 (show Rg 24 from ⟨by decide, by decide⟩) dX5_timetable_90 (by decide) (fun h34 => ?_) (fun h34 => ?_)
      · have k := Ok_f (ng_le h34) k
        exact hE29 (s26.1, s26.2.1, s26.2.2.1, s26.2.2.2) (Ok_some k) r31 r32 r33
      have k := Ok_t h34 k
      refine jr_iconst (pc := 93) F dX5_timetable_93 ?_
      refine jr_istore (pc := 94) F [(7, iv 0), (0, .ref (xad X (4, 0, 0))), (1, iv v_one), (2, iv v_other), (3, iv x20), (4, iv s26.1), (5, iv s26.2.1), (6, iv s26.2.2.1)] dX5_timetable_94 (by decide) rfl ?_
      refine jr_sub F [1, 2, 3, 4, 5, 6, 7, 0] [(0, .ref (xad X (4, 0, 0))), (1, iv v_one), (2, iv v_other), (3, iv x20), (4, iv s26.1), (5, iv s26.2.1), (6, iv s26.2.2.1), (7, iv 0)] rfl ?_
      refine lpj (P := fun s : Int × Int × Int × LT => Rg (s.1) → Rg (s.2.1) → Rg (s.2.2.1) → J X 96 [(0, .ref (xad X (4, 0, 0))), (1, iv v_one), (2, iv v_other), (3, iv x20), (4, iv s.1), (5, iv s.2.1), (6, iv s26.2.2.1), (7, iv s.2.2.1)] [] (gs g0 4 0 s.2.2.2)) (PE := fun r : Int × Int × Int × LT => Rg (r.1) → Rg (r.2.1) → Rg (r.2.2.1) → J X 249 [(0, .ref (xad X (4, 0, 0))), (1, iv v_one), (2, iv v_other), (3, iv x20), (4, iv r.1), (5, iv r.2.1), (6, iv s26.2.2.1), (7, iv r.2.2.1)] [] (gs g0 4 0 r.2.2.2)) k (fun s35 Q36 k hC37 hE38 r40 r41 r42 => ?_) (fun z39 k => ?_) (fun h => h r31 r32 (show Rg 0 from ⟨by decide, by decide⟩))
      · refine jr_iload (pc := 96) F 7 dX5_timetable_96 rfl ?_
        refine jr_bipush (pc := 98) F dX5_timetable_98 (by decide) ?_
        refine jr_icmp_gt (pc := 100) (tgt := 249) F r42 (show Rg 24 from ⟨by decide, by decide⟩) dX5_timetable_100 (by decide) (fun h43 => ?_) (fun h43 => ?_)
        · have k := Ok_f (ng_le h43) k
          exact hE38 (s35.1, s35.2.1, s35.2.2.1, s35.2.2.2) (Ok_some k) r40 r41 r42
        have k := Ok_t h43 k
        refine jr_iload (pc := 103) F 6 dX5_timetable_103 rfl ?_
        refine jr_iload (pc := 105) F 7 dX5_timetable_105 rfl ?_
        refine jr_icmp_eq (pc := 107) (tgt := 243) F r33 r42 dX5_timetable_107 (by decide) (fun h44 => ?_) (fun h44 => ?_)
        · have k := Ok_f (fun q => q h44) k
          refine jr_iinc (pc := 243) F [(7, iv (w32 (s35.2.2.1 + 6))), (0, .ref (xad X (4, 0, 0))), (1, iv v_one), (2, iv v_other), (3, iv x20), (4, iv s35.1), (5, iv s35.2.1), (6, iv s26.2.2.1)] 7 dX5_timetable_243 rfl (by decide) rfl ?_
          refine jr_goto (pc := 246) (tgt := 96) F dX5_timetable_246 (by decide) ?_
          refine jr_sub F [1, 2, 3, 4, 5, 6, 7, 0] [(0, .ref (xad X (4, 0, 0))), (1, iv v_one), (2, iv v_other), (3, iv x20), (4, iv s35.1), (5, iv s35.2.1), (6, iv s26.2.2.1), (7, iv (w32 (s35.2.2.1 + 6)))] rfl ?_
          exact hC37 (s35.1, s35.2.1, w32 (s35.2.2.1 + 6), s35.2.2.2) (Ok_some k) r40 r41 (rg_w _)
        have k := Ok_t h44 k
        refine jr_aload_n (pc := 110) F 0 dX5_timetable_110 rfl rfl ?_
        refine jr_getR (pc := 111) (b := (4, 0, 13)) F f_5_41 m4_0 rfl dX5_timetable_111 ?_
        refine jr_iload_n (pc := 114) F 1 dX5_timetable_114 rfl rfl ?_
        refine jr_iload (pc := 115) F 6 dX5_timetable_115 rfl ?_
        obtain ⟨c45, k⟩ := Ok_grd k
        obtain ⟨L46, e47, k⟩ := Ok_let k
        refine jr_iast (pc := 117) F (gs g0 4 0 L46) m4_13 (by decide) c45 r33 (put1 e47) dX5_timetable_117 ?_
        refine jr_aload_n (pc := 118) F 0 dX5_timetable_118 rfl rfl ?_
        refine jr_getR (pc := 119) (b := (4, 0, 13)) F f_5_41 m4_0 rfl dX5_timetable_119 ?_
        refine jr_iload_n (pc := 122) F 2 dX5_timetable_122 rfl rfl ?_
        refine jr_iload (pc := 123) F 7 dX5_timetable_123 rfl ?_
        obtain ⟨c48, k⟩ := Ok_grd k
        obtain ⟨L49, e50, k⟩ := Ok_let k
        refine jr_iast (pc := 125) F (gs g0 4 0 L49) m4_13 (by decide) c48 r42 (put1 e50) dX5_timetable_125 ?_
        refine jr_aload_n (pc := 126) F 0 dX5_timetable_126 rfl rfl ?_
        refine jr_bipush (pc := 127) F dX5_timetable_127 (by decide) ?_
        have k := Ok_bind k
        refine jr_callV (pc := 129) (st := []) F [iv 72] (snd_X5_goHours  (g0 := g0) (show Rg 72 from ⟨by decide, by decide⟩) k) rfl ck_5_197 rfl m4_0 rfl rfl rfl (by decide) (Nat.le_of_ble_eq_true rfl) dX5_timetable_129 rfl (fun v g' hq => ?_)
        obtain ⟨z52, rfl, eg, k⟩ := hq
        refine J_eq eg ?_
        show J X 132 [(0, .ref (xad X (4, 0, 0))), (1, iv v_one), (2, iv v_other), (3, iv x20), (4, iv s35.1), (5, iv s35.2.1), (6, iv s26.2.2.1), (7, iv s35.2.2.1)] [] (gs g0 4 0 z52)
        refine jifP (P := fun v => Bz v → J X 157 [(0, .ref (xad X (4, 0, 0))), (1, iv v_one), (2, iv v_other), (3, iv x20), (4, iv s35.1), (5, iv s35.2.1), (6, iv s26.2.2.1), (7, iv s35.2.2.1)] (iv v :: []) (gs g0 4 0 z52)) (c := ((z52 14 v_one) = 1) ∧ ((z52 14 v_other) = 1)) (1) (0) (fun Ht Hf => ?_) (fun r57 => ?_)
        · refine jr_aload_n (pc := 132) F 0 dX5_timetable_132 rfl rfl ?_
          refine jr_getR (pc := 133) (b := (4, 0, 14)) F f_5_44 m4_0 rfl dX5_timetable_133 ?_
          refine jr_iload_n (pc := 136) F 1 dX5_timetable_136 rfl rfl ?_
          refine jr_iald (pc := 137) F (z52 14 v_one) m4_14 (by decide) c45 (gs_at' _ _ _ _ _ _) dX5_timetable_137 (fun r53 => ?_)
          refine jr_iconst (pc := 138) F dX5_timetable_138 ?_
          refine jr_icmp_ne (pc := 139) (tgt := 156) F r53 (show Rg 1 from ⟨by decide, by decide⟩) dX5_timetable_139 (by decide) (fun h54 => ?_) (fun h54 => ?_)
          · refine jr_iconst (pc := 156) F dX5_timetable_156 ?_
            exact Hf (fun q => h54 q.1) (Or.inl rfl)
          refine jr_aload_n (pc := 142) F 0 dX5_timetable_142 rfl rfl ?_
          refine jr_getR (pc := 143) (b := (4, 0, 14)) F f_5_44 m4_0 rfl dX5_timetable_143 ?_
          refine jr_iload_n (pc := 146) F 2 dX5_timetable_146 rfl rfl ?_
          refine jr_iald (pc := 147) F (z52 14 v_other) m4_14 (by decide) c48 (gs_at' _ _ _ _ _ _) dX5_timetable_147 (fun r55 => ?_)
          refine jr_iconst (pc := 148) F dX5_timetable_148 ?_
          refine jr_icmp_ne (pc := 149) (tgt := 156) F r55 (show Rg 1 from ⟨by decide, by decide⟩) dX5_timetable_149 (by decide) (fun h56 => ?_) (fun h56 => ?_)
          · refine jr_iconst (pc := 156) F dX5_timetable_156 ?_
            exact Hf (fun q => h56 q.2) (Or.inl rfl)
          refine jr_iconst (pc := 152) F dX5_timetable_152 ?_
          refine jr_goto (pc := 153) (tgt := 157) F dX5_timetable_153 (by decide) ?_
          exact Ht ⟨h54, h56⟩ (Or.inr rfl)
        obtain ⟨x58, e59, k⟩ := Ok_let k
        have r60 : Bz x58 := bz_of e59 r57
        refine jr_top e59 ?_
        refine jr_istore (pc := 157) F [(8, iv x58), (0, .ref (xad X (4, 0, 0))), (1, iv v_one), (2, iv v_other), (3, iv x20), (4, iv s35.1), (5, iv s35.2.1), (6, iv s26.2.2.1), (7, iv s35.2.2.1)] dX5_timetable_157 (by decide) rfl ?_
        refine jifP (P := fun v => Rg v → J X 189 [(8, iv x58), (0, .ref (xad X (4, 0, 0))), (1, iv v_one), (2, iv v_other), (3, iv x20), (4, iv s35.1), (5, iv s35.2.1), (6, iv s26.2.2.1), (7, iv s35.2.2.1)] (iv v :: []) (gs g0 4 0 z52)) (c := (z52 18 v_other) < (z52 18 v_one)) (z52 18 v_one) (z52 18 v_other) (fun Ht Hf => ?_) (fun r66 => ?_)
        · refine jr_aload_n (pc := 159) F 1 dX5_timetable_159 rfl rfl ?_
          refine jr_getR (pc := 160) (b := (4, 0, 18)) F f_5_53 m4_0 rfl dX5_timetable_160 ?_
          refine jr_iload_n (pc := 163) F 2 dX5_timetable_163 rfl rfl ?_
          refine jr_iald (pc := 164) F (z52 18 v_one) m4_18 (by decide) c45 (gs_at' _ _ _ _ _ _) dX5_timetable_164 (fun r61 => ?_)
          refine jr_aload_n (pc := 165) F 1 dX5_timetable_165 rfl rfl ?_
          refine jr_getR (pc := 166) (b := (4, 0, 18)) F f_5_53 m4_0 rfl dX5_timetable_166 ?_
          refine jr_iload_n (pc := 169) F 3 dX5_timetable_169 rfl rfl ?_
          refine jr_iald (pc := 170) F (z52 18 v_other) m4_18 (by decide) c48 (gs_at' _ _ _ _ _ _) dX5_timetable_170 (fun r62 => ?_)
          refine jr_icmp_le (pc := 171) (tgt := 183) F r61 r62 dX5_timetable_171 (by decide) (fun h63 => ?_) (fun h63 => ?_)
          · refine jr_aload_n (pc := 183) F 1 dX5_timetable_183 rfl rfl ?_
            refine jr_getR (pc := 184) (b := (4, 0, 18)) F f_5_53 m4_0 rfl dX5_timetable_184 ?_
            refine jr_iload_n (pc := 187) F 3 dX5_timetable_187 rfl rfl ?_
            refine jr_iald (pc := 188) F (z52 18 v_other) m4_18 (by decide) c48 (gs_at' _ _ _ _ _ _) dX5_timetable_188 (fun r64 => ?_)
            exact Hf (ng_lt h63) r64
          refine jr_aload_n (pc := 174) F 1 dX5_timetable_174 rfl rfl ?_
          refine jr_getR (pc := 175) (b := (4, 0, 18)) F f_5_53 m4_0 rfl dX5_timetable_175 ?_
          refine jr_iload_n (pc := 178) F 2 dX5_timetable_178 rfl rfl ?_
          refine jr_iald (pc := 179) F (z52 18 v_one) m4_18 (by decide) c45 (gs_at' _ _ _ _ _ _) dX5_timetable_179 (fun r65 => ?_)
          refine jr_goto (pc := 180) (tgt := 189) F dX5_timetable_180 (by decide) ?_
          exact Ht h63 r65
        obtain ⟨x67, e68, k⟩ := Ok_let k
        have r69 : Rg x67 := rg_of e68 r66
        refine jr_top e68 ?_
        refine jr_istore (pc := 189) F [(9, iv x67), (8, iv x58), (0, .ref (xad X (4, 0, 0))), (1, iv v_one), (2, iv v_other), (3, iv x20), (4, iv s35.1), (5, iv s35.2.1), (6, iv s26.2.2.1), (7, iv s35.2.2.1)] dX5_timetable_189 (by decide) rfl ?_
        refine jr_aload_n (pc := 191) F 2 dX5_timetable_191 rfl rfl ?_
        have k := Ok_bind k
        refine jr_callV (pc := 192) (st := []) F [] (snd_X5_close  (g0 := g0)  k) rfl ck_5_209 rfl m4_0 rfl rfl rfl (by decide) (Nat.le_of_ble_eq_true rfl) dX5_timetable_192 rfl (fun v g' hq => ?_)
        obtain ⟨z71, rfl, eg, k⟩ := hq
        refine J_eq eg ?_
        show J X 195 [(9, iv x67), (8, iv x58), (0, .ref (xad X (4, 0, 0))), (1, iv v_one), (2, iv v_other), (3, iv x20), (4, iv s35.1), (5, iv s35.2.1), (6, iv s26.2.2.1), (7, iv s35.2.2.1)] [] (gs g0 4 0 z71)
        refine jifP (P := fun v => Rg v → J X 220 [(9, iv x67), (8, iv x58), (0, .ref (xad X (4, 0, 0))), (1, iv v_one), (2, iv v_other), (3, iv x20), (4, iv s35.1), (5, iv s35.2.1), (6, iv s26.2.2.1), (7, iv s35.2.2.1)] (iv v :: []) (gs g0 4 0 z71)) (c := (¬ x58 = 0) ∧ (x67 < s35.2.1)) (w32 ((w32 (100 * s26.2.2.1)) + s35.2.2.1)) (s35.1) (fun Ht Hf => ?_) (fun r74 => ?_)
        · refine jr_iload (pc := 195) F 1 dX5_timetable_195 rfl ?_
          refine jr_if_eq (pc := 197) (tgt := 218) F (rg_z r60) dX5_timetable_197 (by decide) (fun h72 => ?_) (fun h72 => ?_)
          · refine jr_iload (pc := 218) F 6 dX5_timetable_218 rfl ?_
            exact Hf (fun q => (fun q => q h72) q.1) r40
          refine jr_iload (pc := 200) F 0 dX5_timetable_200 rfl ?_
          refine jr_iload (pc := 202) F 7 dX5_timetable_202 rfl ?_
          refine jr_icmp_ge (pc := 204) (tgt := 218) F r69 r41 dX5_timetable_204 (by decide) (fun h73 => ?_) (fun h73 => ?_)
          · refine jr_iload (pc := 218) F 6 dX5_timetable_218 rfl ?_
            exact Hf (fun q => (ng_lt h73) q.2) r40
          refine jr_bipush (pc := 207) F dX5_timetable_207 (by decide) ?_
          refine jr_iload (pc := 209) F 8 dX5_timetable_209 rfl ?_
          refine jr_imul (pc := 211) F dX5_timetable_211 ?_
          refine jr_iload (pc := 212) F 9 dX5_timetable_212 rfl ?_
          refine jr_iadd (pc := 214) F dX5_timetable_214 ?_
          refine jr_goto (pc := 215) (tgt := 220) F dX5_timetable_215 (by decide) ?_
          exact Ht ⟨h72, h73⟩ (rg_w _)
        obtain ⟨x75, e76, k⟩ := Ok_let k
        have r77 : Rg x75 := rg_of e76 r74
        refine jr_top e76 ?_
        refine jr_istore (pc := 220) F [(4, iv x75), (9, iv x67), (8, iv x58), (0, .ref (xad X (4, 0, 0))), (1, iv v_one), (2, iv v_other), (3, iv x20), (5, iv s35.2.1), (6, iv s26.2.2.1), (7, iv s35.2.2.1)] dX5_timetable_220 (by decide) rfl ?_
        refine jifP (P := fun v => Rg v → J X 241 [(4, iv x75), (9, iv x67), (8, iv x58), (0, .ref (xad X (4, 0, 0))), (1, iv v_one), (2, iv v_other), (3, iv x20), (5, iv s35.2.1), (6, iv s26.2.2.1), (7, iv s35.2.2.1)] (iv v :: []) (gs g0 4 0 z71)) (c := (¬ x58 = 0) ∧ (x67 < s35.2.1)) (x67) (s35.2.1) (fun Ht Hf => ?_) (fun r80 => ?_)
        · refine jr_iload (pc := 222) F 2 dX5_timetable_222 rfl ?_
          refine jr_if_eq (pc := 224) (tgt := 239) F (rg_z r60) dX5_timetable_224 (by decide) (fun h78 => ?_) (fun h78 => ?_)
          · refine jr_iload (pc := 239) F 7 dX5_timetable_239 rfl ?_
            exact Hf (fun q => (fun q => q h78) q.1) r41
          refine jr_iload (pc := 227) F 1 dX5_timetable_227 rfl ?_
          refine jr_iload (pc := 229) F 7 dX5_timetable_229 rfl ?_
          refine jr_icmp_ge (pc := 231) (tgt := 239) F r69 r41 dX5_timetable_231 (by decide) (fun h79 => ?_) (fun h79 => ?_)
          · refine jr_iload (pc := 239) F 7 dX5_timetable_239 rfl ?_
            exact Hf (fun q => (ng_lt h79) q.2) r41
          refine jr_iload (pc := 234) F 1 dX5_timetable_234 rfl ?_
          refine jr_goto (pc := 236) (tgt := 241) F dX5_timetable_236 (by decide) ?_
          exact Ht ⟨h78, h79⟩ r69
        obtain ⟨x81, e82, k⟩ := Ok_let k
        have r83 : Rg x81 := rg_of e82 r80
        refine jr_top e82 ?_
        refine jr_istore (pc := 241) F [(5, iv x81), (4, iv x75), (9, iv x67), (8, iv x58), (0, .ref (xad X (4, 0, 0))), (1, iv v_one), (2, iv v_other), (3, iv x20), (6, iv s26.2.2.1), (7, iv s35.2.2.1)] dX5_timetable_241 (by decide) rfl ?_
        refine jr_iinc (pc := 243) F [(7, iv (w32 (s35.2.2.1 + 6))), (5, iv x81), (4, iv x75), (9, iv x67), (8, iv x58), (0, .ref (xad X (4, 0, 0))), (1, iv v_one), (2, iv v_other), (3, iv x20), (6, iv s26.2.2.1)] 9 dX5_timetable_243 rfl (by decide) rfl ?_
        refine jr_goto (pc := 246) (tgt := 96) F dX5_timetable_246 (by decide) ?_
        refine jr_sub F [5, 6, 7, 8, 2, 1, 9, 0] [(0, .ref (xad X (4, 0, 0))), (1, iv v_one), (2, iv v_other), (3, iv x20), (4, iv x75), (5, iv x81), (6, iv s26.2.2.1), (7, iv (w32 (s35.2.2.1 + 6)))] rfl ?_
        exact hC37 (x75, x81, w32 (s35.2.2.1 + 6), z71) (Ok_some k) r77 r83 (rg_w _)
      intro r84 r85 r86
      refine jr_iinc (pc := 249) F [(6, iv (w32 (s26.2.2.1 + 6))), (0, .ref (xad X (4, 0, 0))), (1, iv v_one), (2, iv v_other), (3, iv x20), (4, iv z39.1), (5, iv z39.2.1), (7, iv z39.2.2.1)] 6 dX5_timetable_249 rfl (by decide) rfl ?_
      refine jr_goto (pc := 252) (tgt := 86) F dX5_timetable_252 (by decide) ?_
      refine jr_sub F [1, 2, 3, 4, 5, 6, 0] [(0, .ref (xad X (4, 0, 0))), (1, iv v_one), (2, iv v_other), (3, iv x20), (4, iv z39.1), (5, iv z39.2.1), (6, iv (w32 (s26.2.2.1 + 6)))] rfl ?_
      exact hC28 (z39.1, z39.2.1, w32 (s26.2.2.1 + 6), z39.2.2.2) (Ok_some k) r84 r85 (rg_w _)
    intro r87 r88 r89
    refine jr_iload (pc := 255) F 4 dX5_timetable_255 rfl ?_
    exact jr_iret (pc := 257) F hQ rfl dX5_timetable_257 ⟨_, _, rfl, r87, rfl, (Ok_some k)⟩
  have k := Ok_t h23 k
  refine jr_aload_n (pc := 65) F 1 dX5_timetable_65 rfl rfl ?_
  refine jr_iload_n (pc := 66) F 0 dX5_timetable_66 rfl rfl ?_
  have k := Ok_bind k
  refine jr_callV (pc := 67) (st := []) F [iv x20] (snd_X5_refuse  (g0 := g0) r22 k) rfl ck_5_139 rfl m4_0 rfl rfl rfl (by decide) (Nat.le_of_ble_eq_true rfl) dX5_timetable_67 rfl (fun v g' hq => ?_)
  obtain ⟨x, L', rfl, r90, eg, k⟩ := hq
  obtain ⟨z91, ez⟩ : ∃ z : Int × LT, z = (x, L') := ⟨_, rfl⟩
  obtain ⟨rfl, rfl⟩ : x = z91.1 ∧ L' = z91.2 := ⟨by rw [ez], by rw [ez]⟩
  clear ez
  refine J_eq eg ?_
  show J X 70 [(3, iv x20), (0, .ref (xad X (4, 0, 0))), (1, iv v_one), (2, iv v_other)] [iv z91.1] (gs g0 4 0 z91.2)
  exact jr_iret (pc := 70) F hQ rfl dX5_timetable_70 ⟨_, _, rfl, r90, rfl, (Ok_some k)⟩
set_option maxHeartbeats 4000000 in
set_option maxRecDepth 100000 in
theorem snd_X5_told {L0 : LT} {v_t : Int} {v_what : Int} {g0 : GG} (rgp_t : Rg v_t) (rgp_what : Rg v_what) {Q : (Int × LT) → Prop} (k : Ok (X5_told L0 v_t v_what) Q) : MetG SL yX5_told cX5_told 3 (some .int) 2 (fun ad => [.ref (ad (4, 0, 0)), iv v_t, iv v_what]) (gs g0 4 0 L0) (fun v g' => ∃ (x : Int) (L' : LT), v = some (iv x) ∧ Rg x ∧ g' = gs g0 4 0 L' ∧ Q (x, L')) := by
  refine met_intro SL_ok (by decide +kernel) (fun ad => Nat.le_of_ble_eq_true rfl) (fun X F hQ hR => ?_)
  replace F : FX X cX5_told RX5 3 (some .int) SL 2 := F
  show J X 0 [(0, .ref (xad X (4, 0, 0))), (1, iv v_t), (2, iv v_what)] [] (gs g0 4 0 L0)
  refine jr_aload_n (pc := 0) F 0 dX5_told_0 rfl rfl ?_
  refine jr_iconst (pc := 1) F dX5_told_1 ?_
  obtain ⟨L1, e2, k⟩ := Ok_let k
  refine jr_putI (pc := 2) F (gs g0 4 0 L1) fw_5_92 m4_0 rfl (show Rg 0 from ⟨by decide, by decide⟩) (put1 e2) dX5_told_2 ?_
  refine cnd (c := ((X5_isTrain_v L1 v_t) = 0) ∨ ((X5_in_v v_what 0 5) = 0)) (GT := J X 25 [(0, .ref (xad X (4, 0, 0))), (1, iv v_t), (2, iv v_what)] [] (gs g0 4 0 L1)) (GF := J X 44 [(0, .ref (xad X (4, 0, 0))), (1, iv v_t), (2, iv v_what)] [] (gs g0 4 0 L1)) k (fun HT HF => ?_) (fun h7 k => ?_) (fun h7 k => ?_)
  · refine jr_aload_n (pc := 5) F 0 dX5_told_5 rfl rfl ?_
    refine jr_iload_n (pc := 6) F 1 dX5_told_6 rfl rfl ?_
    refine jr_callV (pc := 7) (st := []) F [iv v_t] (snd_X5_isTrain  (g0 := g0) rgp_t (X5_isTrain_ok _ _ )) rfl ck_5_192 rfl m4_0 rfl rfl rfl (by decide) (Nat.le_of_ble_eq_true rfl) dX5_told_7 rfl (fun v g' hq => ?_)
    obtain ⟨x, rfl, r3, eg, hx⟩ := hq
    subst hx
    refine J_eq eg ?_
    show J X 10 [(0, .ref (xad X (4, 0, 0))), (1, iv v_t), (2, iv v_what)] [iv (X5_isTrain_v L1 v_t)] (gs g0 4 0 L1)
    refine jr_if_eq (pc := 10) (tgt := 25) F (rg_z r3) dX5_told_10 (by decide) (fun h4 => ?_) (fun h4 => ?_)
    · exact HT (Or.inl h4)
    refine jr_iload_n (pc := 13) F 2 dX5_told_13 rfl rfl ?_
    refine jr_i2l (pc := 14) F rgp_what dX5_told_14 ?_
    refine jr_lconst (pc := 15) (v := 0) F dX5_told_15 (by decide) ?_
    refine jr_ldc2 (pc := 16) F kc_5_234 dX5_told_16 ?_
    refine jr_callS (pc := 19) (st := []) F [lgv v_what, lgv 0, lgv 5] (snd_X5_in (g0 := gs g0 4 0 L1) (rl_rg rgp_what) (show Rl 0 from ⟨by decide, by decide⟩) (show Rl 5 from ⟨by decide, by decide⟩) (X5_in_ok _ _ _ )) rfl ck_5_95 rfl rfl (by decide) (Nat.le_of_ble_eq_true rfl) dX5_told_19 rfl (fun v g' hq => ?_)
    obtain ⟨x, rfl, r5, eg, hx⟩ := hq
    subst hx
    refine J_eq eg ?_
    show J X 22 [(0, .ref (xad X (4, 0, 0))), (1, iv v_t), (2, iv v_what)] [iv (X5_in_v v_what 0 5)] (gs g0 4 0 L1)
    refine jr_if_ne (pc := 22) (tgt := 44) F (rg_z r5) dX5_told_22 (by decide) (fun h6 => ?_) (fun h6 => ?_)
    · exact HF (fun q => q.elim h4 h6)
    exact HT (Or.inr h6)
  · refine jr_aload_n (pc := 25) F 0 dX5_told_25 rfl rfl ?_
    refine jifP (P := fun v => Rg v → J X 40 [(0, .ref (xad X (4, 0, 0))), (1, iv v_t), (2, iv v_what)] (iv v :: [.ref (xad X (4, 0, 0))]) (gs g0 4 0 L1)) (c := ¬ (X5_isTrain_v L1 v_t) = 0) ((-2)) ((-1)) (fun Ht Hf => ?_) (fun r10 => ?_)
    · refine jr_aload_n (pc := 26) F 0 dX5_told_26 rfl rfl ?_
      refine jr_iload_n (pc := 27) F 1 dX5_told_27 rfl rfl ?_
      refine jr_callV (pc := 28) (st := [.ref (xad X (4, 0, 0))]) F [iv v_t] (snd_X5_isTrain  (g0 := g0) rgp_t (X5_isTrain_ok _ _ )) rfl ck_5_192 rfl m4_0 rfl rfl rfl (by decide) (Nat.le_of_ble_eq_true rfl) dX5_told_28 rfl (fun v g' hq => ?_)
      obtain ⟨x, rfl, r8, eg, hx⟩ := hq
      subst hx
      refine J_eq eg ?_
      show J X 31 [(0, .ref (xad X (4, 0, 0))), (1, iv v_t), (2, iv v_what)] [iv (X5_isTrain_v L1 v_t), .ref (xad X (4, 0, 0))] (gs g0 4 0 L1)
      refine jr_if_eq (pc := 31) (tgt := 39) F (rg_z r8) dX5_told_31 (by decide) (fun h9 => ?_) (fun h9 => ?_)
      · refine jr_iconst (pc := 39) F dX5_told_39 ?_
        exact Hf (fun q => q h9) (show Rg (-1) from ⟨by decide, by decide⟩)
      refine jr_bipush (pc := 34) F dX5_told_34 (by decide) ?_
      refine jr_goto (pc := 36) (tgt := 40) F dX5_told_36 (by decide) ?_
      exact Ht h9 (show Rg (-2) from ⟨by decide, by decide⟩)
    have k := Ok_bind k
    refine jr_callV (pc := 40) (st := []) F [iv (if ¬ (X5_isTrain_v L1 v_t) = 0 then (-2) else (-1))] (snd_X5_refuse  (g0 := g0) r10 k) rfl ck_5_139 rfl m4_0 rfl rfl rfl (by decide) (Nat.le_of_ble_eq_true rfl) dX5_told_40 rfl (fun v g' hq => ?_)
    obtain ⟨x, L', rfl, r11, eg, k⟩ := hq
    obtain ⟨z12, ez⟩ : ∃ z : Int × LT, z = (x, L') := ⟨_, rfl⟩
    obtain ⟨rfl, rfl⟩ : x = z12.1 ∧ L' = z12.2 := ⟨by rw [ez], by rw [ez]⟩
    clear ez
    refine J_eq eg ?_
    show J X 43 [(0, .ref (xad X (4, 0, 0))), (1, iv v_t), (2, iv v_what)] [iv z12.1] (gs g0 4 0 z12.2)
    exact jr_iret (pc := 43) F hQ rfl dX5_told_43 ⟨_, _, rfl, r11, rfl, (Ok_some k)⟩
  refine jr_iload_n (pc := 44) F 2 dX5_told_44 rfl rfl ?_
  by_cases h13 : v_what = 0
  · have k := Ok_t h13 k
    refine jr_tsin (pc := 45) (tgt := 80) (off := 35) F h13 ⟨by decide, by decide⟩ ⟨by decide, by decide⟩ rfl (by decide) dX5_told_45 ?_
    refine jr_aload_n (pc := 80) F 0 dX5_told_80 rfl rfl ?_
    refine jr_getR (pc := 81) (b := (4, 0, 9)) F f_5_29 m4_0 rfl dX5_told_81 ?_
    refine jr_iload_n (pc := 84) F 1 dX5_told_84 rfl rfl ?_
    obtain ⟨c14, k⟩ := Ok_grd k
    refine jr_iald (pc := 85) F (L1 9 v_t) m4_9 (by decide) c14 (gs_at' _ _ _ _ _ _) dX5_told_85 (fun r15 => ?_)
    exact jr_iret (pc := 86) F hQ rfl dX5_told_86 ⟨_, _, rfl, r15, rfl, (Ok_some k)⟩
  have k := Ok_f h13 k
  by_cases h16 : v_what = 1
  · have k := Ok_t h16 k
    refine jr_tsin (pc := 45) (tgt := 87) (off := 42) F h16 ⟨by decide, by decide⟩ ⟨by decide, by decide⟩ rfl (by decide) dX5_told_45 ?_
    refine jr_aload_n (pc := 87) F 0 dX5_told_87 rfl rfl ?_
    refine jr_getR (pc := 88) (b := (4, 0, 10)) F f_5_32 m4_0 rfl dX5_told_88 ?_
    refine jr_iload_n (pc := 91) F 1 dX5_told_91 rfl rfl ?_
    obtain ⟨c17, k⟩ := Ok_grd k
    refine jr_iald (pc := 92) F (L1 10 v_t) m4_10 (by decide) c17 (gs_at' _ _ _ _ _ _) dX5_told_92 (fun r18 => ?_)
    exact jr_iret (pc := 93) F hQ rfl dX5_told_93 ⟨_, _, rfl, r18, rfl, (Ok_some k)⟩
  have k := Ok_f h16 k
  by_cases h19 : v_what = 2
  · have k := Ok_t h19 k
    refine jr_tsin (pc := 45) (tgt := 94) (off := 49) F h19 ⟨by decide, by decide⟩ ⟨by decide, by decide⟩ rfl (by decide) dX5_told_45 ?_
    refine jr_aload_n (pc := 94) F 0 dX5_told_94 rfl rfl ?_
    refine jr_getR (pc := 95) (b := (4, 0, 11)) F f_5_35 m4_0 rfl dX5_told_95 ?_
    refine jr_iload_n (pc := 98) F 1 dX5_told_98 rfl rfl ?_
    obtain ⟨c20, k⟩ := Ok_grd k
    refine jr_iald (pc := 99) F (L1 11 v_t) m4_11 (by decide) c20 (gs_at' _ _ _ _ _ _) dX5_told_99 (fun r21 => ?_)
    exact jr_iret (pc := 100) F hQ rfl dX5_told_100 ⟨_, _, rfl, r21, rfl, (Ok_some k)⟩
  have k := Ok_f h19 k
  by_cases h22 : v_what = 3
  · have k := Ok_t h22 k
    refine jr_tsin (pc := 45) (tgt := 101) (off := 56) F h22 ⟨by decide, by decide⟩ ⟨by decide, by decide⟩ rfl (by decide) dX5_told_45 ?_
    refine jr_aload_n (pc := 101) F 0 dX5_told_101 rfl rfl ?_
    refine jr_getR (pc := 102) (b := (4, 0, 12)) F f_5_38 m4_0 rfl dX5_told_102 ?_
    refine jr_iload_n (pc := 105) F 1 dX5_told_105 rfl rfl ?_
    obtain ⟨c23, k⟩ := Ok_grd k
    refine jr_iald (pc := 106) F (L1 12 v_t) m4_12 (by decide) c23 (gs_at' _ _ _ _ _ _) dX5_told_106 (fun r24 => ?_)
    exact jr_iret (pc := 107) F hQ rfl dX5_told_107 ⟨_, _, rfl, r24, rfl, (Ok_some k)⟩
  have k := Ok_f h22 k
  by_cases h25 : v_what = 4
  · have k := Ok_t h25 k
    refine jr_tsin (pc := 45) (tgt := 108) (off := 63) F h25 ⟨by decide, by decide⟩ ⟨by decide, by decide⟩ rfl (by decide) dX5_told_45 ?_
    refine jr_aload_n (pc := 108) F 0 dX5_told_108 rfl rfl ?_
    refine jr_getR (pc := 109) (b := (4, 0, 13)) F f_5_41 m4_0 rfl dX5_told_109 ?_
    refine jr_iload_n (pc := 112) F 1 dX5_told_112 rfl rfl ?_
    obtain ⟨c26, k⟩ := Ok_grd k
    refine jr_iald (pc := 113) F (L1 13 v_t) m4_13 (by decide) c26 (gs_at' _ _ _ _ _ _) dX5_told_113 (fun r27 => ?_)
    exact jr_iret (pc := 114) F hQ rfl dX5_told_114 ⟨_, _, rfl, r27, rfl, (Ok_some k)⟩
  have k := Ok_f h25 k
  refine jr_tsout (pc := 45) (tgt := 115) F rgp_what (by omega) (by decide) dX5_told_45 ?_
  refine jr_aload_n (pc := 115) F 0 dX5_told_115 rfl rfl ?_
  refine jr_getR (pc := 116) (b := (4, 0, 14)) F f_5_44 m4_0 rfl dX5_told_116 ?_
  refine jr_iload_n (pc := 119) F 1 dX5_told_119 rfl rfl ?_
  obtain ⟨c28, k⟩ := Ok_grd k
  refine jr_iald (pc := 120) F (L1 14 v_t) m4_14 (by decide) c28 (gs_at' _ _ _ _ _ _) dX5_told_120 (fun r29 => ?_)
  exact jr_iret (pc := 121) F hQ rfl dX5_told_121 ⟨_, _, rfl, r29, rfl, (Ok_some k)⟩
set_option maxHeartbeats 4000000 in
set_option maxRecDepth 100000 in
theorem snd_X5_train {L0 : LT} {v_weight : Int} {v_warmth : Int} {v_pace : Int} {g0 : GG} (rgp_weight : Rg v_weight) (rgp_warmth : Rg v_warmth) (rgp_pace : Rg v_pace) {Q : (Int × LT) → Prop} (k : Ok (X5_train L0 v_weight v_warmth v_pace) Q) : MetG SL yX5_train cX5_train 5 (some .int) 1 (fun ad => [.ref (ad (4, 0, 0)), iv v_weight, iv v_warmth, iv v_pace]) (gs g0 4 0 L0) (fun v g' => ∃ (x : Int) (L' : LT), v = some (iv x) ∧ Rg x ∧ g' = gs g0 4 0 L' ∧ Q (x, L')) := by
  refine met_intro SL_ok (by decide +kernel) (fun ad => Nat.le_of_ble_eq_true rfl) (fun X F hQ hR => ?_)
  replace F : FX X cX5_train RX5 5 (some .int) SL 1 := F
  show J X 0 [(0, .ref (xad X (4, 0, 0))), (1, iv v_weight), (2, iv v_warmth), (3, iv v_pace)] [] (gs g0 4 0 L0)
  refine jr_aload_n (pc := 0) F 0 dX5_train_0 rfl rfl ?_
  refine jr_iconst (pc := 1) F dX5_train_1 ?_
  obtain ⟨L1, e2, k⟩ := Ok_let k
  refine jr_putI (pc := 2) F (gs g0 4 0 L1) fw_5_92 m4_0 rfl (show Rg 0 from ⟨by decide, by decide⟩) (put1 e2) dX5_train_2 ?_
  refine jr_iconst (pc := 5) F dX5_train_5 ?_
  refine jr_istore (pc := 6) F [(4, iv 0), (0, .ref (xad X (4, 0, 0))), (1, iv v_weight), (2, iv v_warmth), (3, iv v_pace)] dX5_train_6 (by decide) rfl ?_
  refine jn (P := fun v : Int => Rg (v) → J X 58 [(0, .ref (xad X (4, 0, 0))), (1, iv v_weight), (2, iv v_warmth), (3, iv v_pace), (4, iv v)] [] (gs g0 4 0 L1)) k (fun Q4 k hJ5 => ?_) (fun z3 k r17 => ?_)
  · refine cnd (c := ((v_weight < 1) ∨ (v_warmth < 0)) ∨ (v_pace < 1)) (GT := J X 22 [(4, iv 0), (0, .ref (xad X (4, 0, 0))), (1, iv v_weight), (2, iv v_warmth), (3, iv v_pace)] [] (gs g0 4 0 L1)) (GF := J X 29 [(4, iv 0), (0, .ref (xad X (4, 0, 0))), (1, iv v_weight), (2, iv v_warmth), (3, iv v_pace)] [] (gs g0 4 0 L1)) k (fun HT HF => ?_) (fun h10 k => ?_) (fun h10 k => ?_)
    · refine jr_iload_n (pc := 8) F 2 dX5_train_8 rfl rfl ?_
      refine jr_iconst (pc := 9) F dX5_train_9 ?_
      refine jr_icmp_lt (pc := 10) (tgt := 22) F rgp_weight (show Rg 1 from ⟨by decide, by decide⟩) dX5_train_10 (by decide) (fun h7 => ?_) (fun h7 => ?_)
      · exact HT (Or.inl (Or.inl h7))
      refine jr_iload_n (pc := 13) F 3 dX5_train_13 rfl rfl ?_
      refine jr_if_lt (pc := 14) (tgt := 22) F rgp_warmth dX5_train_14 (by decide) (fun h8 => ?_) (fun h8 => ?_)
      · exact HT (Or.inl (Or.inr h8))
      refine jr_iload_n (pc := 17) F 4 dX5_train_17 rfl rfl ?_
      refine jr_iconst (pc := 18) F dX5_train_18 ?_
      refine jr_icmp_ge (pc := 19) (tgt := 29) F rgp_pace (show Rg 1 from ⟨by decide, by decide⟩) dX5_train_19 (by decide) (fun h9 => ?_) (fun h9 => ?_)
      · exact HF (fun q => q.elim (fun q => q.elim (ng_lt h7) (ng_lt h8)) (ng_lt h9))
      exact HT (Or.inr h9)
    · refine jr_bipush (pc := 22) F dX5_train_22 (by decide) ?_
      refine jr_istore (pc := 24) F [(4, iv (-4)), (0, .ref (xad X (4, 0, 0))), (1, iv v_weight), (2, iv v_warmth), (3, iv v_pace)] dX5_train_24 (by decide) rfl ?_
      refine jr_goto (pc := 26) (tgt := 58) F dX5_train_26 (by decide) ?_
      refine jr_sub F [1, 2, 3, 4, 0] [(0, .ref (xad X (4, 0, 0))), (1, iv v_weight), (2, iv v_warmth), (3, iv v_pace), (4, iv (-4))] rfl ?_
      exact hJ5 (-4) (Ok_some k) (show Rg (-4) from ⟨by decide, by decide⟩)
    refine cnd (c := (((60 < v_weight) ∨ (9 < v_warmth)) ∨ (3 < v_pace)) ∨ ((L1 0 7) = 5)) (GT := J X 54 [(4, iv 0), (0, .ref (xad X (4, 0, 0))), (1, iv v_weight), (2, iv v_warmth), (3, iv v_pace)] [] (gs g0 4 0 L1)) (GF := J X 58 [(4, iv 0), (0, .ref (xad X (4, 0, 0))), (1, iv v_weight), (2, iv v_warmth), (3, iv v_pace)] [] (gs g0 4 0 L1)) k (fun HT HF => ?_) (fun h16 k => ?_) (fun h16 k => ?_)
    · refine jr_iload_n (pc := 29) F 2 dX5_train_29 rfl rfl ?_
      refine jr_bipush (pc := 30) F dX5_train_30 (by decide) ?_
      refine jr_icmp_gt (pc := 32) (tgt := 54) F rgp_weight (show Rg 60 from ⟨by decide, by decide⟩) dX5_train_32 (by decide) (fun h11 => ?_) (fun h11 => ?_)
      · exact HT (Or.inl (Or.inl (Or.inl h11)))
      refine jr_iload_n (pc := 35) F 3 dX5_train_35 rfl rfl ?_
      refine jr_bipush (pc := 36) F dX5_train_36 (by decide) ?_
      refine jr_icmp_gt (pc := 38) (tgt := 54) F rgp_warmth (show Rg 9 from ⟨by decide, by decide⟩) dX5_train_38 (by decide) (fun h12 => ?_) (fun h12 => ?_)
      · exact HT (Or.inl (Or.inl (Or.inr h12)))
      refine jr_iload_n (pc := 41) F 4 dX5_train_41 rfl rfl ?_
      refine jr_iconst (pc := 42) F dX5_train_42 ?_
      refine jr_icmp_gt (pc := 43) (tgt := 54) F rgp_pace (show Rg 3 from ⟨by decide, by decide⟩) dX5_train_43 (by decide) (fun h13 => ?_) (fun h13 => ?_)
      · exact HT (Or.inl (Or.inr h13))
      refine jr_aload_n (pc := 46) F 1 dX5_train_46 rfl rfl ?_
      refine jr_getI (pc := 47) F (L1 0 7) f_5_99 m4_0 rfl (gs_at' _ _ _ _ _ _) dX5_train_47 (fun r14 => ?_)
      refine jr_iconst (pc := 50) F dX5_train_50 ?_
      refine jr_icmp_ne (pc := 51) (tgt := 58) F r14 (show Rg 5 from ⟨by decide, by decide⟩) dX5_train_51 (by decide) (fun h15 => ?_) (fun h15 => ?_)
      · exact HF (fun q => q.elim (fun q => q.elim (fun q => q.elim (ng_lt h11) (ng_lt h12)) (ng_lt h13)) h15)
      exact HT (Or.inr h15)
    · refine jr_bipush (pc := 54) F dX5_train_54 (by decide) ?_
      refine jr_istore (pc := 56) F [(4, iv (-6)), (0, .ref (xad X (4, 0, 0))), (1, iv v_weight), (2, iv v_warmth), (3, iv v_pace)] dX5_train_56 (by decide) rfl ?_
      refine jr_sub F [1, 2, 3, 4, 0] [(0, .ref (xad X (4, 0, 0))), (1, iv v_weight), (2, iv v_warmth), (3, iv v_pace), (4, iv (-6))] rfl ?_
      exact hJ5 (-6) (Ok_some k) (show Rg (-6) from ⟨by decide, by decide⟩)
    refine jr_sub F [1, 2, 3, 4, 0] [(0, .ref (xad X (4, 0, 0))), (1, iv v_weight), (2, iv v_warmth), (3, iv v_pace), (4, iv 0)] rfl ?_
    exact hJ5 0 (Ok_some k) (show Rg 0 from ⟨by decide, by decide⟩)
  refine jr_iload (pc := 58) F 4 dX5_train_58 rfl ?_
  refine jr_if_ge (pc := 60) (tgt := 70) F r17 dX5_train_60 (by decide) (fun h18 => ?_) (fun h18 => ?_)
  · have k := Ok_f (ng_lt h18) k
    refine jr_aload_n (pc := 70) F 0 dX5_train_70 rfl rfl ?_
    refine jr_iload_n (pc := 71) F 1 dX5_train_71 rfl rfl ?_
    refine jr_iload_n (pc := 72) F 2 dX5_train_72 rfl rfl ?_
    refine jr_iload_n (pc := 73) F 3 dX5_train_73 rfl rfl ?_
    have k := Ok_bind k
    refine jr_callV (pc := 74) (st := []) F [iv v_weight, iv v_warmth, iv v_pace] (snd_X5_trainComes  (g0 := g0) rgp_weight rgp_warmth rgp_pace k) rfl ck_5_188 rfl m4_0 rfl rfl rfl (by decide) (Nat.le_of_ble_eq_true rfl) dX5_train_74 rfl (fun v g' hq => ?_)
    obtain ⟨z20, rfl, eg, k⟩ := hq
    refine J_eq eg ?_
    show J X 77 [(0, .ref (xad X (4, 0, 0))), (1, iv v_weight), (2, iv v_warmth), (3, iv v_pace), (4, iv z3)] [] (gs g0 4 0 z20)
    refine jr_aload_n (pc := 77) F 0 dX5_train_77 rfl rfl ?_
    refine jr_iconst (pc := 78) F dX5_train_78 ?_
    obtain ⟨L21, e22, k⟩ := Ok_let k
    refine jr_putI (pc := 79) F (gs g0 4 0 L21) fw_5_212 m4_0 rfl (show Rg 0 from ⟨by decide, by decide⟩) (put1 e22) dX5_train_79 ?_
    refine jr_aload_n (pc := 82) F 0 dX5_train_82 rfl rfl ?_
    refine jr_getI (pc := 83) F (L21 0 7) f_5_99 m4_0 rfl (gs_at' _ _ _ _ _ _) dX5_train_83 (fun r23 => ?_)
    refine jr_iconst (pc := 86) F dX5_train_86 ?_
    refine jr_isub (pc := 87) F dX5_train_87 ?_
    exact jr_iret (pc := 88) F hQ rfl dX5_train_88 ⟨_, _, rfl, (rg_w _), rfl, (Ok_some k)⟩
  have k := Ok_t h18 k
  refine jr_aload_n (pc := 63) F 0 dX5_train_63 rfl rfl ?_
  refine jr_iload (pc := 64) F 4 dX5_train_64 rfl ?_
  have k := Ok_bind k
  refine jr_callV (pc := 66) (st := []) F [iv z3] (snd_X5_refuse  (g0 := g0) r17 k) rfl ck_5_139 rfl m4_0 rfl rfl rfl (by decide) (Nat.le_of_ble_eq_true rfl) dX5_train_66 rfl (fun v g' hq => ?_)
  obtain ⟨x, L', rfl, r24, eg, k⟩ := hq
  obtain ⟨z25, ez⟩ : ∃ z : Int × LT, z = (x, L') := ⟨_, rfl⟩
  obtain ⟨rfl, rfl⟩ : x = z25.1 ∧ L' = z25.2 := ⟨by rw [ez], by rw [ez]⟩
  clear ez
  refine J_eq eg ?_
  show J X 69 [(0, .ref (xad X (4, 0, 0))), (1, iv v_weight), (2, iv v_warmth), (3, iv v_pace), (4, iv z3)] [iv z25.1] (gs g0 4 0 z25.2)
  exact jr_iret (pc := 69) F hQ rfl dX5_train_69 ⟨_, _, rfl, r24, rfl, (Ok_some k)⟩
set_option maxHeartbeats 4000000 in
set_option maxRecDepth 100000 in
theorem snd_X5_trainIn {L0 : LT} {v_t : Int} {v_n : Int} {v_what : Int} {g0 : GG} (rgp_t : Rg v_t) (rgp_n : Rg v_n) (rgp_what : Rg v_what) {Q : (Int × LT) → Prop} (k : Ok (X5_trainIn L0 v_t v_n v_what) Q) : MetG SL yX5_trainIn cX5_trainIn 6 (some .int) 5 (fun ad => [.ref (ad (4, 0, 0)), iv v_t, iv v_n, iv v_what]) (gs g0 4 0 L0) (fun v g' => ∃ (x : Int) (L' : LT), v = some (iv x) ∧ Rg x ∧ g' = gs g0 4 0 L' ∧ Q (x, L')) := by
  refine met_intro SL_ok (by decide +kernel) (fun ad => Nat.le_of_ble_eq_true rfl) (fun X F hQ hR => ?_)
  replace F : FX X cX5_trainIn RX5 6 (some .int) SL 5 := F
  show J X 0 [(0, .ref (xad X (4, 0, 0))), (1, iv v_t), (2, iv v_n), (3, iv v_what)] [] (gs g0 4 0 L0)
  refine jr_aload_n (pc := 0) F 0 dX5_trainIn_0 rfl rfl ?_
  refine jr_iconst (pc := 1) F dX5_trainIn_1 ?_
  obtain ⟨L1, e2, k⟩ := Ok_let k
  refine jr_putI (pc := 2) F (gs g0 4 0 L1) fw_5_92 m4_0 rfl (show Rg 0 from ⟨by decide, by decide⟩) (put1 e2) dX5_trainIn_2 ?_
  refine jifP (P := fun v => Rg v → J X 24 [(0, .ref (xad X (4, 0, 0))), (1, iv v_t), (2, iv v_n), (3, iv v_what)] (iv v :: []) (gs g0 4 0 L1)) (c := ¬ (X5_isTrain_v L1 v_t) = 0) (X5_wrongNumber_v v_n 0 72) ((-1)) (fun Ht Hf => ?_) (fun r6 => ?_)
  · refine jr_aload_n (pc := 5) F 0 dX5_trainIn_5 rfl rfl ?_
    refine jr_iload_n (pc := 6) F 1 dX5_trainIn_6 rfl rfl ?_
    refine jr_callV (pc := 7) (st := []) F [iv v_t] (snd_X5_isTrain  (g0 := g0) rgp_t (X5_isTrain_ok _ _ )) rfl ck_5_192 rfl m4_0 rfl rfl rfl (by decide) (Nat.le_of_ble_eq_true rfl) dX5_trainIn_7 rfl (fun v g' hq => ?_)
    obtain ⟨x, rfl, r3, eg, hx⟩ := hq
    subst hx
    refine J_eq eg ?_
    show J X 10 [(0, .ref (xad X (4, 0, 0))), (1, iv v_t), (2, iv v_n), (3, iv v_what)] [iv (X5_isTrain_v L1 v_t)] (gs g0 4 0 L1)
    refine jr_if_eq (pc := 10) (tgt := 23) F (rg_z r3) dX5_trainIn_10 (by decide) (fun h4 => ?_) (fun h4 => ?_)
    · refine jr_iconst (pc := 23) F dX5_trainIn_23 ?_
      exact Hf (fun q => q h4) (show Rg (-1) from ⟨by decide, by decide⟩)
    refine jr_iload_n (pc := 13) F 2 dX5_trainIn_13 rfl rfl ?_
    refine jr_iconst (pc := 14) F dX5_trainIn_14 ?_
    refine jr_bipush (pc := 15) F dX5_trainIn_15 (by decide) ?_
    refine jr_callS (pc := 17) (st := []) F [iv v_n, iv 0, iv 72] (snd_X5_wrongNumber (g0 := gs g0 4 0 L1) rgp_n (show Rg 0 from ⟨by decide, by decide⟩) (show Rg 72 from ⟨by decide, by decide⟩) (X5_wrongNumber_ok _ _ _ )) rfl ck_5_236 rfl rfl (by decide) (Nat.le_of_ble_eq_true rfl) dX5_trainIn_17 rfl (fun v g' hq => ?_)
    obtain ⟨x, rfl, r5, eg, hx⟩ := hq
    subst hx
    refine J_eq eg ?_
    show J X 20 [(0, .ref (xad X (4, 0, 0))), (1, iv v_t), (2, iv v_n), (3, iv v_what)] [iv (X5_wrongNumber_v v_n 0 72)] (gs g0 4 0 L1)
    refine jr_goto (pc := 20) (tgt := 24) F dX5_trainIn_20 (by decide) ?_
    exact Ht h4 r5
  refine jr_iload_n (pc := 24) F 3 dX5_trainIn_24 rfl rfl ?_
  refine jr_iconst (pc := 25) F dX5_trainIn_25 ?_
  refine jr_callS (pc := 26) (st := []) F [iv (if ¬ (X5_isTrain_v L1 v_t) = 0 then X5_wrongNumber_v v_n 0 72 else (-1)), iv v_what, iv 2] (snd_X5_wrongBit (g0 := gs g0 4 0 L1) r6 rgp_what (show Rg 2 from ⟨by decide, by decide⟩) (X5_wrongBit_ok _ _ _ )) rfl ck_5_246 rfl rfl (by decide) (Nat.le_of_ble_eq_true rfl) dX5_trainIn_26 rfl (fun v g' hq => ?_)
  obtain ⟨x, rfl, r7, eg, hx⟩ := hq
  subst hx
  refine J_eq eg ?_
  show J X 29 [(0, .ref (xad X (4, 0, 0))), (1, iv v_t), (2, iv v_n), (3, iv v_what)] [iv (X5_wrongBit_v (if ¬ (X5_isTrain_v L1 v_t) = 0 then X5_wrongNumber_v v_n 0 72 else (-1)) v_what 2)] (gs g0 4 0 L1)
  obtain ⟨x8, e9, k⟩ := Ok_let k
  have r10 : Rg x8 := rg_of e9 r7
  refine jr_top e9 ?_
  refine jr_istore (pc := 29) F [(4, iv x8), (0, .ref (xad X (4, 0, 0))), (1, iv v_t), (2, iv v_n), (3, iv v_what)] dX5_trainIn_29 (by decide) rfl ?_
  refine jr_iload (pc := 31) F 0 dX5_trainIn_31 rfl ?_
  refine jr_if_ge (pc := 33) (tgt := 43) F r10 dX5_trainIn_33 (by decide) (fun h11 => ?_) (fun h11 => ?_)
  · have k := Ok_f (ng_lt h11) k
    refine jr_aload_n (pc := 43) F 1 dX5_trainIn_43 rfl rfl ?_
    have k := Ok_bind k
    refine jr_callV (pc := 44) (st := []) F [] (snd_X5_open  (g0 := g0)  k) rfl ck_5_203 rfl m4_0 rfl rfl rfl (by decide) (Nat.le_of_ble_eq_true rfl) dX5_trainIn_44 rfl (fun v g' hq => ?_)
    obtain ⟨z13, rfl, eg, k⟩ := hq
    refine J_eq eg ?_
    show J X 47 [(4, iv x8), (0, .ref (xad X (4, 0, 0))), (1, iv v_t), (2, iv v_n), (3, iv v_what)] [] (gs g0 4 0 z13)
    refine jr_aload_n (pc := 47) F 1 dX5_trainIn_47 rfl rfl ?_
    refine jr_iload_n (pc := 48) F 3 dX5_trainIn_48 rfl rfl ?_
    have k := Ok_bind k
    refine jr_callV (pc := 49) (st := []) F [iv v_n] (snd_X5_goHours  (g0 := g0) rgp_n k) rfl ck_5_197 rfl m4_0 rfl rfl rfl (by decide) (Nat.le_of_ble_eq_true rfl) dX5_trainIn_49 rfl (fun v g' hq => ?_)
    obtain ⟨z15, rfl, eg, k⟩ := hq
    refine J_eq eg ?_
    show J X 52 [(4, iv x8), (0, .ref (xad X (4, 0, 0))), (1, iv v_t), (2, iv v_n), (3, iv v_what)] [] (gs g0 4 0 z15)
    obtain ⟨c16, k⟩ := Ok_grd k
    obtain ⟨c17, k⟩ := Ok_grd k
    obtain ⟨c18, k⟩ := Ok_grd k
    refine jifP (P := fun v => Rg v → J X 85 [(4, iv x8), (0, .ref (xad X (4, 0, 0))), (1, iv v_t), (2, iv v_n), (3, iv v_what)] (iv v :: []) (gs g0 4 0 z15)) (c := v_what = 0) (z15 14 v_t) (if v_what = 1 then z15 12 v_t else z15 18 v_t) (fun Ht Hf => ?_) (fun r25 => ?_)
    · refine jr_iload_n (pc := 52) F 4 dX5_trainIn_52 rfl rfl ?_
      refine jr_if_ne (pc := 53) (tgt := 65) F rgp_what dX5_trainIn_53 (by decide) (fun h19 => ?_) (fun h19 => ?_)
      · refine jifP (P := fun v => Rg v → J X 85 [(4, iv x8), (0, .ref (xad X (4, 0, 0))), (1, iv v_t), (2, iv v_n), (3, iv v_what)] (iv v :: []) (gs g0 4 0 z15)) (c := v_what = 1) (z15 12 v_t) (z15 18 v_t) (fun Ht Hf => ?_) (fun r23 => ?_)
        · refine jr_iload_n (pc := 65) F 4 dX5_trainIn_65 rfl rfl ?_
          refine jr_iconst (pc := 66) F dX5_trainIn_66 ?_
          refine jr_icmp_ne (pc := 67) (tgt := 79) F rgp_what (show Rg 1 from ⟨by decide, by decide⟩) dX5_trainIn_67 (by decide) (fun h20 => ?_) (fun h20 => ?_)
          · refine jr_aload_n (pc := 79) F 1 dX5_trainIn_79 rfl rfl ?_
            refine jr_getR (pc := 80) (b := (4, 0, 18)) F f_5_53 m4_0 rfl dX5_trainIn_80 ?_
            refine jr_iload_n (pc := 83) F 2 dX5_trainIn_83 rfl rfl ?_
            refine jr_iald (pc := 84) F (z15 18 v_t) m4_18 (by decide) (c18 h19 h20) (gs_at' _ _ _ _ _ _) dX5_trainIn_84 (fun r21 => ?_)
            exact Hf h20 r21
          refine jr_aload_n (pc := 70) F 1 dX5_trainIn_70 rfl rfl ?_
          refine jr_getR (pc := 71) (b := (4, 0, 12)) F f_5_38 m4_0 rfl dX5_trainIn_71 ?_
          refine jr_iload_n (pc := 74) F 2 dX5_trainIn_74 rfl rfl ?_
          refine jr_iald (pc := 75) F (z15 12 v_t) m4_12 (by decide) (c17 h19 h20) (gs_at' _ _ _ _ _ _) dX5_trainIn_75 (fun r22 => ?_)
          refine jr_goto (pc := 76) (tgt := 85) F dX5_trainIn_76 (by decide) ?_
          exact Ht h20 r22
        exact Hf h19 r23
      refine jr_aload_n (pc := 56) F 1 dX5_trainIn_56 rfl rfl ?_
      refine jr_getR (pc := 57) (b := (4, 0, 14)) F f_5_44 m4_0 rfl dX5_trainIn_57 ?_
      refine jr_iload_n (pc := 60) F 2 dX5_trainIn_60 rfl rfl ?_
      refine jr_iald (pc := 61) F (z15 14 v_t) m4_14 (by decide) (c16 h19) (gs_at' _ _ _ _ _ _) dX5_trainIn_61 (fun r24 => ?_)
      refine jr_goto (pc := 62) (tgt := 85) F dX5_trainIn_62 (by decide) ?_
      exact Ht h19 r24
    obtain ⟨x26, e27, k⟩ := Ok_let k
    have r28 : Rg x26 := rg_of e27 r25
    refine jr_top e27 ?_
    refine jr_istore (pc := 85) F [(5, iv x26), (4, iv x8), (0, .ref (xad X (4, 0, 0))), (1, iv v_t), (2, iv v_n), (3, iv v_what)] dX5_trainIn_85 (by decide) rfl ?_
    refine jr_aload_n (pc := 87) F 2 dX5_trainIn_87 rfl rfl ?_
    have k := Ok_bind k
    refine jr_callV (pc := 88) (st := []) F [] (snd_X5_close  (g0 := g0)  k) rfl ck_5_209 rfl m4_0 rfl rfl rfl (by decide) (Nat.le_of_ble_eq_true rfl) dX5_trainIn_88 rfl (fun v g' hq => ?_)
    obtain ⟨z30, rfl, eg, k⟩ := hq
    refine J_eq eg ?_
    show J X 91 [(5, iv x26), (4, iv x8), (0, .ref (xad X (4, 0, 0))), (1, iv v_t), (2, iv v_n), (3, iv v_what)] [] (gs g0 4 0 z30)
    refine jr_iload (pc := 91) F 0 dX5_trainIn_91 rfl ?_
    exact jr_iret (pc := 93) F hQ rfl dX5_trainIn_93 ⟨_, _, rfl, r28, rfl, (Ok_some k)⟩
  have k := Ok_t h11 k
  refine jr_aload_n (pc := 36) F 1 dX5_trainIn_36 rfl rfl ?_
  refine jr_iload (pc := 37) F 0 dX5_trainIn_37 rfl ?_
  have k := Ok_bind k
  refine jr_callV (pc := 39) (st := []) F [iv x8] (snd_X5_refuse  (g0 := g0) r10 k) rfl ck_5_139 rfl m4_0 rfl rfl rfl (by decide) (Nat.le_of_ble_eq_true rfl) dX5_trainIn_39 rfl (fun v g' hq => ?_)
  obtain ⟨x, L', rfl, r31, eg, k⟩ := hq
  obtain ⟨z32, ez⟩ : ∃ z : Int × LT, z = (x, L') := ⟨_, rfl⟩
  obtain ⟨rfl, rfl⟩ : x = z32.1 ∧ L' = z32.2 := ⟨by rw [ez], by rw [ez]⟩
  clear ez
  refine J_eq eg ?_
  show J X 42 [(4, iv x8), (0, .ref (xad X (4, 0, 0))), (1, iv v_t), (2, iv v_n), (3, iv v_what)] [iv z32.1] (gs g0 4 0 z32.2)
  exact jr_iret (pc := 42) F hQ rfl dX5_trainIn_42 ⟨_, _, rfl, r31, rfl, (Ok_some k)⟩
set_option maxHeartbeats 4000000 in
set_option maxRecDepth 100000 in
theorem snd_X5_turn {L0 : LT} {v_y : Int} {v_kind : Int} {v_figure : Int} {g0 : GG} (rgp_y : Rg v_y) (rgp_kind : Rg v_kind) (rgp_figure : Rg v_figure) {Q : (Int × LT) → Prop} (k : Ok (X5_turn L0 v_y v_kind v_figure) Q) : MetG SL yX5_turn cX5_turn 6 (some .int) 3 (fun ad => [.ref (ad (4, 0, 0)), iv v_y, iv v_kind, iv v_figure]) (gs g0 4 0 L0) (fun v g' => ∃ (x : Int) (L' : LT), v = some (iv x) ∧ Rg x ∧ g' = gs g0 4 0 L' ∧ Q (x, L')) := by
  refine met_intro SL_ok (by decide +kernel) (fun ad => Nat.le_of_ble_eq_true rfl) (fun X F hQ hR => ?_)
  replace F : FX X cX5_turn RX5 6 (some .int) SL 3 := F
  show J X 0 [(0, .ref (xad X (4, 0, 0))), (1, iv v_y), (2, iv v_kind), (3, iv v_figure)] [] (gs g0 4 0 L0)
  refine jr_aload_n (pc := 0) F 0 dX5_turn_0 rfl rfl ?_
  refine jr_iconst (pc := 1) F dX5_turn_1 ?_
  obtain ⟨L1, e2, k⟩ := Ok_let k
  refine jr_putI (pc := 2) F (gs g0 4 0 L1) fw_5_92 m4_0 rfl (show Rg 0 from ⟨by decide, by decide⟩) (put1 e2) dX5_turn_2 ?_
  refine jifP (P := fun v => Rg v → J X 41 [(0, .ref (xad X (4, 0, 0))), (1, iv v_y), (2, iv v_kind), (3, iv v_figure)] (iv v :: []) (gs g0 4 0 L1)) (c := (X5_isYard_v L1 v_y) = 0) ((-1)) (if (X5_in_v v_kind 0 5) = 0 then (-2) else X5_wrongNumber_v v_figure 0 9) (fun Ht Hf => ?_) (fun r9 => ?_)
  · refine jr_aload_n (pc := 5) F 0 dX5_turn_5 rfl rfl ?_
    refine jr_iload_n (pc := 6) F 1 dX5_turn_6 rfl rfl ?_
    refine jr_callV (pc := 7) (st := []) F [iv v_y] (snd_X5_isYard  (g0 := g0) rgp_y (X5_isYard_ok _ _ )) rfl ck_5_181 rfl m4_0 rfl rfl rfl (by decide) (Nat.le_of_ble_eq_true rfl) dX5_turn_7 rfl (fun v g' hq => ?_)
    obtain ⟨x, rfl, r3, eg, hx⟩ := hq
    subst hx
    refine J_eq eg ?_
    show J X 10 [(0, .ref (xad X (4, 0, 0))), (1, iv v_y), (2, iv v_kind), (3, iv v_figure)] [iv (X5_isYard_v L1 v_y)] (gs g0 4 0 L1)
    refine jr_if_ne (pc := 10) (tgt := 17) F (rg_z r3) dX5_turn_10 (by decide) (fun h4 => ?_) (fun h4 => ?_)
    · refine jifP (P := fun v => Rg v → J X 41 [(0, .ref (xad X (4, 0, 0))), (1, iv v_y), (2, iv v_kind), (3, iv v_figure)] (iv v :: []) (gs g0 4 0 L1)) (c := (X5_in_v v_kind 0 5) = 0) ((-2)) (X5_wrongNumber_v v_figure 0 9) (fun Ht Hf => ?_) (fun r8 => ?_)
      · refine jr_iload_n (pc := 17) F 2 dX5_turn_17 rfl rfl ?_
        refine jr_i2l (pc := 18) F rgp_kind dX5_turn_18 ?_
        refine jr_lconst (pc := 19) (v := 0) F dX5_turn_19 (by decide) ?_
        refine jr_ldc2 (pc := 20) F kc_5_234 dX5_turn_20 ?_
        refine jr_callS (pc := 23) (st := []) F [lgv v_kind, lgv 0, lgv 5] (snd_X5_in (g0 := gs g0 4 0 L1) (rl_rg rgp_kind) (show Rl 0 from ⟨by decide, by decide⟩) (show Rl 5 from ⟨by decide, by decide⟩) (X5_in_ok _ _ _ )) rfl ck_5_95 rfl rfl (by decide) (Nat.le_of_ble_eq_true rfl) dX5_turn_23 rfl (fun v g' hq => ?_)
        obtain ⟨x, rfl, r5, eg, hx⟩ := hq
        subst hx
        refine J_eq eg ?_
        show J X 26 [(0, .ref (xad X (4, 0, 0))), (1, iv v_y), (2, iv v_kind), (3, iv v_figure)] [iv (X5_in_v v_kind 0 5)] (gs g0 4 0 L1)
        refine jr_if_ne (pc := 26) (tgt := 34) F (rg_z r5) dX5_turn_26 (by decide) (fun h6 => ?_) (fun h6 => ?_)
        · refine jr_iload_n (pc := 34) F 3 dX5_turn_34 rfl rfl ?_
          refine jr_iconst (pc := 35) F dX5_turn_35 ?_
          refine jr_bipush (pc := 36) F dX5_turn_36 (by decide) ?_
          refine jr_callS (pc := 38) (st := []) F [iv v_figure, iv 0, iv 9] (snd_X5_wrongNumber (g0 := gs g0 4 0 L1) rgp_figure (show Rg 0 from ⟨by decide, by decide⟩) (show Rg 9 from ⟨by decide, by decide⟩) (X5_wrongNumber_ok _ _ _ )) rfl ck_5_236 rfl rfl (by decide) (Nat.le_of_ble_eq_true rfl) dX5_turn_38 rfl (fun v g' hq => ?_)
          obtain ⟨x, rfl, r7, eg, hx⟩ := hq
          subst hx
          refine J_eq eg ?_
          show J X 41 [(0, .ref (xad X (4, 0, 0))), (1, iv v_y), (2, iv v_kind), (3, iv v_figure)] [iv (X5_wrongNumber_v v_figure 0 9)] (gs g0 4 0 L1)
          exact Hf h6 r7
        refine jr_bipush (pc := 29) F dX5_turn_29 (by decide) ?_
        refine jr_goto (pc := 31) (tgt := 41) F dX5_turn_31 (by decide) ?_
        exact Ht h6 (show Rg (-2) from ⟨by decide, by decide⟩)
      exact Hf h4 r8
    refine jr_iconst (pc := 13) F dX5_turn_13 ?_
    refine jr_goto (pc := 14) (tgt := 41) F dX5_turn_14 (by decide) ?_
    exact Ht h4 (show Rg (-1) from ⟨by decide, by decide⟩)
  obtain ⟨x10, e11, k⟩ := Ok_let k
  have r12 : Rg x10 := rg_of e11 r9
  refine jr_top e11 ?_
  refine jr_istore (pc := 41) F [(4, iv x10), (0, .ref (xad X (4, 0, 0))), (1, iv v_y), (2, iv v_kind), (3, iv v_figure)] dX5_turn_41 (by decide) rfl ?_
  refine jr_iload (pc := 43) F 0 dX5_turn_43 rfl ?_
  refine jr_if_ge (pc := 45) (tgt := 55) F r12 dX5_turn_45 (by decide) (fun h13 => ?_) (fun h13 => ?_)
  · have k := Ok_f (ng_lt h13) k
    refine jr_aload_n (pc := 55) F 1 dX5_turn_55 rfl rfl ?_
    have k := Ok_bind k
    refine jr_callV (pc := 56) (st := []) F [] (snd_X5_keepTurn  (g0 := g0)  k) rfl ck_5_240 rfl m4_0 rfl rfl rfl (by decide) (Nat.le_of_ble_eq_true rfl) dX5_turn_56 rfl (fun v g' hq => ?_)
    obtain ⟨z15, rfl, eg, k⟩ := hq
    refine J_eq eg ?_
    show J X 59 [(4, iv x10), (0, .ref (xad X (4, 0, 0))), (1, iv v_y), (2, iv v_kind), (3, iv v_figure)] [] (gs g0 4 0 z15)
    refine jr_bipush (pc := 59) F dX5_turn_59 (by decide) ?_
    refine jr_aload_n (pc := 61) F 1 dX5_turn_61 rfl rfl ?_
    refine jr_getR (pc := 62) (b := (4, 0, 2)) F f_5_13 m4_0 rfl dX5_turn_62 ?_
    refine jr_iload_n (pc := 65) F 2 dX5_turn_65 rfl rfl ?_
    obtain ⟨c16, k⟩ := Ok_grd k
    refine jr_iald (pc := 66) F (z15 2 v_y) m4_2 (by decide) c16 (gs_at' _ _ _ _ _ _) dX5_turn_66 (fun r17 => ?_)
    refine jr_imul (pc := 67) F dX5_turn_67 ?_
    refine jr_aload_n (pc := 68) F 1 dX5_turn_68 rfl rfl ?_
    refine jr_getR (pc := 69) (b := (4, 0, 3)) F f_5_17 m4_0 rfl dX5_turn_69 ?_
    refine jr_iload_n (pc := 72) F 2 dX5_turn_72 rfl rfl ?_
    refine jr_iald (pc := 73) F (z15 3 v_y) m4_3 (by decide) c16 (gs_at' _ _ _ _ _ _) dX5_turn_73 (fun r18 => ?_)
    refine jr_iadd (pc := 74) F dX5_turn_74 ?_
    obtain ⟨x19, e20, k⟩ := Ok_let k
    have r21 : Rg x19 := rg_of e20 (rg_w _)
    refine jr_top e20 ?_
    refine jr_istore (pc := 75) F [(5, iv x19), (4, iv x10), (0, .ref (xad X (4, 0, 0))), (1, iv v_y), (2, iv v_kind), (3, iv v_figure)] dX5_turn_75 (by decide) rfl ?_
    refine jr_aload_n (pc := 77) F 2 dX5_turn_77 rfl rfl ?_
    refine jr_getR (pc := 78) (b := (4, 0, 2)) F f_5_13 m4_0 rfl dX5_turn_78 ?_
    refine jr_iload_n (pc := 81) F 3 dX5_turn_81 rfl rfl ?_
    refine jr_iload_n (pc := 82) F 4 dX5_turn_82 rfl rfl ?_
    obtain ⟨L22, e23, k⟩ := Ok_let k
    refine jr_iast (pc := 83) F (gs g0 4 0 L22) m4_2 (by decide) c16 rgp_kind (put1 e23) dX5_turn_83 ?_
    refine jr_aload_n (pc := 84) F 2 dX5_turn_84 rfl rfl ?_
    refine jr_getR (pc := 85) (b := (4, 0, 3)) F f_5_17 m4_0 rfl dX5_turn_85 ?_
    refine jr_iload_n (pc := 88) F 3 dX5_turn_88 rfl rfl ?_
    refine jr_iload_n (pc := 89) F 5 dX5_turn_89 rfl rfl ?_
    obtain ⟨L24, e25, k⟩ := Ok_let k
    refine jr_iast (pc := 90) F (gs g0 4 0 L24) m4_3 (by decide) c16 rgp_figure (put1 e25) dX5_turn_90 ?_
    refine jr_iload (pc := 91) F 0 dX5_turn_91 rfl ?_
    exact jr_iret (pc := 93) F hQ rfl dX5_turn_93 ⟨_, _, rfl, r21, rfl, (Ok_some k)⟩
  have k := Ok_t h13 k
  refine jr_aload_n (pc := 48) F 1 dX5_turn_48 rfl rfl ?_
  refine jr_iload (pc := 49) F 0 dX5_turn_49 rfl ?_
  have k := Ok_bind k
  refine jr_callV (pc := 51) (st := []) F [iv x10] (snd_X5_refuse  (g0 := g0) r12 k) rfl ck_5_139 rfl m4_0 rfl rfl rfl (by decide) (Nat.le_of_ble_eq_true rfl) dX5_turn_51 rfl (fun v g' hq => ?_)
  obtain ⟨x, L', rfl, r26, eg, k⟩ := hq
  obtain ⟨z27, ez⟩ : ∃ z : Int × LT, z = (x, L') := ⟨_, rfl⟩
  obtain ⟨rfl, rfl⟩ : x = z27.1 ∧ L' = z27.2 := ⟨by rw [ez], by rw [ez]⟩
  clear ez
  refine J_eq eg ?_
  show J X 54 [(4, iv x10), (0, .ref (xad X (4, 0, 0))), (1, iv v_y), (2, iv v_kind), (3, iv v_figure)] [iv z27.1] (gs g0 4 0 z27.2)
  exact jr_iret (pc := 54) F hQ rfl dX5_turn_54 ⟨_, _, rfl, r26, rfl, (Ok_some k)⟩
set_option maxHeartbeats 4000000 in
set_option maxRecDepth 100000 in
theorem snd_X5_waits {L0 : LT} {v_t : Int} {v_v : Int} {g0 : GG} (rgp_t : Rg v_t) (rgp_v : Rg v_v) {Q : (Int × LT) → Prop} (k : Ok (X5_waits L0 v_t v_v) Q) : MetG SL yX5_waits cX5_waits 5 (some .int) 3 (fun ad => [.ref (ad (4, 0, 0)), iv v_t, iv v_v]) (gs g0 4 0 L0) (fun v g' => ∃ (x : Int) (L' : LT), v = some (iv x) ∧ Rg x ∧ g' = gs g0 4 0 L' ∧ Q (x, L')) := by
  refine met_intro SL_ok (by decide +kernel) (fun ad => Nat.le_of_ble_eq_true rfl) (fun X F hQ hR => ?_)
  replace F : FX X cX5_waits RX5 5 (some .int) SL 3 := F
  show J X 0 [(0, .ref (xad X (4, 0, 0))), (1, iv v_t), (2, iv v_v)] [] (gs g0 4 0 L0)
  refine jr_aload_n (pc := 0) F 0 dX5_waits_0 rfl rfl ?_
  refine jr_iconst (pc := 1) F dX5_waits_1 ?_
  obtain ⟨L1, e2, k⟩ := Ok_let k
  refine jr_putI (pc := 2) F (gs g0 4 0 L1) fw_5_92 m4_0 rfl (show Rg 0 from ⟨by decide, by decide⟩) (put1 e2) dX5_waits_2 ?_
  refine jifP (P := fun v => Rg v → J X 24 [(0, .ref (xad X (4, 0, 0))), (1, iv v_t), (2, iv v_v)] (iv v :: []) (gs g0 4 0 L1)) (c := ¬ (X5_isTrain_v L1 v_t) = 0) (X5_wrongNumber_v v_v 0 48) ((-1)) (fun Ht Hf => ?_) (fun r6 => ?_)
  · refine jr_aload_n (pc := 5) F 0 dX5_waits_5 rfl rfl ?_
    refine jr_iload_n (pc := 6) F 1 dX5_waits_6 rfl rfl ?_
    refine jr_callV (pc := 7) (st := []) F [iv v_t] (snd_X5_isTrain  (g0 := g0) rgp_t (X5_isTrain_ok _ _ )) rfl ck_5_192 rfl m4_0 rfl rfl rfl (by decide) (Nat.le_of_ble_eq_true rfl) dX5_waits_7 rfl (fun v g' hq => ?_)
    obtain ⟨x, rfl, r3, eg, hx⟩ := hq
    subst hx
    refine J_eq eg ?_
    show J X 10 [(0, .ref (xad X (4, 0, 0))), (1, iv v_t), (2, iv v_v)] [iv (X5_isTrain_v L1 v_t)] (gs g0 4 0 L1)
    refine jr_if_eq (pc := 10) (tgt := 23) F (rg_z r3) dX5_waits_10 (by decide) (fun h4 => ?_) (fun h4 => ?_)
    · refine jr_iconst (pc := 23) F dX5_waits_23 ?_
      exact Hf (fun q => q h4) (show Rg (-1) from ⟨by decide, by decide⟩)
    refine jr_iload_n (pc := 13) F 2 dX5_waits_13 rfl rfl ?_
    refine jr_iconst (pc := 14) F dX5_waits_14 ?_
    refine jr_bipush (pc := 15) F dX5_waits_15 (by decide) ?_
    refine jr_callS (pc := 17) (st := []) F [iv v_v, iv 0, iv 48] (snd_X5_wrongNumber (g0 := gs g0 4 0 L1) rgp_v (show Rg 0 from ⟨by decide, by decide⟩) (show Rg 48 from ⟨by decide, by decide⟩) (X5_wrongNumber_ok _ _ _ )) rfl ck_5_236 rfl rfl (by decide) (Nat.le_of_ble_eq_true rfl) dX5_waits_17 rfl (fun v g' hq => ?_)
    obtain ⟨x, rfl, r5, eg, hx⟩ := hq
    subst hx
    refine J_eq eg ?_
    show J X 20 [(0, .ref (xad X (4, 0, 0))), (1, iv v_t), (2, iv v_v)] [iv (X5_wrongNumber_v v_v 0 48)] (gs g0 4 0 L1)
    refine jr_goto (pc := 20) (tgt := 24) F dX5_waits_20 (by decide) ?_
    exact Ht h4 r5
  obtain ⟨x7, e8, k⟩ := Ok_let k
  have r9 : Rg x7 := rg_of e8 r6
  refine jr_top e8 ?_
  refine jr_istore_n (pc := 24) F [(3, iv x7), (0, .ref (xad X (4, 0, 0))), (1, iv v_t), (2, iv v_v)] dX5_waits_24 rfl (by decide) rfl ?_
  obtain ⟨c10, k⟩ := Ok_grd k
  refine jifP (P := fun v => Rg v → J X 44 [(3, iv x7), (0, .ref (xad X (4, 0, 0))), (1, iv v_t), (2, iv v_v)] (iv v :: []) (gs g0 4 0 L1)) (c := (x7 = 0) ∧ (¬ (L1 14 v_t) = 0)) ((-3)) (x7) (fun Ht Hf => ?_) (fun r14 => ?_)
  · refine jr_iload_n (pc := 25) F 0 dX5_waits_25 rfl rfl ?_
    refine jr_if_ne (pc := 26) (tgt := 43) F r9 dX5_waits_26 (by decide) (fun h11 => ?_) (fun h11 => ?_)
    · refine jr_iload_n (pc := 43) F 0 dX5_waits_43 rfl rfl ?_
      exact Hf (fun q => h11 q.1) r9
    refine jr_aload_n (pc := 29) F 1 dX5_waits_29 rfl rfl ?_
    refine jr_getR (pc := 30) (b := (4, 0, 14)) F f_5_44 m4_0 rfl dX5_waits_30 ?_
    refine jr_iload_n (pc := 33) F 2 dX5_waits_33 rfl rfl ?_
    refine jr_iald (pc := 34) F (L1 14 v_t) m4_14 (by decide) (c10 h11) (gs_at' _ _ _ _ _ _) dX5_waits_34 (fun r12 => ?_)
    refine jr_if_eq (pc := 35) (tgt := 43) F r12 dX5_waits_35 (by decide) (fun h13 => ?_) (fun h13 => ?_)
    · refine jr_iload_n (pc := 43) F 0 dX5_waits_43 rfl rfl ?_
      exact Hf (fun q => (fun q => q h13) q.2) r9
    refine jr_bipush (pc := 38) F dX5_waits_38 (by decide) ?_
    refine jr_goto (pc := 40) (tgt := 44) F dX5_waits_40 (by decide) ?_
    exact Ht ⟨h11, h13⟩ (show Rg (-3) from ⟨by decide, by decide⟩)
  obtain ⟨x15, e16, k⟩ := Ok_let k
  have r17 : Rg x15 := rg_of e16 r14
  refine jr_top e16 ?_
  refine jr_istore_n (pc := 44) F [(3, iv x15), (0, .ref (xad X (4, 0, 0))), (1, iv v_t), (2, iv v_v)] dX5_waits_44 rfl (by decide) rfl ?_
  refine jr_iload_n (pc := 45) F 0 dX5_waits_45 rfl rfl ?_
  refine jr_if_ge (pc := 46) (tgt := 55) F r17 dX5_waits_46 (by decide) (fun h18 => ?_) (fun h18 => ?_)
  · have k := Ok_f (ng_lt h18) k
    refine jr_aload_n (pc := 55) F 1 dX5_waits_55 rfl rfl ?_
    have k := Ok_bind k
    refine jr_callV (pc := 56) (st := []) F [] (snd_X5_keepTurn  (g0 := g0)  k) rfl ck_5_240 rfl m4_0 rfl rfl rfl (by decide) (Nat.le_of_ble_eq_true rfl) dX5_waits_56 rfl (fun v g' hq => ?_)
    obtain ⟨z20, rfl, eg, k⟩ := hq
    refine J_eq eg ?_
    show J X 59 [(3, iv x15), (0, .ref (xad X (4, 0, 0))), (1, iv v_t), (2, iv v_v)] [] (gs g0 4 0 z20)
    refine jr_aload_n (pc := 59) F 1 dX5_waits_59 rfl rfl ?_
    refine jr_getR (pc := 60) (b := (4, 0, 13)) F f_5_41 m4_0 rfl dX5_waits_60 ?_
    refine jr_iload_n (pc := 63) F 2 dX5_waits_63 rfl rfl ?_
    obtain ⟨c21, k⟩ := Ok_grd k
    refine jr_iald (pc := 64) F (z20 13 v_t) m4_13 (by decide) c21 (gs_at' _ _ _ _ _ _) dX5_waits_64 (fun r22 => ?_)
    obtain ⟨x23, e24, k⟩ := Ok_let k
    have r25 : Rg x23 := rg_of e24 r22
    refine jr_top e24 ?_
    refine jr_istore (pc := 65) F [(4, iv x23), (3, iv x15), (0, .ref (xad X (4, 0, 0))), (1, iv v_t), (2, iv v_v)] dX5_waits_65 (by decide) rfl ?_
    refine jr_aload_n (pc := 67) F 2 dX5_waits_67 rfl rfl ?_
    refine jr_getR (pc := 68) (b := (4, 0, 13)) F f_5_41 m4_0 rfl dX5_waits_68 ?_
    refine jr_iload_n (pc := 71) F 3 dX5_waits_71 rfl rfl ?_
    refine jr_iload_n (pc := 72) F 4 dX5_waits_72 rfl rfl ?_
    obtain ⟨L26, e27, k⟩ := Ok_let k
    refine jr_iast (pc := 73) F (gs g0 4 0 L26) m4_13 (by decide) c21 rgp_v (put1 e27) dX5_waits_73 ?_
    refine jr_iload (pc := 74) F 0 dX5_waits_74 rfl ?_
    exact jr_iret (pc := 76) F hQ rfl dX5_waits_76 ⟨_, _, rfl, r25, rfl, (Ok_some k)⟩
  have k := Ok_t h18 k
  refine jr_aload_n (pc := 49) F 1 dX5_waits_49 rfl rfl ?_
  refine jr_iload_n (pc := 50) F 0 dX5_waits_50 rfl rfl ?_
  have k := Ok_bind k
  refine jr_callV (pc := 51) (st := []) F [iv x15] (snd_X5_refuse  (g0 := g0) r17 k) rfl ck_5_139 rfl m4_0 rfl rfl rfl (by decide) (Nat.le_of_ble_eq_true rfl) dX5_waits_51 rfl (fun v g' hq => ?_)
  obtain ⟨x, L', rfl, r28, eg, k⟩ := hq
  obtain ⟨z29, ez⟩ : ∃ z : Int × LT, z = (x, L') := ⟨_, rfl⟩
  obtain ⟨rfl, rfl⟩ : x = z29.1 ∧ L' = z29.2 := ⟨by rw [ez], by rw [ez]⟩
  clear ez
  refine J_eq eg ?_
  show J X 54 [(3, iv x15), (0, .ref (xad X (4, 0, 0))), (1, iv v_t), (2, iv v_v)] [iv z29.1] (gs g0 4 0 z29.2)
  exact jr_iret (pc := 54) F hQ rfl dX5_waits_54 ⟨_, _, rfl, r28, rfl, (Ok_some k)⟩
set_option maxHeartbeats 4000000 in
set_option maxRecDepth 100000 in
theorem snd_X5_weather {L0 : LT} {v_what : Int} {v_v : Int} {g0 : GG} (rgp_what : Rg v_what) (rgp_v : Rg v_v) {Q : (Int × LT) → Prop} (k : Ok (X5_weather L0 v_what v_v) Q) : MetG SL yX5_weather cX5_weather 5 (some .int) 3 (fun ad => [.ref (ad (4, 0, 0)), iv v_what, iv v_v]) (gs g0 4 0 L0) (fun v g' => ∃ (x : Int) (L' : LT), v = some (iv x) ∧ Rg x ∧ g' = gs g0 4 0 L' ∧ Q (x, L')) := by
  refine met_intro SL_ok (by decide +kernel) (fun ad => Nat.le_of_ble_eq_true rfl) (fun X F hQ hR => ?_)
  replace F : FX X cX5_weather RX5 5 (some .int) SL 3 := F
  show J X 0 [(0, .ref (xad X (4, 0, 0))), (1, iv v_what), (2, iv v_v)] [] (gs g0 4 0 L0)
  refine jr_aload_n (pc := 0) F 0 dX5_weather_0 rfl rfl ?_
  refine jr_iconst (pc := 1) F dX5_weather_1 ?_
  obtain ⟨L1, e2, k⟩ := Ok_let k
  refine jr_putI (pc := 2) F (gs g0 4 0 L1) fw_5_92 m4_0 rfl (show Rg 0 from ⟨by decide, by decide⟩) (put1 e2) dX5_weather_2 ?_
  refine jifP (P := fun v => Rg v → J X 27 [(0, .ref (xad X (4, 0, 0))), (1, iv v_what), (2, iv v_v)] (iv v :: []) (gs g0 4 0 L1)) (c := ¬ (X5_in_v v_what 0 1) = 0) (X5_wrongNumber_v v_v 0 9) ((-2)) (fun Ht Hf => ?_) (fun r6 => ?_)
  · refine jr_iload_n (pc := 5) F 1 dX5_weather_5 rfl rfl ?_
    refine jr_i2l (pc := 6) F rgp_what dX5_weather_6 ?_
    refine jr_lconst (pc := 7) (v := 0) F dX5_weather_7 (by decide) ?_
    refine jr_lconst (pc := 8) (v := 1) F dX5_weather_8 (by decide) ?_
    refine jr_callS (pc := 9) (st := []) F [lgv v_what, lgv 0, lgv 1] (snd_X5_in (g0 := gs g0 4 0 L1) (rl_rg rgp_what) (show Rl 0 from ⟨by decide, by decide⟩) (show Rl 1 from ⟨by decide, by decide⟩) (X5_in_ok _ _ _ )) rfl ck_5_95 rfl rfl (by decide) (Nat.le_of_ble_eq_true rfl) dX5_weather_9 rfl (fun v g' hq => ?_)
    obtain ⟨x, rfl, r3, eg, hx⟩ := hq
    subst hx
    refine J_eq eg ?_
    show J X 12 [(0, .ref (xad X (4, 0, 0))), (1, iv v_what), (2, iv v_v)] [iv (X5_in_v v_what 0 1)] (gs g0 4 0 L1)
    refine jr_if_eq (pc := 12) (tgt := 25) F (rg_z r3) dX5_weather_12 (by decide) (fun h4 => ?_) (fun h4 => ?_)
    · refine jr_bipush (pc := 25) F dX5_weather_25 (by decide) ?_
      exact Hf (fun q => q h4) (show Rg (-2) from ⟨by decide, by decide⟩)
    refine jr_iload_n (pc := 15) F 2 dX5_weather_15 rfl rfl ?_
    refine jr_iconst (pc := 16) F dX5_weather_16 ?_
    refine jr_bipush (pc := 17) F dX5_weather_17 (by decide) ?_
    refine jr_callS (pc := 19) (st := []) F [iv v_v, iv 0, iv 9] (snd_X5_wrongNumber (g0 := gs g0 4 0 L1) rgp_v (show Rg 0 from ⟨by decide, by decide⟩) (show Rg 9 from ⟨by decide, by decide⟩) (X5_wrongNumber_ok _ _ _ )) rfl ck_5_236 rfl rfl (by decide) (Nat.le_of_ble_eq_true rfl) dX5_weather_19 rfl (fun v g' hq => ?_)
    obtain ⟨x, rfl, r5, eg, hx⟩ := hq
    subst hx
    refine J_eq eg ?_
    show J X 22 [(0, .ref (xad X (4, 0, 0))), (1, iv v_what), (2, iv v_v)] [iv (X5_wrongNumber_v v_v 0 9)] (gs g0 4 0 L1)
    refine jr_goto (pc := 22) (tgt := 27) F dX5_weather_22 (by decide) ?_
    exact Ht h4 r5
  obtain ⟨x7, e8, k⟩ := Ok_let k
  have r9 : Rg x7 := rg_of e8 r6
  refine jr_top e8 ?_
  refine jr_istore_n (pc := 27) F [(3, iv x7), (0, .ref (xad X (4, 0, 0))), (1, iv v_what), (2, iv v_v)] dX5_weather_27 rfl (by decide) rfl ?_
  refine jr_iload_n (pc := 28) F 0 dX5_weather_28 rfl rfl ?_
  refine jr_if_ge (pc := 29) (tgt := 38) F r9 dX5_weather_29 (by decide) (fun h10 => ?_) (fun h10 => ?_)
  · have k := Ok_f (ng_lt h10) k
    refine jr_aload_n (pc := 38) F 1 dX5_weather_38 rfl rfl ?_
    have k := Ok_bind k
    refine jr_callV (pc := 39) (st := []) F [] (snd_X5_keepTurn  (g0 := g0)  k) rfl ck_5_240 rfl m4_0 rfl rfl rfl (by decide) (Nat.le_of_ble_eq_true rfl) dX5_weather_39 rfl (fun v g' hq => ?_)
    obtain ⟨z12, rfl, eg, k⟩ := hq
    refine J_eq eg ?_
    show J X 42 [(3, iv x7), (0, .ref (xad X (4, 0, 0))), (1, iv v_what), (2, iv v_v)] [] (gs g0 4 0 z12)
    refine jifP (P := fun v => Rg v → J X 57 [(3, iv x7), (0, .ref (xad X (4, 0, 0))), (1, iv v_what), (2, iv v_v)] (iv v :: []) (gs g0 4 0 z12)) (c := v_what = 0) (z12 0 5) (z12 0 6) (fun Ht Hf => ?_) (fun r16 => ?_)
    · refine jr_iload_n (pc := 42) F 2 dX5_weather_42 rfl rfl ?_
      refine jr_if_ne (pc := 43) (tgt := 53) F rgp_what dX5_weather_43 (by decide) (fun h13 => ?_) (fun h13 => ?_)
      · refine jr_aload_n (pc := 53) F 1 dX5_weather_53 rfl rfl ?_
        refine jr_getI (pc := 54) F (z12 0 6) f_5_26 m4_0 rfl (gs_at' _ _ _ _ _ _) dX5_weather_54 (fun r14 => ?_)
        exact Hf h13 r14
      refine jr_aload_n (pc := 46) F 1 dX5_weather_46 rfl rfl ?_
      refine jr_getI (pc := 47) F (z12 0 5) f_5_23 m4_0 rfl (gs_at' _ _ _ _ _ _) dX5_weather_47 (fun r15 => ?_)
      refine jr_goto (pc := 50) (tgt := 57) F dX5_weather_50 (by decide) ?_
      exact Ht h13 r15
    obtain ⟨x17, e18, k⟩ := Ok_let k
    have r19 : Rg x17 := rg_of e18 r16
    refine jr_top e18 ?_
    refine jr_istore (pc := 57) F [(4, iv x17), (3, iv x7), (0, .ref (xad X (4, 0, 0))), (1, iv v_what), (2, iv v_v)] dX5_weather_57 (by decide) rfl ?_
    refine jr_aload_n (pc := 59) F 2 dX5_weather_59 rfl rfl ?_
    refine jifP (P := fun v => Rg v → J X 72 [(4, iv x17), (3, iv x7), (0, .ref (xad X (4, 0, 0))), (1, iv v_what), (2, iv v_v)] (iv v :: [.ref (xad X (4, 0, 0))]) (gs g0 4 0 z12)) (c := v_what = 0) (v_v) (z12 0 5) (fun Ht Hf => ?_) (fun r22 => ?_)
    · refine jr_iload_n (pc := 60) F 3 dX5_weather_60 rfl rfl ?_
      refine jr_if_ne (pc := 61) (tgt := 68) F rgp_what dX5_weather_61 (by decide) (fun h20 => ?_) (fun h20 => ?_)
      · refine jr_aload_n (pc := 68) F 2 dX5_weather_68 rfl rfl ?_
        refine jr_getI (pc := 69) F (z12 0 5) f_5_23 m4_0 rfl (gs_at' _ _ _ _ _ _) dX5_weather_69 (fun r21 => ?_)
        exact Hf h20 r21
      refine jr_iload_n (pc := 64) F 4 dX5_weather_64 rfl rfl ?_
      refine jr_goto (pc := 65) (tgt := 72) F dX5_weather_65 (by decide) ?_
      exact Ht h20 rgp_v
    obtain ⟨L23, e24, k⟩ := Ok_let k
    refine jr_putI (pc := 72) F (gs g0 4 0 L23) fw_5_23 m4_0 rfl r22 (put1 e24) dX5_weather_72 ?_
    refine jr_aload_n (pc := 75) F 2 dX5_weather_75 rfl rfl ?_
    refine jifP (P := fun v => Rg v → J X 89 [(4, iv x17), (3, iv x7), (0, .ref (xad X (4, 0, 0))), (1, iv v_what), (2, iv v_v)] (iv v :: [.ref (xad X (4, 0, 0))]) (gs g0 4 0 L23)) (c := v_what = 1) (v_v) (L23 0 6) (fun Ht Hf => ?_) (fun r27 => ?_)
    · refine jr_iload_n (pc := 76) F 3 dX5_weather_76 rfl rfl ?_
      refine jr_iconst (pc := 77) F dX5_weather_77 ?_
      refine jr_icmp_ne (pc := 78) (tgt := 85) F rgp_what (show Rg 1 from ⟨by decide, by decide⟩) dX5_weather_78 (by decide) (fun h25 => ?_) (fun h25 => ?_)
      · refine jr_aload_n (pc := 85) F 2 dX5_weather_85 rfl rfl ?_
        refine jr_getI (pc := 86) F (L23 0 6) f_5_26 m4_0 rfl (gs_at' _ _ _ _ _ _) dX5_weather_86 (fun r26 => ?_)
        exact Hf h25 r26
      refine jr_iload_n (pc := 81) F 4 dX5_weather_81 rfl rfl ?_
      refine jr_goto (pc := 82) (tgt := 89) F dX5_weather_82 (by decide) ?_
      exact Ht h25 rgp_v
    obtain ⟨L28, e29, k⟩ := Ok_let k
    refine jr_putI (pc := 89) F (gs g0 4 0 L28) fw_5_26 m4_0 rfl r27 (put1 e29) dX5_weather_89 ?_
    refine jr_iload (pc := 92) F 0 dX5_weather_92 rfl ?_
    exact jr_iret (pc := 94) F hQ rfl dX5_weather_94 ⟨_, _, rfl, r19, rfl, (Ok_some k)⟩
  have k := Ok_t h10 k
  refine jr_aload_n (pc := 32) F 1 dX5_weather_32 rfl rfl ?_
  refine jr_iload_n (pc := 33) F 0 dX5_weather_33 rfl rfl ?_
  have k := Ok_bind k
  refine jr_callV (pc := 34) (st := []) F [iv x7] (snd_X5_refuse  (g0 := g0) r9 k) rfl ck_5_139 rfl m4_0 rfl rfl rfl (by decide) (Nat.le_of_ble_eq_true rfl) dX5_weather_34 rfl (fun v g' hq => ?_)
  obtain ⟨x, L', rfl, r30, eg, k⟩ := hq
  obtain ⟨z31, ez⟩ : ∃ z : Int × LT, z = (x, L') := ⟨_, rfl⟩
  obtain ⟨rfl, rfl⟩ : x = z31.1 ∧ L' = z31.2 := ⟨by rw [ez], by rw [ez]⟩
  clear ez
  refine J_eq eg ?_
  show J X 37 [(3, iv x7), (0, .ref (xad X (4, 0, 0))), (1, iv v_what), (2, iv v_v)] [iv z31.1] (gs g0 4 0 z31.2)
  exact jr_iret (pc := 37) F hQ rfl dX5_weather_37 ⟨_, _, rfl, r30, rfl, (Ok_some k)⟩
set_option maxHeartbeats 4000000 in
set_option maxRecDepth 100000 in
theorem snd_X5_yard {L0 : LT} {v_y : Int} {v_what : Int} {g0 : GG} (rgp_y : Rg v_y) (rgp_what : Rg v_what) {Q : (Int × LT) → Prop} (k : Ok (X5_yard L0 v_y v_what) Q) : MetG SL yX5_yard cX5_yard 3 (some .int) 2 (fun ad => [.ref (ad (4, 0, 0)), iv v_y, iv v_what]) (gs g0 4 0 L0) (fun v g' => ∃ (x : Int) (L' : LT), v = some (iv x) ∧ Rg x ∧ g' = gs g0 4 0 L' ∧ Q (x, L')) := by
  refine met_intro SL_ok (by decide +kernel) (fun ad => Nat.le_of_ble_eq_true rfl) (fun X F hQ hR => ?_)
  replace F : FX X cX5_yard RX5 3 (some .int) SL 2 := F
  show J X 0 [(0, .ref (xad X (4, 0, 0))), (1, iv v_y), (2, iv v_what)] [] (gs g0 4 0 L0)
  refine jr_aload_n (pc := 0) F 0 dX5_yard_0 rfl rfl ?_
  refine jr_iconst (pc := 1) F dX5_yard_1 ?_
  obtain ⟨L1, e2, k⟩ := Ok_let k
  refine jr_putI (pc := 2) F (gs g0 4 0 L1) fw_5_92 m4_0 rfl (show Rg 0 from ⟨by decide, by decide⟩) (put1 e2) dX5_yard_2 ?_
  refine cnd (c := ((X5_isYard_v L1 v_y) = 0) ∨ ((X5_in_v v_what 0 5) = 0)) (GT := J X 25 [(0, .ref (xad X (4, 0, 0))), (1, iv v_y), (2, iv v_what)] [] (gs g0 4 0 L1)) (GF := J X 44 [(0, .ref (xad X (4, 0, 0))), (1, iv v_y), (2, iv v_what)] [] (gs g0 4 0 L1)) k (fun HT HF => ?_) (fun h7 k => ?_) (fun h7 k => ?_)
  · refine jr_aload_n (pc := 5) F 0 dX5_yard_5 rfl rfl ?_
    refine jr_iload_n (pc := 6) F 1 dX5_yard_6 rfl rfl ?_
    refine jr_callV (pc := 7) (st := []) F [iv v_y] (snd_X5_isYard  (g0 := g0) rgp_y (X5_isYard_ok _ _ )) rfl ck_5_181 rfl m4_0 rfl rfl rfl (by decide) (Nat.le_of_ble_eq_true rfl) dX5_yard_7 rfl (fun v g' hq => ?_)
    obtain ⟨x, rfl, r3, eg, hx⟩ := hq
    subst hx
    refine J_eq eg ?_
    show J X 10 [(0, .ref (xad X (4, 0, 0))), (1, iv v_y), (2, iv v_what)] [iv (X5_isYard_v L1 v_y)] (gs g0 4 0 L1)
    refine jr_if_eq (pc := 10) (tgt := 25) F (rg_z r3) dX5_yard_10 (by decide) (fun h4 => ?_) (fun h4 => ?_)
    · exact HT (Or.inl h4)
    refine jr_iload_n (pc := 13) F 2 dX5_yard_13 rfl rfl ?_
    refine jr_i2l (pc := 14) F rgp_what dX5_yard_14 ?_
    refine jr_lconst (pc := 15) (v := 0) F dX5_yard_15 (by decide) ?_
    refine jr_ldc2 (pc := 16) F kc_5_234 dX5_yard_16 ?_
    refine jr_callS (pc := 19) (st := []) F [lgv v_what, lgv 0, lgv 5] (snd_X5_in (g0 := gs g0 4 0 L1) (rl_rg rgp_what) (show Rl 0 from ⟨by decide, by decide⟩) (show Rl 5 from ⟨by decide, by decide⟩) (X5_in_ok _ _ _ )) rfl ck_5_95 rfl rfl (by decide) (Nat.le_of_ble_eq_true rfl) dX5_yard_19 rfl (fun v g' hq => ?_)
    obtain ⟨x, rfl, r5, eg, hx⟩ := hq
    subst hx
    refine J_eq eg ?_
    show J X 22 [(0, .ref (xad X (4, 0, 0))), (1, iv v_y), (2, iv v_what)] [iv (X5_in_v v_what 0 5)] (gs g0 4 0 L1)
    refine jr_if_ne (pc := 22) (tgt := 44) F (rg_z r5) dX5_yard_22 (by decide) (fun h6 => ?_) (fun h6 => ?_)
    · exact HF (fun q => q.elim h4 h6)
    exact HT (Or.inr h6)
  · refine jr_aload_n (pc := 25) F 0 dX5_yard_25 rfl rfl ?_
    refine jifP (P := fun v => Rg v → J X 40 [(0, .ref (xad X (4, 0, 0))), (1, iv v_y), (2, iv v_what)] (iv v :: [.ref (xad X (4, 0, 0))]) (gs g0 4 0 L1)) (c := ¬ (X5_isYard_v L1 v_y) = 0) ((-2)) ((-1)) (fun Ht Hf => ?_) (fun r10 => ?_)
    · refine jr_aload_n (pc := 26) F 0 dX5_yard_26 rfl rfl ?_
      refine jr_iload_n (pc := 27) F 1 dX5_yard_27 rfl rfl ?_
      refine jr_callV (pc := 28) (st := [.ref (xad X (4, 0, 0))]) F [iv v_y] (snd_X5_isYard  (g0 := g0) rgp_y (X5_isYard_ok _ _ )) rfl ck_5_181 rfl m4_0 rfl rfl rfl (by decide) (Nat.le_of_ble_eq_true rfl) dX5_yard_28 rfl (fun v g' hq => ?_)
      obtain ⟨x, rfl, r8, eg, hx⟩ := hq
      subst hx
      refine J_eq eg ?_
      show J X 31 [(0, .ref (xad X (4, 0, 0))), (1, iv v_y), (2, iv v_what)] [iv (X5_isYard_v L1 v_y), .ref (xad X (4, 0, 0))] (gs g0 4 0 L1)
      refine jr_if_eq (pc := 31) (tgt := 39) F (rg_z r8) dX5_yard_31 (by decide) (fun h9 => ?_) (fun h9 => ?_)
      · refine jr_iconst (pc := 39) F dX5_yard_39 ?_
        exact Hf (fun q => q h9) (show Rg (-1) from ⟨by decide, by decide⟩)
      refine jr_bipush (pc := 34) F dX5_yard_34 (by decide) ?_
      refine jr_goto (pc := 36) (tgt := 40) F dX5_yard_36 (by decide) ?_
      exact Ht h9 (show Rg (-2) from ⟨by decide, by decide⟩)
    have k := Ok_bind k
    refine jr_callV (pc := 40) (st := []) F [iv (if ¬ (X5_isYard_v L1 v_y) = 0 then (-2) else (-1))] (snd_X5_refuse  (g0 := g0) r10 k) rfl ck_5_139 rfl m4_0 rfl rfl rfl (by decide) (Nat.le_of_ble_eq_true rfl) dX5_yard_40 rfl (fun v g' hq => ?_)
    obtain ⟨x, L', rfl, r11, eg, k⟩ := hq
    obtain ⟨z12, ez⟩ : ∃ z : Int × LT, z = (x, L') := ⟨_, rfl⟩
    obtain ⟨rfl, rfl⟩ : x = z12.1 ∧ L' = z12.2 := ⟨by rw [ez], by rw [ez]⟩
    clear ez
    refine J_eq eg ?_
    show J X 43 [(0, .ref (xad X (4, 0, 0))), (1, iv v_y), (2, iv v_what)] [iv z12.1] (gs g0 4 0 z12.2)
    exact jr_iret (pc := 43) F hQ rfl dX5_yard_43 ⟨_, _, rfl, r11, rfl, (Ok_some k)⟩
  refine jr_iload_n (pc := 44) F 2 dX5_yard_44 rfl rfl ?_
  by_cases h13 : v_what = 0
  · have k := Ok_t h13 k
    refine jr_tsin (pc := 45) (tgt := 80) (off := 35) F h13 ⟨by decide, by decide⟩ ⟨by decide, by decide⟩ rfl (by decide) dX5_yard_45 ?_
    refine jr_aload_n (pc := 80) F 0 dX5_yard_80 rfl rfl ?_
    refine jr_getR (pc := 81) (b := (4, 0, 2)) F f_5_13 m4_0 rfl dX5_yard_81 ?_
    refine jr_iload_n (pc := 84) F 1 dX5_yard_84 rfl rfl ?_
    obtain ⟨c14, k⟩ := Ok_grd k
    refine jr_iald (pc := 85) F (L1 2 v_y) m4_2 (by decide) c14 (gs_at' _ _ _ _ _ _) dX5_yard_85 (fun r15 => ?_)
    exact jr_iret (pc := 86) F hQ rfl dX5_yard_86 ⟨_, _, rfl, r15, rfl, (Ok_some k)⟩
  have k := Ok_f h13 k
  by_cases h16 : v_what = 1
  · have k := Ok_t h16 k
    refine jr_tsin (pc := 45) (tgt := 87) (off := 42) F h16 ⟨by decide, by decide⟩ ⟨by decide, by decide⟩ rfl (by decide) dX5_yard_45 ?_
    refine jr_aload_n (pc := 87) F 0 dX5_yard_87 rfl rfl ?_
    refine jr_getR (pc := 88) (b := (4, 0, 3)) F f_5_17 m4_0 rfl dX5_yard_88 ?_
    refine jr_iload_n (pc := 91) F 1 dX5_yard_91 rfl rfl ?_
    obtain ⟨c17, k⟩ := Ok_grd k
    refine jr_iald (pc := 92) F (L1 3 v_y) m4_3 (by decide) c17 (gs_at' _ _ _ _ _ _) dX5_yard_92 (fun r18 => ?_)
    exact jr_iret (pc := 93) F hQ rfl dX5_yard_93 ⟨_, _, rfl, r18, rfl, (Ok_some k)⟩
  have k := Ok_f h16 k
  by_cases h19 : v_what = 2
  · have k := Ok_t h19 k
    refine jr_tsin (pc := 45) (tgt := 94) (off := 49) F h19 ⟨by decide, by decide⟩ ⟨by decide, by decide⟩ rfl (by decide) dX5_yard_45 ?_
    refine jr_aload_n (pc := 94) F 0 dX5_yard_94 rfl rfl ?_
    refine jr_getR (pc := 95) (b := (4, 0, 4)) F f_5_20 m4_0 rfl dX5_yard_95 ?_
    refine jr_iload_n (pc := 98) F 1 dX5_yard_98 rfl rfl ?_
    obtain ⟨c20, k⟩ := Ok_grd k
    refine jr_iald (pc := 99) F (L1 4 v_y) m4_4 (by decide) c20 (gs_at' _ _ _ _ _ _) dX5_yard_99 (fun r21 => ?_)
    exact jr_iret (pc := 100) F hQ rfl dX5_yard_100 ⟨_, _, rfl, r21, rfl, (Ok_some k)⟩
  have k := Ok_f h19 k
  by_cases h22 : v_what = 3
  · have k := Ok_t h22 k
    refine jr_tsin (pc := 45) (tgt := 101) (off := 56) F h22 ⟨by decide, by decide⟩ ⟨by decide, by decide⟩ rfl (by decide) dX5_yard_45 ?_
    refine jr_aload_n (pc := 101) F 0 dX5_yard_101 rfl rfl ?_
    refine jr_iload_n (pc := 102) F 1 dX5_yard_102 rfl rfl ?_
    obtain ⟨c24, k⟩ := Ok_grd k
    refine jr_callV (pc := 103) (st := []) F [iv v_y] (snd_X5_freezes  (g0 := g0) rgp_y (X5_freezes_ok _ _ c24)) rfl ck_5_123 rfl m4_0 rfl rfl rfl (by decide) (Nat.le_of_ble_eq_true rfl) dX5_yard_103 rfl (fun v g' hq => ?_)
    obtain ⟨x, rfl, r23, eg, hx⟩ := hq
    subst hx
    refine J_eq eg ?_
    show J X 106 [(0, .ref (xad X (4, 0, 0))), (1, iv v_y), (2, iv v_what)] [iv (X5_freezes_v L1 v_y)] (gs g0 4 0 L1)
    exact jr_iret (pc := 106) F hQ rfl dX5_yard_106 ⟨_, _, rfl, r23, rfl, (Ok_some k)⟩
  have k := Ok_f h22 k
  by_cases h25 : v_what = 4
  · have k := Ok_t h25 k
    refine jr_tsin (pc := 45) (tgt := 107) (off := 62) F h25 ⟨by decide, by decide⟩ ⟨by decide, by decide⟩ rfl (by decide) dX5_yard_45 ?_
    refine jr_aload_n (pc := 107) F 0 dX5_yard_107 rfl rfl ?_
    refine jr_iload_n (pc := 108) F 1 dX5_yard_108 rfl rfl ?_
    obtain ⟨c27, k⟩ := Ok_grd k
    refine jr_callV (pc := 109) (st := []) F [iv v_y] (snd_X5_melts  (g0 := g0) rgp_y (X5_melts_ok _ _ c27)) rfl ck_5_126 rfl m4_0 rfl rfl rfl (by decide) (Nat.le_of_ble_eq_true rfl) dX5_yard_109 rfl (fun v g' hq => ?_)
    obtain ⟨x, rfl, r26, eg, hx⟩ := hq
    subst hx
    refine J_eq eg ?_
    show J X 112 [(0, .ref (xad X (4, 0, 0))), (1, iv v_y), (2, iv v_what)] [iv (X5_melts_v L1 v_y)] (gs g0 4 0 L1)
    exact jr_iret (pc := 112) F hQ rfl dX5_yard_112 ⟨_, _, rfl, r26, rfl, (Ok_some k)⟩
  have k := Ok_f h25 k
  refine jr_tsout (pc := 45) (tgt := 113) F rgp_what (by omega) (by decide) dX5_yard_45 ?_
  refine jr_aload_n (pc := 113) F 0 dX5_yard_113 rfl rfl ?_
  refine jr_iload_n (pc := 114) F 1 dX5_yard_114 rfl rfl ?_
  refine jr_bipush (pc := 115) F dX5_yard_115 (by decide) ?_
  obtain ⟨c29, k⟩ := Ok_grd k
  refine jr_callV (pc := 117) (st := []) F [iv v_y, iv 20] (snd_X5_wants  (g0 := g0) rgp_y (show Rg 20 from ⟨by decide, by decide⟩) (X5_wants_ok _ _ _ c29)) rfl ck_5_106 rfl m4_0 rfl rfl rfl (by decide) (Nat.le_of_ble_eq_true rfl) dX5_yard_117 rfl (fun v g' hq => ?_)
  obtain ⟨x, rfl, r28, eg, hx⟩ := hq
  subst hx
  refine J_eq eg ?_
  show J X 120 [(0, .ref (xad X (4, 0, 0))), (1, iv v_y), (2, iv v_what)] [iv (X5_wants_v L1 v_y 20)] (gs g0 4 0 L1)
  exact jr_iret (pc := 120) F hQ rfl dX5_yard_120 ⟨_, _, rfl, r28, rfl, (Ok_some k)⟩
