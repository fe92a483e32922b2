set_option maxHeartbeats 4000000 in
set_option maxRecDepth 100000 in
theorem snd_X5_readStatement {L0 : LT} {g0 : GG}  {Q : (LT) → Prop} (k : Ok (X5_readStatement L0) Q) : MetG SL yX5_readStatement cX5_readStatement 3 none 3 (fun ad => [.ref (ad (4, 0, 0))]) (gs g0 4 0 L0) (fun v g' => ∃ L' : LT, v = none ∧ g' = gs g0 4 0 L' ∧ Q L') := by
  refine met_intro SL_ok (by decide +kernel) (fun ad => Nat.le_of_ble_eq_true rfl) (fun X F hQ hR => ?_)
  replace F : FX X cX5_readStatement RX5 3 none SL 3 := F
  show J X 0 [(0, .ref (xad X (4, 0, 0)))] [] (gs g0 4 0 L0)
  refine jr_aload_n (pc := 0) F 0 dX5_readStatement_0 rfl rfl ?_
  refine jr_getI (pc := 1) F (L0 0 22) f_5_163 m4_0 rfl (gs_at' _ _ _ _ _ _) dX5_readStatement_1 (fun r1 => ?_)
  obtain ⟨x2, e3, k⟩ := Ok_let k
  have r4 : Rg x2 := rg_of e3 r1
  refine jr_top e3 ?_
  refine jr_istore_n (pc := 4) F [(1, iv x2), (0, .ref (xad X (4, 0, 0)))] dX5_readStatement_4 rfl (by decide) rfl ?_
  refine jr_aload_n (pc := 5) F 1 dX5_readStatement_5 rfl rfl ?_
  obtain ⟨c6, k⟩ := Ok_grd k
  refine jr_callV (pc := 6) (st := []) F [] (snd_X5_here  (g0 := g0)  (X5_here_ok _ c6)) rfl ck_5_152 rfl m4_0 rfl rfl rfl (by decide) (Nat.le_of_ble_eq_true rfl) dX5_readStatement_6 rfl (fun v g' hq => ?_)
  obtain ⟨x, rfl, r5, eg, hx⟩ := hq
  subst hx
  refine J_eq eg ?_
  show J X 9 [(1, iv x2), (0, .ref (xad X (4, 0, 0)))] [iv (X5_here_v L0)] (gs g0 4 0 L0)
  obtain ⟨x7, e8, k⟩ := Ok_let k
  have r9 : Rg x7 := rg_of e8 r5
  refine jr_top e8 ?_
  refine jr_istore_n (pc := 9) F [(2, iv x7), (1, iv x2), (0, .ref (xad X (4, 0, 0)))] dX5_readStatement_9 rfl (by decide) rfl ?_
  refine jr_aload_n (pc := 10) F 2 dX5_readStatement_10 rfl rfl ?_
  refine jr_getR (pc := 11) (b := (4, 0, 24)) F f_5_59 m4_0 rfl dX5_readStatement_11 ?_
  refine jr_iload_n (pc := 14) F 1 dX5_readStatement_14 rfl rfl ?_
  refine jr_aload_n (pc := 15) F 2 dX5_readStatement_15 rfl rfl ?_
  refine jr_getI (pc := 16) F (L0 0 20) f_5_145 m4_0 rfl (gs_at' _ _ _ _ _ _) dX5_readStatement_16 (fun r10 => ?_)
  obtain ⟨c11, k⟩ := Ok_grd k
  obtain ⟨L12, e13, k⟩ := Ok_let k
  refine jr_iast (pc := 19) F (gs g0 4 0 L12) m4_24 (by decide) c11 r10 (put1 e13) dX5_readStatement_19 ?_
  refine jr_aload_n (pc := 20) F 2 dX5_readStatement_20 rfl rfl ?_
  refine jr_getR (pc := 21) (b := (4, 0, 25)) F f_5_62 m4_0 rfl dX5_readStatement_21 ?_
  refine jr_iload_n (pc := 24) F 1 dX5_readStatement_24 rfl rfl ?_
  refine jr_iload_n (pc := 25) F 0 dX5_readStatement_25 rfl rfl ?_
  obtain ⟨L14, e15, k⟩ := Ok_let k
  refine jr_iast (pc := 26) F (gs g0 4 0 L14) m4_25 (by decide) c11 r9 (put1 e15) dX5_readStatement_26 ?_
  refine jr_aload_n (pc := 27) F 2 dX5_readStatement_27 rfl rfl ?_
  refine jifP (P := fun v => Bz v → J X 47 [(2, iv x7), (1, iv x2), (0, .ref (xad X (4, 0, 0)))] (iv v :: [.ref (xad X (4, 0, 0))]) (gs g0 4 0 L14)) (c := (¬ (L14 0 21) = 0) ∨ ((X5_isLetter_v x7) = 0)) (1) (0) (fun Ht Hf => ?_) (fun r20 => ?_)
  · refine jr_aload_n (pc := 28) F 2 dX5_readStatement_28 rfl rfl ?_
    refine jr_getI (pc := 29) F (L14 0 21) f_5_148 m4_0 rfl (gs_at' _ _ _ _ _ _) dX5_readStatement_29 (fun r16 => ?_)
    refine jr_if_ne (pc := 32) (tgt := 42) F r16 dX5_readStatement_32 (by decide) (fun h17 => ?_) (fun h17 => ?_)
    · refine jr_iconst (pc := 42) F dX5_readStatement_42 ?_
      refine jr_goto (pc := 43) (tgt := 47) F dX5_readStatement_43 (by decide) ?_
      exact Ht (Or.inl h17) (Or.inr rfl)
    refine jr_iload_n (pc := 35) F 0 dX5_readStatement_35 rfl rfl ?_
    refine jr_callS (pc := 36) (st := [.ref (xad X (4, 0, 0))]) F [iv x7] (snd_X5_isLetter (g0 := gs g0 4 0 L14) r9 (X5_isLetter_ok _ )) rfl ck_5_166 rfl rfl (by decide) (Nat.le_of_ble_eq_true rfl) dX5_readStatement_36 rfl (fun v g' hq => ?_)
    obtain ⟨x, rfl, r18, eg, hx⟩ := hq
    subst hx
    refine J_eq eg ?_
    show J X 39 [(2, iv x7), (1, iv x2), (0, .ref (xad X (4, 0, 0)))] [iv (X5_isLetter_v x7), .ref (xad X (4, 0, 0))] (gs g0 4 0 L14)
    refine jr_if_ne (pc := 39) (tgt := 46) F (rg_z r18) dX5_readStatement_39 (by decide) (fun h19 => ?_) (fun h19 => ?_)
    · refine jr_iconst (pc := 46) F dX5_readStatement_46 ?_
      exact Hf (fun q => q.elim (fun q => q h17) h19) (Or.inl rfl)
    refine jr_iconst (pc := 42) F dX5_readStatement_42 ?_
    refine jr_goto (pc := 43) (tgt := 47) F dX5_readStatement_43 (by decide) ?_
    exact Ht (Or.inr h19) (Or.inr rfl)
  obtain ⟨L21, e22, k⟩ := Ok_let k
  refine jr_putZ (pc := 47) F (gs g0 4 0 L21) fw_5_148 m4_0 rfl r20 (put1 e22) dX5_readStatement_47 ?_
  refine jr_aload_n (pc := 50) F 2 dX5_readStatement_50 rfl rfl ?_
  refine jr_dup (pc := 51) F dX5_readStatement_51 rfl ?_
  refine jr_getI (pc := 52) F (L21 0 20) f_5_145 m4_0 rfl (gs_at' _ _ _ _ _ _) dX5_readStatement_52 (fun r23 => ?_)
  refine jifP (P := fun v => Bz v → J X 67 [(2, iv x7), (1, iv x2), (0, .ref (xad X (4, 0, 0)))] (iv v :: [iv (L21 0 20), .ref (xad X (4, 0, 0))]) (gs g0 4 0 L21)) (c := ¬ (L21 0 21) = 0) (0) (1) (fun Ht Hf => ?_) (fun r26 => ?_)
  · refine jr_aload_n (pc := 55) F 2 dX5_readStatement_55 rfl rfl ?_
    refine jr_getI (pc := 56) F (L21 0 21) f_5_148 m4_0 rfl (gs_at' _ _ _ _ _ _) dX5_readStatement_56 (fun r24 => ?_)
    refine jr_if_eq (pc := 59) (tgt := 66) F r24 dX5_readStatement_59 (by decide) (fun h25 => ?_) (fun h25 => ?_)
    · refine jr_iconst (pc := 66) F dX5_readStatement_66 ?_
      exact Hf (fun q => q h25) (Or.inr rfl)
    refine jr_iconst (pc := 62) F dX5_readStatement_62 ?_
    refine jr_goto (pc := 63) (tgt := 67) F dX5_readStatement_63 (by decide) ?_
    exact Ht h25 (Or.inl rfl)
  refine jr_iadd (pc := 67) F dX5_readStatement_67 ?_
  obtain ⟨L27, e28, k⟩ := Ok_let k
  refine jr_putI (pc := 68) F (gs g0 4 0 L27) fw_5_145 m4_0 rfl (rg_w _) (put1 e28) dX5_readStatement_68 ?_
  refine jn (P := fun v : LT => J X 86 [(0, .ref (xad X (4, 0, 0))), (1, iv x2), (2, iv x7)] [] (gs g0 4 0 v)) k (fun Q30 k hJ31 => ?_) (fun z29 k  => ?_)
  · refine cnd (c := (L27 0 21) = 0) (GT := J X 78 [(2, iv x7), (1, iv x2), (0, .ref (xad X (4, 0, 0)))] [] (gs g0 4 0 L27)) (GF := J X 86 [(2, iv x7), (1, iv x2), (0, .ref (xad X (4, 0, 0)))] [] (gs g0 4 0 L27)) k (fun HT HF => ?_) (fun h35 k => ?_) (fun h35 k => ?_)
    · refine jr_aload_n (pc := 71) F 2 dX5_readStatement_71 rfl rfl ?_
      refine jr_getI (pc := 72) F (L27 0 21) f_5_148 m4_0 rfl (gs_at' _ _ _ _ _ _) dX5_readStatement_72 (fun r33 => ?_)
      refine jr_if_ne (pc := 75) (tgt := 86) F r33 dX5_readStatement_75 (by decide) (fun h34 => ?_) (fun h34 => ?_)
      · exact HF h34
      exact HT h34
    · refine jr_aload_n (pc := 78) F 2 dX5_readStatement_78 rfl rfl ?_
      refine jr_iload_n (pc := 79) F 0 dX5_readStatement_79 rfl rfl ?_
      refine jr_iconst (pc := 80) F dX5_readStatement_80 ?_
      refine jr_iload_n (pc := 81) F 1 dX5_readStatement_81 rfl rfl ?_
      refine jr_imul (pc := 82) F dX5_readStatement_82 ?_
      have k := Ok_bind k
      refine jr_callV (pc := 83) (st := []) F [iv x7, iv (w32 (4 * x2))] (snd_X5_readNumbers  (g0 := g0) r9 (rg_w _) k) rfl ck_5_170 rfl m4_0 rfl rfl rfl (by decide) (Nat.le_of_ble_eq_true rfl) dX5_readStatement_83 rfl (fun v g' hq => ?_)
      obtain ⟨z37, rfl, eg, k⟩ := hq
      refine J_eq eg ?_
      show J X 86 [(2, iv x7), (1, iv x2), (0, .ref (xad X (4, 0, 0)))] [] (gs g0 4 0 z37)
      refine jr_sub F [2, 1, 0] [(0, .ref (xad X (4, 0, 0))), (1, iv x2), (2, iv x7)] rfl ?_
      exact hJ31 z37 (Ok_some k) 
    refine jr_sub F [2, 1, 0] [(0, .ref (xad X (4, 0, 0))), (1, iv x2), (2, iv x7)] rfl ?_
    exact hJ31 L27 (Ok_some k) 
  refine jr_aload_n (pc := 86) F 0 dX5_readStatement_86 rfl rfl ?_
  obtain ⟨c38, k⟩ := Ok_grd k
  refine jifP (P := fun v => Bz v → J X 108 [(0, .ref (xad X (4, 0, 0))), (1, iv x2), (2, iv x7)] (iv v :: [.ref (xad X (4, 0, 0))]) (gs g0 4 0 z29)) (c := (¬ (z29 0 21) = 0) ∨ (¬ (X5_here_v z29) = 59)) (1) (0) (fun Ht Hf => ?_) (fun r43 => ?_)
  · refine jr_aload_n (pc := 87) F 0 dX5_readStatement_87 rfl rfl ?_
    refine jr_getI (pc := 88) F (z29 0 21) f_5_148 m4_0 rfl (gs_at' _ _ _ _ _ _) dX5_readStatement_88 (fun r39 => ?_)
    refine jr_if_ne (pc := 91) (tgt := 103) F r39 dX5_readStatement_91 (by decide) (fun h40 => ?_) (fun h40 => ?_)
    · refine jr_iconst (pc := 103) F dX5_readStatement_103 ?_
      refine jr_goto (pc := 104) (tgt := 108) F dX5_readStatement_104 (by decide) ?_
      exact Ht (Or.inl h40) (Or.inr rfl)
    refine jr_aload_n (pc := 94) F 0 dX5_readStatement_94 rfl rfl ?_
    refine jr_callV (pc := 95) (st := [.ref (xad X (4, 0, 0))]) F [] (snd_X5_here  (g0 := g0)  (X5_here_ok _ (c38 (fun q => q h40)))) rfl ck_5_152 rfl m4_0 rfl rfl rfl (by decide) (Nat.le_of_ble_eq_true rfl) dX5_readStatement_95 rfl (fun v g' hq => ?_)
    obtain ⟨x, rfl, r41, eg, hx⟩ := hq
    subst hx
    refine J_eq eg ?_
    show J X 98 [(0, .ref (xad X (4, 0, 0))), (1, iv x2), (2, iv x7)] [iv (X5_here_v z29), .ref (xad X (4, 0, 0))] (gs g0 4 0 z29)
    refine jr_bipush (pc := 98) F dX5_readStatement_98 (by decide) ?_
    refine jr_icmp_eq (pc := 100) (tgt := 107) F r41 (show Rg 59 from ⟨by decide, by decide⟩) dX5_readStatement_100 (by decide) (fun h42 => ?_) (fun h42 => ?_)
    · refine jr_iconst (pc := 107) F dX5_readStatement_107 ?_
      exact Hf (fun q => q.elim (fun q => q h40) (fun q => q h42)) (Or.inl rfl)
    refine jr_iconst (pc := 103) F dX5_readStatement_103 ?_
    refine jr_goto (pc := 104) (tgt := 108) F dX5_readStatement_104 (by decide) ?_
    exact Ht (Or.inr h42) (Or.inr rfl)
  obtain ⟨L44, e45, k⟩ := Ok_let k
  refine jr_putZ (pc := 108) F (gs g0 4 0 L44) fw_5_148 m4_0 rfl r43 (put1 e45) dX5_readStatement_108 ?_
  refine jr_aload_n (pc := 111) F 0 dX5_readStatement_111 rfl rfl ?_
  refine jr_dup (pc := 112) F dX5_readStatement_112 rfl ?_
  refine jr_getI (pc := 113) F (L44 0 20) f_5_145 m4_0 rfl (gs_at' _ _ _ _ _ _) dX5_readStatement_113 (fun r46 => ?_)
  refine jifP (P := fun v => Bz v → J X 128 [(0, .ref (xad X (4, 0, 0))), (1, iv x2), (2, iv x7)] (iv v :: [iv (L44 0 20), .ref (xad X (4, 0, 0))]) (gs g0 4 0 L44)) (c := ¬ (L44 0 21) = 0) (0) (1) (fun Ht Hf => ?_) (fun r49 => ?_)
  · refine jr_aload_n (pc := 116) F 0 dX5_readStatement_116 rfl rfl ?_
    refine jr_getI (pc := 117) F (L44 0 21) f_5_148 m4_0 rfl (gs_at' _ _ _ _ _ _) dX5_readStatement_117 (fun r47 => ?_)
    refine jr_if_eq (pc := 120) (tgt := 127) F r47 dX5_readStatement_120 (by decide) (fun h48 => ?_) (fun h48 => ?_)
    · refine jr_iconst (pc := 127) F dX5_readStatement_127 ?_
      exact Hf (fun q => q h48) (Or.inr rfl)
    refine jr_iconst (pc := 123) F dX5_readStatement_123 ?_
    refine jr_goto (pc := 124) (tgt := 128) F dX5_readStatement_124 (by decide) ?_
    exact Ht h48 (Or.inl rfl)
  refine jr_iadd (pc := 128) F dX5_readStatement_128 ?_
  obtain ⟨L50, e51, k⟩ := Ok_let k
  refine jr_putI (pc := 129) F (gs g0 4 0 L50) fw_5_145 m4_0 rfl (rg_w _) (put1 e51) dX5_readStatement_129 ?_
  refine jr_aload_n (pc := 132) F 0 dX5_readStatement_132 rfl rfl ?_
  refine jr_dup (pc := 133) F dX5_readStatement_133 rfl ?_
  refine jr_getI (pc := 134) F (L50 0 22) f_5_163 m4_0 rfl (gs_at' _ _ _ _ _ _) dX5_readStatement_134 (fun r52 => ?_)
  refine jr_iconst (pc := 137) F dX5_readStatement_137 ?_
  refine jr_iadd (pc := 138) F dX5_readStatement_138 ?_
  obtain ⟨L53, e54, k⟩ := Ok_let k
  refine jr_putI (pc := 139) F (gs g0 4 0 L53) fw_5_163 m4_0 rfl (rg_w _) (put1 e54) dX5_readStatement_139 ?_
  exact jr_vret (pc := 142) F hQ rfl dX5_readStatement_142 ⟨_, rfl, rfl, (Ok_some k)⟩
set_option maxHeartbeats 4000000 in
set_option maxRecDepth 100000 in
theorem snd_X5_line {L0 : LT} {g0 : GG}  {Q : (Int × LT) → Prop} (k : Ok (X5_line L0) Q) : MetG SL yX5_line cX5_line 2 (some .int) 6 (fun ad => [.ref (ad (4, 0, 0))]) (gs g0 4 0 L0) (fun v g' => ∃ (x : Int) (L' : LT), v = some (iv x) ∧ Rg x ∧ g' = gs g0 4 0 L' ∧ Q (x, L')) := by
  refine met_intro SL_ok (by decide +kernel) (fun ad => Nat.le_of_ble_eq_true rfl) (fun X F hQ hR => ?_)
  replace F : FX X cX5_line RX5 2 (some .int) SL 6 := F
  show J X 0 [(0, .ref (xad X (4, 0, 0)))] [] (gs g0 4 0 L0)
  refine jr_aload_n (pc := 0) F 0 dX5_line_0 rfl rfl ?_
  refine jr_iconst (pc := 1) F dX5_line_1 ?_
  obtain ⟨L1, e2, k⟩ := Ok_let k
  refine jr_putI (pc := 2) F (gs g0 4 0 L1) fw_5_92 m4_0 rfl (show Rg 0 from ⟨by decide, by decide⟩) (put1 e2) dX5_line_2 ?_
  refine jr_aload_n (pc := 5) F 0 dX5_line_5 rfl rfl ?_
  refine jr_iconst (pc := 6) F dX5_line_6 ?_
  obtain ⟨L3, e4, k⟩ := Ok_let k
  refine jr_putI (pc := 7) F (gs g0 4 0 L3) fw_5_145 m4_0 rfl (show Rg 0 from ⟨by decide, by decide⟩) (put1 e4) dX5_line_7 ?_
  refine jr_aload_n (pc := 10) F 0 dX5_line_10 rfl rfl ?_
  refine jr_iconst (pc := 11) F dX5_line_11 ?_
  obtain ⟨L5, e6, k⟩ := Ok_let k
  refine jr_putZ (pc := 12) F (gs g0 4 0 L5) fw_5_148 m4_0 rfl (Or.inl rfl) (put1 e6) dX5_line_12 ?_
  refine jr_aload_n (pc := 15) F 0 dX5_line_15 rfl rfl ?_
  refine jr_iconst (pc := 16) F dX5_line_16 ?_
  obtain ⟨L7, e8, k⟩ := Ok_let k
  refine jr_putI (pc := 17) F (gs g0 4 0 L7) fw_5_163 m4_0 rfl (show Rg 0 from ⟨by decide, by decide⟩) (put1 e8) dX5_line_17 ?_
  refine lpj (P := fun s : LT => J X 20 [(0, .ref (xad X (4, 0, 0)))] [] (gs g0 4 0 s)) (PE := fun r : LT => J X 52 [(0, .ref (xad X (4, 0, 0)))] [] (gs g0 4 0 r)) k (fun s9 Q10 k hC11 hE12  => ?_) (fun z13 k => ?_) (fun h => h )
  · refine cnd (c := ((s9 0 21) = 0) ∧ (((s9 0 22) = 0) ∨ ((s9 0 20) < (s9 0 19)))) (GT := J X 45 [(0, .ref (xad X (4, 0, 0)))] [] (gs g0 4 0 s9)) (GF := J X 52 [(0, .ref (xad X (4, 0, 0)))] [] (gs g0 4 0 s9)) k (fun HT HF => ?_) (fun h21 k => ?_) (fun h21 k => ?_)
    · refine jr_aload_n (pc := 20) F 0 dX5_line_20 rfl rfl ?_
      refine jr_getI (pc := 21) F (s9 0 21) f_5_148 m4_0 rfl (gs_at' _ _ _ _ _ _) dX5_line_21 (fun r14 => ?_)
      refine jr_if_ne (pc := 24) (tgt := 52) F r14 dX5_line_24 (by decide) (fun h15 => ?_) (fun h15 => ?_)
      · exact HF (fun q => h15 q.1)
      refine jr_aload_n (pc := 27) F 0 dX5_line_27 rfl rfl ?_
      refine jr_getI (pc := 28) F (s9 0 22) f_5_163 m4_0 rfl (gs_at' _ _ _ _ _ _) dX5_line_28 (fun r16 => ?_)
      refine jr_if_eq (pc := 31) (tgt := 45) F r16 dX5_line_31 (by decide) (fun h17 => ?_) (fun h17 => ?_)
      · exact HT ⟨h15, (Or.inl h17)⟩
      refine jr_aload_n (pc := 34) F 0 dX5_line_34 rfl rfl ?_
      refine jr_getI (pc := 35) F (s9 0 20) f_5_145 m4_0 rfl (gs_at' _ _ _ _ _ _) dX5_line_35 (fun r18 => ?_)
      refine jr_aload_n (pc := 38) F 0 dX5_line_38 rfl rfl ?_
      refine jr_getI (pc := 39) F (s9 0 19) f_5_142 m4_0 rfl (gs_at' _ _ _ _ _ _) dX5_line_39 (fun r19 => ?_)
      refine jr_icmp_ge (pc := 42) (tgt := 52) F r18 r19 dX5_line_42 (by decide) (fun h20 => ?_) (fun h20 => ?_)
      · exact HF (fun q => (fun q => q.elim h17 (ng_lt h20)) q.2)
      exact HT ⟨h15, (Or.inr h20)⟩
    · refine jr_aload_n (pc := 45) F 0 dX5_line_45 rfl rfl ?_
      have k := Ok_bind k
      refine jr_callV (pc := 46) (st := []) F [] (snd_X5_readStatement  (g0 := g0)  k) rfl ck_5_200 rfl m4_0 rfl rfl rfl (by decide) (Nat.le_of_ble_eq_true rfl) dX5_line_46 rfl (fun v g' hq => ?_)
      obtain ⟨z23, rfl, eg, k⟩ := hq
      refine J_eq eg ?_
      show J X 49 [(0, .ref (xad X (4, 0, 0)))] [] (gs g0 4 0 z23)
      refine jr_goto (pc := 49) (tgt := 20) F dX5_line_49 (by decide) ?_
      exact hC11 z23 (Ok_some k) 
    exact hE12 s9 (Ok_some k) 
  refine jr_aload_n (pc := 52) F 0 dX5_line_52 rfl rfl ?_
  refine jr_iconst (pc := 53) F dX5_line_53 ?_
  obtain ⟨L24, e25, k⟩ := Ok_let k
  refine jr_putI (pc := 54) F (gs g0 4 0 L24) fw_5_142 m4_0 rfl (show Rg 0 from ⟨by decide, by decide⟩) (put1 e25) dX5_line_54 ?_
  refine jr_aload_n (pc := 57) F 0 dX5_line_57 rfl rfl ?_
  refine jr_getI (pc := 58) F (L24 0 21) f_5_148 m4_0 rfl (gs_at' _ _ _ _ _ _) dX5_line_58 (fun r26 => ?_)
  refine jr_if_eq (pc := 61) (tgt := 73) F r26 dX5_line_61 (by decide) (fun h27 => ?_) (fun h27 => ?_)
  · have k := Ok_f (fun q => q h27) k
    refine jr_aload_n (pc := 73) F 0 dX5_line_73 rfl rfl ?_
    have k := Ok_bind k
    refine jr_callV (pc := 74) (st := []) F [] (snd_X5_open  (g0 := g0)  k) rfl ck_5_203 rfl m4_0 rfl rfl rfl (by decide) (Nat.le_of_ble_eq_true rfl) dX5_line_74 rfl (fun v g' hq => ?_)
    obtain ⟨z29, rfl, eg, k⟩ := hq
    refine J_eq eg ?_
    show J X 77 [(0, .ref (xad X (4, 0, 0)))] [] (gs g0 4 0 z29)
    refine jr_iconst (pc := 77) F dX5_line_77 ?_
    refine jr_istore_n (pc := 78) F [(1, iv 0), (0, .ref (xad X (4, 0, 0)))] dX5_line_78 rfl (by decide) rfl ?_
    refine jr_sub F [1, 0] [(0, .ref (xad X (4, 0, 0))), (1, iv 0)] rfl ?_
    refine lpj (P := fun s : Int × LT => Rg (s.1) → J X 79 [(0, .ref (xad X (4, 0, 0))), (1, iv s.1)] [] (gs g0 4 0 s.2)) (PE := fun o : ((Int × LT) ⊕ (Int × LT)) => match o with | .inl r => Rg (r.1) → J X 116 [(0, .ref (xad X (4, 0, 0))), (1, iv r.1)] [] (gs g0 4 0 r.2) | .inr y => Q (y)) k (fun s30 Q31 k hC32 hE33 r35 => ?_) (fun o k => ?_) (fun h => h (show Rg 0 from ⟨by decide, by decide⟩))
    · refine jr_iload_n (pc := 79) F 1 dX5_line_79 rfl rfl ?_
      refine jr_aload_n (pc := 80) F 0 dX5_line_80 rfl rfl ?_
      refine jr_getI (pc := 81) F (s30.2 0 22) f_5_163 m4_0 rfl (gs_at' _ _ _ _ _ _) dX5_line_81 (fun r36 => ?_)
      refine jr_icmp_ge (pc := 84) (tgt := 116) F r35 r36 dX5_line_84 (by decide) (fun h37 => ?_) (fun h37 => ?_)
      · have k := Ok_f (ng_lt h37) k
        exact hE33 (Sum.inl (s30.1, s30.2)) (Ok_some k) r35
      have k := Ok_t h37 k
      refine jr_aload_n (pc := 87) F 0 dX5_line_87 rfl rfl ?_
      refine jr_iload_n (pc := 88) F 1 dX5_line_88 rfl rfl ?_
      have k := Ok_bind k
      refine jr_callV (pc := 89) (st := []) F [iv s30.1] (snd_X5_comesTold  (g0 := g0) r35 k) rfl ck_5_206 rfl m4_0 rfl rfl rfl (by decide) (Nat.le_of_ble_eq_true rfl) dX5_line_89 rfl (fun v g' hq => ?_)
      obtain ⟨x, L', rfl, r38, eg, k⟩ := hq
      obtain ⟨z39, ez⟩ : ∃ z : Int × LT, z = (x, L') := ⟨_, rfl⟩
      obtain ⟨rfl, rfl⟩ : x = z39.1 ∧ L' = z39.2 := ⟨by rw [ez], by rw [ez]⟩
      clear ez
      refine J_eq eg ?_
      show J X 92 [(0, .ref (xad X (4, 0, 0))), (1, iv s30.1)] [iv z39.1] (gs g0 4 0 z39.2)
      refine jr_if_ne (pc := 92) (tgt := 110) F (rg_z r38) dX5_line_92 (by decide) (fun h40 => ?_) (fun h40 => ?_)
      · have k := Ok_t h40 k
        refine jr_iinc (pc := 110) F [(1, iv (w32 (s30.1 + 1))), (0, .ref (xad X (4, 0, 0)))] 1 dX5_line_110 rfl (by decide) rfl ?_
        refine jr_goto (pc := 113) (tgt := 79) F dX5_line_113 (by decide) ?_
        refine jr_sub F [1, 0] [(0, .ref (xad X (4, 0, 0))), (1, iv (w32 (s30.1 + 1)))] rfl ?_
        exact hC32 (w32 (s30.1 + 1), z39.2) (Ok_some k) (rg_w _)
      have k := Ok_f (fun q => q h40) k
      refine jr_aload_n (pc := 95) F 0 dX5_line_95 rfl rfl ?_
      have k := Ok_bind k
      refine jr_callV (pc := 96) (st := []) F [] (snd_X5_close  (g0 := g0)  k) rfl ck_5_209 rfl m4_0 rfl rfl rfl (by decide) (Nat.le_of_ble_eq_true rfl) dX5_line_96 rfl (fun v g' hq => ?_)
      obtain ⟨z42, rfl, eg, k⟩ := hq
      refine J_eq eg ?_
      show J X 99 [(0, .ref (xad X (4, 0, 0))), (1, iv s30.1)] [] (gs g0 4 0 z42)
      refine jr_sipush (pc := 99) F dX5_line_99 (by decide) ?_
      refine jr_aload_n (pc := 102) F 0 dX5_line_102 rfl rfl ?_
      refine jr_getR (pc := 103) (b := (4, 0, 24)) F f_5_59 m4_0 rfl dX5_line_103 ?_
      refine jr_iload_n (pc := 106) F 1 dX5_line_106 rfl rfl ?_
      obtain ⟨c43, k⟩ := Ok_grd k
      refine jr_iald (pc := 107) F (z42 24 s30.1) m4_24 (by decide) c43 (gs_at' _ _ _ _ _ _) dX5_line_107 (fun r44 => ?_)
      refine jr_isub (pc := 108) F dX5_line_108 ?_
      exact jr_iret (pc := 109) F hQ rfl dX5_line_109 ⟨_, _, rfl, (rg_w _), rfl, (hE33 (Sum.inr _) (Ok_some k))⟩
    rcases o with z34 | y
    rotate_left
    · show Q (y)
      exact Ok_some k
    intro r45
    refine jr_aload_n (pc := 116) F 0 dX5_line_116 rfl rfl ?_
    refine jr_iconst (pc := 117) F dX5_line_117 ?_
    obtain ⟨L46, e47, k⟩ := Ok_let k
    refine jr_putI (pc := 118) F (gs g0 4 0 L46) fw_5_212 m4_0 rfl (show Rg 0 from ⟨by decide, by decide⟩) (put1 e47) dX5_line_118 ?_
    refine jr_aload_n (pc := 121) F 0 dX5_line_121 rfl rfl ?_
    refine jr_getI (pc := 122) F (L46 0 22) f_5_163 m4_0 rfl (gs_at' _ _ _ _ _ _) dX5_line_122 (fun r48 => ?_)
    exact jr_iret (pc := 125) F hQ rfl dX5_line_125 ⟨_, _, rfl, r48, rfl, (Ok_some k)⟩
  have k := Ok_t h27 k
  refine jr_sipush (pc := 64) F dX5_line_64 (by decide) ?_
  refine jr_aload_n (pc := 67) F 0 dX5_line_67 rfl rfl ?_
  refine jr_getI (pc := 68) F (L24 0 20) f_5_145 m4_0 rfl (gs_at' _ _ _ _ _ _) dX5_line_68 (fun r49 => ?_)
  refine jr_isub (pc := 71) F dX5_line_71 ?_
  exact jr_iret (pc := 72) F hQ rfl dX5_line_72 ⟨_, _, rfl, (rg_w _), rfl, (Ok_some k)⟩
set_option maxHeartbeats 4000000 in
set_option maxRecDepth 100000 in
theorem snd_X5_lots {L0 : LT} {v_n : Int} {v_z : Int} {v_what : Int} {g0 : GG} (rgp_n : Rg v_n) (rgp_z : Rg v_z) (rgp_what : Rg v_what) {Q : (Int × LT) → Prop} (k : Ok (X5_lots L0 v_n v_z v_what) Q) : MetG SL yX5_lots cX5_lots 7 (some .int) 5 (fun ad => [.ref (ad (4, 0, 0)), iv v_n, iv v_z, iv v_what]) (gs g0 4 0 L0) (fun v g' => ∃ (x : Int) (L' : LT), v = some (iv x) ∧ Rg x ∧ g' = gs g0 4 0 L' ∧ Q (x, L')) := by
  refine met_intro SL_ok (by decide +kernel) (fun ad => Nat.le_of_ble_eq_true rfl) (fun X F hQ hR => ?_)
  replace F : FX X cX5_lots RX5 7 (some .int) SL 5 := F
  show J X 0 [(0, .ref (xad X (4, 0, 0))), (1, iv v_n), (2, iv v_z), (3, iv v_what)] [] (gs g0 4 0 L0)
  refine jr_aload_n (pc := 0) F 0 dX5_lots_0 rfl rfl ?_
  refine jr_iconst (pc := 1) F dX5_lots_1 ?_
  obtain ⟨L1, e2, k⟩ := Ok_let k
  refine jr_putI (pc := 2) F (gs g0 4 0 L1) fw_5_92 m4_0 rfl (show Rg 0 from ⟨by decide, by decide⟩) (put1 e2) dX5_lots_2 ?_
  refine jr_iload_n (pc := 5) F 1 dX5_lots_5 rfl rfl ?_
  refine jr_iconst (pc := 6) F dX5_lots_6 ?_
  refine jr_bipush (pc := 7) F dX5_lots_7 (by decide) ?_
  refine jr_callS (pc := 9) (st := []) F [iv v_n, iv 1, iv 20] (snd_X5_wrongNumber (g0 := gs g0 4 0 L1) rgp_n (show Rg 1 from ⟨by decide, by decide⟩) (show Rg 20 from ⟨by decide, by decide⟩) (X5_wrongNumber_ok _ _ _ )) rfl ck_5_236 rfl rfl (by decide) (Nat.le_of_ble_eq_true rfl) dX5_lots_9 rfl (fun v g' hq => ?_)
  obtain ⟨x, rfl, r3, eg, hx⟩ := hq
  subst hx
  refine J_eq eg ?_
  show J X 12 [(0, .ref (xad X (4, 0, 0))), (1, iv v_n), (2, iv v_z), (3, iv v_what)] [iv (X5_wrongNumber_v v_n 1 20)] (gs g0 4 0 L1)
  refine jr_iload_n (pc := 12) F 3 dX5_lots_12 rfl rfl ?_
  refine jr_iconst (pc := 13) F dX5_lots_13 ?_
  refine jr_callS (pc := 14) (st := []) F [iv (X5_wrongNumber_v v_n 1 20), iv v_what, iv 1] (snd_X5_wrongBit (g0 := gs g0 4 0 L1) r3 rgp_what (show Rg 1 from ⟨by decide, by decide⟩) (X5_wrongBit_ok _ _ _ )) rfl ck_5_246 rfl rfl (by decide) (Nat.le_of_ble_eq_true rfl) dX5_lots_14 rfl (fun v g' hq => ?_)
  obtain ⟨x, rfl, r4, eg, hx⟩ := hq
  subst hx
  refine J_eq eg ?_
  show J X 17 [(0, .ref (xad X (4, 0, 0))), (1, iv v_n), (2, iv v_z), (3, iv v_what)] [iv (X5_wrongBit_v (X5_wrongNumber_v v_n 1 20) v_what 1)] (gs g0 4 0 L1)
  obtain ⟨x5, e6, k⟩ := Ok_let k
  have r7 : Rg x5 := rg_of e6 r4
  refine jr_top e6 ?_
  refine jr_istore (pc := 17) F [(4, iv x5), (0, .ref (xad X (4, 0, 0))), (1, iv v_n), (2, iv v_z), (3, iv v_what)] dX5_lots_17 (by decide) rfl ?_
  refine jr_iload (pc := 19) F 0 dX5_lots_19 rfl ?_
  refine jr_if_ge (pc := 21) (tgt := 31) F r7 dX5_lots_21 (by decide) (fun h8 => ?_) (fun h8 => ?_)
  · have k := Ok_f (ng_lt h8) k
    refine jr_aload_n (pc := 31) F 1 dX5_lots_31 rfl rfl ?_
    refine jr_iload_n (pc := 32) F 3 dX5_lots_32 rfl rfl ?_
    obtain ⟨L9, e10, k⟩ := Ok_let k
    refine jr_putI (pc := 33) F (gs g0 4 0 L9) fw_5_302 m4_0 rfl rgp_z (put1 e10) dX5_lots_33 ?_
    refine jr_iconst (pc := 36) F dX5_lots_36 ?_
    refine jr_istore (pc := 37) F [(5, iv 0), (4, iv x5), (0, .ref (xad X (4, 0, 0))), (1, iv v_n), (2, iv v_z), (3, iv v_what)] dX5_lots_37 (by decide) rfl ?_
    refine jr_aload_n (pc := 39) F 2 dX5_lots_39 rfl rfl ?_
    have k := Ok_bind k
    refine jr_callV (pc := 40) (st := []) F [] (snd_X5_open  (g0 := g0)  k) rfl ck_5_203 rfl m4_0 rfl rfl rfl (by decide) (Nat.le_of_ble_eq_true rfl) dX5_lots_40 rfl (fun v g' hq => ?_)
    obtain ⟨z12, rfl, eg, k⟩ := hq
    refine J_eq eg ?_
    show J X 43 [(5, iv 0), (4, iv x5), (0, .ref (xad X (4, 0, 0))), (1, iv v_n), (2, iv v_z), (3, iv v_what)] [] (gs g0 4 0 z12)
    refine jr_iconst (pc := 43) F dX5_lots_43 ?_
    refine jr_istore (pc := 44) F [(6, iv 0), (5, iv 0), (4, iv x5), (0, .ref (xad X (4, 0, 0))), (1, iv v_n), (2, iv v_z), (3, iv v_what)] dX5_lots_44 (by decide) rfl ?_
    refine jr_sub F [3, 4, 5, 6, 2, 1, 0] [(0, .ref (xad X (4, 0, 0))), (1, iv v_n), (2, iv v_z), (3, iv v_what), (4, iv x5), (5, iv 0), (6, iv 0)] rfl ?_
    refine lpj (P := fun s : Int × Int × LT => Rg (s.1) → Rg (s.2.1) → J X 46 [(0, .ref (xad X (4, 0, 0))), (1, iv v_n), (2, iv v_z), (3, iv v_what), (4, iv x5), (5, iv s.1), (6, iv s.2.1)] [] (gs g0 4 0 s.2.2)) (PE := fun r : Int × Int × LT => Rg (r.1) → Rg (r.2.1) → J X 100 [(0, .ref (xad X (4, 0, 0))), (1, iv v_n), (2, iv v_z), (3, iv v_what), (4, iv x5), (5, iv r.1), (6, iv r.2.1)] [] (gs g0 4 0 r.2.2)) k (fun s13 Q14 k hC15 hE16 r18 r19 => ?_) (fun z17 k => ?_) (fun h => h (show Rg 0 from ⟨by decide, by decide⟩) (show Rg 0 from ⟨by decide, by decide⟩))
    · refine jr_iload (pc := 46) F 6 dX5_lots_46 rfl ?_
      refine jr_iload_n (pc := 48) F 1 dX5_lots_48 rfl rfl ?_
      refine jr_icmp_ge (pc := 49) (tgt := 100) F r19 rgp_n dX5_lots_49 (by decide) (fun h20 => ?_) (fun h20 => ?_)
      · have k := Ok_f (ng_lt h20) k
        exact hE16 (s13.1, s13.2.1, s13.2.2) (Ok_some k) r18 r19
      have k := Ok_t h20 k
      refine jr_aload_n (pc := 52) F 0 dX5_lots_52 rfl rfl ?_
      refine jr_aload_n (pc := 53) F 0 dX5_lots_53 rfl rfl ?_
      refine jr_bipush (pc := 54) F dX5_lots_54 (by decide) ?_
      have k := Ok_bind k
      refine jr_callV (pc := 56) (st := [.ref (xad X (4, 0, 0))]) F [iv 10] (snd_X5_drawBelow  (g0 := g0) (show Rg 10 from ⟨by decide, by decide⟩) k) rfl ck_5_308 rfl m4_0 rfl rfl rfl (by decide) (Nat.le_of_ble_eq_true rfl) dX5_lots_56 rfl (fun v g' hq => ?_)
      obtain ⟨x, L', rfl, r21, eg, k⟩ := hq
      obtain ⟨z22, ez⟩ : ∃ z : Int × LT, z = (x, L') := ⟨_, rfl⟩
      obtain ⟨rfl, rfl⟩ : x = z22.1 ∧ L' = z22.2 := ⟨by rw [ez], by rw [ez]⟩
      clear ez
      refine J_eq eg ?_
      show J X 59 [(0, .ref (xad X (4, 0, 0))), (1, iv v_n), (2, iv v_z), (3, iv v_what), (4, iv x5), (5, iv s13.1), (6, iv s13.2.1)] [iv z22.1, .ref (xad X (4, 0, 0))] (gs g0 4 0 z22.2)
      obtain ⟨L23, e24, k⟩ := Ok_let k
      refine jr_putI (pc := 59) F (gs g0 4 0 L23) fw_5_23 m4_0 rfl r21 (put1 e24) dX5_lots_59 ?_
      refine jr_aload_n (pc := 62) F 0 dX5_lots_62 rfl rfl ?_
      refine jr_aload_n (pc := 63) F 0 dX5_lots_63 rfl rfl ?_
      refine jr_bipush (pc := 64) F dX5_lots_64 (by decide) ?_
      have k := Ok_bind k
      refine jr_callV (pc := 66) (st := [.ref (xad X (4, 0, 0))]) F [iv 10] (snd_X5_drawBelow  (g0 := g0) (show Rg 10 from ⟨by decide, by decide⟩) k) rfl ck_5_308 rfl m4_0 rfl rfl rfl (by decide) (Nat.le_of_ble_eq_true rfl) dX5_lots_66 rfl (fun v g' hq => ?_)
      obtain ⟨x, L', rfl, r25, eg, k⟩ := hq
      obtain ⟨z26, ez⟩ : ∃ z : Int × LT, z = (x, L') := ⟨_, rfl⟩
      obtain ⟨rfl, rfl⟩ : x = z26.1 ∧ L' = z26.2 := ⟨by rw [ez], by rw [ez]⟩
      clear ez
      refine J_eq eg ?_
      show J X 69 [(0, .ref (xad X (4, 0, 0))), (1, iv v_n), (2, iv v_z), (3, iv v_what), (4, iv x5), (5, iv s13.1), (6, iv s13.2.1)] [iv z26.1, .ref (xad X (4, 0, 0))] (gs g0 4 0 z26.2)
      obtain ⟨L27, e28, k⟩ := Ok_let k
      refine jr_putI (pc := 69) F (gs g0 4 0 L27) fw_5_26 m4_0 rfl r25 (put1 e28) dX5_lots_69 ?_
      refine jr_aload_n (pc := 72) F 0 dX5_lots_72 rfl rfl ?_
      refine jr_bipush (pc := 73) F dX5_lots_73 (by decide) ?_
      have k := Ok_bind k
      refine jr_callV (pc := 75) (st := []) F [iv 48] (snd_X5_goHours  (g0 := g0) (show Rg 48 from ⟨by decide, by decide⟩) k) rfl ck_5_197 rfl m4_0 rfl rfl rfl (by decide) (Nat.le_of_ble_eq_true rfl) dX5_lots_75 rfl (fun v g' hq => ?_)
      obtain ⟨z30, rfl, eg, k⟩ := hq
      refine J_eq eg ?_
      show J X 78 [(0, .ref (xad X (4, 0, 0))), (1, iv v_n), (2, iv v_z), (3, iv v_what), (4, iv x5), (5, iv s13.1), (6, iv s13.2.1)] [] (gs g0 4 0 z30)
      refine jr_iload (pc := 78) F 5 dX5_lots_78 rfl ?_
      refine jr_aload_n (pc := 80) F 0 dX5_lots_80 rfl rfl ?_
      refine jr_iload_n (pc := 81) F 3 dX5_lots_81 rfl rfl ?_
      refine jr_iconst (pc := 82) F dX5_lots_82 ?_
      refine jr_iadd (pc := 83) F dX5_lots_83 ?_
      have k := Ok_bind k
      refine jr_callV (pc := 84) (st := [iv s13.1]) F [iv (w32 (v_what + 1))] (snd_X5_howMany  (g0 := g0) (rg_w _) k) rfl ck_5_243 rfl m4_0 rfl rfl rfl (by decide) (Nat.le_of_ble_eq_true rfl) dX5_lots_84 rfl (fun v g' hq => ?_)
      obtain ⟨z32, rfl, r31, eg, k⟩ := hq
      refine J_eq eg ?_
      show J X 87 [(0, .ref (xad X (4, 0, 0))), (1, iv v_n), (2, iv v_z), (3, iv v_what), (4, iv x5), (5, iv s13.1), (6, iv s13.2.1)] [iv z32, iv s13.1] (gs g0 4 0 z30)
      refine jr_iadd (pc := 87) F dX5_lots_87 ?_
      obtain ⟨x33, e34, k⟩ := Ok_let k
      have r35 : Rg x33 := rg_of e34 (rg_w _)
      refine jr_top e34 ?_
      refine jr_istore (pc := 88) F [(5, iv x33), (0, .ref (xad X (4, 0, 0))), (1, iv v_n), (2, iv v_z), (3, iv v_what), (4, iv x5), (6, iv s13.2.1)] dX5_lots_88 (by decide) rfl ?_
      refine jr_aload_n (pc := 90) F 1 dX5_lots_90 rfl rfl ?_
      have k := Ok_bind k
      refine jr_callV (pc := 91) (st := []) F [] (snd_X5_close  (g0 := g0)  k) rfl ck_5_209 rfl m4_0 rfl rfl rfl (by decide) (Nat.le_of_ble_eq_true rfl) dX5_lots_91 rfl (fun v g' hq => ?_)
      obtain ⟨z37, rfl, eg, k⟩ := hq
      refine J_eq eg ?_
      show J X 94 [(5, iv x33), (0, .ref (xad X (4, 0, 0))), (1, iv v_n), (2, iv v_z), (3, iv v_what), (4, iv x5), (6, iv s13.2.1)] [] (gs g0 4 0 z37)
      refine jr_iinc (pc := 94) F [(6, iv (w32 (s13.2.1 + 1))), (5, iv x33), (0, .ref (xad X (4, 0, 0))), (1, iv v_n), (2, iv v_z), (3, iv v_what), (4, iv x5)] 6 dX5_lots_94 rfl (by decide) rfl ?_
      refine jr_goto (pc := 97) (tgt := 46) F dX5_lots_97 (by decide) ?_
      refine jr_sub F [2, 3, 4, 5, 6, 1, 0] [(0, .ref (xad X (4, 0, 0))), (1, iv v_n), (2, iv v_z), (3, iv v_what), (4, iv x5), (5, iv x33), (6, iv (w32 (s13.2.1 + 1)))] rfl ?_
      exact hC15 (x33, w32 (s13.2.1 + 1), z37) (Ok_some k) r35 (rg_w _)
    intro r38 r39
    refine jr_iload (pc := 100) F 5 dX5_lots_100 rfl ?_
    exact jr_iret (pc := 102) F hQ rfl dX5_lots_102 ⟨_, _, rfl, r38, rfl, (Ok_some k)⟩
  have k := Ok_t h8 k
  refine jr_aload_n (pc := 24) F 1 dX5_lots_24 rfl rfl ?_
  refine jr_iload (pc := 25) F 0 dX5_lots_25 rfl ?_
  have k := Ok_bind k
  refine jr_callV (pc := 27) (st := []) F [iv x5] (snd_X5_refuse  (g0 := g0) r7 k) rfl ck_5_139 rfl m4_0 rfl rfl rfl (by decide) (Nat.le_of_ble_eq_true rfl) dX5_lots_27 rfl (fun v g' hq => ?_)
  obtain ⟨x, L', rfl, r40, eg, k⟩ := hq
  obtain ⟨z41, ez⟩ : ∃ z : Int × LT, z = (x, L') := ⟨_, rfl⟩
  obtain ⟨rfl, rfl⟩ : x = z41.1 ∧ L' = z41.2 := ⟨by rw [ez], by rw [ez]⟩
  clear ez
  refine J_eq eg ?_
  show J X 30 [(4, iv x5), (0, .ref (xad X (4, 0, 0))), (1, iv v_n), (2, iv v_z), (3, iv v_what)] [iv z41.1] (gs g0 4 0 z41.2)
  exact jr_iret (pc := 30) F hQ rfl dX5_lots_30 ⟨_, _, rfl, r40, rfl, (Ok_some k)⟩
set_option maxHeartbeats 4000000 in
set_option maxRecDepth 100000 in
theorem snd_X5_lowest {L0 : LT} {v_n : Int} {v_what : Int} {g0 : GG} (rgp_n : Rg v_n) (rgp_what : Rg v_what) {Q : (Int × LT) → Prop} (k : Ok (X5_lowest L0 v_n v_what) Q) : MetG SL yX5_lowest cX5_lowest 6 (some .int) 5 (fun ad => [.ref (ad (4, 0, 0)), iv v_n, iv v_what]) (gs g0 4 0 L0) (fun v g' => ∃ (x : Int) (L' : LT), v = some (iv x) ∧ Rg x ∧ g' = gs g0 4 0 L' ∧ Q (x, L')) := by
  refine met_intro SL_ok (by decide +kernel) (fun ad => Nat.le_of_ble_eq_true rfl) (fun X F hQ hR => ?_)
  replace F : FX X cX5_lowest RX5 6 (some .int) SL 5 := F
  show J X 0 [(0, .ref (xad X (4, 0, 0))), (1, iv v_n), (2, iv v_what)] [] (gs g0 4 0 L0)
  refine jr_aload_n (pc := 0) F 0 dX5_lowest_0 rfl rfl ?_
  refine jr_iconst (pc := 1) F dX5_lowest_1 ?_
  obtain ⟨L1, e2, k⟩ := Ok_let k
  refine jr_putI (pc := 2) F (gs g0 4 0 L1) fw_5_92 m4_0 rfl (show Rg 0 from ⟨by decide, by decide⟩) (put1 e2) dX5_lowest_2 ?_
  refine jr_iload_n (pc := 5) F 1 dX5_lowest_5 rfl rfl ?_
  refine jr_iconst (pc := 6) F dX5_lowest_6 ?_
  refine jr_bipush (pc := 7) F dX5_lowest_7 (by decide) ?_
  refine jr_callS (pc := 9) (st := []) F [iv v_n, iv 0, iv 72] (snd_X5_wrongNumber (g0 := gs g0 4 0 L1) rgp_n (show Rg 0 from ⟨by decide, by decide⟩) (show Rg 72 from ⟨by decide, by decide⟩) (X5_wrongNumber_ok _ _ _ )) rfl ck_5_236 rfl rfl (by decide) (Nat.le_of_ble_eq_true rfl) dX5_lowest_9 rfl (fun v g' hq => ?_)
  obtain ⟨x, rfl, r3, eg, hx⟩ := hq
  subst hx
  refine J_eq eg ?_
  show J X 12 [(0, .ref (xad X (4, 0, 0))), (1, iv v_n), (2, iv v_what)] [iv (X5_wrongNumber_v v_n 0 72)] (gs g0 4 0 L1)
  refine jr_iload_n (pc := 12) F 2 dX5_lowest_12 rfl rfl ?_
  refine jr_iconst (pc := 13) F dX5_lowest_13 ?_
  refine jr_callS (pc := 14) (st := []) F [iv (X5_wrongNumber_v v_n 0 72), iv v_what, iv 1] (snd_X5_wrongBit (g0 := gs g0 4 0 L1) r3 rgp_what (show Rg 1 from ⟨by decide, by decide⟩) (X5_wrongBit_ok _ _ _ )) rfl ck_5_246 rfl rfl (by decide) (Nat.le_of_ble_eq_true rfl) dX5_lowest_14 rfl (fun v g' hq => ?_)
  obtain ⟨x, rfl, r4, eg, hx⟩ := hq
  subst hx
  refine J_eq eg ?_
  show J X 17 [(0, .ref (xad X (4, 0, 0))), (1, iv v_n), (2, iv v_what)] [iv (X5_wrongBit_v (X5_wrongNumber_v v_n 0 72) v_what 1)] (gs g0 4 0 L1)
  obtain ⟨x5, e6, k⟩ := Ok_let k
  have r7 : Rg x5 := rg_of e6 r4
  refine jr_top e6 ?_
  refine jr_istore_n (pc := 17) F [(3, iv x5), (0, .ref (xad X (4, 0, 0))), (1, iv v_n), (2, iv v_what)] dX5_lowest_17 rfl (by decide) rfl ?_
  refine jr_iload_n (pc := 18) F 0 dX5_lowest_18 rfl rfl ?_
  refine jr_if_ge (pc := 19) (tgt := 28) F r7 dX5_lowest_19 (by decide) (fun h8 => ?_) (fun h8 => ?_)
  · have k := Ok_f (ng_lt h8) k
    refine jr_aload_n (pc := 28) F 1 dX5_lowest_28 rfl rfl ?_
    have k := Ok_bind k
    refine jr_callV (pc := 29) (st := []) F [] (snd_X5_open  (g0 := g0)  k) rfl ck_5_203 rfl m4_0 rfl rfl rfl (by decide) (Nat.le_of_ble_eq_true rfl) dX5_lowest_29 rfl (fun v g' hq => ?_)
    obtain ⟨z10, rfl, eg, k⟩ := hq
    refine J_eq eg ?_
    show J X 32 [(3, iv x5), (0, .ref (xad X (4, 0, 0))), (1, iv v_n), (2, iv v_what)] [] (gs g0 4 0 z10)
    refine jr_aload_n (pc := 32) F 1 dX5_lowest_32 rfl rfl ?_
    refine jr_iload_n (pc := 33) F 2 dX5_lowest_33 rfl rfl ?_
    have k := Ok_bind k
    refine jr_callV (pc := 34) (st := []) F [iv v_n] (snd_X5_goHours  (g0 := g0) rgp_n k) rfl ck_5_197 rfl m4_0 rfl rfl rfl (by decide) (Nat.le_of_ble_eq_true rfl) dX5_lowest_34 rfl (fun v g' hq => ?_)
    obtain ⟨z12, rfl, eg, k⟩ := hq
    refine J_eq eg ?_
    show J X 37 [(3, iv x5), (0, .ref (xad X (4, 0, 0))), (1, iv v_n), (2, iv v_what)] [] (gs g0 4 0 z12)
    refine jr_iconst (pc := 37) F dX5_lowest_37 ?_
    refine jr_istore (pc := 38) F [(4, iv 0), (3, iv x5), (0, .ref (xad X (4, 0, 0))), (1, iv v_n), (2, iv v_what)] dX5_lowest_38 (by decide) rfl ?_
    refine jr_iconst (pc := 40) F dX5_lowest_40 ?_
    refine jr_istore (pc := 41) F [(5, iv 1), (4, iv 0), (3, iv x5), (0, .ref (xad X (4, 0, 0))), (1, iv v_n), (2, iv v_what)] dX5_lowest_41 (by decide) rfl ?_
    refine jr_sub F [3, 4, 5, 2, 1, 0] [(0, .ref (xad X (4, 0, 0))), (1, iv v_n), (2, iv v_what), (3, iv x5), (4, iv 0), (5, iv 1)] rfl ?_
    refine lpj (P := fun s : Int × Int => Rg (s.1) → Rg (s.2) → J X 43 [(0, .ref (xad X (4, 0, 0))), (1, iv v_n), (2, iv v_what), (3, iv x5), (4, iv s.1), (5, iv s.2)] [] (gs g0 4 0 z12)) (PE := fun r : Int × Int => Rg (r.1) → Rg (r.2) → J X 84 [(0, .ref (xad X (4, 0, 0))), (1, iv v_n), (2, iv v_what), (3, iv x5), (4, iv r.1), (5, iv r.2)] [] (gs g0 4 0 z12)) k (fun s13 Q14 k hC15 hE16 r18 r19 => ?_) (fun z17 k => ?_) (fun h => h (show Rg 0 from ⟨by decide, by decide⟩) (show Rg 1 from ⟨by decide, by decide⟩))
    · refine jr_iload (pc := 43) F 5 dX5_lowest_43 rfl ?_
      refine jr_aload_n (pc := 45) F 0 dX5_lowest_45 rfl rfl ?_
      refine jr_getI (pc := 46) F (z12 0 0) f_5_7 m4_0 rfl (gs_at' _ _ _ _ _ _) dX5_lowest_46 (fun r20 => ?_)
      refine jr_icmp_ge (pc := 49) (tgt := 84) F r19 r20 dX5_lowest_49 (by decide) (fun h21 => ?_) (fun h21 => ?_)
      · have k := Ok_f (ng_lt h21) k
        exact hE16 (s13.1, s13.2) (Ok_some k) r18 r19
      have k := Ok_t h21 k
      obtain ⟨c22, k⟩ := Ok_grd k
      obtain ⟨c23, k⟩ := Ok_grd k
      refine jifP (P := fun v => Rg v → J X 76 [(0, .ref (xad X (4, 0, 0))), (1, iv v_n), (2, iv v_what), (3, iv x5), (4, iv s13.1), (5, iv s13.2)] (iv v :: []) (gs g0 4 0 z12)) (c := (z12 4 s13.2) < (z12 4 s13.1)) (s13.2) (s13.1) (fun Ht Hf => ?_) (fun r27 => ?_)
      · refine jr_aload_n (pc := 52) F 0 dX5_lowest_52 rfl rfl ?_
        refine jr_getR (pc := 53) (b := (4, 0, 4)) F f_5_20 m4_0 rfl dX5_lowest_53 ?_
        refine jr_iload (pc := 56) F 5 dX5_lowest_56 rfl ?_
        refine jr_iald (pc := 58) F (z12 4 s13.2) m4_4 (by decide) c22 (gs_at' _ _ _ _ _ _) dX5_lowest_58 (fun r24 => ?_)
        refine jr_aload_n (pc := 59) F 0 dX5_lowest_59 rfl rfl ?_
        refine jr_getR (pc := 60) (b := (4, 0, 4)) F f_5_20 m4_0 rfl dX5_lowest_60 ?_
        refine jr_iload (pc := 63) F 4 dX5_lowest_63 rfl ?_
        refine jr_iald (pc := 65) F (z12 4 s13.1) m4_4 (by decide) c23 (gs_at' _ _ _ _ _ _) dX5_lowest_65 (fun r25 => ?_)
        refine jr_icmp_ge (pc := 66) (tgt := 74) F r24 r25 dX5_lowest_66 (by decide) (fun h26 => ?_) (fun h26 => ?_)
        · refine jr_iload (pc := 74) F 4 dX5_lowest_74 rfl ?_
          exact Hf (ng_lt h26) r18
        refine jr_iload (pc := 69) F 5 dX5_lowest_69 rfl ?_
        refine jr_goto (pc := 71) (tgt := 76) F dX5_lowest_71 (by decide) ?_
        exact Ht h26 r19
      obtain ⟨x28, e29, k⟩ := Ok_let k
      have r30 : Rg x28 := rg_of e29 r27
      refine jr_top e29 ?_
      refine jr_istore (pc := 76) F [(4, iv x28), (0, .ref (xad X (4, 0, 0))), (1, iv v_n), (2, iv v_what), (3, iv x5), (5, iv s13.2)] dX5_lowest_76 (by decide) rfl ?_
      refine jr_iinc (pc := 78) F [(5, iv (w32 (s13.2 + 1))), (4, iv x28), (0, .ref (xad X (4, 0, 0))), (1, iv v_n), (2, iv v_what), (3, iv x5)] 5 dX5_lowest_78 rfl (by decide) rfl ?_
      refine jr_goto (pc := 81) (tgt := 43) F dX5_lowest_81 (by decide) ?_
      refine jr_sub F [2, 3, 4, 5, 1, 0] [(0, .ref (xad X (4, 0, 0))), (1, iv v_n), (2, iv v_what), (3, iv x5), (4, iv x28), (5, iv (w32 (s13.2 + 1)))] rfl ?_
      exact hC15 (x28, w32 (s13.2 + 1)) (Ok_some k) r30 (rg_w _)
    intro r31 r32
    obtain ⟨c33, k⟩ := Ok_grd k
    refine jifP (P := fun v => Rg v → J X 100 [(0, .ref (xad X (4, 0, 0))), (1, iv v_n), (2, iv v_what), (3, iv x5), (4, iv z17.1), (5, iv z17.2)] (iv v :: []) (gs g0 4 0 z12)) (c := v_what = 0) (z12 4 z17.1) (z17.1) (fun Ht Hf => ?_) (fun r36 => ?_)
    · refine jr_iload_n (pc := 84) F 2 dX5_lowest_84 rfl rfl ?_
      refine jr_if_ne (pc := 85) (tgt := 98) F rgp_what dX5_lowest_85 (by decide) (fun h34 => ?_) (fun h34 => ?_)
      · refine jr_iload (pc := 98) F 4 dX5_lowest_98 rfl ?_
        exact Hf h34 r31
      refine jr_aload_n (pc := 88) F 0 dX5_lowest_88 rfl rfl ?_
      refine jr_getR (pc := 89) (b := (4, 0, 4)) F f_5_20 m4_0 rfl dX5_lowest_89 ?_
      refine jr_iload (pc := 92) F 4 dX5_lowest_92 rfl ?_
      refine jr_iald (pc := 94) F (z12 4 z17.1) m4_4 (by decide) (c33 h34) (gs_at' _ _ _ _ _ _) dX5_lowest_94 (fun r35 => ?_)
      refine jr_goto (pc := 95) (tgt := 100) F dX5_lowest_95 (by decide) ?_
      exact Ht h34 r35
    obtain ⟨x37, e38, k⟩ := Ok_let k
    have r39 : Rg x37 := rg_of e38 r36
    refine jr_top e38 ?_
    refine jr_istore (pc := 100) F [(5, iv x37), (0, .ref (xad X (4, 0, 0))), (1, iv v_n), (2, iv v_what), (3, iv x5), (4, iv z17.1)] dX5_lowest_100 (by decide) rfl ?_
    refine jr_aload_n (pc := 102) F 1 dX5_lowest_102 rfl rfl ?_
    have k := Ok_bind k
    refine jr_callV (pc := 103) (st := []) F [] (snd_X5_close  (g0 := g0)  k) rfl ck_5_209 rfl m4_0 rfl rfl rfl (by decide) (Nat.le_of_ble_eq_true rfl) dX5_lowest_103 rfl (fun v g' hq => ?_)
    obtain ⟨z41, rfl, eg, k⟩ := hq
    refine J_eq eg ?_
    show J X 106 [(5, iv x37), (0, .ref (xad X (4, 0, 0))), (1, iv v_n), (2, iv v_what), (3, iv x5), (4, iv z17.1)] [] (gs g0 4 0 z41)
    refine jr_iload (pc := 106) F 0 dX5_lowest_106 rfl ?_
    exact jr_iret (pc := 108) F hQ rfl dX5_lowest_108 ⟨_, _, rfl, r39, rfl, (Ok_some k)⟩
  have k := Ok_t h8 k
  refine jr_aload_n (pc := 22) F 1 dX5_lowest_22 rfl rfl ?_
  refine jr_iload_n (pc := 23) F 0 dX5_lowest_23 rfl rfl ?_
  have k := Ok_bind k
  refine jr_callV (pc := 24) (st := []) F [iv x5] (snd_X5_refuse  (g0 := g0) r7 k) rfl ck_5_139 rfl m4_0 rfl rfl rfl (by decide) (Nat.le_of_ble_eq_true rfl) dX5_lowest_24 rfl (fun v g' hq => ?_)
  obtain ⟨x, L', rfl, r42, eg, k⟩ := hq
  obtain ⟨z43, ez⟩ : ∃ z : Int × LT, z = (x, L') := ⟨_, rfl⟩
  obtain ⟨rfl, rfl⟩ : x = z43.1 ∧ L' = z43.2 := ⟨by rw [ez], by rw [ez]⟩
  clear ez
  refine J_eq eg ?_
  show J X 27 [(3, iv x5), (0, .ref (xad X (4, 0, 0))), (1, iv v_n), (2, iv v_what)] [iv z43.1] (gs g0 4 0 z43.2)
  exact jr_iret (pc := 27) F hQ rfl dX5_lowest_27 ⟨_, _, rfl, r42, rfl, (Ok_some k)⟩
set_option maxHeartbeats 4000000 in
set_option maxRecDepth 100000 in
theorem snd_X5_many {L0 : LT} {v_n : Int} {g0 : GG} (rgp_n : Rg v_n) {Q : (Int × LT) → Prop} (k : Ok (X5_many L0 v_n) Q) : MetG SL yX5_many cX5_many 4 (some .int) 1 (fun ad => [.ref (ad (4, 0, 0)), iv v_n]) (gs g0 4 0 L0) (fun v g' => ∃ (x : Int) (L' : LT), v = some (iv x) ∧ Rg x ∧ g' = gs g0 4 0 L' ∧ Q (x, L')) := by
  refine met_intro SL_ok (by decide +kernel) (fun ad => Nat.le_of_ble_eq_true rfl) (fun X F hQ hR => ?_)
  replace F : FX X cX5_many RX5 4 (some .int) SL 1 := F
  show J X 0 [(0, .ref (xad X (4, 0, 0))), (1, iv v_n)] [] (gs g0 4 0 L0)
  refine jr_aload_n (pc := 0) F 0 dX5_many_0 rfl rfl ?_
  refine jr_iconst (pc := 1) F dX5_many_1 ?_
  obtain ⟨L1, e2, k⟩ := Ok_let k
  refine jr_putI (pc := 2) F (gs g0 4 0 L1) fw_5_92 m4_0 rfl (show Rg 0 from ⟨by decide, by decide⟩) (put1 e2) dX5_many_2 ?_
  refine jr_iload_n (pc := 5) F 1 dX5_many_5 rfl rfl ?_
  refine jr_iconst (pc := 6) F dX5_many_6 ?_
  refine jr_bipush (pc := 7) F dX5_many_7 (by decide) ?_
  refine jr_callS (pc := 9) (st := []) F [iv v_n, iv 2, iv 16] (snd_X5_wrongNumber (g0 := gs g0 4 0 L1) rgp_n (show Rg 2 from ⟨by decide, by decide⟩) (show Rg 16 from ⟨by decide, by decide⟩) (X5_wrongNumber_ok _ _ _ )) rfl ck_5_236 rfl rfl (by decide) (Nat.le_of_ble_eq_true rfl) dX5_many_9 rfl (fun v g' hq => ?_)
  obtain ⟨x, rfl, r3, eg, hx⟩ := hq
  subst hx
  refine J_eq eg ?_
  show J X 12 [(0, .ref (xad X (4, 0, 0))), (1, iv v_n)] [iv (X5_wrongNumber_v v_n 2 16)] (gs g0 4 0 L1)
  obtain ⟨x4, e5, k⟩ := Ok_let k
  have r6 : Rg x4 := rg_of e5 r3
  refine jr_top e5 ?_
  refine jr_istore_n (pc := 12) F [(2, iv x4), (0, .ref (xad X (4, 0, 0))), (1, iv v_n)] dX5_many_12 rfl (by decide) rfl ?_
  refine jn (P := fun v : Int => Rg (v) → J X 31 [(2, iv x4), (0, .ref (xad X (4, 0, 0))), (1, iv v_n)] (iv (v) :: []) (gs g0 4 0 L1)) k (fun Q8 k hJ9 => ?_) (fun z7 k r14 => ?_)
  · refine jr_iload_n (pc := 13) F 0 dX5_many_13 rfl rfl ?_
    refine jr_if_ne (pc := 14) (tgt := 30) F r6 dX5_many_14 (by decide) (fun h10 => ?_) (fun h10 => ?_)
    · have k := Ok_f h10 k
      refine jr_iload_n (pc := 30) F 0 dX5_many_30 rfl rfl ?_
      exact hJ9 x4 (Ok_some k) r6
    have k := Ok_t h10 k
    refine jr_aload_n (pc := 17) F 1 dX5_many_17 rfl rfl ?_
    refine jr_iload_n (pc := 18) F 2 dX5_many_18 rfl rfl ?_
    have k := Ok_bind k
    refine jr_callV (pc := 19) (st := []) F [iv v_n] (snd_X5_isBeyond  (g0 := g0) rgp_n k) rfl ck_5_178 rfl m4_0 rfl rfl rfl (by decide) (Nat.le_of_ble_eq_true rfl) dX5_many_19 rfl (fun v g' hq => ?_)
    obtain ⟨z12, rfl, r11, eg, k⟩ := hq
    refine J_eq eg ?_
    show J X 22 [(2, iv x4), (0, .ref (xad X (4, 0, 0))), (1, iv v_n)] [iv z12] (gs g0 4 0 L1)
    refine jr_if_eq (pc := 22) (tgt := 30) F (rg_z r11) dX5_many_22 (by decide) (fun h13 => ?_) (fun h13 => ?_)
    · have k := Ok_f (fun q => q h13) k
      refine jr_iload_n (pc := 30) F 0 dX5_many_30 rfl rfl ?_
      exact hJ9 x4 (Ok_some k) r6
    have k := Ok_t h13 k
    refine jr_bipush (pc := 25) F dX5_many_25 (by decide) ?_
    refine jr_goto (pc := 27) (tgt := 31) F dX5_many_27 (by decide) ?_
    exact hJ9 (-3) (Ok_some k) (show Rg (-3) from ⟨by decide, by decide⟩)
  refine jr_istore_n (pc := 31) F [(2, iv z7), (0, .ref (xad X (4, 0, 0))), (1, iv v_n)] dX5_many_31 rfl (by decide) rfl ?_
  refine jr_iload_n (pc := 32) F 0 dX5_many_32 rfl rfl ?_
  refine jr_if_ge (pc := 33) (tgt := 42) F r14 dX5_many_33 (by decide) (fun h15 => ?_) (fun h15 => ?_)
  · have k := Ok_f (ng_lt h15) k
    refine jr_aload_n (pc := 42) F 1 dX5_many_42 rfl rfl ?_
    refine jr_getI (pc := 43) F (L1 0 0) f_5_7 m4_0 rfl (gs_at' _ _ _ _ _ _) dX5_many_43 (fun r16 => ?_)
    obtain ⟨x17, e18, k⟩ := Ok_let k
    have r19 : Rg x17 := rg_of e18 r16
    refine jr_top e18 ?_
    refine jr_istore_n (pc := 46) F [(3, iv x17), (2, iv z7), (0, .ref (xad X (4, 0, 0))), (1, iv v_n)] dX5_many_46 rfl (by decide) rfl ?_
    refine jr_aload_n (pc := 47) F 2 dX5_many_47 rfl rfl ?_
    refine jr_iload_n (pc := 48) F 3 dX5_many_48 rfl rfl ?_
    obtain ⟨L20, e21, k⟩ := Ok_let k
    refine jr_putI (pc := 49) F (gs g0 4 0 L20) fw_5_7 m4_0 rfl rgp_n (put1 e21) dX5_many_49 ?_
    refine jr_aload_n (pc := 52) F 2 dX5_many_52 rfl rfl ?_
    refine jr_iconst (pc := 53) F dX5_many_53 ?_
    obtain ⟨L22, e23, k⟩ := Ok_let k
    refine jr_putI (pc := 54) F (gs g0 4 0 L22) fw_5_212 m4_0 rfl (show Rg 0 from ⟨by decide, by decide⟩) (put1 e23) dX5_many_54 ?_
    refine jr_iload_n (pc := 57) F 0 dX5_many_57 rfl rfl ?_
    exact jr_iret (pc := 58) F hQ rfl dX5_many_58 ⟨_, _, rfl, r19, rfl, (Ok_some k)⟩
  have k := Ok_t h15 k
  refine jr_aload_n (pc := 36) F 1 dX5_many_36 rfl rfl ?_
  refine jr_iload_n (pc := 37) F 0 dX5_many_37 rfl rfl ?_
  have k := Ok_bind k
  refine jr_callV (pc := 38) (st := []) F [iv z7] (snd_X5_refuse  (g0 := g0) r14 k) rfl ck_5_139 rfl m4_0 rfl rfl rfl (by decide) (Nat.le_of_ble_eq_true rfl) dX5_many_38 rfl (fun v g' hq => ?_)
  obtain ⟨x, L', rfl, r24, eg, k⟩ := hq
  obtain ⟨z25, ez⟩ : ∃ z : Int × LT, z = (x, L') := ⟨_, rfl⟩
  obtain ⟨rfl, rfl⟩ : x = z25.1 ∧ L' = z25.2 := ⟨by rw [ez], by rw [ez]⟩
  clear ez
  refine J_eq eg ?_
  show J X 41 [(2, iv z7), (0, .ref (xad X (4, 0, 0))), (1, iv v_n)] [iv z25.1] (gs g0 4 0 z25.2)
  exact jr_iret (pc := 41) F hQ rfl dX5_many_41 ⟨_, _, rfl, r24, rfl, (Ok_some k)⟩
set_option maxHeartbeats 4000000 in
set_option maxRecDepth 100000 in
theorem snd_X5_march {L0 : LT} {v_what : Int} {g0 : GG} (rgp_what : Rg v_what) {Q : (Int × LT) → Prop} (k : Ok (X5_march L0 v_what) Q) : MetG SL yX5_march cX5_march 12 (some .int) 2 (fun ad => [.ref (ad (4, 0, 0)), iv v_what]) (gs g0 4 0 L0) (fun v g' => ∃ (x : Int) (L' : LT), v = some (iv x) ∧ Rg x ∧ g' = gs g0 4 0 L' ∧ Q (x, L')) := by
  refine met_intro SL_ok (by decide +kernel) (fun ad => Nat.le_of_ble_eq_true rfl) (fun X F hQ hR => ?_)
  replace F : FX X cX5_march RX5 12 (some .int) SL 2 := F
  show J X 0 [(0, .ref (xad X (4, 0, 0))), (1, iv v_what)] [] (gs g0 4 0 L0)
  refine jr_aload_n (pc := 0) F 0 dX5_march_0 rfl rfl ?_
  refine jr_iconst (pc := 1) F dX5_march_1 ?_
  obtain ⟨L1, e2, k⟩ := Ok_let k
  refine jr_putI (pc := 2) F (gs g0 4 0 L1) fw_5_92 m4_0 rfl (show Rg 0 from ⟨by decide, by decide⟩) (put1 e2) dX5_march_2 ?_
  refine cnd (c := (X5_in_v v_what 0 2) = 0) (GT := J X 17 [(0, .ref (xad X (4, 0, 0))), (1, iv v_what)] [] (gs g0 4 0 L1)) (GF := J X 24 [(0, .ref (xad X (4, 0, 0))), (1, iv v_what)] [] (gs g0 4 0 L1)) k (fun HT HF => ?_) (fun h5 k => ?_) (fun h5 k => ?_)
  · refine jr_iload_n (pc := 5) F 1 dX5_march_5 rfl rfl ?_
    refine jr_i2l (pc := 6) F rgp_what dX5_march_6 ?_
    refine jr_lconst (pc := 7) (v := 0) F dX5_march_7 (by decide) ?_
    refine jr_ldc2 (pc := 8) F kc_5_174 dX5_march_8 ?_
    refine jr_callS (pc := 11) (st := []) F [lgv v_what, lgv 0, lgv 2] (snd_X5_in (g0 := gs g0 4 0 L1) (rl_rg rgp_what) (show Rl 0 from ⟨by decide, by decide⟩) (show Rl 2 from ⟨by decide, by decide⟩) (X5_in_ok _ _ _ )) rfl ck_5_95 rfl rfl (by decide) (Nat.le_of_ble_eq_true rfl) dX5_march_11 rfl (fun v g' hq => ?_)
    obtain ⟨x, rfl, r3, eg, hx⟩ := hq
    subst hx
    refine J_eq eg ?_
    show J X 14 [(0, .ref (xad X (4, 0, 0))), (1, iv v_what)] [iv (X5_in_v v_what 0 2)] (gs g0 4 0 L1)
    refine jr_if_ne (pc := 14) (tgt := 24) F (rg_z r3) dX5_march_14 (by decide) (fun h4 => ?_) (fun h4 => ?_)
    · exact HF h4
    exact HT h4
  · refine jr_aload_n (pc := 17) F 0 dX5_march_17 rfl rfl ?_
    refine jr_bipush (pc := 18) F dX5_march_18 (by decide) ?_
    have k := Ok_bind k
    refine jr_callV (pc := 20) (st := []) F [iv (-2)] (snd_X5_refuse  (g0 := g0) (show Rg (-2) from ⟨by decide, by decide⟩) k) rfl ck_5_139 rfl m4_0 rfl rfl rfl (by decide) (Nat.le_of_ble_eq_true rfl) dX5_march_20 rfl (fun v g' hq => ?_)
    obtain ⟨x, L', rfl, r6, eg, k⟩ := hq
    obtain ⟨z7, ez⟩ : ∃ z : Int × LT, z = (x, L') := ⟨_, rfl⟩
    obtain ⟨rfl, rfl⟩ : x = z7.1 ∧ L' = z7.2 := ⟨by rw [ez], by rw [ez]⟩
    clear ez
    refine J_eq eg ?_
    show J X 23 [(0, .ref (xad X (4, 0, 0))), (1, iv v_what)] [iv z7.1] (gs g0 4 0 z7.2)
    exact jr_iret (pc := 23) F hQ rfl dX5_march_23 ⟨_, _, rfl, r6, rfl, (Ok_some k)⟩
  refine jifP (P := fun v => Rg v → J X 40 [(0, .ref (xad X (4, 0, 0))), (1, iv v_what)] (iv v :: []) (gs g0 4 0 L1)) (c := (L1 0 0) < 5) (L1 0 0) (5) (fun Ht Hf => ?_) (fun r11 => ?_)
  · refine jr_aload_n (pc := 24) F 0 dX5_march_24 rfl rfl ?_
    refine jr_getI (pc := 25) F (L1 0 0) f_5_7 m4_0 rfl (gs_at' _ _ _ _ _ _) dX5_march_25 (fun r8 => ?_)
    refine jr_iconst (pc := 28) F dX5_march_28 ?_
    refine jr_icmp_ge (pc := 29) (tgt := 39) F r8 (show Rg 5 from ⟨by decide, by decide⟩) dX5_march_29 (by decide) (fun h9 => ?_) (fun h9 => ?_)
    · refine jr_iconst (pc := 39) F dX5_march_39 ?_
      exact Hf (ng_lt h9) (show Rg 5 from ⟨by decide, by decide⟩)
    refine jr_aload_n (pc := 32) F 0 dX5_march_32 rfl rfl ?_
    refine jr_getI (pc := 33) F (L1 0 0) f_5_7 m4_0 rfl (gs_at' _ _ _ _ _ _) dX5_march_33 (fun r10 => ?_)
    refine jr_goto (pc := 36) (tgt := 40) F dX5_march_36 (by decide) ?_
    exact Ht h9 r10
  obtain ⟨x12, e13, k⟩ := Ok_let k
  have r14 : Rg x12 := rg_of e13 r11
  refine jr_top e13 ?_
  refine jr_istore_n (pc := 40) F [(2, iv x12), (0, .ref (xad X (4, 0, 0))), (1, iv v_what)] dX5_march_40 rfl (by decide) rfl ?_
  refine jr_iconst (pc := 41) F dX5_march_41 ?_
  refine jr_istore_n (pc := 42) F [(3, iv 0), (2, iv x12), (0, .ref (xad X (4, 0, 0))), (1, iv v_what)] dX5_march_42 rfl (by decide) rfl ?_
  refine jr_iconst (pc := 43) F dX5_march_43 ?_
  refine jr_istore (pc := 44) F [(4, iv (-1)), (3, iv 0), (2, iv x12), (0, .ref (xad X (4, 0, 0))), (1, iv v_what)] dX5_march_44 (by decide) rfl ?_
  refine jr_sipush (pc := 46) F dX5_march_46 (by decide) ?_
  refine jr_istore (pc := 49) F [(5, iv 999), (4, iv (-1)), (3, iv 0), (2, iv x12), (0, .ref (xad X (4, 0, 0))), (1, iv v_what)] dX5_march_49 (by decide) rfl ?_
  refine jr_iconst (pc := 51) F dX5_march_51 ?_
  refine jr_istore (pc := 52) F [(6, iv 0), (5, iv 999), (4, iv (-1)), (3, iv 0), (2, iv x12), (0, .ref (xad X (4, 0, 0))), (1, iv v_what)] dX5_march_52 (by decide) rfl ?_
  refine jr_sub F [5, 6, 4, 3, 2, 1, 0] [(0, .ref (xad X (4, 0, 0))), (1, iv v_what), (2, iv x12), (3, iv 0), (4, iv (-1)), (5, iv 999), (6, iv 0)] rfl ?_
  refine lpj (P := fun s : Int × Int × Int × Int => Rg (s.1) → Rg (s.2.1) → Rg (s.2.2.1) → Rg (s.2.2.2) → J X 54 [(0, .ref (xad X (4, 0, 0))), (1, iv v_what), (2, iv x12), (3, iv s.1), (4, iv s.2.1), (5, iv s.2.2.1), (6, iv s.2.2.2)] [] (gs g0 4 0 L1)) (PE := fun r : Int × Int × Int × Int => Rg (r.1) → Rg (r.2.1) → Rg (r.2.2.1) → Rg (r.2.2.2) → J X 189 [(0, .ref (xad X (4, 0, 0))), (1, iv v_what), (2, iv x12), (3, iv r.1), (4, iv r.2.1), (5, iv r.2.2.1), (6, iv r.2.2.2)] [] (gs g0 4 0 L1)) k (fun s15 Q16 k hC17 hE18 r20 r21 r22 r23 => ?_) (fun z19 k => ?_) (fun h => h (show Rg 0 from ⟨by decide, by decide⟩) (show Rg (-1) from ⟨by decide, by decide⟩) (show Rg 999 from ⟨by decide, by decide⟩) (show Rg 0 from ⟨by decide, by decide⟩))
  · refine jr_iload (pc := 54) F 6 dX5_march_54 rfl ?_
    refine jr_iload_n (pc := 56) F 2 dX5_march_56 rfl rfl ?_
    refine jr_icmp_ge (pc := 57) (tgt := 189) F r23 r14 dX5_march_57 (by decide) (fun h24 => ?_) (fun h24 => ?_)
    · have k := Ok_f (ng_lt h24) k
      exact hE18 (s15.1, s15.2.1, s15.2.2.1, s15.2.2.2) (Ok_some k) r20 r21 r22 r23
    have k := Ok_t h24 k
    refine jr_sipush (pc := 60) F dX5_march_60 (by decide) ?_
    refine jr_istore (pc := 63) F [(7, iv 999), (0, .ref (xad X (4, 0, 0))), (1, iv v_what), (2, iv x12), (3, iv s15.1), (4, iv s15.2.1), (5, iv s15.2.2.1), (6, iv s15.2.2.2)] dX5_march_63 (by decide) rfl ?_
    refine jr_iconst (pc := 65) F dX5_march_65 ?_
    refine jr_istore (pc := 66) F [(8, iv (-1)), (7, iv 999), (0, .ref (xad X (4, 0, 0))), (1, iv v_what), (2, iv x12), (3, iv s15.1), (4, iv s15.2.1), (5, iv s15.2.2.1), (6, iv s15.2.2.2)] dX5_march_66 (by decide) rfl ?_
    refine jr_iconst (pc := 68) F dX5_march_68 ?_
    refine jr_istore (pc := 69) F [(9, iv 0), (8, iv (-1)), (7, iv 999), (0, .ref (xad X (4, 0, 0))), (1, iv v_what), (2, iv x12), (3, iv s15.1), (4, iv s15.2.1), (5, iv s15.2.2.1), (6, iv s15.2.2.2)] dX5_march_69 (by decide) rfl ?_
    refine jr_sub F [3, 4, 5, 6, 7, 8, 9, 2, 1, 0] [(0, .ref (xad X (4, 0, 0))), (1, iv v_what), (2, iv x12), (3, iv s15.1), (4, iv s15.2.1), (5, iv s15.2.2.1), (6, iv s15.2.2.2), (7, iv 999), (8, iv (-1)), (9, iv 0)] rfl ?_
    refine lpj (P := fun s : Int × Int × Int => Rg (s.1) → Rg (s.2.1) → Rg (s.2.2) → J X 71 [(0, .ref (xad X (4, 0, 0))), (1, iv v_what), (2, iv x12), (3, iv s15.1), (4, iv s15.2.1), (5, iv s15.2.2.1), (6, iv s15.2.2.2), (7, iv s.1), (8, iv s.2.1), (9, iv s.2.2)] [] (gs g0 4 0 L1)) (PE := fun r : Int × Int × Int => Rg (r.1) → Rg (r.2.1) → Rg (r.2.2) → J X 137 [(0, .ref (xad X (4, 0, 0))), (1, iv v_what), (2, iv x12), (3, iv s15.1), (4, iv s15.2.1), (5, iv s15.2.2.1), (6, iv s15.2.2.2), (7, iv r.1), (8, iv r.2.1), (9, iv r.2.2)] [] (gs g0 4 0 L1)) k (fun s25 Q26 k hC27 hE28 r30 r31 r32 => ?_) (fun z29 k => ?_) (fun h => h (show Rg 999 from ⟨by decide, by decide⟩) (show Rg (-1) from ⟨by decide, by decide⟩) (show Rg 0 from ⟨by decide, by decide⟩))
    · refine jr_iload (pc := 71) F 9 dX5_march_71 rfl ?_
      refine jr_iload_n (pc := 73) F 2 dX5_march_73 rfl rfl ?_
      refine jr_icmp_ge (pc := 74) (tgt := 137) F r32 r14 dX5_march_74 (by decide) (fun h33 => ?_) (fun h33 => ?_)
      · have k := Ok_f (ng_lt h33) k
        exact hE28 (s25.1, s25.2.1, s25.2.2) (Ok_some k) r30 r31 r32
      have k := Ok_t h33 k
      refine jr_aload_n (pc := 77) F 0 dX5_march_77 rfl rfl ?_
      refine jr_iload (pc := 78) F 6 dX5_march_78 rfl ?_
      refine jr_iload (pc := 80) F 9 dX5_march_80 rfl ?_
      refine jr_iload_n (pc := 82) F 2 dX5_march_82 rfl rfl ?_
      have k := Ok_bind k
      refine jr_callV (pc := 83) (st := []) F [iv s15.2.2.2, iv s25.2.2, iv x12] (snd_X5_leastOfFew  (g0 := g0) r23 r32 r14 k) rfl ck_5_285 rfl m4_0 rfl rfl rfl (by decide) (Nat.le_of_ble_eq_true rfl) dX5_march_83 rfl (fun v g' hq => ?_)
      obtain ⟨z35, rfl, r34, eg, k⟩ := hq
      refine J_eq eg ?_
      show J X 86 [(0, .ref (xad X (4, 0, 0))), (1, iv v_what), (2, iv x12), (3, iv s15.1), (4, iv s15.2.1), (5, iv s15.2.2.1), (6, iv s15.2.2.2), (7, iv s25.1), (8, iv s25.2.1), (9, iv s25.2.2)] [iv z35] (gs g0 4 0 L1)
      refine jr_istore (pc := 86) F [(10, iv z35), (0, .ref (xad X (4, 0, 0))), (1, iv v_what), (2, iv x12), (3, iv s15.1), (4, iv s15.2.1), (5, iv s15.2.2.1), (6, iv s15.2.2.2), (7, iv s25.1), (8, iv s25.2.1), (9, iv s25.2.2)] dX5_march_86 (by decide) rfl ?_
      refine jr_aload_n (pc := 88) F 1 dX5_march_88 rfl rfl ?_
      refine jr_iload (pc := 89) F 10 dX5_march_89 rfl ?_
      refine jr_iload (pc := 91) F 7 dX5_march_91 rfl ?_
      refine jr_iload_n (pc := 93) F 3 dX5_march_93 rfl rfl ?_
      have k := Ok_bind k
      refine jr_callV (pc := 94) (st := []) F [iv s25.2.2, iv s15.2.2.2, iv x12] (snd_X5_leastOfFew  (g0 := g0) r32 r23 r14 k) rfl ck_5_285 rfl m4_0 rfl rfl rfl (by decide) (Nat.le_of_ble_eq_true rfl) dX5_march_94 rfl (fun v g' hq => ?_)
      obtain ⟨z37, rfl, r36, eg, k⟩ := hq
      refine J_eq eg ?_
      show J X 97 [(10, iv z35), (0, .ref (xad X (4, 0, 0))), (1, iv v_what), (2, iv x12), (3, iv s15.1), (4, iv s15.2.1), (5, iv s15.2.2.1), (6, iv s15.2.2.2), (7, iv s25.1), (8, iv s25.2.1), (9, iv s25.2.2)] [iv z37] (gs g0 4 0 L1)
      refine jr_istore (pc := 97) F [(11, iv z37), (10, iv z35), (0, .ref (xad X (4, 0, 0))), (1, iv v_what), (2, iv x12), (3, iv s15.1), (4, iv s15.2.1), (5, iv s15.2.2.1), (6, iv s15.2.2.2), (7, iv s25.1), (8, iv s25.2.1), (9, iv s25.2.2)] dX5_march_97 (by decide) rfl ?_
      refine jifP (P := fun v => Rg v → J X 113 [(11, iv z37), (10, iv z35), (0, .ref (xad X (4, 0, 0))), (1, iv v_what), (2, iv x12), (3, iv s15.1), (4, iv s15.2.1), (5, iv s15.2.2.1), (6, iv s15.2.2.2), (7, iv s25.1), (8, iv s25.2.1), (9, iv s25.2.2)] (iv v :: []) (gs g0 4 0 L1)) (c := z35 < s25.1) (z35) (s25.1) (fun Ht Hf => ?_) (fun r39 => ?_)
      · refine jr_iload (pc := 99) F 1 dX5_march_99 rfl ?_
        refine jr_iload (pc := 101) F 9 dX5_march_101 rfl ?_
        refine jr_icmp_ge (pc := 103) (tgt := 111) F r34 r30 dX5_march_103 (by decide) (fun h38 => ?_) (fun h38 => ?_)
        · refine jr_iload (pc := 111) F 9 dX5_march_111 rfl ?_
          exact Hf (ng_lt h38) r30
        refine jr_iload (pc := 106) F 1 dX5_march_106 rfl ?_
        refine jr_goto (pc := 108) (tgt := 113) F dX5_march_108 (by decide) ?_
        exact Ht h38 r34
      obtain ⟨x40, e41, k⟩ := Ok_let k
      have r42 : Rg x40 := rg_of e41 r39
      refine jr_top e41 ?_
      refine jr_istore (pc := 113) F [(7, iv x40), (11, iv z37), (10, iv z35), (0, .ref (xad X (4, 0, 0))), (1, iv v_what), (2, iv x12), (3, iv s15.1), (4, iv s15.2.1), (5, iv s15.2.2.1), (6, iv s15.2.2.2), (8, iv s25.2.1), (9, iv s25.2.2)] dX5_march_113 (by decide) rfl ?_
      refine jifP (P := fun v => Rg v → J X 129 [(7, iv x40), (11, iv z37), (10, iv z35), (0, .ref (xad X (4, 0, 0))), (1, iv v_what), (2, iv x12), (3, iv s15.1), (4, iv s15.2.1), (5, iv s15.2.2.1), (6, iv s15.2.2.2), (8, iv s25.2.1), (9, iv s25.2.2)] (iv v :: []) (gs g0 4 0 L1)) (c := s25.2.1 < z37) (z37) (s25.2.1) (fun Ht Hf => ?_) (fun r44 => ?_)
      · refine jr_iload (pc := 115) F 1 dX5_march_115 rfl ?_
        refine jr_iload (pc := 117) F 10 dX5_march_117 rfl ?_
        refine jr_icmp_le (pc := 119) (tgt := 127) F r36 r31 dX5_march_119 (by decide) (fun h43 => ?_) (fun h43 => ?_)
        · refine jr_iload (pc := 127) F 10 dX5_march_127 rfl ?_
          exact Hf (ng_lt h43) r31
        refine jr_iload (pc := 122) F 1 dX5_march_122 rfl ?_
        refine jr_goto (pc := 124) (tgt := 129) F dX5_march_124 (by decide) ?_
        exact Ht h43 r36
      obtain ⟨x45, e46, k⟩ := Ok_let k
      have r47 : Rg x45 := rg_of e46 r44
      refine jr_top e46 ?_
      refine jr_istore (pc := 129) F [(8, iv x45), (7, iv x40), (11, iv z37), (10, iv z35), (0, .ref (xad X (4, 0, 0))), (1, iv v_what), (2, iv x12), (3, iv s15.1), (4, iv s15.2.1), (5, iv s15.2.2.1), (6, iv s15.2.2.2), (9, iv s25.2.2)] dX5_march_129 (by decide) rfl ?_
      refine jr_iinc (pc := 131) F [(9, iv (w32 (s25.2.2 + 1))), (8, iv x45), (7, iv x40), (11, iv z37), (10, iv z35), (0, .ref (xad X (4, 0, 0))), (1, iv v_what), (2, iv x12), (3, iv s15.1), (4, iv s15.2.1), (5, iv s15.2.2.1), (6, iv s15.2.2.2)] 11 dX5_march_131 rfl (by decide) rfl ?_
      refine jr_goto (pc := 134) (tgt := 71) F dX5_march_134 (by decide) ?_
      refine jr_sub F [5, 6, 7, 8, 9, 10, 11, 2, 1, 0] [(0, .ref (xad X (4, 0, 0))), (1, iv v_what), (2, iv x12), (3, iv s15.1), (4, iv s15.2.1), (5, iv s15.2.2.1), (6, iv s15.2.2.2), (7, iv x40), (8, iv x45), (9, iv (w32 (s25.2.2 + 1)))] rfl ?_
      exact hC27 (x40, x45, w32 (s25.2.2 + 1)) (Ok_some k) r42 r47 (rg_w _)
    intro r48 r49 r50
    refine jifP (P := fun v => Rg v → J X 150 [(0, .ref (xad X (4, 0, 0))), (1, iv v_what), (2, iv x12), (3, iv s15.1), (4, iv s15.2.1), (5, iv s15.2.2.1), (6, iv s15.2.2.2), (7, iv z29.1), (8, iv z29.2.1), (9, iv z29.2.2)] (iv v :: []) (gs g0 4 0 L1)) (c := s15.2.1 < z29.1) (s15.2.2.2) (s15.1) (fun Ht Hf => ?_) (fun r52 => ?_)
    · refine jr_iload (pc := 137) F 7 dX5_march_137 rfl ?_
      refine jr_iload (pc := 139) F 4 dX5_march_139 rfl ?_
      refine jr_icmp_le (pc := 141) (tgt := 149) F r48 r21 dX5_march_141 (by decide) (fun h51 => ?_) (fun h51 => ?_)
      · refine jr_iload_n (pc := 149) F 3 dX5_march_149 rfl rfl ?_
        exact Hf (ng_lt h51) r20
      refine jr_iload (pc := 144) F 6 dX5_march_144 rfl ?_
      refine jr_goto (pc := 146) (tgt := 150) F dX5_march_146 (by decide) ?_
      exact Ht h51 r23
    obtain ⟨x53, e54, k⟩ := Ok_let k
    have r55 : Rg x53 := rg_of e54 r52
    refine jr_top e54 ?_
    refine jr_istore_n (pc := 150) F [(3, iv x53), (0, .ref (xad X (4, 0, 0))), (1, iv v_what), (2, iv x12), (4, iv s15.2.1), (5, iv s15.2.2.1), (6, iv s15.2.2.2), (7, iv z29.1), (8, iv z29.2.1), (9, iv z29.2.2)] dX5_march_150 rfl (by decide) rfl ?_
    refine jifP (P := fun v => Rg v → J X 165 [(3, iv x53), (0, .ref (xad X (4, 0, 0))), (1, iv v_what), (2, iv x12), (4, iv s15.2.1), (5, iv s15.2.2.1), (6, iv s15.2.2.2), (7, iv z29.1), (8, iv z29.2.1), (9, iv z29.2.2)] (iv v :: []) (gs g0 4 0 L1)) (c := s15.2.1 < z29.1) (z29.1) (s15.2.1) (fun Ht Hf => ?_) (fun r57 => ?_)
    · refine jr_iload (pc := 151) F 7 dX5_march_151 rfl ?_
      refine jr_iload (pc := 153) F 4 dX5_march_153 rfl ?_
      refine jr_icmp_le (pc := 155) (tgt := 163) F r48 r21 dX5_march_155 (by decide) (fun h56 => ?_) (fun h56 => ?_)
      · refine jr_iload (pc := 163) F 4 dX5_march_163 rfl ?_
        exact Hf (ng_lt h56) r21
      refine jr_iload (pc := 158) F 7 dX5_march_158 rfl ?_
      refine jr_goto (pc := 160) (tgt := 165) F dX5_march_160 (by decide) ?_
      exact Ht h56 r48
    obtain ⟨x58, e59, k⟩ := Ok_let k
    have r60 : Rg x58 := rg_of e59 r57
    refine jr_top e59 ?_
    refine jr_istore (pc := 165) F [(4, iv x58), (3, iv x53), (0, .ref (xad X (4, 0, 0))), (1, iv v_what), (2, iv x12), (5, iv s15.2.2.1), (6, iv s15.2.2.2), (7, iv z29.1), (8, iv z29.2.1), (9, iv z29.2.2)] dX5_march_165 (by decide) rfl ?_
    refine jifP (P := fun v => Rg v → J X 181 [(4, iv x58), (3, iv x53), (0, .ref (xad X (4, 0, 0))), (1, iv v_what), (2, iv x12), (5, iv s15.2.2.1), (6, iv s15.2.2.2), (7, iv z29.1), (8, iv z29.2.1), (9, iv z29.2.2)] (iv v :: []) (gs g0 4 0 L1)) (c := z29.2.1 < s15.2.2.1) (z29.2.1) (s15.2.2.1) (fun Ht Hf => ?_) (fun r62 => ?_)
    · refine jr_iload (pc := 167) F 8 dX5_march_167 rfl ?_
      refine jr_iload (pc := 169) F 5 dX5_march_169 rfl ?_
      refine jr_icmp_ge (pc := 171) (tgt := 179) F r49 r22 dX5_march_171 (by decide) (fun h61 => ?_) (fun h61 => ?_)
      · refine jr_iload (pc := 179) F 5 dX5_march_179 rfl ?_
        exact Hf (ng_lt h61) r22
      refine jr_iload (pc := 174) F 8 dX5_march_174 rfl ?_
      refine jr_goto (pc := 176) (tgt := 181) F dX5_march_176 (by decide) ?_
      exact Ht h61 r49
    obtain ⟨x63, e64, k⟩ := Ok_let k
    have r65 : Rg x63 := rg_of e64 r62
    refine jr_top e64 ?_
    refine jr_istore (pc := 181) F [(5, iv x63), (4, iv x58), (3, iv x53), (0, .ref (xad X (4, 0, 0))), (1, iv v_what), (2, iv x12), (6, iv s15.2.2.2), (7, iv z29.1), (8, iv z29.2.1), (9, iv z29.2.2)] dX5_march_181 (by decide) rfl ?_
    refine jr_iinc (pc := 183) F [(6, iv (w32 (s15.2.2.2 + 1))), (5, iv x63), (4, iv x58), (3, iv x53), (0, .ref (xad X (4, 0, 0))), (1, iv v_what), (2, iv x12), (7, iv z29.1), (8, iv z29.2.1), (9, iv z29.2.2)] 6 dX5_march_183 rfl (by decide) rfl ?_
    refine jr_goto (pc := 186) (tgt := 54) F dX5_march_186 (by decide) ?_
    refine jr_sub F [4, 5, 6, 3, 2, 1, 0] [(0, .ref (xad X (4, 0, 0))), (1, iv v_what), (2, iv x12), (3, iv x53), (4, iv x58), (5, iv x63), (6, iv (w32 (s15.2.2.2 + 1)))] rfl ?_
    exact hC17 (x53, x58, x63, w32 (s15.2.2.2 + 1)) (Ok_some k) r55 r60 r65 (rg_w _)
  intro r66 r67 r68 r69
  refine jifP (P := fun v => Rg v → J X 209 [(0, .ref (xad X (4, 0, 0))), (1, iv v_what), (2, iv x12), (3, iv z19.1), (4, iv z19.2.1), (5, iv z19.2.2.1), (6, iv z19.2.2.2)] (iv v :: []) (gs g0 4 0 L1)) (c := v_what = 0) (z19.2.1) (if v_what = 1 then z19.1 else z19.2.2.1) (fun Ht Hf => ?_) (fun r73 => ?_)
  · refine jr_iload_n (pc := 189) F 1 dX5_march_189 rfl rfl ?_
    refine jr_if_ne (pc := 190) (tgt := 198) F rgp_what dX5_march_190 (by decide) (fun h70 => ?_) (fun h70 => ?_)
    · refine jifP (P := fun v => Rg v → J X 209 [(0, .ref (xad X (4, 0, 0))), (1, iv v_what), (2, iv x12), (3, iv z19.1), (4, iv z19.2.1), (5, iv z19.2.2.1), (6, iv z19.2.2.2)] (iv v :: []) (gs g0 4 0 L1)) (c := v_what = 1) (z19.1) (z19.2.2.1) (fun Ht Hf => ?_) (fun r72 => ?_)
      · refine jr_iload_n (pc := 198) F 1 dX5_march_198 rfl rfl ?_
        refine jr_iconst (pc := 199) F dX5_march_199 ?_
        refine jr_icmp_ne (pc := 200) (tgt := 207) F rgp_what (show Rg 1 from ⟨by decide, by decide⟩) dX5_march_200 (by decide) (fun h71 => ?_) (fun h71 => ?_)
        · refine jr_iload (pc := 207) F 5 dX5_march_207 rfl ?_
          exact Hf h71 r68
        refine jr_iload_n (pc := 203) F 3 dX5_march_203 rfl rfl ?_
        refine jr_goto (pc := 204) (tgt := 209) F dX5_march_204 (by decide) ?_
        exact Ht h71 r66
      exact Hf h70 r72
    refine jr_iload (pc := 193) F 4 dX5_march_193 rfl ?_
    refine jr_goto (pc := 195) (tgt := 209) F dX5_march_195 (by decide) ?_
    exact Ht h70 r67
  exact jr_iret (pc := 209) F hQ rfl dX5_march_209 ⟨_, _, rfl, r73, rfl, (Ok_some k)⟩
set_option maxHeartbeats 4000000 in
set_option maxRecDepth 100000 in
theorem snd_X5_mean {L0 : LT} {v_n : Int} {v_what : Int} {g0 : GG} (rgp_n : Rg v_n) (rgp_what : Rg v_what) {Q : (Int × LT) → Prop} (k : Ok (X5_mean L0 v_n v_what) Q) : MetG SL yX5_mean cX5_mean 7 (some .int) 5 (fun ad => [.ref (ad (4, 0, 0)), iv v_n, iv v_what]) (gs g0 4 0 L0) (fun v g' => ∃ (x : Int) (L' : LT), v = some (iv x) ∧ Rg x ∧ g' = gs g0 4 0 L' ∧ Q (x, L')) := by
  refine met_intro SL_ok (by decide +kernel) (fun ad => Nat.le_of_ble_eq_true rfl) (fun X F hQ hR => ?_)
  replace F : FX X cX5_mean RX5 7 (some .int) SL 5 := F
  show J X 0 [(0, .ref (xad X (4, 0, 0))), (1, iv v_n), (2, iv v_what)] [] (gs g0 4 0 L0)
  refine jr_aload_n (pc := 0) F 0 dX5_mean_0 rfl rfl ?_
  refine jr_iconst (pc := 1) F dX5_mean_1 ?_
  obtain ⟨L1, e2, k⟩ := Ok_let k
  refine jr_putI (pc := 2) F (gs g0 4 0 L1) fw_5_92 m4_0 rfl (show Rg 0 from ⟨by decide, by decide⟩) (put1 e2) dX5_mean_2 ?_
  refine jr_iload_n (pc := 5) F 1 dX5_mean_5 rfl rfl ?_
  refine jr_iconst (pc := 6) F dX5_mean_6 ?_
  refine jr_bipush (pc := 7) F dX5_mean_7 (by decide) ?_
  refine jr_callS (pc := 9) (st := []) F [iv v_n, iv 0, iv 72] (snd_X5_wrongNumber (g0 := gs g0 4 0 L1) rgp_n (show Rg 0 from ⟨by decide, by decide⟩) (show Rg 72 from ⟨by decide, by decide⟩) (X5_wrongNumber_ok _ _ _ )) rfl ck_5_236 rfl rfl (by decide) (Nat.le_of_ble_eq_true rfl) dX5_mean_9 rfl (fun v g' hq => ?_)
  obtain ⟨x, rfl, r3, eg, hx⟩ := hq
  subst hx
  refine J_eq eg ?_
  show J X 12 [(0, .ref (xad X (4, 0, 0))), (1, iv v_n), (2, iv v_what)] [iv (X5_wrongNumber_v v_n 0 72)] (gs g0 4 0 L1)
  refine jr_iload_n (pc := 12) F 2 dX5_mean_12 rfl rfl ?_
  refine jr_iconst (pc := 13) F dX5_mean_13 ?_
  refine jr_callS (pc := 14) (st := []) F [iv (X5_wrongNumber_v v_n 0 72), iv v_what, iv 1] (snd_X5_wrongBit (g0 := gs g0 4 0 L1) r3 rgp_what (show Rg 1 from ⟨by decide, by decide⟩) (X5_wrongBit_ok _ _ _ )) rfl ck_5_246 rfl rfl (by decide) (Nat.le_of_ble_eq_true rfl) dX5_mean_14 rfl (fun v g' hq => ?_)
  obtain ⟨x, rfl, r4, eg, hx⟩ := hq
  subst hx
  refine J_eq eg ?_
  show J X 17 [(0, .ref (xad X (4, 0, 0))), (1, iv v_n), (2, iv v_what)] [iv (X5_wrongBit_v (X5_wrongNumber_v v_n 0 72) v_what 1)] (gs g0 4 0 L1)
  obtain ⟨x5, e6, k⟩ := Ok_let k
  have r7 : Rg x5 := rg_of e6 r4
  refine jr_top e6 ?_
  refine jr_istore_n (pc := 17) F [(3, iv x5), (0, .ref (xad X (4, 0, 0))), (1, iv v_n), (2, iv v_what)] dX5_mean_17 rfl (by decide) rfl ?_
  refine jr_iload_n (pc := 18) F 0 dX5_mean_18 rfl rfl ?_
  refine jr_if_ge (pc := 19) (tgt := 28) F r7 dX5_mean_19 (by decide) (fun h8 => ?_) (fun h8 => ?_)
  · have k := Ok_f (ng_lt h8) k
    refine jr_aload_n (pc := 28) F 1 dX5_mean_28 rfl rfl ?_
    have k := Ok_bind k
    refine jr_callV (pc := 29) (st := []) F [] (snd_X5_open  (g0 := g0)  k) rfl ck_5_203 rfl m4_0 rfl rfl rfl (by decide) (Nat.le_of_ble_eq_true rfl) dX5_mean_29 rfl (fun v g' hq => ?_)
    obtain ⟨z10, rfl, eg, k⟩ := hq
    refine J_eq eg ?_
    show J X 32 [(3, iv x5), (0, .ref (xad X (4, 0, 0))), (1, iv v_n), (2, iv v_what)] [] (gs g0 4 0 z10)
    refine jr_aload_n (pc := 32) F 1 dX5_mean_32 rfl rfl ?_
    refine jr_iload_n (pc := 33) F 2 dX5_mean_33 rfl rfl ?_
    have k := Ok_bind k
    refine jr_callV (pc := 34) (st := []) F [iv v_n] (snd_X5_goHours  (g0 := g0) rgp_n k) rfl ck_5_197 rfl m4_0 rfl rfl rfl (by decide) (Nat.le_of_ble_eq_true rfl) dX5_mean_34 rfl (fun v g' hq => ?_)
    obtain ⟨z12, rfl, eg, k⟩ := hq
    refine J_eq eg ?_
    show J X 37 [(3, iv x5), (0, .ref (xad X (4, 0, 0))), (1, iv v_n), (2, iv v_what)] [] (gs g0 4 0 z12)
    refine jr_bipush (pc := 37) F dX5_mean_37 (by decide) ?_
    refine jr_istore (pc := 39) F [(4, iv 99), (3, iv x5), (0, .ref (xad X (4, 0, 0))), (1, iv v_n), (2, iv v_what)] dX5_mean_39 (by decide) rfl ?_
    refine jr_iconst (pc := 41) F dX5_mean_41 ?_
    refine jr_istore (pc := 42) F [(5, iv 0), (4, iv 99), (3, iv x5), (0, .ref (xad X (4, 0, 0))), (1, iv v_n), (2, iv v_what)] dX5_mean_42 (by decide) rfl ?_
    refine jr_iconst (pc := 44) F dX5_mean_44 ?_
    refine jr_istore (pc := 45) F [(6, iv 0), (5, iv 0), (4, iv 99), (3, iv x5), (0, .ref (xad X (4, 0, 0))), (1, iv v_n), (2, iv v_what)] dX5_mean_45 (by decide) rfl ?_
    refine jr_sub F [4, 5, 6, 3, 2, 1, 0] [(0, .ref (xad X (4, 0, 0))), (1, iv v_n), (2, iv v_what), (3, iv x5), (4, iv 99), (5, iv 0), (6, iv 0)] rfl ?_
    refine lpj (P := fun s : Int × Int × Int => Rg (s.1) → Rg (s.2.1) → Rg (s.2.2) → J X 47 [(0, .ref (xad X (4, 0, 0))), (1, iv v_n), (2, iv v_what), (3, iv x5), (4, iv s.1), (5, iv s.2.1), (6, iv s.2.2)] [] (gs g0 4 0 z12)) (PE := fun r : Int × Int × Int => Rg (r.1) → Rg (r.2.1) → Rg (r.2.2) → J X 114 [(0, .ref (xad X (4, 0, 0))), (1, iv v_n), (2, iv v_what), (3, iv x5), (4, iv r.1), (5, iv r.2.1), (6, iv r.2.2)] [] (gs g0 4 0 z12)) k (fun s13 Q14 k hC15 hE16 r18 r19 r20 => ?_) (fun z17 k => ?_) (fun h => h (show Rg 99 from ⟨by decide, by decide⟩) (show Rg 0 from ⟨by decide, by decide⟩) (show Rg 0 from ⟨by decide, by decide⟩))
    · refine jr_iload (pc := 47) F 6 dX5_mean_47 rfl ?_
      refine jr_aload_n (pc := 49) F 0 dX5_mean_49 rfl rfl ?_
      refine jr_getI (pc := 50) F (z12 0 0) f_5_7 m4_0 rfl (gs_at' _ _ _ _ _ _) dX5_mean_50 (fun r21 => ?_)
      refine jr_icmp_ge (pc := 53) (tgt := 114) F r20 r21 dX5_mean_53 (by decide) (fun h22 => ?_) (fun h22 => ?_)
      · have k := Ok_f (ng_lt h22) k
        exact hE16 (s13.1, s13.2.1, s13.2.2) (Ok_some k) r18 r19 r20
      have k := Ok_t h22 k
      obtain ⟨c23, k⟩ := Ok_grd k
      refine jifP (P := fun v => Rg v → J X 80 [(0, .ref (xad X (4, 0, 0))), (1, iv v_n), (2, iv v_what), (3, iv x5), (4, iv s13.1), (5, iv s13.2.1), (6, iv s13.2.2)] (iv v :: []) (gs g0 4 0 z12)) (c := (z12 4 s13.2.2) < s13.1) (z12 4 s13.2.2) (s13.1) (fun Ht Hf => ?_) (fun r27 => ?_)
      · refine jr_aload_n (pc := 56) F 0 dX5_mean_56 rfl rfl ?_
        refine jr_getR (pc := 57) (b := (4, 0, 4)) F f_5_20 m4_0 rfl dX5_mean_57 ?_
        refine jr_iload (pc := 60) F 6 dX5_mean_60 rfl ?_
        refine jr_iald (pc := 62) F (z12 4 s13.2.2) m4_4 (by decide) c23 (gs_at' _ _ _ _ _ _) dX5_mean_62 (fun r24 => ?_)
        refine jr_iload (pc := 63) F 4 dX5_mean_63 rfl ?_
        refine jr_icmp_ge (pc := 65) (tgt := 78) F r24 r18 dX5_mean_65 (by decide) (fun h25 => ?_) (fun h25 => ?_)
        · refine jr_iload (pc := 78) F 4 dX5_mean_78 rfl ?_
          exact Hf (ng_lt h25) r18
        refine jr_aload_n (pc := 68) F 0 dX5_mean_68 rfl rfl ?_
        refine jr_getR (pc := 69) (b := (4, 0, 4)) F f_5_20 m4_0 rfl dX5_mean_69 ?_
        refine jr_iload (pc := 72) F 6 dX5_mean_72 rfl ?_
        refine jr_iald (pc := 74) F (z12 4 s13.2.2) m4_4 (by decide) c23 (gs_at' _ _ _ _ _ _) dX5_mean_74 (fun r26 => ?_)
        refine jr_goto (pc := 75) (tgt := 80) F dX5_mean_75 (by decide) ?_
        exact Ht h25 r26
      obtain ⟨x28, e29, k⟩ := Ok_let k
      have r30 : Rg x28 := rg_of e29 r27
      refine jr_top e29 ?_
      refine jr_istore (pc := 80) F [(4, iv x28), (0, .ref (xad X (4, 0, 0))), (1, iv v_n), (2, iv v_what), (3, iv x5), (5, iv s13.2.1), (6, iv s13.2.2)] dX5_mean_80 (by decide) rfl ?_
      refine jifP (P := fun v => Rg v → J X 106 [(4, iv x28), (0, .ref (xad X (4, 0, 0))), (1, iv v_n), (2, iv v_what), (3, iv x5), (5, iv s13.2.1), (6, iv s13.2.2)] (iv v :: []) (gs g0 4 0 z12)) (c := s13.2.1 < (z12 4 s13.2.2)) (z12 4 s13.2.2) (s13.2.1) (fun Ht Hf => ?_) (fun r34 => ?_)
      · refine jr_aload_n (pc := 82) F 1 dX5_mean_82 rfl rfl ?_
        refine jr_getR (pc := 83) (b := (4, 0, 4)) F f_5_20 m4_0 rfl dX5_mean_83 ?_
        refine jr_iload (pc := 86) F 6 dX5_mean_86 rfl ?_
        refine jr_iald (pc := 88) F (z12 4 s13.2.2) m4_4 (by decide) c23 (gs_at' _ _ _ _ _ _) dX5_mean_88 (fun r31 => ?_)
        refine jr_iload (pc := 89) F 5 dX5_mean_89 rfl ?_
        refine jr_icmp_le (pc := 91) (tgt := 104) F r31 r19 dX5_mean_91 (by decide) (fun h32 => ?_) (fun h32 => ?_)
        · refine jr_iload (pc := 104) F 5 dX5_mean_104 rfl ?_
          exact Hf (ng_lt h32) r19
        refine jr_aload_n (pc := 94) F 1 dX5_mean_94 rfl rfl ?_
        refine jr_getR (pc := 95) (b := (4, 0, 4)) F f_5_20 m4_0 rfl dX5_mean_95 ?_
        refine jr_iload (pc := 98) F 6 dX5_mean_98 rfl ?_
        refine jr_iald (pc := 100) F (z12 4 s13.2.2) m4_4 (by decide) c23 (gs_at' _ _ _ _ _ _) dX5_mean_100 (fun r33 => ?_)
        refine jr_goto (pc := 101) (tgt := 106) F dX5_mean_101 (by decide) ?_
        exact Ht h32 r33
      obtain ⟨x35, e36, k⟩ := Ok_let k
      have r37 : Rg x35 := rg_of e36 r34
      refine jr_top e36 ?_
      refine jr_istore (pc := 106) F [(5, iv x35), (4, iv x28), (0, .ref (xad X (4, 0, 0))), (1, iv v_n), (2, iv v_what), (3, iv x5), (6, iv s13.2.2)] dX5_mean_106 (by decide) rfl ?_
      refine jr_iinc (pc := 108) F [(6, iv (w32 (s13.2.2 + 1))), (5, iv x35), (4, iv x28), (0, .ref (xad X (4, 0, 0))), (1, iv v_n), (2, iv v_what), (3, iv x5)] 6 dX5_mean_108 rfl (by decide) rfl ?_
      refine jr_goto (pc := 111) (tgt := 47) F dX5_mean_111 (by decide) ?_
      refine jr_sub F [3, 4, 5, 6, 2, 1, 0] [(0, .ref (xad X (4, 0, 0))), (1, iv v_n), (2, iv v_what), (3, iv x5), (4, iv x28), (5, iv x35), (6, iv (w32 (s13.2.2 + 1)))] rfl ?_
      exact hC15 (x28, x35, w32 (s13.2.2 + 1)) (Ok_some k) r30 r37 (rg_w _)
    intro r38 r39 r40
    refine jn (P := fun v : Int => Rg (v) → J X 135 [(0, .ref (xad X (4, 0, 0))), (1, iv v_n), (2, iv v_what), (3, iv x5), (4, iv z17.1), (5, iv z17.2.1), (6, iv z17.2.2)] (iv (v) :: []) (gs g0 4 0 z12)) k (fun Q42 k hJ43 => ?_) (fun z41 k r49 => ?_)
    · refine jr_iload_n (pc := 114) F 2 dX5_mean_114 rfl rfl ?_
      refine jr_if_ne (pc := 115) (tgt := 130) F rgp_what dX5_mean_115 (by decide) (fun h44 => ?_) (fun h44 => ?_)
      · have k := Ok_f h44 k
        refine jr_iload (pc := 130) F 5 dX5_mean_130 rfl ?_
        refine jr_iload (pc := 132) F 4 dX5_mean_132 rfl ?_
        refine jr_isub (pc := 134) F dX5_mean_134 ?_
        exact hJ43 (w32 (z17.2.1 - z17.1)) (Ok_some k) (rg_w _)
      have k := Ok_t h44 k
      refine jr_aload_n (pc := 118) F 0 dX5_mean_118 rfl rfl ?_
      have k := Ok_bind k
      refine jr_callV (pc := 119) (st := []) F [] (snd_X5_allFrost  (g0 := g0)  k) rfl ck_5_299 rfl m4_0 rfl rfl rfl (by decide) (Nat.le_of_ble_eq_true rfl) dX5_mean_119 rfl (fun v g' hq => ?_)
      obtain ⟨z46, rfl, r45, eg, k⟩ := hq
      refine J_eq eg ?_
      show J X 122 [(0, .ref (xad X (4, 0, 0))), (1, iv v_n), (2, iv v_what), (3, iv x5), (4, iv z17.1), (5, iv z17.2.1), (6, iv z17.2.2)] [iv z46] (gs g0 4 0 z12)
      refine jr_aload_n (pc := 122) F 0 dX5_mean_122 rfl rfl ?_
      refine jr_getI (pc := 123) F (z12 0 0) f_5_7 m4_0 rfl (gs_at' _ _ _ _ _ _) dX5_mean_123 (fun r47 => ?_)
      obtain ⟨c48, k⟩ := Ok_grd k
      refine jr_idiv (pc := 126) F r45 r47 c48 dX5_mean_126 ?_
      refine jr_goto (pc := 127) (tgt := 135) F dX5_mean_127 (by decide) ?_
      exact hJ43 (jdiv z46 (z12 0 0)) (Ok_some k) (rg_div _ _)
    refine jr_istore (pc := 135) F [(6, iv z41), (0, .ref (xad X (4, 0, 0))), (1, iv v_n), (2, iv v_what), (3, iv x5), (4, iv z17.1), (5, iv z17.2.1)] dX5_mean_135 (by decide) rfl ?_
    refine jr_aload_n (pc := 137) F 1 dX5_mean_137 rfl rfl ?_
    have k := Ok_bind k
    refine jr_callV (pc := 138) (st := []) F [] (snd_X5_close  (g0 := g0)  k) rfl ck_5_209 rfl m4_0 rfl rfl rfl (by decide) (Nat.le_of_ble_eq_true rfl) dX5_mean_138 rfl (fun v g' hq => ?_)
    obtain ⟨z51, rfl, eg, k⟩ := hq
    refine J_eq eg ?_
    show J X 141 [(6, iv z41), (0, .ref (xad X (4, 0, 0))), (1, iv v_n), (2, iv v_what), (3, iv x5), (4, iv z17.1), (5, iv z17.2.1)] [] (gs g0 4 0 z51)
    refine jr_iload (pc := 141) F 0 dX5_mean_141 rfl ?_
    exact jr_iret (pc := 143) F hQ rfl dX5_mean_143 ⟨_, _, rfl, r49, rfl, (Ok_some k)⟩
  have k := Ok_t h8 k
  refine jr_aload_n (pc := 22) F 1 dX5_mean_22 rfl rfl ?_
  refine jr_iload_n (pc := 23) F 0 dX5_mean_23 rfl rfl ?_
  have k := Ok_bind k
  refine jr_callV (pc := 24) (st := []) F [iv x5] (snd_X5_refuse  (g0 := g0) r7 k) rfl ck_5_139 rfl m4_0 rfl rfl rfl (by decide) (Nat.le_of_ble_eq_true rfl) dX5_mean_24 rfl (fun v g' hq => ?_)
  obtain ⟨x, L', rfl, r52, eg, k⟩ := hq
  obtain ⟨z53, ez⟩ : ∃ z : Int × LT, z = (x, L') := ⟨_, rfl⟩
  obtain ⟨rfl, rfl⟩ : x = z53.1 ∧ L' = z53.2 := ⟨by rw [ez], by rw [ez]⟩
  clear ez
  refine J_eq eg ?_
  show J X 27 [(3, iv x5), (0, .ref (xad X (4, 0, 0))), (1, iv v_n), (2, iv v_what)] [iv z53.1] (gs g0 4 0 z53.2)
  exact jr_iret (pc := 27) F hQ rfl dX5_mean_27 ⟨_, _, rfl, r52, rfl, (Ok_some k)⟩
set_option maxHeartbeats 4000000 in
set_option maxRecDepth 100000 in
theorem snd_X5_near {L0 : LT} {v_y : Int} {g0 : GG} (rgp_y : Rg v_y) {Q : (Int × LT) → Prop} (k : Ok (X5_near L0 v_y) Q) : MetG SL yX5_near cX5_near 3 (some .int) 2 (fun ad => [.ref (ad (4, 0, 0)), iv v_y]) (gs g0 4 0 L0) (fun v g' => ∃ (x : Int) (L' : LT), v = some (iv x) ∧ Rg x ∧ g' = gs g0 4 0 L' ∧ Q (x, L')) := by
  refine met_intro SL_ok (by decide +kernel) (fun ad => Nat.le_of_ble_eq_true rfl) (fun X F hQ hR => ?_)
  replace F : FX X cX5_near RX5 3 (some .int) SL 2 := F
  show J X 0 [(0, .ref (xad X (4, 0, 0))), (1, iv v_y)] [] (gs g0 4 0 L0)
  refine jr_aload_n (pc := 0) F 0 dX5_near_0 rfl rfl ?_
  refine jr_iconst (pc := 1) F dX5_near_1 ?_
  obtain ⟨L1, e2, k⟩ := Ok_let k
  refine jr_putI (pc := 2) F (gs g0 4 0 L1) fw_5_92 m4_0 rfl (show Rg 0 from ⟨by decide, by decide⟩) (put1 e2) dX5_near_2 ?_
  refine cnd (c := (X5_isYard_v L1 v_y) = 0) (GT := J X 13 [(0, .ref (xad X (4, 0, 0))), (1, iv v_y)] [] (gs g0 4 0 L1)) (GF := J X 19 [(0, .ref (xad X (4, 0, 0))), (1, iv v_y)] [] (gs g0 4 0 L1)) k (fun HT HF => ?_) (fun h5 k => ?_) (fun h5 k => ?_)
  · refine jr_aload_n (pc := 5) F 0 dX5_near_5 rfl rfl ?_
    refine jr_iload_n (pc := 6) F 1 dX5_near_6 rfl rfl ?_
    refine jr_callV (pc := 7) (st := []) F [iv v_y] (snd_X5_isYard  (g0 := g0) rgp_y (X5_isYard_ok _ _ )) rfl ck_5_181 rfl m4_0 rfl rfl rfl (by decide) (Nat.le_of_ble_eq_true rfl) dX5_near_7 rfl (fun v g' hq => ?_)
    obtain ⟨x, rfl, r3, eg, hx⟩ := hq
    subst hx
    refine J_eq eg ?_
    show J X 10 [(0, .ref (xad X (4, 0, 0))), (1, iv v_y)] [iv (X5_isYard_v L1 v_y)] (gs g0 4 0 L1)
    refine jr_if_ne (pc := 10) (tgt := 19) F (rg_z r3) dX5_near_10 (by decide) (fun h4 => ?_) (fun h4 => ?_)
    · exact HF h4
    exact HT h4
  · refine jr_aload_n (pc := 13) F 0 dX5_near_13 rfl rfl ?_
    refine jr_iconst (pc := 14) F dX5_near_14 ?_
    have k := Ok_bind k
    refine jr_callV (pc := 15) (st := []) F [iv (-1)] (snd_X5_refuse  (g0 := g0) (show Rg (-1) from ⟨by decide, by decide⟩) k) rfl ck_5_139 rfl m4_0 rfl rfl rfl (by decide) (Nat.le_of_ble_eq_true rfl) dX5_near_15 rfl (fun v g' hq => ?_)
    obtain ⟨x, L', rfl, r6, eg, k⟩ := hq
    obtain ⟨z7, ez⟩ : ∃ z : Int × LT, z = (x, L') := ⟨_, rfl⟩
    obtain ⟨rfl, rfl⟩ : x = z7.1 ∧ L' = z7.2 := ⟨by rw [ez], by rw [ez]⟩
    clear ez
    refine J_eq eg ?_
    show J X 18 [(0, .ref (xad X (4, 0, 0))), (1, iv v_y)] [iv z7.1] (gs g0 4 0 z7.2)
    exact jr_iret (pc := 18) F hQ rfl dX5_near_18 ⟨_, _, rfl, r6, rfl, (Ok_some k)⟩
  refine jr_aload_n (pc := 19) F 0 dX5_near_19 rfl rfl ?_
  refine jr_iload_n (pc := 20) F 1 dX5_near_20 rfl rfl ?_
  have k := Ok_bind k
  refine jr_callV (pc := 21) (st := []) F [iv v_y] (snd_X5_haltNear  (g0 := g0) rgp_y k) rfl ck_5_282 rfl m4_0 rfl rfl rfl (by decide) (Nat.le_of_ble_eq_true rfl) dX5_near_21 rfl (fun v g' hq => ?_)
  obtain ⟨z9, rfl, r8, eg, k⟩ := hq
  refine J_eq eg ?_
  show J X 24 [(0, .ref (xad X (4, 0, 0))), (1, iv v_y)] [iv z9] (gs g0 4 0 L1)
  refine jr_istore_n (pc := 24) F [(2, iv z9), (0, .ref (xad X (4, 0, 0))), (1, iv v_y)] dX5_near_24 rfl (by decide) rfl ?_
  refine jifP (P := fun v => Rg v → J X 48 [(2, iv z9), (0, .ref (xad X (4, 0, 0))), (1, iv v_y)] (iv v :: []) (gs g0 4 0 L1)) (c := z9 < 0) ((-9)) (if v_y < z9 then w32 (z9 - v_y) else w32 (v_y - z9)) (fun Ht Hf => ?_) (fun r13 => ?_)
  · refine jr_iload_n (pc := 25) F 0 dX5_near_25 rfl rfl ?_
    refine jr_if_ge (pc := 26) (tgt := 34) F r8 dX5_near_26 (by decide) (fun h10 => ?_) (fun h10 => ?_)
    · refine jifP (P := fun v => Rg v → J X 48 [(2, iv z9), (0, .ref (xad X (4, 0, 0))), (1, iv v_y)] (iv v :: []) (gs g0 4 0 L1)) (c := v_y < z9) (w32 (z9 - v_y)) (w32 (v_y - z9)) (fun Ht Hf => ?_) (fun r12 => ?_)
      · refine jr_iload_n (pc := 34) F 0 dX5_near_34 rfl rfl ?_
        refine jr_iload_n (pc := 35) F 2 dX5_near_35 rfl rfl ?_
        refine jr_icmp_le (pc := 36) (tgt := 45) F r8 rgp_y dX5_near_36 (by decide) (fun h11 => ?_) (fun h11 => ?_)
        · refine jr_iload_n (pc := 45) F 2 dX5_near_45 rfl rfl ?_
          refine jr_iload_n (pc := 46) F 0 dX5_near_46 rfl rfl ?_
          refine jr_isub (pc := 47) F dX5_near_47 ?_
          exact Hf (ng_lt h11) (rg_w _)
        refine jr_iload_n (pc := 39) F 0 dX5_near_39 rfl rfl ?_
        refine jr_iload_n (pc := 40) F 2 dX5_near_40 rfl rfl ?_
        refine jr_isub (pc := 41) F dX5_near_41 ?_
        refine jr_goto (pc := 42) (tgt := 48) F dX5_near_42 (by decide) ?_
        exact Ht h11 (rg_w _)
      exact Hf (ng_lt h10) r12
    refine jr_bipush (pc := 29) F dX5_near_29 (by decide) ?_
    refine jr_goto (pc := 31) (tgt := 48) F dX5_near_31 (by decide) ?_
    exact Ht h10 (show Rg (-9) from ⟨by decide, by decide⟩)
  exact jr_iret (pc := 48) F hQ rfl dX5_near_48 ⟨_, _, rfl, r13, rfl, (Ok_some k)⟩
set_option maxHeartbeats 4000000 in
set_option maxRecDepth 100000 in
theorem snd_X5_needed {L0 : LT} {v_y : Int} {v_t : Int} {g0 : GG} (rgp_y : Rg v_y) (rgp_t : Rg v_t) {Q : (Int × LT) → Prop} (k : Ok (X5_needed L0 v_y v_t) Q) : MetG SL yX5_needed cX5_needed 4 (some .int) 5 (fun ad => [.ref (ad (4, 0, 0)), iv v_y, iv v_t]) (gs g0 4 0 L0) (fun v g' => ∃ (x : Int) (L' : LT), v = some (iv x) ∧ Rg x ∧ g' = gs g0 4 0 L' ∧ Q (x, L')) := by
  refine met_intro SL_ok (by decide +kernel) (fun ad => Nat.le_of_ble_eq_true rfl) (fun X F hQ hR => ?_)
  replace F : FX X cX5_needed RX5 4 (some .int) SL 5 := F
  show J X 0 [(0, .ref (xad X (4, 0, 0))), (1, iv v_y), (2, iv v_t)] [] (gs g0 4 0 L0)
  refine jr_aload_n (pc := 0) F 0 dX5_needed_0 rfl rfl ?_
  refine jr_iconst (pc := 1) F dX5_needed_1 ?_
  obtain ⟨L1, e2, k⟩ := Ok_let k
  refine jr_putI (pc := 2) F (gs g0 4 0 L1) fw_5_92 m4_0 rfl (show Rg 0 from ⟨by decide, by decide⟩) (put1 e2) dX5_needed_2 ?_
  refine cnd (c := ((X5_isYard_v L1 v_y) = 0) ∨ ((X5_isTrain_v L1 v_t) = 0)) (GT := J X 21 [(0, .ref (xad X (4, 0, 0))), (1, iv v_y), (2, iv v_t)] [] (gs g0 4 0 L1)) (GF := J X 27 [(0, .ref (xad X (4, 0, 0))), (1, iv v_y), (2, iv v_t)] [] (gs g0 4 0 L1)) k (fun HT HF => ?_) (fun h7 k => ?_) (fun h7 k => ?_)
  · refine jr_aload_n (pc := 5) F 0 dX5_needed_5 rfl rfl ?_
    refine jr_iload_n (pc := 6) F 1 dX5_needed_6 rfl rfl ?_
    refine jr_callV (pc := 7) (st := []) F [iv v_y] (snd_X5_isYard  (g0 := g0) rgp_y (X5_isYard_ok _ _ )) rfl ck_5_181 rfl m4_0 rfl rfl rfl (by decide) (Nat.le_of_ble_eq_true rfl) dX5_needed_7 rfl (fun v g' hq => ?_)
    obtain ⟨x, rfl, r3, eg, hx⟩ := hq
    subst hx
    refine J_eq eg ?_
    show J X 10 [(0, .ref (xad X (4, 0, 0))), (1, iv v_y), (2, iv v_t)] [iv (X5_isYard_v L1 v_y)] (gs g0 4 0 L1)
    refine jr_if_eq (pc := 10) (tgt := 21) F (rg_z r3) dX5_needed_10 (by decide) (fun h4 => ?_) (fun h4 => ?_)
    · exact HT (Or.inl h4)
    refine jr_aload_n (pc := 13) F 0 dX5_needed_13 rfl rfl ?_
    refine jr_iload_n (pc := 14) F 2 dX5_needed_14 rfl rfl ?_
    refine jr_callV (pc := 15) (st := []) F [iv v_t] (snd_X5_isTrain  (g0 := g0) rgp_t (X5_isTrain_ok _ _ )) rfl ck_5_192 rfl m4_0 rfl rfl rfl (by decide) (Nat.le_of_ble_eq_true rfl) dX5_needed_15 rfl (fun v g' hq => ?_)
    obtain ⟨x, rfl, r5, eg, hx⟩ := hq
    subst hx
    refine J_eq eg ?_
    show J X 18 [(0, .ref (xad X (4, 0, 0))), (1, iv v_y), (2, iv v_t)] [iv (X5_isTrain_v L1 v_t)] (gs g0 4 0 L1)
    refine jr_if_ne (pc := 18) (tgt := 27) F (rg_z r5) dX5_needed_18 (by decide) (fun h6 => ?_) (fun h6 => ?_)
    · exact HF (fun q => q.elim h4 h6)
    exact HT (Or.inr h6)
  · refine jr_aload_n (pc := 21) F 0 dX5_needed_21 rfl rfl ?_
    refine jr_iconst (pc := 22) F dX5_needed_22 ?_
    have k := Ok_bind k
    refine jr_callV (pc := 23) (st := []) F [iv (-1)] (snd_X5_refuse  (g0 := g0) (show Rg (-1) from ⟨by decide, by decide⟩) k) rfl ck_5_139 rfl m4_0 rfl rfl rfl (by decide) (Nat.le_of_ble_eq_true rfl) dX5_needed_23 rfl (fun v g' hq => ?_)
    obtain ⟨x, L', rfl, r8, eg, k⟩ := hq
    obtain ⟨z9, ez⟩ : ∃ z : Int × LT, z = (x, L') := ⟨_, rfl⟩
    obtain ⟨rfl, rfl⟩ : x = z9.1 ∧ L' = z9.2 := ⟨by rw [ez], by rw [ez]⟩
    clear ez
    refine J_eq eg ?_
    show J X 26 [(0, .ref (xad X (4, 0, 0))), (1, iv v_y), (2, iv v_t)] [iv z9.1] (gs g0 4 0 z9.2)
    exact jr_iret (pc := 26) F hQ rfl dX5_needed_26 ⟨_, _, rfl, r8, rfl, (Ok_some k)⟩
  refine jr_aload_n (pc := 27) F 0 dX5_needed_27 rfl rfl ?_
  have k := Ok_bind k
  refine jr_callV (pc := 28) (st := []) F [] (snd_X5_open  (g0 := g0)  k) rfl ck_5_203 rfl m4_0 rfl rfl rfl (by decide) (Nat.le_of_ble_eq_true rfl) dX5_needed_28 rfl (fun v g' hq => ?_)
  obtain ⟨z11, rfl, eg, k⟩ := hq
  refine J_eq eg ?_
  show J X 31 [(0, .ref (xad X (4, 0, 0))), (1, iv v_y), (2, iv v_t)] [] (gs g0 4 0 z11)
  refine jr_iconst (pc := 31) F dX5_needed_31 ?_
  refine jr_istore_n (pc := 32) F [(3, iv 0), (0, .ref (xad X (4, 0, 0))), (1, iv v_y), (2, iv v_t)] dX5_needed_32 rfl (by decide) rfl ?_
  refine jr_sub F [1, 2, 3, 0] [(0, .ref (xad X (4, 0, 0))), (1, iv v_y), (2, iv v_t), (3, iv 0)] rfl ?_
  refine lpj (P := fun s : Int × LT => Rg (s.1) → J X 33 [(0, .ref (xad X (4, 0, 0))), (1, iv v_y), (2, iv v_t), (3, iv s.1)] [] (gs g0 4 0 s.2)) (PE := fun o : ((Int × LT) ⊕ (Int × LT)) => match o with | .inl r => Rg (r.1) → J X 64 [(0, .ref (xad X (4, 0, 0))), (1, iv v_y), (2, iv v_t), (3, iv r.1)] [] (gs g0 4 0 r.2) | .inr y => Q (y)) k (fun s12 Q13 k hC14 hE15 r17 => ?_) (fun o k => ?_) (fun h => h (show Rg 0 from ⟨by decide, by decide⟩))
  · refine jr_iload_n (pc := 33) F 3 dX5_needed_33 rfl rfl ?_
    refine jr_bipush (pc := 34) F dX5_needed_34 (by decide) ?_
    refine jr_icmp_gt (pc := 36) (tgt := 64) F r17 (show Rg 99 from ⟨by decide, by decide⟩) dX5_needed_36 (by decide) (fun h18 => ?_) (fun h18 => ?_)
    · have k := Ok_f (ng_le h18) k
      exact hE15 (Sum.inl (s12.1, s12.2)) (Ok_some k) r17
    have k := Ok_t h18 k
    refine jr_aload_n (pc := 39) F 0 dX5_needed_39 rfl rfl ?_
    refine jr_getR (pc := 40) (b := (4, 0, 4)) F f_5_20 m4_0 rfl dX5_needed_40 ?_
    refine jr_iload_n (pc := 43) F 1 dX5_needed_43 rfl rfl ?_
    refine jr_iload_n (pc := 44) F 3 dX5_needed_44 rfl rfl ?_
    obtain ⟨c19, k⟩ := Ok_grd k
    obtain ⟨L20, e21, k⟩ := Ok_let k
    refine jr_iast (pc := 45) F (gs g0 4 0 L20) m4_4 (by decide) c19 r17 (put1 e21) dX5_needed_45 ?_
    refine jr_aload_n (pc := 46) F 0 dX5_needed_46 rfl rfl ?_
    refine jr_iload_n (pc := 47) F 2 dX5_needed_47 rfl rfl ?_
    have k := Ok_bind k
    refine jr_callV (pc := 48) (st := []) F [iv v_t] (snd_X5_throughIn  (g0 := g0) rgp_t k) rfl ck_5_252 rfl m4_0 rfl rfl rfl (by decide) (Nat.le_of_ble_eq_true rfl) dX5_needed_48 rfl (fun v g' hq => ?_)
    obtain ⟨x, L', rfl, r22, eg, k⟩ := hq
    obtain ⟨z23, ez⟩ : ∃ z : Int × LT, z = (x, L') := ⟨_, rfl⟩
    obtain ⟨rfl, rfl⟩ : x = z23.1 ∧ L' = z23.2 := ⟨by rw [ez], by rw [ez]⟩
    clear ez
    refine J_eq eg ?_
    show J X 51 [(0, .ref (xad X (4, 0, 0))), (1, iv v_y), (2, iv v_t), (3, iv s12.1)] [iv z23.1] (gs g0 4 0 z23.2)
    refine jr_bipush (pc := 51) F dX5_needed_51 (by decide) ?_
    refine jr_icmp_ge (pc := 53) (tgt := 58) F r22 (show Rg 99 from ⟨by decide, by decide⟩) dX5_needed_53 (by decide) (fun h24 => ?_) (fun h24 => ?_)
    · have k := Ok_f (ng_lt h24) k
      refine jr_iinc (pc := 58) F [(3, iv (w32 (s12.1 + 1))), (0, .ref (xad X (4, 0, 0))), (1, iv v_y), (2, iv v_t)] 3 dX5_needed_58 rfl (by decide) rfl ?_
      refine jr_goto (pc := 61) (tgt := 33) F dX5_needed_61 (by decide) ?_
      refine jr_sub F [1, 2, 3, 0] [(0, .ref (xad X (4, 0, 0))), (1, iv v_y), (2, iv v_t), (3, iv (w32 (s12.1 + 1)))] rfl ?_
      exact hC14 (w32 (s12.1 + 1), z23.2) (Ok_some k) (rg_w _)
    have k := Ok_t h24 k
    refine jr_iload_n (pc := 56) F 3 dX5_needed_56 rfl rfl ?_
    exact jr_iret (pc := 57) F hQ rfl dX5_needed_57 ⟨_, _, rfl, r17, rfl, (hE15 (Sum.inr _) (Ok_some k))⟩
  rcases o with z16 | y
  rotate_left
  · show Q (y)
    exact Ok_some k
  intro r25
  refine jr_bipush (pc := 64) F dX5_needed_64 (by decide) ?_
  exact jr_iret (pc := 66) F hQ rfl dX5_needed_66 ⟨_, _, rfl, (show Rg (-9) from ⟨by decide, by decide⟩), rfl, (Ok_some k)⟩
set_option maxHeartbeats 4000000 in
set_option maxRecDepth 100000 in
theorem snd_X5_noon {L0 : LT} {v_t : Int} {g0 : GG} (rgp_t : Rg v_t) {Q : (Int × LT) → Prop} (k : Ok (X5_noon L0 v_t) Q) : MetG SL yX5_noon cX5_noon 4 (some .int) 5 (fun ad => [.ref (ad (4, 0, 0)), iv v_t]) (gs g0 4 0 L0) (fun v g' => ∃ (x : Int) (L' : LT), v = some (iv x) ∧ Rg x ∧ g' = gs g0 4 0 L' ∧ Q (x, L')) := by
  refine met_intro SL_ok (by decide +kernel) (fun ad => Nat.le_of_ble_eq_true rfl) (fun X F hQ hR => ?_)
  replace F : FX X cX5_noon RX5 4 (some .int) SL 5 := F
  show J X 0 [(0, .ref (xad X (4, 0, 0))), (1, iv v_t)] [] (gs g0 4 0 L0)
  refine jr_aload_n (pc := 0) F 0 dX5_noon_0 rfl rfl ?_
  refine jr_iconst (pc := 1) F dX5_noon_1 ?_
  obtain ⟨L1, e2, k⟩ := Ok_let k
  refine jr_putI (pc := 2) F (gs g0 4 0 L1) fw_5_92 m4_0 rfl (show Rg 0 from ⟨by decide, by decide⟩) (put1 e2) dX5_noon_2 ?_
  refine cnd (c := (X5_isTrain_v L1 v_t) = 0) (GT := J X 13 [(0, .ref (xad X (4, 0, 0))), (1, iv v_t)] [] (gs g0 4 0 L1)) (GF := J X 19 [(0, .ref (xad X (4, 0, 0))), (1, iv v_t)] [] (gs g0 4 0 L1)) k (fun HT HF => ?_) (fun h5 k => ?_) (fun h5 k => ?_)
  · refine jr_aload_n (pc := 5) F 0 dX5_noon_5 rfl rfl ?_
    refine jr_iload_n (pc := 6) F 1 dX5_noon_6 rfl rfl ?_
    refine jr_callV (pc := 7) (st := []) F [iv v_t] (snd_X5_isTrain  (g0 := g0) rgp_t (X5_isTrain_ok _ _ )) rfl ck_5_192 rfl m4_0 rfl rfl rfl (by decide) (Nat.le_of_ble_eq_true rfl) dX5_noon_7 rfl (fun v g' hq => ?_)
    obtain ⟨x, rfl, r3, eg, hx⟩ := hq
    subst hx
    refine J_eq eg ?_
    show J X 10 [(0, .ref (xad X (4, 0, 0))), (1, iv v_t)] [iv (X5_isTrain_v L1 v_t)] (gs g0 4 0 L1)
    refine jr_if_ne (pc := 10) (tgt := 19) F (rg_z r3) dX5_noon_10 (by decide) (fun h4 => ?_) (fun h4 => ?_)
    · exact HF h4
    exact HT h4
  · refine jr_aload_n (pc := 13) F 0 dX5_noon_13 rfl rfl ?_
    refine jr_iconst (pc := 14) F dX5_noon_14 ?_
    have k := Ok_bind k
    refine jr_callV (pc := 15) (st := []) F [iv (-1)] (snd_X5_refuse  (g0 := g0) (show Rg (-1) from ⟨by decide, by decide⟩) k) rfl ck_5_139 rfl m4_0 rfl rfl rfl (by decide) (Nat.le_of_ble_eq_true rfl) dX5_noon_15 rfl (fun v g' hq => ?_)
    obtain ⟨x, L', rfl, r6, eg, k⟩ := hq
    obtain ⟨z7, ez⟩ : ∃ z : Int × LT, z = (x, L') := ⟨_, rfl⟩
    obtain ⟨rfl, rfl⟩ : x = z7.1 ∧ L' = z7.2 := ⟨by rw [ez], by rw [ez]⟩
    clear ez
    refine J_eq eg ?_
    show J X 18 [(0, .ref (xad X (4, 0, 0))), (1, iv v_t)] [iv z7.1] (gs g0 4 0 z7.2)
    exact jr_iret (pc := 18) F hQ rfl dX5_noon_18 ⟨_, _, rfl, r6, rfl, (Ok_some k)⟩
  refine jr_bipush (pc := 19) F dX5_noon_19 (by decide) ?_
  refine jr_istore_n (pc := 21) F [(2, iv (-9)), (0, .ref (xad X (4, 0, 0))), (1, iv v_t)] dX5_noon_21 rfl (by decide) rfl ?_
  refine jr_aload_n (pc := 22) F 1 dX5_noon_22 rfl rfl ?_
  have k := Ok_bind k
  refine jr_callV (pc := 23) (st := []) F [] (snd_X5_open  (g0 := g0)  k) rfl ck_5_203 rfl m4_0 rfl rfl rfl (by decide) (Nat.le_of_ble_eq_true rfl) dX5_noon_23 rfl (fun v g' hq => ?_)
  obtain ⟨z9, rfl, eg, k⟩ := hq
  refine J_eq eg ?_
  show J X 26 [(2, iv (-9)), (0, .ref (xad X (4, 0, 0))), (1, iv v_t)] [] (gs g0 4 0 z9)
  refine jr_iconst (pc := 26) F dX5_noon_26 ?_
  refine jr_istore_n (pc := 27) F [(3, iv 0), (2, iv (-9)), (0, .ref (xad X (4, 0, 0))), (1, iv v_t)] dX5_noon_27 rfl (by decide) rfl ?_
  refine jr_sub F [2, 3, 1, 0] [(0, .ref (xad X (4, 0, 0))), (1, iv v_t), (2, iv (-9)), (3, iv 0)] rfl ?_
  refine lpj (P := fun s : Int × Int × LT => Rg (s.1) → Rg (s.2.1) → J X 28 [(0, .ref (xad X (4, 0, 0))), (1, iv v_t), (2, iv s.1), (3, iv s.2.1)] [] (gs g0 4 0 s.2.2)) (PE := fun r : Int × Int × LT => Rg (r.1) → Rg (r.2.1) → J X 61 [(0, .ref (xad X (4, 0, 0))), (1, iv v_t), (2, iv r.1), (3, iv r.2.1)] [] (gs g0 4 0 r.2.2)) k (fun s10 Q11 k hC12 hE13 r15 r16 => ?_) (fun z14 k => ?_) (fun h => h (show Rg (-9) from ⟨by decide, by decide⟩) (show Rg 0 from ⟨by decide, by decide⟩))
  · refine jr_iload_n (pc := 28) F 3 dX5_noon_28 rfl rfl ?_
    refine jr_bipush (pc := 29) F dX5_noon_29 (by decide) ?_
    refine jr_icmp_ge (pc := 31) (tgt := 61) F r16 (show Rg 10 from ⟨by decide, by decide⟩) dX5_noon_31 (by decide) (fun h17 => ?_) (fun h17 => ?_)
    · have k := Ok_f (ng_lt h17) k
      exact hE13 (s10.1, s10.2.1, s10.2.2) (Ok_some k) r15 r16
    have k := Ok_t h17 k
    refine jr_aload_n (pc := 34) F 0 dX5_noon_34 rfl rfl ?_
    refine jr_iload_n (pc := 35) F 3 dX5_noon_35 rfl rfl ?_
    obtain ⟨L18, e19, k⟩ := Ok_let k
    refine jr_putI (pc := 36) F (gs g0 4 0 L18) fw_5_26 m4_0 rfl r16 (put1 e19) dX5_noon_36 ?_
    refine jn (P := fun v : Int × LT => Rg (v.1) → J X 54 [(0, .ref (xad X (4, 0, 0))), (1, iv v_t), (2, iv s10.1), (3, iv s10.2.1)] (iv (v.1) :: []) (gs g0 4 0 v.2)) k (fun Q21 k hJ22 => ?_) (fun z20 k r26 => ?_)
    · refine jr_aload_n (pc := 39) F 0 dX5_noon_39 rfl rfl ?_
      refine jr_iload_n (pc := 40) F 1 dX5_noon_40 rfl rfl ?_
      have k := Ok_bind k
      refine jr_callV (pc := 41) (st := []) F [iv v_t] (snd_X5_throughIn  (g0 := g0) rgp_t k) rfl ck_5_252 rfl m4_0 rfl rfl rfl (by decide) (Nat.le_of_ble_eq_true rfl) dX5_noon_41 rfl (fun v g' hq => ?_)
      obtain ⟨x, L', rfl, r23, eg, k⟩ := hq
      obtain ⟨z24, ez⟩ : ∃ z : Int × LT, z = (x, L') := ⟨_, rfl⟩
      obtain ⟨rfl, rfl⟩ : x = z24.1 ∧ L' = z24.2 := ⟨by rw [ez], by rw [ez]⟩
      clear ez
      refine J_eq eg ?_
      show J X 44 [(0, .ref (xad X (4, 0, 0))), (1, iv v_t), (2, iv s10.1), (3, iv s10.2.1)] [iv z24.1] (gs g0 4 0 z24.2)
      refine jr_bipush (pc := 44) F dX5_noon_44 (by decide) ?_
      refine jr_icmp_ge (pc := 46) (tgt := 53) F r23 (show Rg 99 from ⟨by decide, by decide⟩) dX5_noon_46 (by decide) (fun h25 => ?_) (fun h25 => ?_)
      · have k := Ok_f (ng_lt h25) k
        refine jr_iload_n (pc := 53) F 2 dX5_noon_53 rfl rfl ?_
        exact hJ22 (s10.1, z24.2) (Ok_some k) r15
      have k := Ok_t h25 k
      refine jr_iload_n (pc := 49) F 3 dX5_noon_49 rfl rfl ?_
      refine jr_goto (pc := 50) (tgt := 54) F dX5_noon_50 (by decide) ?_
      exact hJ22 (s10.2.1, z24.2) (Ok_some k) r16
    refine jr_istore_n (pc := 54) F [(2, iv z20.1), (0, .ref (xad X (4, 0, 0))), (1, iv v_t), (3, iv s10.2.1)] dX5_noon_54 rfl (by decide) rfl ?_
    refine jr_iinc (pc := 55) F [(3, iv (w32 (s10.2.1 + 1))), (2, iv z20.1), (0, .ref (xad X (4, 0, 0))), (1, iv v_t)] 3 dX5_noon_55 rfl (by decide) rfl ?_
    refine jr_goto (pc := 58) (tgt := 28) F dX5_noon_58 (by decide) ?_
    refine jr_sub F [2, 3, 1, 0] [(0, .ref (xad X (4, 0, 0))), (1, iv v_t), (2, iv z20.1), (3, iv (w32 (s10.2.1 + 1)))] rfl ?_
    exact hC12 (z20.1, w32 (s10.2.1 + 1), z20.2) (Ok_some k) r26 (rg_w _)
  intro r27 r28
  refine jr_iload_n (pc := 61) F 2 dX5_noon_61 rfl rfl ?_
  exact jr_iret (pc := 62) F hQ rfl dX5_noon_62 ⟨_, _, rfl, r27, rfl, (Ok_some k)⟩
set_option maxHeartbeats 4000000 in
set_option maxRecDepth 100000 in
theorem snd_X5_noons {L0 : LT} {v_t : Int} {v_part : Int} {g0 : GG} (rgp_t : Rg v_t) (rgp_part : Rg v_part) {Q : (Int × LT) → Prop} (k : Ok (X5_noons L0 v_t v_part) Q) : MetG SL yX5_noons cX5_noons 8 (some .long) 5 (fun ad => [.ref (ad (4, 0, 0)), iv v_t, iv v_part]) (gs g0 4 0 L0) (fun v g' => ∃ (x : Int) (L' : LT), v = some (lgv x) ∧ Rl x ∧ g' = gs g0 4 0 L' ∧ Q (x, L')) := by
  refine met_intro SL_ok (by decide +kernel) (fun ad => Nat.le_of_ble_eq_true rfl) (fun X F hQ hR => ?_)
  replace F : FX X cX5_noons RX5 8 (some .long) SL 5 := F
  show J X 0 [(0, .ref (xad X (4, 0, 0))), (1, iv v_t), (2, iv v_part)] [] (gs g0 4 0 L0)
  refine jr_aload_n (pc := 0) F 0 dX5_noons_0 rfl rfl ?_
  refine jr_iconst (pc := 1) F dX5_noons_1 ?_
  obtain ⟨L1, e2, k⟩ := Ok_let k
  refine jr_putI (pc := 2) F (gs g0 4 0 L1) fw_5_92 m4_0 rfl (show Rg 0 from ⟨by decide, by decide⟩) (put1 e2) dX5_noons_2 ?_
  refine jifP (P := fun v => Rg v → J X 23 [(0, .ref (xad X (4, 0, 0))), (1, iv v_t), (2, iv v_part)] (iv v :: []) (gs g0 4 0 L1)) (c := ¬ (X5_isTrain_v L1 v_t) = 0) (X5_wrongBit_v 0 v_part 1) ((-1)) (fun Ht Hf => ?_) (fun r6 => ?_)
  · refine jr_aload_n (pc := 5) F 0 dX5_noons_5 rfl rfl ?_
    refine jr_iload_n (pc := 6) F 1 dX5_noons_6 rfl rfl ?_
    refine jr_callV (pc := 7) (st := []) F [iv v_t] (snd_X5_isTrain  (g0 := g0) rgp_t (X5_isTrain_ok _ _ )) rfl ck_5_192 rfl m4_0 rfl rfl rfl (by decide) (Nat.le_of_ble_eq_true rfl) dX5_noons_7 rfl (fun v g' hq => ?_)
    obtain ⟨x, rfl, r3, eg, hx⟩ := hq
    subst hx
    refine J_eq eg ?_
    show J X 10 [(0, .ref (xad X (4, 0, 0))), (1, iv v_t), (2, iv v_part)] [iv (X5_isTrain_v L1 v_t)] (gs g0 4 0 L1)
    refine jr_if_eq (pc := 10) (tgt := 22) F (rg_z r3) dX5_noons_10 (by decide) (fun h4 => ?_) (fun h4 => ?_)
    · refine jr_iconst (pc := 22) F dX5_noons_22 ?_
      exact Hf (fun q => q h4) (show Rg (-1) from ⟨by decide, by decide⟩)
    refine jr_iconst (pc := 13) F dX5_noons_13 ?_
    refine jr_iload_n (pc := 14) F 2 dX5_noons_14 rfl rfl ?_
    refine jr_iconst (pc := 15) F dX5_noons_15 ?_
    refine jr_callS (pc := 16) (st := []) F [iv 0, iv v_part, iv 1] (snd_X5_wrongBit (g0 := gs g0 4 0 L1) (show Rg 0 from ⟨by decide, by decide⟩) rgp_part (show Rg 1 from ⟨by decide, by decide⟩) (X5_wrongBit_ok _ _ _ )) rfl ck_5_246 rfl rfl (by decide) (Nat.le_of_ble_eq_true rfl) dX5_noons_16 rfl (fun v g' hq => ?_)
    obtain ⟨x, rfl, r5, eg, hx⟩ := hq
    subst hx
    refine J_eq eg ?_
    show J X 19 [(0, .ref (xad X (4, 0, 0))), (1, iv v_t), (2, iv v_part)] [iv (X5_wrongBit_v 0 v_part 1)] (gs g0 4 0 L1)
    refine jr_goto (pc := 19) (tgt := 23) F dX5_noons_19 (by decide) ?_
    exact Ht h4 r5
  obtain ⟨x7, e8, k⟩ := Ok_let k
  have r9 : Rg x7 := rg_of e8 r6
  refine jr_top e8 ?_
  refine jr_istore_n (pc := 23) F [(3, iv x7), (0, .ref (xad X (4, 0, 0))), (1, iv v_t), (2, iv v_part)] dX5_noons_23 rfl (by decide) rfl ?_
  refine jr_iload_n (pc := 24) F 0 dX5_noons_24 rfl rfl ?_
  refine jr_if_ge (pc := 25) (tgt := 39) F r9 dX5_noons_25 (by decide) (fun h10 => ?_) (fun h10 => ?_)
  · have k := Ok_f (ng_lt h10) k
    refine jr_lconst (pc := 39) (v := 0) F dX5_noons_39 (by decide) ?_
    refine jr_lstore (pc := 40) F [(4, lgv 0), (3, iv x7), (0, .ref (xad X (4, 0, 0))), (1, iv v_t), (2, iv v_part)] dX5_noons_40 (by decide) rfl ?_
    refine jr_aload_n (pc := 42) F 2 dX5_noons_42 rfl rfl ?_
    have k := Ok_bind k
    refine jr_callV (pc := 43) (st := []) F [] (snd_X5_open  (g0 := g0)  k) rfl ck_5_203 rfl m4_0 rfl rfl rfl (by decide) (Nat.le_of_ble_eq_true rfl) dX5_noons_43 rfl (fun v g' hq => ?_)
    obtain ⟨z12, rfl, eg, k⟩ := hq
    refine J_eq eg ?_
    show J X 46 [(4, lgv 0), (3, iv x7), (0, .ref (xad X (4, 0, 0))), (1, iv v_t), (2, iv v_part)] [] (gs g0 4 0 z12)
    refine jr_iconst (pc := 46) F dX5_noons_46 ?_
    refine jr_istore (pc := 47) F [(6, iv 0), (4, lgv 0), (3, iv x7), (0, .ref (xad X (4, 0, 0))), (1, iv v_t), (2, iv v_part)] dX5_noons_47 (by decide) rfl ?_
    refine jr_sub F [3, 4, 5, 2, 1, 0] [(0, .ref (xad X (4, 0, 0))), (1, iv v_t), (2, iv v_part), (3, iv x7), (4, lgv 0), (6, iv 0)] rfl ?_
    refine lpj (P := fun s : Int × Int × LT => Rl (s.1) → Rg (s.2.1) → J X 49 [(0, .ref (xad X (4, 0, 0))), (1, iv v_t), (2, iv v_part), (3, iv x7), (4, lgv s.1), (6, iv s.2.1)] [] (gs g0 4 0 s.2.2)) (PE := fun r : Int × Int × LT => Rl (r.1) → Rg (r.2.1) → J X 88 [(0, .ref (xad X (4, 0, 0))), (1, iv v_t), (2, iv v_part), (3, iv x7), (4, lgv r.1), (6, iv r.2.1)] [] (gs g0 4 0 r.2.2)) k (fun s13 Q14 k hC15 hE16 r18 r19 => ?_) (fun z17 k => ?_) (fun h => h (show Rl 0 from ⟨by decide, by decide⟩) (show Rg 0 from ⟨by decide, by decide⟩))
    · refine jr_iload (pc := 49) F 5 dX5_noons_49 rfl ?_
      refine jr_bipush (pc := 51) F dX5_noons_51 (by decide) ?_
      refine jr_icmp_ge (pc := 53) (tgt := 88) F r19 (show Rg 10 from ⟨by decide, by decide⟩) dX5_noons_53 (by decide) (fun h20 => ?_) (fun h20 => ?_)
      · have k := Ok_f (ng_lt h20) k
        exact hE16 (s13.1, s13.2.1, s13.2.2) (Ok_some k) r18 r19
      have k := Ok_t h20 k
      refine jr_aload_n (pc := 56) F 0 dX5_noons_56 rfl rfl ?_
      refine jr_iload (pc := 57) F 5 dX5_noons_57 rfl ?_
      obtain ⟨L21, e22, k⟩ := Ok_let k
      refine jr_putI (pc := 59) F (gs g0 4 0 L21) fw_5_26 m4_0 rfl r19 (put1 e22) dX5_noons_59 ?_
      refine jr_lload (pc := 62) F 4 dX5_noons_62 rfl ?_
      refine jn (P := fun v : Int × LT => Rl (v.1) → J X 79 [(0, .ref (xad X (4, 0, 0))), (1, iv v_t), (2, iv v_part), (3, iv x7), (4, lgv s13.1), (6, iv s13.2.1)] (lgv (v.1) :: [lgv s13.1]) (gs g0 4 0 v.2)) k (fun Q24 k hJ25 => ?_) (fun z23 k r29 => ?_)
      · refine jr_aload_n (pc := 64) F 0 dX5_noons_64 rfl rfl ?_
        refine jr_iload_n (pc := 65) F 1 dX5_noons_65 rfl rfl ?_
        have k := Ok_bind k
        refine jr_callV (pc := 66) (st := [lgv s13.1]) F [iv v_t] (snd_X5_throughIn  (g0 := g0) rgp_t k) rfl ck_5_252 rfl m4_0 rfl rfl rfl (by decide) (Nat.le_of_ble_eq_true rfl) dX5_noons_66 rfl (fun v g' hq => ?_)
        obtain ⟨x, L', rfl, r26, eg, k⟩ := hq
        obtain ⟨z27, ez⟩ : ∃ z : Int × LT, z = (x, L') := ⟨_, rfl⟩
        obtain ⟨rfl, rfl⟩ : x = z27.1 ∧ L' = z27.2 := ⟨by rw [ez], by rw [ez]⟩
        clear ez
        refine J_eq eg ?_
        show J X 69 [(0, .ref (xad X (4, 0, 0))), (1, iv v_t), (2, iv v_part), (3, iv x7), (4, lgv s13.1), (6, iv s13.2.1)] [iv z27.1, lgv s13.1] (gs g0 4 0 z27.2)
        refine jr_bipush (pc := 69) F dX5_noons_69 (by decide) ?_
        refine jr_icmp_ge (pc := 71) (tgt := 78) F r26 (show Rg 99 from ⟨by decide, by decide⟩) dX5_noons_71 (by decide) (fun h28 => ?_) (fun h28 => ?_)
        · have k := Ok_f (ng_lt h28) k
          refine jr_lconst (pc := 78) (v := 0) F dX5_noons_78 (by decide) ?_
          exact hJ25 (0, z27.2) (Ok_some k) (show Rl 0 from ⟨by decide, by decide⟩)
        have k := Ok_t h28 k
        refine jr_lconst (pc := 74) (v := 1) F dX5_noons_74 (by decide) ?_
        refine jr_goto (pc := 75) (tgt := 79) F dX5_noons_75 (by decide) ?_
        exact hJ25 (1, z27.2) (Ok_some k) (show Rl 1 from ⟨by decide, by decide⟩)
      refine jr_ladd (pc := 79) F dX5_noons_79 ?_
      obtain ⟨x30, e31, k⟩ := Ok_let k
      have r32 : Rl x30 := rl_of e31 (rl_w _)
      refine jr_topl e31 ?_
      refine jr_lstore (pc := 80) F [(4, lgv x30), (0, .ref (xad X (4, 0, 0))), (1, iv v_t), (2, iv v_part), (3, iv x7), (6, iv s13.2.1)] dX5_noons_80 (by decide) rfl ?_
      refine jr_iinc (pc := 82) F [(6, iv (w32 (s13.2.1 + 1))), (4, lgv x30), (0, .ref (xad X (4, 0, 0))), (1, iv v_t), (2, iv v_part), (3, iv x7)] 5 dX5_noons_82 rfl (by decide) rfl ?_
      refine jr_goto (pc := 85) (tgt := 49) F dX5_noons_85 (by decide) ?_
      refine jr_sub F [2, 3, 4, 5, 1, 0] [(0, .ref (xad X (4, 0, 0))), (1, iv v_t), (2, iv v_part), (3, iv x7), (4, lgv x30), (6, iv (w32 (s13.2.1 + 1)))] rfl ?_
      exact hC15 (x30, w32 (s13.2.1 + 1), z23.2) (Ok_some k) r32 (rg_w _)
    intro r33 r34
    refine jr_lload (pc := 88) F 4 dX5_noons_88 rfl ?_
    refine jr_lconst (pc := 90) (v := 0) F dX5_noons_90 (by decide) ?_
    refine jr_lcmp_ne (pc := 91) (tgt := 98) F r33 (show Rl 0 from ⟨by decide, by decide⟩) dX5_noons_91 dX5_noons_92 (by decide) (fun h35 => ?_) (fun h35 => ?_)
    · have k := Ok_f h35 k
      refine jr_lload (pc := 98) F 4 dX5_noons_98 rfl ?_
      refine jr_ldc2 (pc := 100) F kc_5_290 dX5_noons_100 ?_
      have k := Ok_bind k
      refine jr_callS (pc := 103) (st := []) F [lgv z17.1, lgv 10] (snd_X5_divisor (g0 := gs g0 4 0 z17.2.2) r33 (show Rl 10 from ⟨by decide, by decide⟩) k) rfl ck_5_292 rfl rfl (by decide) (Nat.le_of_ble_eq_true rfl) dX5_noons_103 rfl (fun v g' hq => ?_)
      obtain ⟨z37, rfl, r36, eg, k⟩ := hq
      refine J_eq eg ?_
      show J X 106 [(0, .ref (xad X (4, 0, 0))), (1, iv v_t), (2, iv v_part), (3, iv x7), (4, lgv z17.1), (6, iv z17.2.1)] [lgv z37] (gs g0 4 0 z17.2.2)
      refine jr_lstore (pc := 106) F [(6, lgv z37), (0, .ref (xad X (4, 0, 0))), (1, iv v_t), (2, iv v_part), (3, iv x7), (4, lgv z17.1)] dX5_noons_106 (by decide) rfl ?_
      obtain ⟨c38, k⟩ := Ok_grd k
      obtain ⟨c39, k⟩ := Ok_grd k
      refine jifP (P := fun v => Rl v → J X 126 [(6, lgv z37), (0, .ref (xad X (4, 0, 0))), (1, iv v_t), (2, iv v_part), (3, iv x7), (4, lgv z17.1)] (lgv v :: []) (gs g0 4 0 z17.2.2)) (c := v_part = 0) (ldvi z17.1 z37) (ldvi 10 z37) (fun Ht Hf => ?_) (fun r41 => ?_)
      · refine jr_iload_n (pc := 108) F 3 dX5_noons_108 rfl rfl ?_
        refine jr_if_ne (pc := 109) (tgt := 120) F rgp_part dX5_noons_109 (by decide) (fun h40 => ?_) (fun h40 => ?_)
        · refine jr_ldc2 (pc := 120) F kc_5_290 dX5_noons_120 ?_
          refine jr_lload (pc := 123) F 0 dX5_noons_123 rfl ?_
          refine jr_ldiv (pc := 125) F (show Rl 10 from ⟨by decide, by decide⟩) r36 (c39 h40) dX5_noons_125 ?_
          exact Hf h40 (rl_div _ _)
        refine jr_lload (pc := 112) F 5 dX5_noons_112 rfl ?_
        refine jr_lload (pc := 114) F 0 dX5_noons_114 rfl ?_
        refine jr_ldiv (pc := 116) F r33 r36 (c38 h40) dX5_noons_116 ?_
        refine jr_goto (pc := 117) (tgt := 126) F dX5_noons_117 (by decide) ?_
        exact Ht h40 (rl_div _ _)
      exact jr_lret (pc := 126) F hQ rfl dX5_noons_126 ⟨_, _, rfl, r41, rfl, (Ok_some k)⟩
    have k := Ok_t h35 k
    refine jr_iload_n (pc := 95) F 2 dX5_noons_95 rfl rfl ?_
    refine jr_i2l (pc := 96) F rgp_part dX5_noons_96 ?_
    exact jr_lret (pc := 97) F hQ rfl dX5_noons_97 ⟨_, _, rfl, (rl_rg rgp_part), rfl, (Ok_some k)⟩
  have k := Ok_t h10 k
  refine jr_ldc2 (pc := 28) F kc_5_288 dX5_noons_28 ?_
  refine jr_aload_n (pc := 31) F 1 dX5_noons_31 rfl rfl ?_
  refine jr_iload_n (pc := 32) F 0 dX5_noons_32 rfl rfl ?_
  have k := Ok_bind k
  refine jr_callV (pc := 33) (st := [lgv 4000000000000000000]) F [iv x7] (snd_X5_refuse  (g0 := g0) r9 k) rfl ck_5_139 rfl m4_0 rfl rfl rfl (by decide) (Nat.le_of_ble_eq_true rfl) dX5_noons_33 rfl (fun v g' hq => ?_)
  obtain ⟨x, L', rfl, r42, eg, k⟩ := hq
  obtain ⟨z43, ez⟩ : ∃ z : Int × LT, z = (x, L') := ⟨_, rfl⟩
  obtain ⟨rfl, rfl⟩ : x = z43.1 ∧ L' = z43.2 := ⟨by rw [ez], by rw [ez]⟩
  clear ez
  refine J_eq eg ?_
  show J X 36 [(3, iv x7), (0, .ref (xad X (4, 0, 0))), (1, iv v_t), (2, iv v_part)] [iv z43.1, lgv 4000000000000000000] (gs g0 4 0 z43.2)
  refine jr_i2l (pc := 36) F r42 dX5_noons_36 ?_
  refine jr_lsub (pc := 37) F dX5_noons_37 ?_
  exact jr_lret (pc := 38) F hQ rfl dX5_noons_38 ⟨_, _, rfl, (rl_w _), rfl, (Ok_some k)⟩
set_option maxHeartbeats 4000000 in
set_option maxRecDepth 100000 in
theorem snd_X5_onesOf {v_bits : Int} {g0 : GG} (rgp_bits : Rg v_bits) {Q : (Int) → Prop} (k : Ok (X5_onesOf v_bits) Q) : MetG SL yX5_onesOf cX5_onesOf 3 (some .int) 0 (fun ad => [iv v_bits]) (g0) (fun v g' => ∃ x : Int, v = some (iv x) ∧ Rg x ∧ g' = g0 ∧ Q x) := by
  refine met_intro SL_ok (by decide +kernel) (fun ad => Nat.le_of_ble_eq_true rfl) (fun X F hQ hR => ?_)
  replace F : FX X cX5_onesOf RX5 3 (some .int) SL 0 := F
  show J X 0 [(0, iv v_bits)] [] (g0)
  refine jr_iconst (pc := 0) F dX5_onesOf_0 ?_
  refine jr_istore_n (pc := 1) F [(1, iv 0), (0, iv v_bits)] dX5_onesOf_1 rfl (by decide) rfl ?_
  refine jr_iload_n (pc := 2) F 1 dX5_onesOf_2 rfl rfl ?_
  refine jr_istore_n (pc := 3) F [(2, iv v_bits), (1, iv 0), (0, iv v_bits)] dX5_onesOf_3 rfl (by decide) rfl ?_
  refine jr_sub F [2, 1, 0] [(0, iv v_bits), (1, iv 0), (2, iv v_bits)] rfl ?_
  refine lpj (P := fun s : Int × Int => Rg (s.1) → Rg (s.2) → J X 4 [(0, iv v_bits), (1, iv s.1), (2, iv s.2)] [] (g0)) (PE := fun r : Int × Int => Rg (r.1) → Rg (r.2) → J X 20 [(0, iv v_bits), (1, iv r.1), (2, iv r.2)] [] (g0)) k (fun s1 Q2 k hC3 hE4 r6 r7 => ?_) (fun z5 k => ?_) (fun h => h (show Rg 0 from ⟨by decide, by decide⟩) rgp_bits)
  · refine jr_iload_n (pc := 4) F 2 dX5_onesOf_4 rfl rfl ?_
    refine jr_if_eq (pc := 5) (tgt := 20) F r7 dX5_onesOf_5 (by decide) (fun h8 => ?_) (fun h8 => ?_)
    · have k := Ok_f (fun q => q h8) k
      exact hE4 (s1.1, s1.2) (Ok_some k) r6 r7
    have k := Ok_t h8 k
    refine jr_iinc (pc := 8) F [(1, iv (w32 (s1.1 + 1))), (0, iv v_bits), (2, iv s1.2)] 1 dX5_onesOf_8 rfl (by decide) rfl ?_
    refine jr_iload_n (pc := 11) F 2 dX5_onesOf_11 rfl rfl ?_
    refine jr_iload_n (pc := 12) F 2 dX5_onesOf_12 rfl rfl ?_
    refine jr_iconst (pc := 13) F dX5_onesOf_13 ?_
    refine jr_isub (pc := 14) F dX5_onesOf_14 ?_
    refine jr_iand (pc := 15) F dX5_onesOf_15 ?_
    obtain ⟨x9, e10, k⟩ := Ok_let k
    have r11 : Rg x9 := rg_of e10 (rg_and _ _)
    refine jr_top e10 ?_
    refine jr_istore_n (pc := 16) F [(2, iv x9), (1, iv (w32 (s1.1 + 1))), (0, iv v_bits)] dX5_onesOf_16 rfl (by decide) rfl ?_
    refine jr_goto (pc := 17) (tgt := 4) F dX5_onesOf_17 (by decide) ?_
    refine jr_sub F [2, 1, 0] [(0, iv v_bits), (1, iv (w32 (s1.1 + 1))), (2, iv x9)] rfl ?_
    exact hC3 (w32 (s1.1 + 1), x9) (Ok_some k) (rg_w _) r11
  intro r12 r13
  refine jr_iload_n (pc := 20) F 1 dX5_onesOf_20 rfl rfl ?_
  exact jr_iret (pc := 21) F hQ rfl dX5_onesOf_21 ⟨_, rfl, r12, rfl, (Ok_some k)⟩
set_option maxHeartbeats 4000000 in
set_option maxRecDepth 100000 in
theorem snd_X5_order {L0 : LT} {v_what : Int} {g0 : GG} (rgp_what : Rg v_what) {Q : (Int × LT) → Prop} (k : Ok (X5_order L0 v_what) Q) : MetG SL yX5_order cX5_order 11 (some .int) 6 (fun ad => [.ref (ad (4, 0, 0)), iv v_what]) (gs g0 4 0 L0) (fun v g' => ∃ (x : Int) (L' : LT), v = some (iv x) ∧ Rg x ∧ g' = gs g0 4 0 L' ∧ Q (x, L')) := by
  refine met_intro SL_ok (by decide +kernel) (fun ad => Nat.le_of_ble_eq_true rfl) (fun X F hQ hR => ?_)
  replace F : FX X cX5_order RX5 11 (some .int) SL 6 := F
  show J X 0 [(0, .ref (xad X (4, 0, 0))), (1, iv v_what)] [] (gs g0 4 0 L0)
  refine jr_aload_n (pc := 0) F 0 dX5_order_0 rfl rfl ?_
  refine jr_iconst (pc := 1) F dX5_order_1 ?_
  obtain ⟨L1, e2, k⟩ := Ok_let k
  refine jr_putI (pc := 2) F (gs g0 4 0 L1) fw_5_92 m4_0 rfl (show Rg 0 from ⟨by decide, by decide⟩) (put1 e2) dX5_order_2 ?_
  refine jr_iconst (pc := 5) F dX5_order_5 ?_
  refine jr_istore_n (pc := 6) F [(2, iv 0), (0, .ref (xad X (4, 0, 0))), (1, iv v_what)] dX5_order_6 rfl (by decide) rfl ?_
  refine jr_iconst (pc := 7) F dX5_order_7 ?_
  refine jr_istore_n (pc := 8) F [(3, iv 0), (2, iv 0), (0, .ref (xad X (4, 0, 0))), (1, iv v_what)] dX5_order_8 rfl (by decide) rfl ?_
  refine jr_sub F [2, 3, 1, 0] [(0, .ref (xad X (4, 0, 0))), (1, iv v_what), (2, iv 0), (3, iv 0)] rfl ?_
  refine lpj (P := fun s : Int × Int × LT => Rg (s.1) → Rg (s.2.1) → J X 9 [(0, .ref (xad X (4, 0, 0))), (1, iv v_what), (2, iv s.1), (3, iv s.2.1)] [] (gs g0 4 0 s.2.2)) (PE := fun r : Int × Int × LT => Rg (r.1) → Rg (r.2.1) → J X 51 [(0, .ref (xad X (4, 0, 0))), (1, iv v_what), (2, iv r.1), (3, iv r.2.1)] [] (gs g0 4 0 r.2.2)) k (fun s3 Q4 k hC5 hE6 r8 r9 => ?_) (fun z7 k => ?_) (fun h => h (show Rg 0 from ⟨by decide, by decide⟩) (show Rg 0 from ⟨by decide, by decide⟩))
  · refine jr_iload_n (pc := 9) F 3 dX5_order_9 rfl rfl ?_
    refine jr_aload_n (pc := 10) F 0 dX5_order_10 rfl rfl ?_
    refine jr_getI (pc := 11) F (s3.2.2 0 7) f_5_99 m4_0 rfl (gs_at' _ _ _ _ _ _) dX5_order_11 (fun r10 => ?_)
    refine jr_icmp_ge (pc := 14) (tgt := 51) F r9 r10 dX5_order_14 (by decide) (fun h11 => ?_) (fun h11 => ?_)
    · have k := Ok_f (ng_lt h11) k
      exact hE6 (s3.1, s3.2.1, s3.2.2) (Ok_some k) r8 r9
    have k := Ok_t h11 k
    obtain ⟨c12, k⟩ := Ok_grd k
    refine cnd (c := ((s3.2.2 14 s3.2.1) = 0) ∧ ((s3.2.2 12 s3.2.1) < 0)) (GT := J X 35 [(0, .ref (xad X (4, 0, 0))), (1, iv v_what), (2, iv s3.1), (3, iv s3.2.1)] [] (gs g0 4 0 s3.2.2)) (GF := J X 45 [(0, .ref (xad X (4, 0, 0))), (1, iv v_what), (2, iv s3.1), (3, iv s3.2.1)] [] (gs g0 4 0 s3.2.2)) k (fun HT HF => ?_) (fun h17 k => ?_) (fun h17 k => ?_)
    · refine jr_aload_n (pc := 17) F 0 dX5_order_17 rfl rfl ?_
      refine jr_getR (pc := 18) (b := (4, 0, 14)) F f_5_44 m4_0 rfl dX5_order_18 ?_
      refine jr_iload_n (pc := 21) F 3 dX5_order_21 rfl rfl ?_
      refine jr_iald (pc := 22) F (s3.2.2 14 s3.2.1) m4_14 (by decide) c12 (gs_at' _ _ _ _ _ _) dX5_order_22 (fun r13 => ?_)
      refine jr_if_ne (pc := 23) (tgt := 45) F r13 dX5_order_23 (by decide) (fun h14 => ?_) (fun h14 => ?_)
      · exact HF (fun q => h14 q.1)
      refine jr_aload_n (pc := 26) F 0 dX5_order_26 rfl rfl ?_
      refine jr_getR (pc := 27) (b := (4, 0, 12)) F f_5_38 m4_0 rfl dX5_order_27 ?_
      refine jr_iload_n (pc := 30) F 3 dX5_order_30 rfl rfl ?_
      refine jr_iald (pc := 31) F (s3.2.2 12 s3.2.1) m4_12 (by decide) c12 (gs_at' _ _ _ _ _ _) dX5_order_31 (fun r15 => ?_)
      refine jr_if_ge (pc := 32) (tgt := 45) F r15 dX5_order_32 (by decide) (fun h16 => ?_) (fun h16 => ?_)
      · exact HF (fun q => (ng_lt h16) q.2)
      exact HT ⟨h14, h16⟩
    · refine jr_aload_n (pc := 35) F 0 dX5_order_35 rfl rfl ?_
      refine jr_getR (pc := 36) (b := (4, 0, 36)) F f_5_80 m4_0 rfl dX5_order_36 ?_
      refine jr_iload_n (pc := 39) F 2 dX5_order_39 rfl rfl ?_
      refine jr_iload_n (pc := 40) F 3 dX5_order_40 rfl rfl ?_
      obtain ⟨c18, k⟩ := Ok_grd k
      obtain ⟨L19, e20, k⟩ := Ok_let k
      refine jr_iast (pc := 41) F (gs g0 4 0 L19) m4_36 (by decide) c18 r9 (put1 e20) dX5_order_41 ?_
      refine jr_iinc (pc := 42) F [(2, iv (w32 (s3.1 + 1))), (0, .ref (xad X (4, 0, 0))), (1, iv v_what), (3, iv s3.2.1)] 2 dX5_order_42 rfl (by decide) rfl ?_
      refine jr_iinc (pc := 45) F [(3, iv (w32 (s3.2.1 + 1))), (2, iv (w32 (s3.1 + 1))), (0, .ref (xad X (4, 0, 0))), (1, iv v_what)] 3 dX5_order_45 rfl (by decide) rfl ?_
      refine jr_goto (pc := 48) (tgt := 9) F dX5_order_48 (by decide) ?_
      refine jr_sub F [2, 3, 1, 0] [(0, .ref (xad X (4, 0, 0))), (1, iv v_what), (2, iv (w32 (s3.1 + 1))), (3, iv (w32 (s3.2.1 + 1)))] rfl ?_
      exact hC5 (w32 (s3.1 + 1), w32 (s3.2.1 + 1), L19) (Ok_some k) (rg_w _) (rg_w _)
    refine jr_iinc (pc := 45) F [(3, iv (w32 (s3.2.1 + 1))), (0, .ref (xad X (4, 0, 0))), (1, iv v_what), (2, iv s3.1)] 3 dX5_order_45 rfl (by decide) rfl ?_
    refine jr_goto (pc := 48) (tgt := 9) F dX5_order_48 (by decide) ?_
    refine jr_sub F [1, 2, 3, 0] [(0, .ref (xad X (4, 0, 0))), (1, iv v_what), (2, iv s3.1), (3, iv (w32 (s3.2.1 + 1)))] rfl ?_
    exact hC5 (s3.1, w32 (s3.2.1 + 1), s3.2.2) (Ok_some k) r8 (rg_w _)
  intro r21 r22
  refine jifP (P := fun v => Rg v → J X 77 [(0, .ref (xad X (4, 0, 0))), (1, iv v_what), (2, iv z7.1), (3, iv z7.2.1)] (iv v :: []) (gs g0 4 0 z7.2.2)) (c := (X5_in_v v_what 0 1) = 0) ((-2)) (if 4 < z7.1 then (-3) else 0) (fun Ht Hf => ?_) (fun r27 => ?_)
  · refine jr_iload_n (pc := 51) F 1 dX5_order_51 rfl rfl ?_
    refine jr_i2l (pc := 52) F rgp_what dX5_order_52 ?_
    refine jr_lconst (pc := 53) (v := 0) F dX5_order_53 (by decide) ?_
    refine jr_lconst (pc := 54) (v := 1) F dX5_order_54 (by decide) ?_
    refine jr_callS (pc := 55) (st := []) F [lgv v_what, lgv 0, lgv 1] (snd_X5_in (g0 := gs g0 4 0 z7.2.2) (rl_rg rgp_what) (show Rl 0 from ⟨by decide, by decide⟩) (show Rl 1 from ⟨by decide, by decide⟩) (X5_in_ok _ _ _ )) rfl ck_5_95 rfl rfl (by decide) (Nat.le_of_ble_eq_true rfl) dX5_order_55 rfl (fun v g' hq => ?_)
    obtain ⟨x, rfl, r23, eg, hx⟩ := hq
    subst hx
    refine J_eq eg ?_
    show J X 58 [(0, .ref (xad X (4, 0, 0))), (1, iv v_what), (2, iv z7.1), (3, iv z7.2.1)] [iv (X5_in_v v_what 0 1)] (gs g0 4 0 z7.2.2)
    refine jr_if_ne (pc := 58) (tgt := 66) F (rg_z r23) dX5_order_58 (by decide) (fun h24 => ?_) (fun h24 => ?_)
    · refine jifP (P := fun v => Rg v → J X 77 [(0, .ref (xad X (4, 0, 0))), (1, iv v_what), (2, iv z7.1), (3, iv z7.2.1)] (iv v :: []) (gs g0 4 0 z7.2.2)) (c := 4 < z7.1) ((-3)) (0) (fun Ht Hf => ?_) (fun r26 => ?_)
      · refine jr_iload_n (pc := 66) F 2 dX5_order_66 rfl rfl ?_
        refine jr_iconst (pc := 67) F dX5_order_67 ?_
        refine jr_icmp_le (pc := 68) (tgt := 76) F r21 (show Rg 4 from ⟨by decide, by decide⟩) dX5_order_68 (by decide) (fun h25 => ?_) (fun h25 => ?_)
        · refine jr_iconst (pc := 76) F dX5_order_76 ?_
          exact Hf (ng_lt h25) (show Rg 0 from ⟨by decide, by decide⟩)
        refine jr_bipush (pc := 71) F dX5_order_71 (by decide) ?_
        refine jr_goto (pc := 73) (tgt := 77) F dX5_order_73 (by decide) ?_
        exact Ht h25 (show Rg (-3) from ⟨by decide, by decide⟩)
      exact Hf h24 r26
    refine jr_bipush (pc := 61) F dX5_order_61 (by decide) ?_
    refine jr_goto (pc := 63) (tgt := 77) F dX5_order_63 (by decide) ?_
    exact Ht h24 (show Rg (-2) from ⟨by decide, by decide⟩)
  obtain ⟨x28, e29, k⟩ := Ok_let k
  have r30 : Rg x28 := rg_of e29 r27
  refine jr_top e29 ?_
  refine jr_istore_n (pc := 77) F [(3, iv x28), (0, .ref (xad X (4, 0, 0))), (1, iv v_what), (2, iv z7.1)] dX5_order_77 rfl (by decide) rfl ?_
  refine jr_iload_n (pc := 78) F 0 dX5_order_78 rfl rfl ?_
  refine jr_if_ge (pc := 79) (tgt := 88) F r30 dX5_order_79 (by decide) (fun h31 => ?_) (fun h31 => ?_)
  · have k := Ok_f (ng_lt h31) k
    refine jr_iconst (pc := 88) F dX5_order_88 ?_
    refine jr_istore (pc := 89) F [(4, iv 0), (3, iv x28), (0, .ref (xad X (4, 0, 0))), (1, iv v_what), (2, iv z7.1)] dX5_order_89 (by decide) rfl ?_
    refine jr_sub F [2, 3, 4, 1, 0] [(0, .ref (xad X (4, 0, 0))), (1, iv v_what), (2, iv z7.1), (3, iv x28), (4, iv 0)] rfl ?_
    refine lpj (P := fun s : Int × LT => Rg (s.1) → J X 91 [(0, .ref (xad X (4, 0, 0))), (1, iv v_what), (2, iv z7.1), (3, iv x28), (4, iv s.1)] [] (gs g0 4 0 s.2)) (PE := fun r : Int × LT => Rg (r.1) → J X 193 [(0, .ref (xad X (4, 0, 0))), (1, iv v_what), (2, iv z7.1), (3, iv x28), (4, iv r.1)] [] (gs g0 4 0 r.2)) k (fun s32 Q33 k hC34 hE35 r37 => ?_) (fun z36 k => ?_) (fun h => h (show Rg 0 from ⟨by decide, by decide⟩))
    · refine jr_iload (pc := 91) F 4 dX5_order_91 rfl ?_
      refine jr_iload_n (pc := 93) F 2 dX5_order_93 rfl rfl ?_
      refine jr_icmp_ge (pc := 94) (tgt := 193) F r37 r21 dX5_order_94 (by decide) (fun h38 => ?_) (fun h38 => ?_)
      · have k := Ok_f (ng_lt h38) k
        exact hE35 (s32.1, s32.2) (Ok_some k) r37
      have k := Ok_t h38 k
      refine jr_aload_n (pc := 97) F 0 dX5_order_97 rfl rfl ?_
      refine jr_getR (pc := 98) (b := (4, 0, 37)) F f_5_83 m4_0 rfl dX5_order_98 ?_
      refine jr_iconst (pc := 101) F dX5_order_101 ?_
      refine jr_iload (pc := 102) F 4 dX5_order_102 rfl ?_
      refine jr_imul (pc := 104) F dX5_order_104 ?_
      refine jr_aload_n (pc := 105) F 0 dX5_order_105 rfl rfl ?_
      refine jr_getR (pc := 106) (b := (4, 0, 9)) F f_5_29 m4_0 rfl dX5_order_106 ?_
      refine jr_aload_n (pc := 109) F 0 dX5_order_109 rfl rfl ?_
      refine jr_getR (pc := 110) (b := (4, 0, 36)) F f_5_80 m4_0 rfl dX5_order_110 ?_
      refine jr_iload (pc := 113) F 4 dX5_order_113 rfl ?_
      obtain ⟨c39, k⟩ := Ok_grd k
      refine jr_iald (pc := 115) F (s32.2 36 s32.1) m4_36 (by decide) c39 (gs_at' _ _ _ _ _ _) dX5_order_115 (fun r40 => ?_)
      obtain ⟨c41, k⟩ := Ok_grd k
      refine jr_iald (pc := 116) F (s32.2 9 (s32.2 36 s32.1)) m4_9 (by decide) c41 (gs_at' _ _ _ _ _ _) dX5_order_116 (fun r42 => ?_)
      obtain ⟨c43, k⟩ := Ok_grd k
      obtain ⟨L44, e45, k⟩ := Ok_let k
      refine jr_iast (pc := 117) F (gs g0 4 0 L44) m4_37 (by decide) c43 r42 (put1 e45) dX5_order_117 ?_
      refine jr_aload_n (pc := 118) F 0 dX5_order_118 rfl rfl ?_
      refine jr_getR (pc := 119) (b := (4, 0, 37)) F f_5_83 m4_0 rfl dX5_order_119 ?_
      refine jr_iconst (pc := 122) F dX5_order_122 ?_
      refine jr_iload (pc := 123) F 4 dX5_order_123 rfl ?_
      refine jr_imul (pc := 125) F dX5_order_125 ?_
      refine jr_iconst (pc := 126) F dX5_order_126 ?_
      refine jr_iadd (pc := 127) F dX5_order_127 ?_
      refine jr_aload_n (pc := 128) F 0 dX5_order_128 rfl rfl ?_
      refine jr_getR (pc := 129) (b := (4, 0, 10)) F f_5_32 m4_0 rfl dX5_order_129 ?_
      refine jr_aload_n (pc := 132) F 0 dX5_order_132 rfl rfl ?_
      refine jr_getR (pc := 133) (b := (4, 0, 36)) F f_5_80 m4_0 rfl dX5_order_133 ?_
      refine jr_iload (pc := 136) F 4 dX5_order_136 rfl ?_
      refine jr_iald (pc := 138) F (L44 36 s32.1) m4_36 (by decide) c39 (gs_at' _ _ _ _ _ _) dX5_order_138 (fun r46 => ?_)
      obtain ⟨c47, k⟩ := Ok_grd k
      refine jr_iald (pc := 139) F (L44 10 (L44 36 s32.1)) m4_10 (by decide) c47 (gs_at' _ _ _ _ _ _) dX5_order_139 (fun r48 => ?_)
      obtain ⟨c49, k⟩ := Ok_grd k
      obtain ⟨L50, e51, k⟩ := Ok_let k
      refine jr_iast (pc := 140) F (gs g0 4 0 L50) m4_37 (by decide) c49 r48 (put1 e51) dX5_order_140 ?_
      refine jr_aload_n (pc := 141) F 0 dX5_order_141 rfl rfl ?_
      refine jr_getR (pc := 142) (b := (4, 0, 37)) F f_5_83 m4_0 rfl dX5_order_142 ?_
      refine jr_iconst (pc := 145) F dX5_order_145 ?_
      refine jr_iload (pc := 146) F 4 dX5_order_146 rfl ?_
      refine jr_imul (pc := 148) F dX5_order_148 ?_
      refine jr_iconst (pc := 149) F dX5_order_149 ?_
      refine jr_iadd (pc := 150) F dX5_order_150 ?_
      refine jr_aload_n (pc := 151) F 0 dX5_order_151 rfl rfl ?_
      refine jr_getR (pc := 152) (b := (4, 0, 11)) F f_5_35 m4_0 rfl dX5_order_152 ?_
      refine jr_aload_n (pc := 155) F 0 dX5_order_155 rfl rfl ?_
      refine jr_getR (pc := 156) (b := (4, 0, 36)) F f_5_80 m4_0 rfl dX5_order_156 ?_
      refine jr_iload (pc := 159) F 4 dX5_order_159 rfl ?_
      refine jr_iald (pc := 161) F (L50 36 s32.1) m4_36 (by decide) c39 (gs_at' _ _ _ _ _ _) dX5_order_161 (fun r52 => ?_)
      obtain ⟨c53, k⟩ := Ok_grd k
      refine jr_iald (pc := 162) F (L50 11 (L50 36 s32.1)) m4_11 (by decide) c53 (gs_at' _ _ _ _ _ _) dX5_order_162 (fun r54 => ?_)
      obtain ⟨c55, k⟩ := Ok_grd k
      obtain ⟨L56, e57, k⟩ := Ok_let k
      refine jr_iast (pc := 163) F (gs g0 4 0 L56) m4_37 (by decide) c55 r54 (put1 e57) dX5_order_163 ?_
      refine jr_aload_n (pc := 164) F 0 dX5_order_164 rfl rfl ?_
      refine jr_getR (pc := 165) (b := (4, 0, 37)) F f_5_83 m4_0 rfl dX5_order_165 ?_
      refine jr_iconst (pc := 168) F dX5_order_168 ?_
      refine jr_iload (pc := 169) F 4 dX5_order_169 rfl ?_
      refine jr_imul (pc := 171) F dX5_order_171 ?_
      refine jr_iconst (pc := 172) F dX5_order_172 ?_
      refine jr_iadd (pc := 173) F dX5_order_173 ?_
      refine jr_aload_n (pc := 174) F 0 dX5_order_174 rfl rfl ?_
      refine jr_getR (pc := 175) (b := (4, 0, 13)) F f_5_41 m4_0 rfl dX5_order_175 ?_
      refine jr_aload_n (pc := 178) F 0 dX5_order_178 rfl rfl ?_
      refine jr_getR (pc := 179) (b := (4, 0, 36)) F f_5_80 m4_0 rfl dX5_order_179 ?_
      refine jr_iload (pc := 182) F 4 dX5_order_182 rfl ?_
      refine jr_iald (pc := 184) F (L56 36 s32.1) m4_36 (by decide) c39 (gs_at' _ _ _ _ _ _) dX5_order_184 (fun r58 => ?_)
      obtain ⟨c59, k⟩ := Ok_grd k
      refine jr_iald (pc := 185) F (L56 13 (L56 36 s32.1)) m4_13 (by decide) c59 (gs_at' _ _ _ _ _ _) dX5_order_185 (fun r60 => ?_)
      obtain ⟨c61, k⟩ := Ok_grd k
      obtain ⟨L62, e63, k⟩ := Ok_let k
      refine jr_iast (pc := 186) F (gs g0 4 0 L62) m4_37 (by decide) c61 r60 (put1 e63) dX5_order_186 ?_
      refine jr_iinc (pc := 187) F [(4, iv (w32 (s32.1 + 1))), (0, .ref (xad X (4, 0, 0))), (1, iv v_what), (2, iv z7.1), (3, iv x28)] 4 dX5_order_187 rfl (by decide) rfl ?_
      refine jr_goto (pc := 190) (tgt := 91) F dX5_order_190 (by decide) ?_
      refine jr_sub F [1, 2, 3, 4, 0] [(0, .ref (xad X (4, 0, 0))), (1, iv v_what), (2, iv z7.1), (3, iv x28), (4, iv (w32 (s32.1 + 1)))] rfl ?_
      exact hC34 (w32 (s32.1 + 1), L62) (Ok_some k) (rg_w _)
    intro r64
    refine jr_bipush (pc := 193) F dX5_order_193 (by decide) ?_
    refine jr_istore (pc := 195) F [(4, iv (-9)), (0, .ref (xad X (4, 0, 0))), (1, iv v_what), (2, iv z7.1), (3, iv x28)] dX5_order_195 (by decide) rfl ?_
    refine jr_iconst (pc := 197) F dX5_order_197 ?_
    refine jr_istore (pc := 198) F [(5, iv (-1)), (4, iv (-9)), (0, .ref (xad X (4, 0, 0))), (1, iv v_what), (2, iv z7.1), (3, iv x28)] dX5_order_198 (by decide) rfl ?_
    refine jr_iload_n (pc := 200) F 4 dX5_order_200 rfl rfl ?_
    have k := Ok_bind k
    refine jr_callS (pc := 201) (st := []) F [iv z7.1] (snd_X5_ordersOf (g0 := gs g0 4 0 z36.2) r21 k) rfl ck_5_270 rfl rfl (by decide) (Nat.le_of_ble_eq_true rfl) dX5_order_201 rfl (fun v g' hq => ?_)
    obtain ⟨z66, rfl, r65, eg, k⟩ := hq
    refine J_eq eg ?_
    show J X 204 [(5, iv (-1)), (4, iv (-9)), (0, .ref (xad X (4, 0, 0))), (1, iv v_what), (2, iv z7.1), (3, iv x28)] [iv z66] (gs g0 4 0 z36.2)
    refine jr_istore (pc := 204) F [(6, iv z66), (5, iv (-1)), (4, iv (-9)), (0, .ref (xad X (4, 0, 0))), (1, iv v_what), (2, iv z7.1), (3, iv x28)] dX5_order_204 (by decide) rfl ?_
    refine jr_aload_n (pc := 206) F 3 dX5_order_206 rfl rfl ?_
    have k := Ok_bind k
    refine jr_callV (pc := 207) (st := []) F [] (snd_X5_open  (g0 := g0)  k) rfl ck_5_203 rfl m4_0 rfl rfl rfl (by decide) (Nat.le_of_ble_eq_true rfl) dX5_order_207 rfl (fun v g' hq => ?_)
    obtain ⟨z68, rfl, eg, k⟩ := hq
    refine J_eq eg ?_
    show J X 210 [(6, iv z66), (5, iv (-1)), (4, iv (-9)), (0, .ref (xad X (4, 0, 0))), (1, iv v_what), (2, iv z7.1), (3, iv x28)] [] (gs g0 4 0 z68)
    refine jr_iconst (pc := 210) F dX5_order_210 ?_
    refine jr_istore (pc := 211) F [(7, iv 0), (6, iv z66), (5, iv (-1)), (4, iv (-9)), (0, .ref (xad X (4, 0, 0))), (1, iv v_what), (2, iv z7.1), (3, iv x28)] dX5_order_211 (by decide) rfl ?_
    refine jr_sub F [4, 5, 6, 7, 3, 2, 1, 0] [(0, .ref (xad X (4, 0, 0))), (1, iv v_what), (2, iv z7.1), (3, iv x28), (4, iv (-9)), (5, iv (-1)), (6, iv z66), (7, iv 0)] rfl ?_
    refine lpj (P := fun s : Int × Int × Int × LT => Rg (s.1) → Rg (s.2.1) → Rg (s.2.2.1) → J X 213 [(0, .ref (xad X (4, 0, 0))), (1, iv v_what), (2, iv z7.1), (3, iv x28), (4, iv s.1), (5, iv s.2.1), (6, iv z66), (7, iv s.2.2.1)] [] (gs g0 4 0 s.2.2.2)) (PE := fun r : Int × Int × Int × LT => Rg (r.1) → Rg (r.2.1) → Rg (r.2.2.1) → J X 408 [(0, .ref (xad X (4, 0, 0))), (1, iv v_what), (2, iv z7.1), (3, iv x28), (4, iv r.1), (5, iv r.2.1), (6, iv z66), (7, iv r.2.2.1)] [] (gs g0 4 0 r.2.2.2)) k (fun s69 Q70 k hC71 hE72 r74 r75 r76 => ?_) (fun z73 k => ?_) (fun h => h (show Rg (-9) from ⟨by decide, by decide⟩) (show Rg (-1) from ⟨by decide, by decide⟩) (show Rg 0 from ⟨by decide, by decide⟩))
    · refine jr_iload (pc := 213) F 7 dX5_order_213 rfl ?_
      refine jr_iload (pc := 215) F 6 dX5_order_215 rfl ?_
      refine jr_icmp_ge (pc := 217) (tgt := 408) F r76 r65 dX5_order_217 (by decide) (fun h77 => ?_) (fun h77 => ?_)
      · have k := Ok_f (ng_lt h77) k
        exact hE72 (s69.1, s69.2.1, s69.2.2.1, s69.2.2.2) (Ok_some k) r74 r75 r76
      have k := Ok_t h77 k
      refine jr_aload_n (pc := 220) F 0 dX5_order_220 rfl rfl ?_
      refine jr_iload (pc := 221) F 7 dX5_order_221 rfl ?_
      refine jr_iload_n (pc := 223) F 2 dX5_order_223 rfl rfl ?_
      have k := Ok_bind k
      refine jr_callV (pc := 224) (st := []) F [iv s69.2.2.1, iv z7.1] (snd_X5_layOrder  (g0 := g0) r76 r21 k) rfl ck_5_273 rfl m4_0 rfl rfl rfl (by decide) (Nat.le_of_ble_eq_true rfl) dX5_order_224 rfl (fun v g' hq => ?_)
      obtain ⟨z79, rfl, eg, k⟩ := hq
      refine J_eq eg ?_
      show J X 227 [(0, .ref (xad X (4, 0, 0))), (1, iv v_what), (2, iv z7.1), (3, iv x28), (4, iv s69.1), (5, iv s69.2.1), (6, iv z66), (7, iv s69.2.2.1)] [] (gs g0 4 0 z79)
      refine jr_iconst (pc := 227) F dX5_order_227 ?_
      refine jr_istore (pc := 228) F [(8, iv 0), (0, .ref (xad X (4, 0, 0))), (1, iv v_what), (2, iv z7.1), (3, iv x28), (4, iv s69.1), (5, iv s69.2.1), (6, iv z66), (7, iv s69.2.2.1)] dX5_order_228 (by decide) rfl ?_
      refine jr_iconst (pc := 230) F dX5_order_230 ?_
      refine jr_istore (pc := 231) F [(9, iv 0), (8, iv 0), (0, .ref (xad X (4, 0, 0))), (1, iv v_what), (2, iv z7.1), (3, iv x28), (4, iv s69.1), (5, iv s69.2.1), (6, iv z66), (7, iv s69.2.2.1)] dX5_order_231 (by decide) rfl ?_
      refine jr_sub F [2, 3, 4, 5, 6, 7, 8, 9, 1, 0] [(0, .ref (xad X (4, 0, 0))), (1, iv v_what), (2, iv z7.1), (3, iv x28), (4, iv s69.1), (5, iv s69.2.1), (6, iv z66), (7, iv s69.2.2.1), (8, iv 0), (9, iv 0)] rfl ?_
      refine lpj (P := fun s : Int × Int × LT => Rg (s.1) → Rg (s.2.1) → J X 233 [(0, .ref (xad X (4, 0, 0))), (1, iv v_what), (2, iv z7.1), (3, iv x28), (4, iv s69.1), (5, iv s69.2.1), (6, iv z66), (7, iv s69.2.2.1), (8, iv s.1), (9, iv s.2.1)] [] (gs g0 4 0 s.2.2)) (PE := fun r : Int × Int × LT => Rg (r.1) → Rg (r.2.1) → J X 364 [(0, .ref (xad X (4, 0, 0))), (1, iv v_what), (2, iv z7.1), (3, iv x28), (4, iv s69.1), (5, iv s69.2.1), (6, iv z66), (7, iv s69.2.2.1), (8, iv r.1), (9, iv r.2.1)] [] (gs g0 4 0 r.2.2)) k (fun s80 Q81 k hC82 hE83 r85 r86 => ?_) (fun z84 k => ?_) (fun h => h (show Rg 0 from ⟨by decide, by decide⟩) (show Rg 0 from ⟨by decide, by decide⟩))
      · refine jr_iload (pc := 233) F 9 dX5_order_233 rfl ?_
        refine jr_iload_n (pc := 235) F 2 dX5_order_235 rfl rfl ?_
        refine jr_icmp_ge (pc := 236) (tgt := 364) F r86 r21 dX5_order_236 (by decide) (fun h87 => ?_) (fun h87 => ?_)
        · have k := Ok_f (ng_lt h87) k
          exact hE83 (s80.1, s80.2.1, s80.2.2) (Ok_some k) r85 r86
        have k := Ok_t h87 k
        refine jr_aload_n (pc := 239) F 0 dX5_order_239 rfl rfl ?_
        refine jr_getR (pc := 240) (b := (4, 0, 36)) F f_5_80 m4_0 rfl dX5_order_240 ?_
        refine jr_iload (pc := 243) F 9 dX5_order_243 rfl ?_
        obtain ⟨c88, k⟩ := Ok_grd k
        refine jr_iald (pc := 245) F (s80.2.2 36 s80.2.1) m4_36 (by decide) c88 (gs_at' _ _ _ _ _ _) dX5_order_245 (fun r89 => ?_)
        obtain ⟨x90, e91, k⟩ := Ok_let k
        have r92 : Rg x90 := rg_of e91 r89
        refine jr_top e91 ?_
        refine jr_istore (pc := 246) F [(10, iv x90), (0, .ref (xad X (4, 0, 0))), (1, iv v_what), (2, iv z7.1), (3, iv x28), (4, iv s69.1), (5, iv s69.2.1), (6, iv z66), (7, iv s69.2.2.1), (8, iv s80.1), (9, iv s80.2.1)] dX5_order_246 (by decide) rfl ?_
        refine jr_aload_n (pc := 248) F 1 dX5_order_248 rfl rfl ?_
        refine jr_getR (pc := 249) (b := (4, 0, 9)) F f_5_29 m4_0 rfl dX5_order_249 ?_
        refine jr_iload (pc := 252) F 0 dX5_order_252 rfl ?_
        refine jr_aload_n (pc := 254) F 1 dX5_order_254 rfl rfl ?_
        refine jr_getR (pc := 255) (b := (4, 0, 37)) F f_5_83 m4_0 rfl dX5_order_255 ?_
        refine jr_iconst (pc := 258) F dX5_order_258 ?_
        refine jr_aload_n (pc := 259) F 1 dX5_order_259 rfl rfl ?_
        refine jr_getR (pc := 260) (b := (4, 0, 38)) F f_5_86 m4_0 rfl dX5_order_260 ?_
        refine jr_iload (pc := 263) F 10 dX5_order_263 rfl ?_
        refine jr_iald (pc := 265) F (s80.2.2 38 s80.2.1) m4_38 (by decide) c88 (gs_at' _ _ _ _ _ _) dX5_order_265 (fun r93 => ?_)
        refine jr_imul (pc := 266) F dX5_order_266 ?_
        obtain ⟨c94, k⟩ := Ok_grd k
        refine jr_iald (pc := 267) F (s80.2.2 37 (w32 (4 * (s80.2.2 38 s80.2.1)))) m4_37 (by decide) c94 (gs_at' _ _ _ _ _ _) dX5_order_267 (fun r95 => ?_)
        obtain ⟨c96, k⟩ := Ok_grd k
        obtain ⟨L97, e98, k⟩ := Ok_let k
        refine jr_iast (pc := 268) F (gs g0 4 0 L97) m4_9 (by decide) c96 r95 (put1 e98) dX5_order_268 ?_
        refine jr_aload_n (pc := 269) F 1 dX5_order_269 rfl rfl ?_
        refine jr_getR (pc := 270) (b := (4, 0, 10)) F f_5_32 m4_0 rfl dX5_order_270 ?_
        refine jr_iload (pc := 273) F 0 dX5_order_273 rfl ?_
        refine jr_aload_n (pc := 275) F 1 dX5_order_275 rfl rfl ?_
        refine jr_getR (pc := 276) (b := (4, 0, 37)) F f_5_83 m4_0 rfl dX5_order_276 ?_
        refine jr_iconst (pc := 279) F dX5_order_279 ?_
        refine jr_aload_n (pc := 280) F 1 dX5_order_280 rfl rfl ?_
        refine jr_getR (pc := 281) (b := (4, 0, 38)) F f_5_86 m4_0 rfl dX5_order_281 ?_
        refine jr_iload (pc := 284) F 10 dX5_order_284 rfl ?_
        refine jr_iald (pc := 286) F (L97 38 s80.2.1) m4_38 (by decide) c88 (gs_at' _ _ _ _ _ _) dX5_order_286 (fun r99 => ?_)
        refine jr_imul (pc := 287) F dX5_order_287 ?_
        refine jr_iconst (pc := 288) F dX5_order_288 ?_
        refine jr_iadd (pc := 289) F dX5_order_289 ?_
        obtain ⟨c100, k⟩ := Ok_grd k
        refine jr_iald (pc := 290) F (L97 37 (w32 ((w32 (4 * (L97 38 s80.2.1))) + 1))) m4_37 (by decide) c100 (gs_at' _ _ _ _ _ _) dX5_order_290 (fun r101 => ?_)
        obtain ⟨L102, e103, k⟩ := Ok_let k
        refine jr_iast (pc := 291) F (gs g0 4 0 L102) m4_10 (by decide) c96 r101 (put1 e103) dX5_order_291 ?_
        refine jr_aload_n (pc := 292) F 1 dX5_order_292 rfl rfl ?_
        refine jr_getR (pc := 293) (b := (4, 0, 11)) F f_5_35 m4_0 rfl dX5_order_293 ?_
        refine jr_iload (pc := 296) F 0 dX5_order_296 rfl ?_
        refine jr_aload_n (pc := 298) F 1 dX5_order_298 rfl rfl ?_
        refine jr_getR (pc := 299) (b := (4, 0, 37)) F f_5_83 m4_0 rfl dX5_order_299 ?_
        refine jr_iconst (pc := 302) F dX5_order_302 ?_
        refine jr_aload_n (pc := 303) F 1 dX5_order_303 rfl rfl ?_
        refine jr_getR (pc := 304) (b := (4, 0, 38)) F f_5_86 m4_0 rfl dX5_order_304 ?_
        refine jr_iload (pc := 307) F 10 dX5_order_307 rfl ?_
        refine jr_iald (pc := 309) F (L102 38 s80.2.1) m4_38 (by decide) c88 (gs_at' _ _ _ _ _ _) dX5_order_309 (fun r104 => ?_)
        refine jr_imul (pc := 310) F dX5_order_310 ?_
        refine jr_iconst (pc := 311) F dX5_order_311 ?_
        refine jr_iadd (pc := 312) F dX5_order_312 ?_
        obtain ⟨c105, k⟩ := Ok_grd k
        refine jr_iald (pc := 313) F (L102 37 (w32 ((w32 (4 * (L102 38 s80.2.1))) + 2))) m4_37 (by decide) c105 (gs_at' _ _ _ _ _ _) dX5_order_313 (fun r106 => ?_)
        obtain ⟨L107, e108, k⟩ := Ok_let k
        refine jr_iast (pc := 314) F (gs g0 4 0 L107) m4_11 (by decide) c96 r106 (put1 e108) dX5_order_314 ?_
        refine jr_aload_n (pc := 315) F 1 dX5_order_315 rfl rfl ?_
        refine jr_getR (pc := 316) (b := (4, 0, 13)) F f_5_41 m4_0 rfl dX5_order_316 ?_
        refine jr_iload (pc := 319) F 0 dX5_order_319 rfl ?_
        refine jr_aload_n (pc := 321) F 1 dX5_order_321 rfl rfl ?_
        refine jr_getR (pc := 322) (b := (4, 0, 37)) F f_5_83 m4_0 rfl dX5_order_322 ?_
        refine jr_iconst (pc := 325) F dX5_order_325 ?_
        refine jr_aload_n (pc := 326) F 1 dX5_order_326 rfl rfl ?_
        refine jr_getR (pc := 327) (b := (4, 0, 38)) F f_5_86 m4_0 rfl dX5_order_327 ?_
        refine jr_iload (pc := 330) F 10 dX5_order_330 rfl ?_
        refine jr_iald (pc := 332) F (L107 38 s80.2.1) m4_38 (by decide) c88 (gs_at' _ _ _ _ _ _) dX5_order_332 (fun r109 => ?_)
        refine jr_imul (pc := 333) F dX5_order_333 ?_
        refine jr_iconst (pc := 334) F dX5_order_334 ?_
        refine jr_iadd (pc := 335) F dX5_order_335 ?_
        obtain ⟨c110, k⟩ := Ok_grd k
        refine jr_iald (pc := 336) F (L107 37 (w32 ((w32 (4 * (L107 38 s80.2.1))) + 3))) m4_37 (by decide) c110 (gs_at' _ _ _ _ _ _) dX5_order_336 (fun r111 => ?_)
        obtain ⟨L112, e113, k⟩ := Ok_let k
        refine jr_iast (pc := 337) F (gs g0 4 0 L112) m4_13 (by decide) c96 r111 (put1 e113) dX5_order_337 ?_
        refine jr_bipush (pc := 338) F dX5_order_338 (by decide) ?_
        refine jr_iload (pc := 340) F 9 dX5_order_340 rfl ?_
        refine jr_imul (pc := 342) F dX5_order_342 ?_
        refine jr_aload_n (pc := 343) F 1 dX5_order_343 rfl rfl ?_
        refine jr_getR (pc := 344) (b := (4, 0, 36)) F f_5_80 m4_0 rfl dX5_order_344 ?_
        refine jr_aload_n (pc := 347) F 1 dX5_order_347 rfl rfl ?_
        refine jr_getR (pc := 348) (b := (4, 0, 38)) F f_5_86 m4_0 rfl dX5_order_348 ?_
        refine jr_iload (pc := 351) F 10 dX5_order_351 rfl ?_
        refine jr_iald (pc := 353) F (L112 38 s80.2.1) m4_38 (by decide) c88 (gs_at' _ _ _ _ _ _) dX5_order_353 (fun r114 => ?_)
        obtain ⟨c115, k⟩ := Ok_grd k
        refine jr_iald (pc := 354) F (L112 36 (L112 38 s80.2.1)) m4_36 (by decide) c115 (gs_at' _ _ _ _ _ _) dX5_order_354 (fun r116 => ?_)
        refine jr_iadd (pc := 355) F dX5_order_355 ?_
        obtain ⟨x117, e118, k⟩ := Ok_let k
        have r119 : Rg x117 := rg_of e118 (rg_w _)
        refine jr_top e118 ?_
        refine jr_istore (pc := 356) F [(8, iv x117), (10, iv x90), (0, .ref (xad X (4, 0, 0))), (1, iv v_what), (2, iv z7.1), (3, iv x28), (4, iv s69.1), (5, iv s69.2.1), (6, iv z66), (7, iv s69.2.2.1), (9, iv s80.2.1)] dX5_order_356 (by decide) rfl ?_
        refine jr_iinc (pc := 358) F [(9, iv (w32 (s80.2.1 + 1))), (8, iv x117), (10, iv x90), (0, .ref (xad X (4, 0, 0))), (1, iv v_what), (2, iv z7.1), (3, iv x28), (4, iv s69.1), (5, iv s69.2.1), (6, iv z66), (7, iv s69.2.2.1)] 10 dX5_order_358 rfl (by decide) rfl ?_
        refine jr_goto (pc := 361) (tgt := 233) F dX5_order_361 (by decide) ?_
        refine jr_sub F [3, 4, 5, 6, 7, 8, 9, 10, 1, 0] [(0, .ref (xad X (4, 0, 0))), (1, iv v_what), (2, iv z7.1), (3, iv x28), (4, iv s69.1), (5, iv s69.2.1), (6, iv z66), (7, iv s69.2.2.1), (8, iv x117), (9, iv (w32 (s80.2.1 + 1)))] rfl ?_
        exact hC82 (x117, w32 (s80.2.1 + 1), L112) (Ok_some k) r119 (rg_w _)
      intro r120 r121
      refine jr_aload_n (pc := 364) F 0 dX5_order_364 rfl rfl ?_
      have k := Ok_bind k
      refine jr_callV (pc := 365) (st := []) F [] (snd_X5_throughBy72  (g0 := g0)  k) rfl ck_5_255 rfl m4_0 rfl rfl rfl (by decide) (Nat.le_of_ble_eq_true rfl) dX5_order_365 rfl (fun v g' hq => ?_)
      obtain ⟨x, L', rfl, r122, eg, k⟩ := hq
      obtain ⟨z123, ez⟩ : ∃ z : Int × LT, z = (x, L') := ⟨_, rfl⟩
      obtain ⟨rfl, rfl⟩ : x = z123.1 ∧ L' = z123.2 := ⟨by rw [ez], by rw [ez]⟩
      clear ez
      refine J_eq eg ?_
      show J X 368 [(0, .ref (xad X (4, 0, 0))), (1, iv v_what), (2, iv z7.1), (3, iv x28), (4, iv s69.1), (5, iv s69.2.1), (6, iv z66), (7, iv s69.2.2.1), (8, iv z84.1), (9, iv z84.2.1)] [iv z123.1] (gs g0 4 0 z123.2)
      refine jr_istore (pc := 368) F [(9, iv z123.1), (0, .ref (xad X (4, 0, 0))), (1, iv v_what), (2, iv z7.1), (3, iv x28), (4, iv s69.1), (5, iv s69.2.1), (6, iv z66), (7, iv s69.2.2.1), (8, iv z84.1)] dX5_order_368 (by decide) rfl ?_
      refine jifP (P := fun v => Rg v → J X 384 [(9, iv z123.1), (0, .ref (xad X (4, 0, 0))), (1, iv v_what), (2, iv z7.1), (3, iv x28), (4, iv s69.1), (5, iv s69.2.1), (6, iv z66), (7, iv s69.2.2.1), (8, iv z84.1)] (iv v :: []) (gs g0 4 0 z123.2)) (c := s69.2.1 < z123.1) (z84.1) (s69.1) (fun Ht Hf => ?_) (fun r125 => ?_)
      · refine jr_iload (pc := 370) F 0 dX5_order_370 rfl ?_
        refine jr_iload (pc := 372) F 6 dX5_order_372 rfl ?_
        refine jr_icmp_le (pc := 374) (tgt := 382) F r122 r75 dX5_order_374 (by decide) (fun h124 => ?_) (fun h124 => ?_)
        · refine jr_iload (pc := 382) F 5 dX5_order_382 rfl ?_
          exact Hf (ng_lt h124) r74
        refine jr_iload (pc := 377) F 9 dX5_order_377 rfl ?_
        refine jr_goto (pc := 379) (tgt := 384) F dX5_order_379 (by decide) ?_
        exact Ht h124 r120
      obtain ⟨x126, e127, k⟩ := Ok_let k
      have r128 : Rg x126 := rg_of e127 r125
      refine jr_top e127 ?_
      refine jr_istore (pc := 384) F [(4, iv x126), (9, iv z123.1), (0, .ref (xad X (4, 0, 0))), (1, iv v_what), (2, iv z7.1), (3, iv x28), (5, iv s69.2.1), (6, iv z66), (7, iv s69.2.2.1), (8, iv z84.1)] dX5_order_384 (by decide) rfl ?_
      refine jifP (P := fun v => Rg v → J X 400 [(4, iv x126), (9, iv z123.1), (0, .ref (xad X (4, 0, 0))), (1, iv v_what), (2, iv z7.1), (3, iv x28), (5, iv s69.2.1), (6, iv z66), (7, iv s69.2.2.1), (8, iv z84.1)] (iv v :: []) (gs g0 4 0 z123.2)) (c := s69.2.1 < z123.1) (z123.1) (s69.2.1) (fun Ht Hf => ?_) (fun r130 => ?_)
      · refine jr_iload (pc := 386) F 1 dX5_order_386 rfl ?_
        refine jr_iload (pc := 388) F 6 dX5_order_388 rfl ?_
        refine jr_icmp_le (pc := 390) (tgt := 398) F r122 r75 dX5_order_390 (by decide) (fun h129 => ?_) (fun h129 => ?_)
        · refine jr_iload (pc := 398) F 6 dX5_order_398 rfl ?_
          exact Hf (ng_lt h129) r75
        refine jr_iload (pc := 393) F 1 dX5_order_393 rfl ?_
        refine jr_goto (pc := 395) (tgt := 400) F dX5_order_395 (by decide) ?_
        exact Ht h129 r122
      obtain ⟨x131, e132, k⟩ := Ok_let k
      have r133 : Rg x131 := rg_of e132 r130
      refine jr_top e132 ?_
      refine jr_istore (pc := 400) F [(5, iv x131), (4, iv x126), (9, iv z123.1), (0, .ref (xad X (4, 0, 0))), (1, iv v_what), (2, iv z7.1), (3, iv x28), (6, iv z66), (7, iv s69.2.2.1), (8, iv z84.1)] dX5_order_400 (by decide) rfl ?_
      refine jr_iinc (pc := 402) F [(7, iv (w32 (s69.2.2.1 + 1))), (5, iv x131), (4, iv x126), (9, iv z123.1), (0, .ref (xad X (4, 0, 0))), (1, iv v_what), (2, iv z7.1), (3, iv x28), (6, iv z66), (8, iv z84.1)] 8 dX5_order_402 rfl (by decide) rfl ?_
      refine jr_goto (pc := 405) (tgt := 213) F dX5_order_405 (by decide) ?_
      refine jr_sub F [4, 5, 6, 7, 2, 1, 8, 0] [(0, .ref (xad X (4, 0, 0))), (1, iv v_what), (2, iv z7.1), (3, iv x28), (4, iv x126), (5, iv x131), (6, iv z66), (7, iv (w32 (s69.2.2.1 + 1)))] rfl ?_
      exact hC71 (x126, x131, w32 (s69.2.2.1 + 1), z123.2) (Ok_some k) r128 r133 (rg_w _)
    intro r134 r135 r136
    refine jifP (P := fun v => Rg v → J X 429 [(0, .ref (xad X (4, 0, 0))), (1, iv v_what), (2, iv z7.1), (3, iv x28), (4, iv z73.1), (5, iv z73.2.1), (6, iv z66), (7, iv z73.2.2.1)] (iv v :: []) (gs g0 4 0 z73.2.2.2)) (c := v_what = 1) (z73.2.1) (if z7.1 = 0 then (-9) else z73.1) (fun Ht Hf => ?_) (fun r140 => ?_)
    · refine jr_iload_n (pc := 408) F 1 dX5_order_408 rfl rfl ?_
      refine jr_iconst (pc := 409) F dX5_order_409 ?_
      refine jr_icmp_ne (pc := 410) (tgt := 418) F rgp_what (show Rg 1 from ⟨by decide, by decide⟩) dX5_order_410 (by decide) (fun h137 => ?_) (fun h137 => ?_)
      · refine jifP (P := fun v => Rg v → J X 429 [(0, .ref (xad X (4, 0, 0))), (1, iv v_what), (2, iv z7.1), (3, iv x28), (4, iv z73.1), (5, iv z73.2.1), (6, iv z66), (7, iv z73.2.2.1)] (iv v :: []) (gs g0 4 0 z73.2.2.2)) (c := z7.1 = 0) ((-9)) (z73.1) (fun Ht Hf => ?_) (fun r139 => ?_)
        · refine jr_iload_n (pc := 418) F 2 dX5_order_418 rfl rfl ?_
          refine jr_if_ne (pc := 419) (tgt := 427) F r21 dX5_order_419 (by decide) (fun h138 => ?_) (fun h138 => ?_)
          · refine jr_iload (pc := 427) F 4 dX5_order_427 rfl ?_
            exact Hf h138 r134
          refine jr_bipush (pc := 422) F dX5_order_422 (by decide) ?_
          refine jr_goto (pc := 424) (tgt := 429) F dX5_order_424 (by decide) ?_
          exact Ht h138 (show Rg (-9) from ⟨by decide, by decide⟩)
        exact Hf h137 r139
      refine jr_iload (pc := 413) F 5 dX5_order_413 rfl ?_
      refine jr_goto (pc := 415) (tgt := 429) F dX5_order_415 (by decide) ?_
      exact Ht h137 r135
    exact jr_iret (pc := 429) F hQ rfl dX5_order_429 ⟨_, _, rfl, r140, rfl, (Ok_some k)⟩
  have k := Ok_t h31 k
  refine jr_aload_n (pc := 82) F 1 dX5_order_82 rfl rfl ?_
  refine jr_iload_n (pc := 83) F 0 dX5_order_83 rfl rfl ?_
  have k := Ok_bind k
  refine jr_callV (pc := 84) (st := []) F [iv x28] (snd_X5_refuse  (g0 := g0) r30 k) rfl ck_5_139 rfl m4_0 rfl rfl rfl (by decide) (Nat.le_of_ble_eq_true rfl) dX5_order_84 rfl (fun v g' hq => ?_)
  obtain ⟨x, L', rfl, r141, eg, k⟩ := hq
  obtain ⟨z142, ez⟩ : ∃ z : Int × LT, z = (x, L') := ⟨_, rfl⟩
  obtain ⟨rfl, rfl⟩ : x = z142.1 ∧ L' = z142.2 := ⟨by rw [ez], by rw [ez]⟩
  clear ez
  refine J_eq eg ?_
  show J X 87 [(3, iv x28), (0, .ref (xad X (4, 0, 0))), (1, iv v_what), (2, iv z7.1)] [iv z142.1] (gs g0 4 0 z142.2)
  exact jr_iret (pc := 87) F hQ rfl dX5_order_87 ⟨_, _, rfl, r141, rfl, (Ok_some k)⟩
set_option maxHeartbeats 4000000 in
set_option maxRecDepth 100000 in
theorem snd_X5_pour {L0 : LT} {v_y : Int} {g0 : GG} (rgp_y : Rg v_y) {Q : (LT) → Prop} (k : Ok (X5_pour L0 v_y) Q) : MetG SL yX5_pour cX5_pour 2 none 1 (fun ad => [.ref (ad (4, 0, 0)), iv v_y]) (gs g0 4 0 L0) (fun v g' => ∃ L' : LT, v = none ∧ g' = gs g0 4 0 L' ∧ Q L') := by
  refine met_intro SL_ok (by decide +kernel) (fun ad => Nat.le_of_ble_eq_true rfl) (fun X F hQ hR => ?_)
  replace F : FX X cX5_pour RX5 2 none SL 1 := F
  show J X 0 [(0, .ref (xad X (4, 0, 0))), (1, iv v_y)] [] (gs g0 4 0 L0)
  refine jr_aload_n (pc := 0) F 0 dX5_pour_0 rfl rfl ?_
  refine jr_getR (pc := 1) (b := (4, 0, 4)) F f_5_20 m4_0 rfl dX5_pour_1 ?_
  refine jr_iload_n (pc := 4) F 1 dX5_pour_4 rfl rfl ?_
  refine jr_aload_n (pc := 5) F 0 dX5_pour_5 rfl rfl ?_
  refine jr_getR (pc := 6) (b := (4, 0, 4)) F f_5_20 m4_0 rfl dX5_pour_6 ?_
  refine jr_iload_n (pc := 9) F 1 dX5_pour_9 rfl rfl ?_
  obtain ⟨c1, k⟩ := Ok_grd k
  refine jr_iald (pc := 10) F (L0 4 v_y) m4_4 (by decide) c1 (gs_at' _ _ _ _ _ _) dX5_pour_10 (fun r2 => ?_)
  refine jr_bipush (pc := 11) F dX5_pour_11 (by decide) ?_
  refine jr_iadd (pc := 13) F dX5_pour_13 ?_
  refine jr_callS (pc := 14) (st := [iv v_y, .ref (xad X (4, 0, 4))]) F [iv (w32 ((L0 4 v_y) + 10))] (snd_X5_held (g0 := gs g0 4 0 L0) (rg_w _) (X5_held_ok _ )) rfl ck_5_117 rfl rfl (by decide) (Nat.le_of_ble_eq_true rfl) dX5_pour_14 rfl (fun v g' hq => ?_)
  obtain ⟨x, rfl, r3, eg, hx⟩ := hq
  subst hx
  refine J_eq eg ?_
  show J X 17 [(0, .ref (xad X (4, 0, 0))), (1, iv v_y)] [iv (X5_held_v (w32 ((L0 4 v_y) + 10))), iv v_y, .ref (xad X (4, 0, 4))] (gs g0 4 0 L0)
  obtain ⟨L4, e5, k⟩ := Ok_let k
  refine jr_iast (pc := 17) F (gs g0 4 0 L4) m4_4 (by decide) c1 r3 (put1 e5) dX5_pour_17 ?_
  exact jr_vret (pc := 18) F hQ rfl dX5_pour_18 ⟨_, rfl, rfl, (Ok_some k)⟩
set_option maxHeartbeats 4000000 in
set_option maxRecDepth 100000 in
theorem snd_X5_pourFewest {L0 : LT} {v_t : Int} {g0 : GG} (rgp_t : Rg v_t) {Q : (Int × LT) → Prop} (k : Ok (X5_pourFewest L0 v_t) Q) : MetG SL yX5_pourFewest cX5_pourFewest 7 (some .int) 5 (fun ad => [.ref (ad (4, 0, 0)), iv v_t]) (gs g0 4 0 L0) (fun v g' => ∃ (x : Int) (L' : LT), v = some (iv x) ∧ Rg x ∧ g' = gs g0 4 0 L' ∧ Q (x, L')) := by
  refine met_intro SL_ok (by decide +kernel) (fun ad => Nat.le_of_ble_eq_true rfl) (fun X F hQ hR => ?_)
  replace F : FX X cX5_pourFewest RX5 7 (some .int) SL 5 := F
  show J X 0 [(0, .ref (xad X (4, 0, 0))), (1, iv v_t)] [] (gs g0 4 0 L0)
  refine jr_aload_n (pc := 0) F 0 dX5_pourFewest_0 rfl rfl ?_
  refine jr_iconst (pc := 1) F dX5_pourFewest_1 ?_
  obtain ⟨L1, e2, k⟩ := Ok_let k
  refine jr_putI (pc := 2) F (gs g0 4 0 L1) fw_5_92 m4_0 rfl (show Rg 0 from ⟨by decide, by decide⟩) (put1 e2) dX5_pourFewest_2 ?_
  obtain ⟨c3, k⟩ := Ok_grd k
  refine jifP (P := fun v => Rg v → J X 32 [(0, .ref (xad X (4, 0, 0))), (1, iv v_t)] (iv v :: []) (gs g0 4 0 L1)) (c := (X5_isTrain_v L1 v_t) = 0) ((-1)) (if ¬ (L1 14 v_t) = 0 then (-3) else 0) (fun Ht Hf => ?_) (fun r9 => ?_)
  · refine jr_aload_n (pc := 5) F 0 dX5_pourFewest_5 rfl rfl ?_
    refine jr_iload_n (pc := 6) F 1 dX5_pourFewest_6 rfl rfl ?_
    refine jr_callV (pc := 7) (st := []) F [iv v_t] (snd_X5_isTrain  (g0 := g0) rgp_t (X5_isTrain_ok _ _ )) rfl ck_5_192 rfl m4_0 rfl rfl rfl (by decide) (Nat.le_of_ble_eq_true rfl) dX5_pourFewest_7 rfl (fun v g' hq => ?_)
    obtain ⟨x, rfl, r4, eg, hx⟩ := hq
    subst hx
    refine J_eq eg ?_
    show J X 10 [(0, .ref (xad X (4, 0, 0))), (1, iv v_t)] [iv (X5_isTrain_v L1 v_t)] (gs g0 4 0 L1)
    refine jr_if_ne (pc := 10) (tgt := 17) F (rg_z r4) dX5_pourFewest_10 (by decide) (fun h5 => ?_) (fun h5 => ?_)
    · refine jifP (P := fun v => Rg v → J X 32 [(0, .ref (xad X (4, 0, 0))), (1, iv v_t)] (iv v :: []) (gs g0 4 0 L1)) (c := ¬ (L1 14 v_t) = 0) ((-3)) (0) (fun Ht Hf => ?_) (fun r8 => ?_)
      · refine jr_aload_n (pc := 17) F 0 dX5_pourFewest_17 rfl rfl ?_
        refine jr_getR (pc := 18) (b := (4, 0, 14)) F f_5_44 m4_0 rfl dX5_pourFewest_18 ?_
        refine jr_iload_n (pc := 21) F 1 dX5_pourFewest_21 rfl rfl ?_
        refine jr_iald (pc := 22) F (L1 14 v_t) m4_14 (by decide) (c3 h5) (gs_at' _ _ _ _ _ _) dX5_pourFewest_22 (fun r6 => ?_)
        refine jr_if_eq (pc := 23) (tgt := 31) F r6 dX5_pourFewest_23 (by decide) (fun h7 => ?_) (fun h7 => ?_)
        · refine jr_iconst (pc := 31) F dX5_pourFewest_31 ?_
          exact Hf (fun q => q h7) (show Rg 0 from ⟨by decide, by decide⟩)
        refine jr_bipush (pc := 26) F dX5_pourFewest_26 (by decide) ?_
        refine jr_goto (pc := 28) (tgt := 32) F dX5_pourFewest_28 (by decide) ?_
        exact Ht h7 (show Rg (-3) from ⟨by decide, by decide⟩)
      exact Hf h5 r8
    refine jr_iconst (pc := 13) F dX5_pourFewest_13 ?_
    refine jr_goto (pc := 14) (tgt := 32) F dX5_pourFewest_14 (by decide) ?_
    exact Ht h5 (show Rg (-1) from ⟨by decide, by decide⟩)
  obtain ⟨x10, e11, k⟩ := Ok_let k
  have r12 : Rg x10 := rg_of e11 r9
  refine jr_top e11 ?_
  refine jr_istore_n (pc := 32) F [(2, iv x10), (0, .ref (xad X (4, 0, 0))), (1, iv v_t)] dX5_pourFewest_32 rfl (by decide) rfl ?_
  refine jr_iload_n (pc := 33) F 0 dX5_pourFewest_33 rfl rfl ?_
  refine jr_if_ge (pc := 34) (tgt := 43) F r12 dX5_pourFewest_34 (by decide) (fun h13 => ?_) (fun h13 => ?_)
  · have k := Ok_f (ng_lt h13) k
    refine jr_bipush (pc := 43) F dX5_pourFewest_43 (by decide) ?_
    refine jr_istore_n (pc := 45) F [(3, iv (-9)), (2, iv x10), (0, .ref (xad X (4, 0, 0))), (1, iv v_t)] dX5_pourFewest_45 rfl (by decide) rfl ?_
    refine jr_aload_n (pc := 46) F 2 dX5_pourFewest_46 rfl rfl ?_
    have k := Ok_bind k
    refine jr_callV (pc := 47) (st := []) F [] (snd_X5_open  (g0 := g0)  k) rfl ck_5_203 rfl m4_0 rfl rfl rfl (by decide) (Nat.le_of_ble_eq_true rfl) dX5_pourFewest_47 rfl (fun v g' hq => ?_)
    obtain ⟨z15, rfl, eg, k⟩ := hq
    refine J_eq eg ?_
    show J X 50 [(3, iv (-9)), (2, iv x10), (0, .ref (xad X (4, 0, 0))), (1, iv v_t)] [] (gs g0 4 0 z15)
    refine jr_iconst (pc := 50) F dX5_pourFewest_50 ?_
    refine jr_istore (pc := 51) F [(4, iv 0), (3, iv (-9)), (2, iv x10), (0, .ref (xad X (4, 0, 0))), (1, iv v_t)] dX5_pourFewest_51 (by decide) rfl ?_
    refine jr_sub F [3, 4, 2, 1, 0] [(0, .ref (xad X (4, 0, 0))), (1, iv v_t), (2, iv x10), (3, iv (-9)), (4, iv 0)] rfl ?_
    refine lpj (P := fun s : Int × Int × LT => Rg (s.1) → Rg (s.2.1) → J X 53 [(0, .ref (xad X (4, 0, 0))), (1, iv v_t), (2, iv x10), (3, iv s.1), (4, iv s.2.1)] [] (gs g0 4 0 s.2.2)) (PE := fun r : Int × Int × LT => Rg (r.1) → Rg (r.2.1) → J X 147 [(0, .ref (xad X (4, 0, 0))), (1, iv v_t), (2, iv x10), (3, iv r.1), (4, iv r.2.1)] [] (gs g0 4 0 r.2.2)) k (fun s16 Q17 k hC18 hE19 r21 r22 => ?_) (fun z20 k => ?_) (fun h => h (show Rg (-9) from ⟨by decide, by decide⟩) (show Rg 0 from ⟨by decide, by decide⟩))
    · refine jr_iload (pc := 53) F 4 dX5_pourFewest_53 rfl ?_
      refine jr_iconst (pc := 55) F dX5_pourFewest_55 ?_
      refine jr_aload_n (pc := 56) F 0 dX5_pourFewest_56 rfl rfl ?_
      refine jr_getI (pc := 57) F (s16.2.2 0 0) f_5_7 m4_0 rfl (gs_at' _ _ _ _ _ _) dX5_pourFewest_57 (fun r23 => ?_)
      refine jr_ishl (pc := 60) F dX5_pourFewest_60 ?_
      refine jr_icmp_ge (pc := 61) (tgt := 147) F r22 (rg_shl _ _) dX5_pourFewest_61 (by decide) (fun h24 => ?_) (fun h24 => ?_)
      · have k := Ok_f (ng_lt h24) k
        exact hE19 (s16.1, s16.2.1, s16.2.2) (Ok_some k) r21 r22
      have k := Ok_t h24 k
      refine jr_iload (pc := 64) F 4 dX5_pourFewest_64 rfl ?_
      have k := Ok_bind k
      refine jr_callS (pc := 66) (st := []) F [iv s16.2.1] (snd_X5_onesOf (g0 := gs g0 4 0 s16.2.2) r22 k) rfl ck_5_261 rfl rfl (by decide) (Nat.le_of_ble_eq_true rfl) dX5_pourFewest_66 rfl (fun v g' hq => ?_)
      obtain ⟨z26, rfl, r25, eg, k⟩ := hq
      refine J_eq eg ?_
      show J X 69 [(0, .ref (xad X (4, 0, 0))), (1, iv v_t), (2, iv x10), (3, iv s16.1), (4, iv s16.2.1)] [iv z26] (gs g0 4 0 s16.2.2)
      refine jr_istore (pc := 69) F [(5, iv z26), (0, .ref (xad X (4, 0, 0))), (1, iv v_t), (2, iv x10), (3, iv s16.1), (4, iv s16.2.1)] dX5_pourFewest_69 (by decide) rfl ?_
      refine jr_iload (pc := 71) F 0 dX5_pourFewest_71 rfl ?_
      refine jr_iconst (pc := 73) F dX5_pourFewest_73 ?_
      refine jr_icmp_gt (pc := 74) (tgt := 141) F r25 (show Rg 3 from ⟨by decide, by decide⟩) dX5_pourFewest_74 (by decide) (fun h27 => ?_) (fun h27 => ?_)
      · have k := Ok_f (ng_le h27) k
        refine jr_iinc (pc := 141) F [(4, iv (w32 (s16.2.1 + 1))), (5, iv z26), (0, .ref (xad X (4, 0, 0))), (1, iv v_t), (2, iv x10), (3, iv s16.1)] 5 dX5_pourFewest_141 rfl (by decide) rfl ?_
        refine jr_goto (pc := 144) (tgt := 53) F dX5_pourFewest_144 (by decide) ?_
        refine jr_sub F [2, 3, 4, 5, 0] [(0, .ref (xad X (4, 0, 0))), (1, iv v_t), (2, iv x10), (3, iv s16.1), (4, iv (w32 (s16.2.1 + 1)))] rfl ?_
        exact hC18 (s16.1, w32 (s16.2.1 + 1), s16.2.2) (Ok_some k) r21 (rg_w _)
      have k := Ok_t h27 k
      refine jr_iload_n (pc := 77) F 4 dX5_pourFewest_77 rfl rfl ?_
      refine jr_if_lt (pc := 78) (tgt := 90) F r21 dX5_pourFewest_78 (by decide) (fun h28 => ?_) (fun h28 => ?_)
      · have k := Ok_t h28 k
        refine jr_iconst (pc := 90) F dX5_pourFewest_90 ?_
        refine jr_istore (pc := 91) F [(6, iv 0), (5, iv z26), (0, .ref (xad X (4, 0, 0))), (1, iv v_t), (2, iv x10), (3, iv s16.1), (4, iv s16.2.1)] dX5_pourFewest_91 (by decide) rfl ?_
        refine jr_sub F [2, 3, 4, 5, 6, 1, 0] [(0, .ref (xad X (4, 0, 0))), (1, iv v_t), (2, iv x10), (3, iv s16.1), (4, iv s16.2.1), (5, iv z26), (6, iv 0)] rfl ?_
        refine lpj (P := fun s : Int × LT => Rg (s.1) → J X 93 [(0, .ref (xad X (4, 0, 0))), (1, iv v_t), (2, iv x10), (3, iv s16.1), (4, iv s16.2.1), (5, iv z26), (6, iv s.1)] [] (gs g0 4 0 s.2)) (PE := fun r : Int × LT => Rg (r.1) → J X 124 [(0, .ref (xad X (4, 0, 0))), (1, iv v_t), (2, iv x10), (3, iv s16.1), (4, iv s16.2.1), (5, iv z26), (6, iv r.1)] [] (gs g0 4 0 r.2)) k (fun s29 Q30 k hC31 hE32 r34 => ?_) (fun z33 k => ?_) (fun h => h (show Rg 0 from ⟨by decide, by decide⟩))
        · refine jr_iload (pc := 93) F 6 dX5_pourFewest_93 rfl ?_
          refine jr_aload_n (pc := 95) F 0 dX5_pourFewest_95 rfl rfl ?_
          refine jr_getI (pc := 96) F (s29.2 0 0) f_5_7 m4_0 rfl (gs_at' _ _ _ _ _ _) dX5_pourFewest_96 (fun r35 => ?_)
          refine jr_icmp_ge (pc := 99) (tgt := 124) F r34 r35 dX5_pourFewest_99 (by decide) (fun h36 => ?_) (fun h36 => ?_)
          · have k := Ok_f (ng_lt h36) k
            exact hE32 (s29.1, s29.2) (Ok_some k) r34
          have k := Ok_t h36 k
          refine jr_iload (pc := 102) F 4 dX5_pourFewest_102 rfl ?_
          refine jr_iload (pc := 104) F 6 dX5_pourFewest_104 rfl ?_
          refine jr_callS (pc := 106) (st := []) F [iv s16.2.1, iv s29.1] (snd_X5_hasBit (g0 := gs g0 4 0 s29.2) r22 r34 (X5_hasBit_ok _ _ )) rfl ck_5_136 rfl rfl (by decide) (Nat.le_of_ble_eq_true rfl) dX5_pourFewest_106 rfl (fun v g' hq => ?_)
          obtain ⟨x, rfl, r37, eg, hx⟩ := hq
          subst hx
          refine J_eq eg ?_
          show J X 109 [(0, .ref (xad X (4, 0, 0))), (1, iv v_t), (2, iv x10), (3, iv s16.1), (4, iv s16.2.1), (5, iv z26), (6, iv s29.1)] [iv (X5_hasBit_v s16.2.1 s29.1)] (gs g0 4 0 s29.2)
          refine jr_if_eq (pc := 109) (tgt := 118) F (rg_z r37) dX5_pourFewest_109 (by decide) (fun h38 => ?_) (fun h38 => ?_)
          · have k := Ok_f (fun q => q h38) k
            refine jr_iinc (pc := 118) F [(6, iv (w32 (s29.1 + 1))), (0, .ref (xad X (4, 0, 0))), (1, iv v_t), (2, iv x10), (3, iv s16.1), (4, iv s16.2.1), (5, iv z26)] 6 dX5_pourFewest_118 rfl (by decide) rfl ?_
            refine jr_goto (pc := 121) (tgt := 93) F dX5_pourFewest_121 (by decide) ?_
            refine jr_sub F [1, 2, 3, 4, 5, 6, 0] [(0, .ref (xad X (4, 0, 0))), (1, iv v_t), (2, iv x10), (3, iv s16.1), (4, iv s16.2.1), (5, iv z26), (6, iv (w32 (s29.1 + 1)))] rfl ?_
            exact hC31 (w32 (s29.1 + 1), s29.2) (Ok_some k) (rg_w _)
          have k := Ok_t h38 k
          refine jr_aload_n (pc := 112) F 0 dX5_pourFewest_112 rfl rfl ?_
          refine jr_iload (pc := 113) F 6 dX5_pourFewest_113 rfl ?_
          have k := Ok_bind k
          refine jr_callV (pc := 115) (st := []) F [iv s29.1] (snd_X5_pour  (g0 := g0) r34 k) rfl ck_5_258 rfl m4_0 rfl rfl rfl (by decide) (Nat.le_of_ble_eq_true rfl) dX5_pourFewest_115 rfl (fun v g' hq => ?_)
          obtain ⟨z40, rfl, eg, k⟩ := hq
          refine J_eq eg ?_
          show J X 118 [(0, .ref (xad X (4, 0, 0))), (1, iv v_t), (2, iv x10), (3, iv s16.1), (4, iv s16.2.1), (5, iv z26), (6, iv s29.1)] [] (gs g0 4 0 z40)
          refine jr_iinc (pc := 118) F [(6, iv (w32 (s29.1 + 1))), (0, .ref (xad X (4, 0, 0))), (1, iv v_t), (2, iv x10), (3, iv s16.1), (4, iv s16.2.1), (5, iv z26)] 6 dX5_pourFewest_118 rfl (by decide) rfl ?_
          refine jr_goto (pc := 121) (tgt := 93) F dX5_pourFewest_121 (by decide) ?_
          refine jr_sub F [1, 2, 3, 4, 5, 6, 0] [(0, .ref (xad X (4, 0, 0))), (1, iv v_t), (2, iv x10), (3, iv s16.1), (4, iv s16.2.1), (5, iv z26), (6, iv (w32 (s29.1 + 1)))] rfl ?_
          exact hC31 (w32 (s29.1 + 1), z40) (Ok_some k) (rg_w _)
        intro r41
        refine jn (P := fun v : Int × LT => Rg (v.1) → J X 140 [(0, .ref (xad X (4, 0, 0))), (1, iv v_t), (2, iv x10), (3, iv s16.1), (4, iv s16.2.1), (5, iv z26), (6, iv z33.1)] (iv (v.1) :: []) (gs g0 4 0 v.2)) k (fun Q43 k hJ44 => ?_) (fun z42 k r48 => ?_)
        · refine jr_aload_n (pc := 124) F 0 dX5_pourFewest_124 rfl rfl ?_
          refine jr_iload_n (pc := 125) F 1 dX5_pourFewest_125 rfl rfl ?_
          have k := Ok_bind k
          refine jr_callV (pc := 126) (st := []) F [iv v_t] (snd_X5_throughIn  (g0 := g0) rgp_t k) rfl ck_5_252 rfl m4_0 rfl rfl rfl (by decide) (Nat.le_of_ble_eq_true rfl) dX5_pourFewest_126 rfl (fun v g' hq => ?_)
          obtain ⟨x, L', rfl, r45, eg, k⟩ := hq
          obtain ⟨z46, ez⟩ : ∃ z : Int × LT, z = (x, L') := ⟨_, rfl⟩
          obtain ⟨rfl, rfl⟩ : x = z46.1 ∧ L' = z46.2 := ⟨by rw [ez], by rw [ez]⟩
          clear ez
          refine J_eq eg ?_
          show J X 129 [(0, .ref (xad X (4, 0, 0))), (1, iv v_t), (2, iv x10), (3, iv s16.1), (4, iv s16.2.1), (5, iv z26), (6, iv z33.1)] [iv z46.1] (gs g0 4 0 z46.2)
          refine jr_bipush (pc := 129) F dX5_pourFewest_129 (by decide) ?_
          refine jr_icmp_ge (pc := 131) (tgt := 139) F r45 (show Rg 99 from ⟨by decide, by decide⟩) dX5_pourFewest_131 (by decide) (fun h47 => ?_) (fun h47 => ?_)
          · have k := Ok_f (ng_lt h47) k
            refine jr_iload_n (pc := 139) F 3 dX5_pourFewest_139 rfl rfl ?_
            exact hJ44 (s16.1, z46.2) (Ok_some k) r21
          have k := Ok_t h47 k
          refine jr_iload (pc := 134) F 4 dX5_pourFewest_134 rfl ?_
          refine jr_goto (pc := 136) (tgt := 140) F dX5_pourFewest_136 (by decide) ?_
          exact hJ44 (s16.2.1, z46.2) (Ok_some k) r22
        refine jr_istore_n (pc := 140) F [(3, iv z42.1), (0, .ref (xad X (4, 0, 0))), (1, iv v_t), (2, iv x10), (4, iv s16.2.1), (5, iv z26), (6, iv z33.1)] dX5_pourFewest_140 rfl (by decide) rfl ?_
        refine jr_iinc (pc := 141) F [(4, iv (w32 (s16.2.1 + 1))), (3, iv z42.1), (0, .ref (xad X (4, 0, 0))), (1, iv v_t), (2, iv x10), (5, iv z26), (6, iv z33.1)] 4 dX5_pourFewest_141 rfl (by decide) rfl ?_
        refine jr_goto (pc := 144) (tgt := 53) F dX5_pourFewest_144 (by decide) ?_
        refine jr_sub F [2, 3, 4, 1, 0] [(0, .ref (xad X (4, 0, 0))), (1, iv v_t), (2, iv x10), (3, iv z42.1), (4, iv (w32 (s16.2.1 + 1)))] rfl ?_
        exact hC18 (z42.1, w32 (s16.2.1 + 1), z42.2) (Ok_some k) r48 (rg_w _)
      have k := Ok_f (ng_lt h28) k
      refine jr_iload (pc := 81) F 0 dX5_pourFewest_81 rfl ?_
      refine jr_iload_n (pc := 83) F 4 dX5_pourFewest_83 rfl rfl ?_
      have k := Ok_bind k
      refine jr_callS (pc := 84) (st := [iv z26]) F [iv s16.1] (snd_X5_onesOf (g0 := gs g0 4 0 s16.2.2) r21 k) rfl ck_5_261 rfl rfl (by decide) (Nat.le_of_ble_eq_true rfl) dX5_pourFewest_84 rfl (fun v g' hq => ?_)
      obtain ⟨z50, rfl, r49, eg, k⟩ := hq
      refine J_eq eg ?_
      show J X 87 [(5, iv z26), (0, .ref (xad X (4, 0, 0))), (1, iv v_t), (2, iv x10), (3, iv s16.1), (4, iv s16.2.1)] [iv z50, iv z26] (gs g0 4 0 s16.2.2)
      refine jr_icmp_ge (pc := 87) (tgt := 141) F r25 r49 dX5_pourFewest_87 (by decide) (fun h51 => ?_) (fun h51 => ?_)
      · have k := Ok_f (ng_lt h51) k
        refine jr_iinc (pc := 141) F [(4, iv (w32 (s16.2.1 + 1))), (5, iv z26), (0, .ref (xad X (4, 0, 0))), (1, iv v_t), (2, iv x10), (3, iv s16.1)] 5 dX5_pourFewest_141 rfl (by decide) rfl ?_
        refine jr_goto (pc := 144) (tgt := 53) F dX5_pourFewest_144 (by decide) ?_
        refine jr_sub F [2, 3, 4, 5, 0] [(0, .ref (xad X (4, 0, 0))), (1, iv v_t), (2, iv x10), (3, iv s16.1), (4, iv (w32 (s16.2.1 + 1)))] rfl ?_
        exact hC18 (s16.1, w32 (s16.2.1 + 1), s16.2.2) (Ok_some k) r21 (rg_w _)
      have k := Ok_t h51 k
      refine jr_iconst (pc := 90) F dX5_pourFewest_90 ?_
      refine jr_istore (pc := 91) F [(6, iv 0), (5, iv z26), (0, .ref (xad X (4, 0, 0))), (1, iv v_t), (2, iv x10), (3, iv s16.1), (4, iv s16.2.1)] dX5_pourFewest_91 (by decide) rfl ?_
      refine jr_sub F [2, 3, 4, 5, 6, 1, 0] [(0, .ref (xad X (4, 0, 0))), (1, iv v_t), (2, iv x10), (3, iv s16.1), (4, iv s16.2.1), (5, iv z26), (6, iv 0)] rfl ?_
      refine lpj (P := fun s : Int × LT => Rg (s.1) → J X 93 [(0, .ref (xad X (4, 0, 0))), (1, iv v_t), (2, iv x10), (3, iv s16.1), (4, iv s16.2.1), (5, iv z26), (6, iv s.1)] [] (gs g0 4 0 s.2)) (PE := fun r : Int × LT => Rg (r.1) → J X 124 [(0, .ref (xad X (4, 0, 0))), (1, iv v_t), (2, iv x10), (3, iv s16.1), (4, iv s16.2.1), (5, iv z26), (6, iv r.1)] [] (gs g0 4 0 r.2)) k (fun s52 Q53 k hC54 hE55 r57 => ?_) (fun z56 k => ?_) (fun h => h (show Rg 0 from ⟨by decide, by decide⟩))
      · refine jr_iload (pc := 93) F 6 dX5_pourFewest_93 rfl ?_
        refine jr_aload_n (pc := 95) F 0 dX5_pourFewest_95 rfl rfl ?_
        refine jr_getI (pc := 96) F (s52.2 0 0) f_5_7 m4_0 rfl (gs_at' _ _ _ _ _ _) dX5_pourFewest_96 (fun r58 => ?_)
        refine jr_icmp_ge (pc := 99) (tgt := 124) F r57 r58 dX5_pourFewest_99 (by decide) (fun h59 => ?_) (fun h59 => ?_)
        · have k := Ok_f (ng_lt h59) k
          exact hE55 (s52.1, s52.2) (Ok_some k) r57
        have k := Ok_t h59 k
        refine jr_iload (pc := 102) F 4 dX5_pourFewest_102 rfl ?_
        refine jr_iload (pc := 104) F 6 dX5_pourFewest_104 rfl ?_
        refine jr_callS (pc := 106) (st := []) F [iv s16.2.1, iv s52.1] (snd_X5_hasBit (g0 := gs g0 4 0 s52.2) r22 r57 (X5_hasBit_ok _ _ )) rfl ck_5_136 rfl rfl (by decide) (Nat.le_of_ble_eq_true rfl) dX5_pourFewest_106 rfl (fun v g' hq => ?_)
        obtain ⟨x, rfl, r60, eg, hx⟩ := hq
        subst hx
        refine J_eq eg ?_
        show J X 109 [(0, .ref (xad X (4, 0, 0))), (1, iv v_t), (2, iv x10), (3, iv s16.1), (4, iv s16.2.1), (5, iv z26), (6, iv s52.1)] [iv (X5_hasBit_v s16.2.1 s52.1)] (gs g0 4 0 s52.2)
        refine jr_if_eq (pc := 109) (tgt := 118) F (rg_z r60) dX5_pourFewest_109 (by decide) (fun h61 => ?_) (fun h61 => ?_)
        · have k := Ok_f (fun q => q h61) k
          refine jr_iinc (pc := 118) F [(6, iv (w32 (s52.1 + 1))), (0, .ref (xad X (4, 0, 0))), (1, iv v_t), (2, iv x10), (3, iv s16.1), (4, iv s16.2.1), (5, iv z26)] 6 dX5_pourFewest_118 rfl (by decide) rfl ?_
          refine jr_goto (pc := 121) (tgt := 93) F dX5_pourFewest_121 (by decide) ?_
          refine jr_sub F [1, 2, 3, 4, 5, 6, 0] [(0, .ref (xad X (4, 0, 0))), (1, iv v_t), (2, iv x10), (3, iv s16.1), (4, iv s16.2.1), (5, iv z26), (6, iv (w32 (s52.1 + 1)))] rfl ?_
          exact hC54 (w32 (s52.1 + 1), s52.2) (Ok_some k) (rg_w _)
        have k := Ok_t h61 k
        refine jr_aload_n (pc := 112) F 0 dX5_pourFewest_112 rfl rfl ?_
        refine jr_iload (pc := 113) F 6 dX5_pourFewest_113 rfl ?_
        have k := Ok_bind k
        refine jr_callV (pc := 115) (st := []) F [iv s52.1] (snd_X5_pour  (g0 := g0) r57 k) rfl ck_5_258 rfl m4_0 rfl rfl rfl (by decide) (Nat.le_of_ble_eq_true rfl) dX5_pourFewest_115 rfl (fun v g' hq => ?_)
        obtain ⟨z63, rfl, eg, k⟩ := hq
        refine J_eq eg ?_
        show J X 118 [(0, .ref (xad X (4, 0, 0))), (1, iv v_t), (2, iv x10), (3, iv s16.1), (4, iv s16.2.1), (5, iv z26), (6, iv s52.1)] [] (gs g0 4 0 z63)
        refine jr_iinc (pc := 118) F [(6, iv (w32 (s52.1 + 1))), (0, .ref (xad X (4, 0, 0))), (1, iv v_t), (2, iv x10), (3, iv s16.1), (4, iv s16.2.1), (5, iv z26)] 6 dX5_pourFewest_118 rfl (by decide) rfl ?_
        refine jr_goto (pc := 121) (tgt := 93) F dX5_pourFewest_121 (by decide) ?_
        refine jr_sub F [1, 2, 3, 4, 5, 6, 0] [(0, .ref (xad X (4, 0, 0))), (1, iv v_t), (2, iv x10), (3, iv s16.1), (4, iv s16.2.1), (5, iv z26), (6, iv (w32 (s52.1 + 1)))] rfl ?_
        exact hC54 (w32 (s52.1 + 1), z63) (Ok_some k) (rg_w _)
      intro r64
      refine jn (P := fun v : Int × LT => Rg (v.1) → J X 140 [(0, .ref (xad X (4, 0, 0))), (1, iv v_t), (2, iv x10), (3, iv s16.1), (4, iv s16.2.1), (5, iv z26), (6, iv z56.1)] (iv (v.1) :: []) (gs g0 4 0 v.2)) k (fun Q66 k hJ67 => ?_) (fun z65 k r71 => ?_)
      · refine jr_aload_n (pc := 124) F 0 dX5_pourFewest_124 rfl rfl ?_
        refine jr_iload_n (pc := 125) F 1 dX5_pourFewest_125 rfl rfl ?_
        have k := Ok_bind k
        refine jr_callV (pc := 126) (st := []) F [iv v_t] (snd_X5_throughIn  (g0 := g0) rgp_t k) rfl ck_5_252 rfl m4_0 rfl rfl rfl (by decide) (Nat.le_of_ble_eq_true rfl) dX5_pourFewest_126 rfl (fun v g' hq => ?_)
        obtain ⟨x, L', rfl, r68, eg, k⟩ := hq
        obtain ⟨z69, ez⟩ : ∃ z : Int × LT, z = (x, L') := ⟨_, rfl⟩
        obtain ⟨rfl, rfl⟩ : x = z69.1 ∧ L' = z69.2 := ⟨by rw [ez], by rw [ez]⟩
        clear ez
        refine J_eq eg ?_
        show J X 129 [(0, .ref (xad X (4, 0, 0))), (1, iv v_t), (2, iv x10), (3, iv s16.1), (4, iv s16.2.1), (5, iv z26), (6, iv z56.1)] [iv z69.1] (gs g0 4 0 z69.2)
        refine jr_bipush (pc := 129) F dX5_pourFewest_129 (by decide) ?_
        refine jr_icmp_ge (pc := 131) (tgt := 139) F r68 (show Rg 99 from ⟨by decide, by decide⟩) dX5_pourFewest_131 (by decide) (fun h70 => ?_) (fun h70 => ?_)
        · have k := Ok_f (ng_lt h70) k
          refine jr_iload_n (pc := 139) F 3 dX5_pourFewest_139 rfl rfl ?_
          exact hJ67 (s16.1, z69.2) (Ok_some k) r21
        have k := Ok_t h70 k
        refine jr_iload (pc := 134) F 4 dX5_pourFewest_134 rfl ?_
        refine jr_goto (pc := 136) (tgt := 140) F dX5_pourFewest_136 (by decide) ?_
        exact hJ67 (s16.2.1, z69.2) (Ok_some k) r22
      refine jr_istore_n (pc := 140) F [(3, iv z65.1), (0, .ref (xad X (4, 0, 0))), (1, iv v_t), (2, iv x10), (4, iv s16.2.1), (5, iv z26), (6, iv z56.1)] dX5_pourFewest_140 rfl (by decide) rfl ?_
      refine jr_iinc (pc := 141) F [(4, iv (w32 (s16.2.1 + 1))), (3, iv z65.1), (0, .ref (xad X (4, 0, 0))), (1, iv v_t), (2, iv x10), (5, iv z26), (6, iv z56.1)] 4 dX5_pourFewest_141 rfl (by decide) rfl ?_
      refine jr_goto (pc := 144) (tgt := 53) F dX5_pourFewest_144 (by decide) ?_
      refine jr_sub F [2, 3, 4, 1, 0] [(0, .ref (xad X (4, 0, 0))), (1, iv v_t), (2, iv x10), (3, iv z65.1), (4, iv (w32 (s16.2.1 + 1)))] rfl ?_
      exact hC18 (z65.1, w32 (s16.2.1 + 1), z65.2) (Ok_some k) r71 (rg_w _)
    intro r72 r73
    refine jr_iload_n (pc := 147) F 3 dX5_pourFewest_147 rfl rfl ?_
    exact jr_iret (pc := 148) F hQ rfl dX5_pourFewest_148 ⟨_, _, rfl, r72, rfl, (Ok_some k)⟩
  have k := Ok_t h13 k
  refine jr_aload_n (pc := 37) F 1 dX5_pourFewest_37 rfl rfl ?_
  refine jr_iload_n (pc := 38) F 0 dX5_pourFewest_38 rfl rfl ?_
  have k := Ok_bind k
  refine jr_callV (pc := 39) (st := []) F [iv x10] (snd_X5_refuse  (g0 := g0) r12 k) rfl ck_5_139 rfl m4_0 rfl rfl rfl (by decide) (Nat.le_of_ble_eq_true rfl) dX5_pourFewest_39 rfl (fun v g' hq => ?_)
  obtain ⟨x, L', rfl, r74, eg, k⟩ := hq
  obtain ⟨z75, ez⟩ : ∃ z : Int × LT, z = (x, L') := ⟨_, rfl⟩
  obtain ⟨rfl, rfl⟩ : x = z75.1 ∧ L' = z75.2 := ⟨by rw [ez], by rw [ez]⟩
  clear ez
  refine J_eq eg ?_
  show J X 42 [(2, iv x10), (0, .ref (xad X (4, 0, 0))), (1, iv v_t)] [iv z75.1] (gs g0 4 0 z75.2)
  exact jr_iret (pc := 42) F hQ rfl dX5_pourFewest_42 ⟨_, _, rfl, r74, rfl, (Ok_some k)⟩
set_option maxHeartbeats 4000000 in
set_option maxRecDepth 100000 in
theorem snd_X5_pourFirst {L0 : LT} {g0 : GG}  {Q : (Int × LT) → Prop} (k : Ok (X5_pourFirst L0) Q) : MetG SL yX5_pourFirst cX5_pourFirst 5 (some .int) 6 (fun ad => [.ref (ad (4, 0, 0))]) (gs g0 4 0 L0) (fun v g' => ∃ (x : Int) (L' : LT), v = some (iv x) ∧ Rg x ∧ g' = gs g0 4 0 L' ∧ Q (x, L')) := by
  refine met_intro SL_ok (by decide +kernel) (fun ad => Nat.le_of_ble_eq_true rfl) (fun X F hQ hR => ?_)
  replace F : FX X cX5_pourFirst RX5 5 (some .int) SL 6 := F
  show J X 0 [(0, .ref (xad X (4, 0, 0)))] [] (gs g0 4 0 L0)
  refine jr_aload_n (pc := 0) F 0 dX5_pourFirst_0 rfl rfl ?_
  refine jr_iconst (pc := 1) F dX5_pourFirst_1 ?_
  obtain ⟨L1, e2, k⟩ := Ok_let k
  refine jr_putI (pc := 2) F (gs g0 4 0 L1) fw_5_92 m4_0 rfl (show Rg 0 from ⟨by decide, by decide⟩) (put1 e2) dX5_pourFirst_2 ?_
  refine jr_aload_n (pc := 5) F 0 dX5_pourFirst_5 rfl rfl ?_
  have k := Ok_bind k
  refine jr_callV (pc := 6) (st := []) F [] (snd_X5_open  (g0 := g0)  k) rfl ck_5_203 rfl m4_0 rfl rfl rfl (by decide) (Nat.le_of_ble_eq_true rfl) dX5_pourFirst_6 rfl (fun v g' hq => ?_)
  obtain ⟨z4, rfl, eg, k⟩ := hq
  refine J_eq eg ?_
  show J X 9 [(0, .ref (xad X (4, 0, 0)))] [] (gs g0 4 0 z4)
  refine jr_aload_n (pc := 9) F 0 dX5_pourFirst_9 rfl rfl ?_
  have k := Ok_bind k
  refine jr_callV (pc := 10) (st := []) F [] (snd_X5_throughBy72  (g0 := g0)  k) rfl ck_5_255 rfl m4_0 rfl rfl rfl (by decide) (Nat.le_of_ble_eq_true rfl) dX5_pourFirst_10 rfl (fun v g' hq => ?_)
  obtain ⟨x, L', rfl, r5, eg, k⟩ := hq
  obtain ⟨z6, ez⟩ : ∃ z : Int × LT, z = (x, L') := ⟨_, rfl⟩
  obtain ⟨rfl, rfl⟩ : x = z6.1 ∧ L' = z6.2 := ⟨by rw [ez], by rw [ez]⟩
  clear ez
  refine J_eq eg ?_
  show J X 13 [(0, .ref (xad X (4, 0, 0)))] [iv z6.1] (gs g0 4 0 z6.2)
  refine jr_istore_n (pc := 13) F [(1, iv z6.1), (0, .ref (xad X (4, 0, 0)))] dX5_pourFirst_13 rfl (by decide) rfl ?_
  refine jr_bipush (pc := 14) F dX5_pourFirst_14 (by decide) ?_
  refine jr_istore_n (pc := 16) F [(2, iv (-9)), (1, iv z6.1), (0, .ref (xad X (4, 0, 0)))] dX5_pourFirst_16 rfl (by decide) rfl ?_
  refine jr_iconst (pc := 17) F dX5_pourFirst_17 ?_
  refine jr_istore_n (pc := 18) F [(3, iv 0), (2, iv (-9)), (1, iv z6.1), (0, .ref (xad X (4, 0, 0)))] dX5_pourFirst_18 rfl (by decide) rfl ?_
  refine jr_sub F [3, 2, 1, 0] [(0, .ref (xad X (4, 0, 0))), (1, iv z6.1), (2, iv (-9)), (3, iv 0)] rfl ?_
  refine lpj (P := fun s : Int × Int × Int × LT => Rg (s.1) → Rg (s.2.1) → Rg (s.2.2.1) → J X 19 [(0, .ref (xad X (4, 0, 0))), (1, iv s.1), (2, iv s.2.1), (3, iv s.2.2.1)] [] (gs g0 4 0 s.2.2.2)) (PE := fun r : Int × Int × Int × LT => Rg (r.1) → Rg (r.2.1) → Rg (r.2.2.1) → J X 69 [(0, .ref (xad X (4, 0, 0))), (1, iv r.1), (2, iv r.2.1), (3, iv r.2.2.1)] [] (gs g0 4 0 r.2.2.2)) k (fun s7 Q8 k hC9 hE10 r12 r13 r14 => ?_) (fun z11 k => ?_) (fun h => h r5 (show Rg (-9) from ⟨by decide, by decide⟩) (show Rg 0 from ⟨by decide, by decide⟩))
  · refine jr_iload_n (pc := 19) F 3 dX5_pourFirst_19 rfl rfl ?_
    refine jr_aload_n (pc := 20) F 0 dX5_pourFirst_20 rfl rfl ?_
    refine jr_getI (pc := 21) F (s7.2.2.2 0 0) f_5_7 m4_0 rfl (gs_at' _ _ _ _ _ _) dX5_pourFirst_21 (fun r15 => ?_)
    refine jr_icmp_ge (pc := 24) (tgt := 69) F r14 r15 dX5_pourFirst_24 (by decide) (fun h16 => ?_) (fun h16 => ?_)
    · have k := Ok_f (ng_lt h16) k
      exact hE10 (s7.1, s7.2.1, s7.2.2.1, s7.2.2.2) (Ok_some k) r12 r13 r14
    have k := Ok_t h16 k
    refine jr_aload_n (pc := 27) F 0 dX5_pourFirst_27 rfl rfl ?_
    refine jr_iload_n (pc := 28) F 3 dX5_pourFirst_28 rfl rfl ?_
    have k := Ok_bind k
    refine jr_callV (pc := 29) (st := []) F [iv s7.2.2.1] (snd_X5_pour  (g0 := g0) r14 k) rfl ck_5_258 rfl m4_0 rfl rfl rfl (by decide) (Nat.le_of_ble_eq_true rfl) dX5_pourFirst_29 rfl (fun v g' hq => ?_)
    obtain ⟨z18, rfl, eg, k⟩ := hq
    refine J_eq eg ?_
    show J X 32 [(0, .ref (xad X (4, 0, 0))), (1, iv s7.1), (2, iv s7.2.1), (3, iv s7.2.2.1)] [] (gs g0 4 0 z18)
    refine jr_aload_n (pc := 32) F 0 dX5_pourFirst_32 rfl rfl ?_
    have k := Ok_bind k
    refine jr_callV (pc := 33) (st := []) F [] (snd_X5_throughBy72  (g0 := g0)  k) rfl ck_5_255 rfl m4_0 rfl rfl rfl (by decide) (Nat.le_of_ble_eq_true rfl) dX5_pourFirst_33 rfl (fun v g' hq => ?_)
    obtain ⟨x, L', rfl, r19, eg, k⟩ := hq
    obtain ⟨z20, ez⟩ : ∃ z : Int × LT, z = (x, L') := ⟨_, rfl⟩
    obtain ⟨rfl, rfl⟩ : x = z20.1 ∧ L' = z20.2 := ⟨by rw [ez], by rw [ez]⟩
    clear ez
    refine J_eq eg ?_
    show J X 36 [(0, .ref (xad X (4, 0, 0))), (1, iv s7.1), (2, iv s7.2.1), (3, iv s7.2.2.1)] [iv z20.1] (gs g0 4 0 z20.2)
    refine jr_istore (pc := 36) F [(4, iv z20.1), (0, .ref (xad X (4, 0, 0))), (1, iv s7.1), (2, iv s7.2.1), (3, iv s7.2.2.1)] dX5_pourFirst_36 (by decide) rfl ?_
    refine jifP (P := fun v => Rg v → J X 49 [(4, iv z20.1), (0, .ref (xad X (4, 0, 0))), (1, iv s7.1), (2, iv s7.2.1), (3, iv s7.2.2.1)] (iv v :: []) (gs g0 4 0 z20.2)) (c := s7.1 < z20.1) (s7.2.2.1) (s7.2.1) (fun Ht Hf => ?_) (fun r22 => ?_)
    · refine jr_iload (pc := 38) F 0 dX5_pourFirst_38 rfl ?_
      refine jr_iload_n (pc := 40) F 2 dX5_pourFirst_40 rfl rfl ?_
      refine jr_icmp_le (pc := 41) (tgt := 48) F r19 r12 dX5_pourFirst_41 (by decide) (fun h21 => ?_) (fun h21 => ?_)
      · refine jr_iload_n (pc := 48) F 3 dX5_pourFirst_48 rfl rfl ?_
        exact Hf (ng_lt h21) r13
      refine jr_iload_n (pc := 44) F 4 dX5_pourFirst_44 rfl rfl ?_
      refine jr_goto (pc := 45) (tgt := 49) F dX5_pourFirst_45 (by decide) ?_
      exact Ht h21 r14
    obtain ⟨x23, e24, k⟩ := Ok_let k
    have r25 : Rg x23 := rg_of e24 r22
    refine jr_top e24 ?_
    refine jr_istore_n (pc := 49) F [(2, iv x23), (4, iv z20.1), (0, .ref (xad X (4, 0, 0))), (1, iv s7.1), (3, iv s7.2.2.1)] dX5_pourFirst_49 rfl (by decide) rfl ?_
    refine jifP (P := fun v => Rg v → J X 62 [(2, iv x23), (4, iv z20.1), (0, .ref (xad X (4, 0, 0))), (1, iv s7.1), (3, iv s7.2.2.1)] (iv v :: []) (gs g0 4 0 z20.2)) (c := s7.1 < z20.1) (z20.1) (s7.1) (fun Ht Hf => ?_) (fun r27 => ?_)
    · refine jr_iload (pc := 50) F 1 dX5_pourFirst_50 rfl ?_
      refine jr_iload_n (pc := 52) F 3 dX5_pourFirst_52 rfl rfl ?_
      refine jr_icmp_le (pc := 53) (tgt := 61) F r19 r12 dX5_pourFirst_53 (by decide) (fun h26 => ?_) (fun h26 => ?_)
      · refine jr_iload_n (pc := 61) F 3 dX5_pourFirst_61 rfl rfl ?_
        exact Hf (ng_lt h26) r12
      refine jr_iload (pc := 56) F 1 dX5_pourFirst_56 rfl ?_
      refine jr_goto (pc := 58) (tgt := 62) F dX5_pourFirst_58 (by decide) ?_
      exact Ht h26 r19
    obtain ⟨x28, e29, k⟩ := Ok_let k
    have r30 : Rg x28 := rg_of e29 r27
    refine jr_top e29 ?_
    refine jr_istore_n (pc := 62) F [(1, iv x28), (2, iv x23), (4, iv z20.1), (0, .ref (xad X (4, 0, 0))), (3, iv s7.2.2.1)] dX5_pourFirst_62 rfl (by decide) rfl ?_
    refine jr_iinc (pc := 63) F [(3, iv (w32 (s7.2.2.1 + 1))), (1, iv x28), (2, iv x23), (4, iv z20.1), (0, .ref (xad X (4, 0, 0)))] 4 dX5_pourFirst_63 rfl (by decide) rfl ?_
    refine jr_goto (pc := 66) (tgt := 19) F dX5_pourFirst_66 (by decide) ?_
    refine jr_sub F [4, 1, 2, 0] [(0, .ref (xad X (4, 0, 0))), (1, iv x28), (2, iv x23), (3, iv (w32 (s7.2.2.1 + 1)))] rfl ?_
    exact hC9 (x28, x23, w32 (s7.2.2.1 + 1), z20.2) (Ok_some k) r30 r25 (rg_w _)
  intro r31 r32 r33
  refine jr_iload_n (pc := 69) F 2 dX5_pourFirst_69 rfl rfl ?_
  exact jr_iret (pc := 70) F hQ rfl dX5_pourFirst_70 ⟨_, _, rfl, r32, rfl, (Ok_some k)⟩
set_option maxHeartbeats 4000000 in
set_option maxRecDepth 100000 in
theorem snd_X5_rescue {L0 : LT} {v_t : Int} {g0 : GG} (rgp_t : Rg v_t) {Q : (Int × LT) → Prop} (k : Ok (X5_rescue L0 v_t) Q) : MetG SL yX5_rescue cX5_rescue 3 (some .int) 2 (fun ad => [.ref (ad (4, 0, 0)), iv v_t]) (gs g0 4 0 L0) (fun v g' => ∃ (x : Int) (L' : LT), v = some (iv x) ∧ Rg x ∧ g' = gs g0 4 0 L' ∧ Q (x, L')) := by
  refine met_intro SL_ok (by decide +kernel) (fun ad => Nat.le_of_ble_eq_true rfl) (fun X F hQ hR => ?_)
  replace F : FX X cX5_rescue RX5 3 (some .int) SL 2 := F
  show J X 0 [(0, .ref (xad X (4, 0, 0))), (1, iv v_t)] [] (gs g0 4 0 L0)
  refine jr_aload_n (pc := 0) F 0 dX5_rescue_0 rfl rfl ?_
  refine jr_iconst (pc := 1) F dX5_rescue_1 ?_
  obtain ⟨L1, e2, k⟩ := Ok_let k
  refine jr_putI (pc := 2) F (gs g0 4 0 L1) fw_5_92 m4_0 rfl (show Rg 0 from ⟨by decide, by decide⟩) (put1 e2) dX5_rescue_2 ?_
  obtain ⟨c3, k⟩ := Ok_grd k
  obtain ⟨c4, k⟩ := Ok_grd k
  refine jifP (P := fun v => Rg v → J X 42 [(0, .ref (xad X (4, 0, 0))), (1, iv v_t)] (iv v :: []) (gs g0 4 0 L1)) (c := (X5_isTrain_v L1 v_t) = 0) ((-1)) (if ((L1 12 v_t) < 0) ∨ ((L1 14 v_t) = 1) then (-3) else 0) (fun Ht Hf => ?_) (fun r12 => ?_)
  · refine jr_aload_n (pc := 5) F 0 dX5_rescue_5 rfl rfl ?_
    refine jr_iload_n (pc := 6) F 1 dX5_rescue_6 rfl rfl ?_
    refine jr_callV (pc := 7) (st := []) F [iv v_t] (snd_X5_isTrain  (g0 := g0) rgp_t (X5_isTrain_ok _ _ )) rfl ck_5_192 rfl m4_0 rfl rfl rfl (by decide) (Nat.le_of_ble_eq_true rfl) dX5_rescue_7 rfl (fun v g' hq => ?_)
    obtain ⟨x, rfl, r5, eg, hx⟩ := hq
    subst hx
    refine J_eq eg ?_
    show J X 10 [(0, .ref (xad X (4, 0, 0))), (1, iv v_t)] [iv (X5_isTrain_v L1 v_t)] (gs g0 4 0 L1)
    refine jr_if_ne (pc := 10) (tgt := 17) F (rg_z r5) dX5_rescue_10 (by decide) (fun h6 => ?_) (fun h6 => ?_)
    · refine jifP (P := fun v => Rg v → J X 42 [(0, .ref (xad X (4, 0, 0))), (1, iv v_t)] (iv v :: []) (gs g0 4 0 L1)) (c := ((L1 12 v_t) < 0) ∨ ((L1 14 v_t) = 1)) ((-3)) (0) (fun Ht Hf => ?_) (fun r11 => ?_)
      · refine jr_aload_n (pc := 17) F 0 dX5_rescue_17 rfl rfl ?_
        refine jr_getR (pc := 18) (b := (4, 0, 12)) F f_5_38 m4_0 rfl dX5_rescue_18 ?_
        refine jr_iload_n (pc := 21) F 1 dX5_rescue_21 rfl rfl ?_
        refine jr_iald (pc := 22) F (L1 12 v_t) m4_12 (by decide) (c3 h6) (gs_at' _ _ _ _ _ _) dX5_rescue_22 (fun r7 => ?_)
        refine jr_if_lt (pc := 23) (tgt := 36) F r7 dX5_rescue_23 (by decide) (fun h8 => ?_) (fun h8 => ?_)
        · refine jr_bipush (pc := 36) F dX5_rescue_36 (by decide) ?_
          refine jr_goto (pc := 38) (tgt := 42) F dX5_rescue_38 (by decide) ?_
          exact Ht (Or.inl h8) (show Rg (-3) from ⟨by decide, by decide⟩)
        refine jr_aload_n (pc := 26) F 0 dX5_rescue_26 rfl rfl ?_
        refine jr_getR (pc := 27) (b := (4, 0, 14)) F f_5_44 m4_0 rfl dX5_rescue_27 ?_
        refine jr_iload_n (pc := 30) F 1 dX5_rescue_30 rfl rfl ?_
        refine jr_iald (pc := 31) F (L1 14 v_t) m4_14 (by decide) (c4 h6 (ng_lt h8)) (gs_at' _ _ _ _ _ _) dX5_rescue_31 (fun r9 => ?_)
        refine jr_iconst (pc := 32) F dX5_rescue_32 ?_
        refine jr_icmp_ne (pc := 33) (tgt := 41) F r9 (show Rg 1 from ⟨by decide, by decide⟩) dX5_rescue_33 (by decide) (fun h10 => ?_) (fun h10 => ?_)
        · refine jr_iconst (pc := 41) F dX5_rescue_41 ?_
          exact Hf (fun q => q.elim (ng_lt h8) h10) (show Rg 0 from ⟨by decide, by decide⟩)
        refine jr_bipush (pc := 36) F dX5_rescue_36 (by decide) ?_
        refine jr_goto (pc := 38) (tgt := 42) F dX5_rescue_38 (by decide) ?_
        exact Ht (Or.inr h10) (show Rg (-3) from ⟨by decide, by decide⟩)
      exact Hf h6 r11
    refine jr_iconst (pc := 13) F dX5_rescue_13 ?_
    refine jr_goto (pc := 14) (tgt := 42) F dX5_rescue_14 (by decide) ?_
    exact Ht h6 (show Rg (-1) from ⟨by decide, by decide⟩)
  obtain ⟨x13, e14, k⟩ := Ok_let k
  have r15 : Rg x13 := rg_of e14 r12
  refine jr_top e14 ?_
  refine jr_istore_n (pc := 42) F [(2, iv x13), (0, .ref (xad X (4, 0, 0))), (1, iv v_t)] dX5_rescue_42 rfl (by decide) rfl ?_
  refine jr_iload_n (pc := 43) F 0 dX5_rescue_43 rfl rfl ?_
  refine jr_if_ge (pc := 44) (tgt := 55) F r15 dX5_rescue_44 (by decide) (fun h16 => ?_) (fun h16 => ?_)
  · have k := Ok_f (ng_lt h16) k
    refine jr_aload_n (pc := 55) F 1 dX5_rescue_55 rfl rfl ?_
    refine jr_aload_n (pc := 56) F 1 dX5_rescue_56 rfl rfl ?_
    refine jr_getR (pc := 57) (b := (4, 0, 12)) F f_5_38 m4_0 rfl dX5_rescue_57 ?_
    refine jr_iload_n (pc := 60) F 2 dX5_rescue_60 rfl rfl ?_
    obtain ⟨c17, k⟩ := Ok_grd k
    refine jr_iald (pc := 61) F (L1 12 v_t) m4_12 (by decide) c17 (gs_at' _ _ _ _ _ _) dX5_rescue_61 (fun r18 => ?_)
    have k := Ok_bind k
    refine jr_callV (pc := 62) (st := []) F [iv (L1 12 v_t)] (snd_X5_haltNear  (g0 := g0) r18 k) rfl ck_5_282 rfl m4_0 rfl rfl rfl (by decide) (Nat.le_of_ble_eq_true rfl) dX5_rescue_62 rfl (fun v g' hq => ?_)
    obtain ⟨z20, rfl, r19, eg, k⟩ := hq
    refine J_eq eg ?_
    show J X 65 [(2, iv x13), (0, .ref (xad X (4, 0, 0))), (1, iv v_t)] [iv z20] (gs g0 4 0 L1)
    exact jr_iret (pc := 65) F hQ rfl dX5_rescue_65 ⟨_, _, rfl, r19, rfl, (Ok_some k)⟩
  have k := Ok_t h16 k
  refine jr_aload_n (pc := 47) F 1 dX5_rescue_47 rfl rfl ?_
  refine jr_iload_n (pc := 48) F 0 dX5_rescue_48 rfl rfl ?_
  have k := Ok_bind k
  refine jr_callV (pc := 49) (st := []) F [iv x13] (snd_X5_refuse  (g0 := g0) r15 k) rfl ck_5_139 rfl m4_0 rfl rfl rfl (by decide) (Nat.le_of_ble_eq_true rfl) dX5_rescue_49 rfl (fun v g' hq => ?_)
  obtain ⟨x, L', rfl, r21, eg, k⟩ := hq
  obtain ⟨z22, ez⟩ : ∃ z : Int × LT, z = (x, L') := ⟨_, rfl⟩
  obtain ⟨rfl, rfl⟩ : x = z22.1 ∧ L' = z22.2 := ⟨by rw [ez], by rw [ez]⟩
  clear ez
  refine J_eq eg ?_
  show J X 52 [(2, iv x13), (0, .ref (xad X (4, 0, 0))), (1, iv v_t)] [iv z22.1] (gs g0 4 0 z22.2)
  refine jr_goto (pc := 52) (tgt := 65) F dX5_rescue_52 (by decide) ?_
  exact jr_iret (pc := 65) F hQ rfl dX5_rescue_65 ⟨_, _, rfl, r21, rfl, (Ok_some k)⟩
set_option maxHeartbeats 4000000 in
set_option maxRecDepth 100000 in
theorem snd_X5_restore {L0 : LT} {g0 : GG}  {Q : (Int × LT) → Prop} (k : Ok (X5_restore L0) Q) : MetG SL yX5_restore cX5_restore 1 (some .int) 2 (fun ad => [.ref (ad (4, 0, 0))]) (gs g0 4 0 L0) (fun v g' => ∃ (x : Int) (L' : LT), v = some (iv x) ∧ Rg x ∧ g' = gs g0 4 0 L' ∧ Q (x, L')) := by
  refine met_intro SL_ok (by decide +kernel) (fun ad => Nat.le_of_ble_eq_true rfl) (fun X F hQ hR => ?_)
  replace F : FX X cX5_restore RX5 1 (some .int) SL 2 := F
  show J X 0 [(0, .ref (xad X (4, 0, 0)))] [] (gs g0 4 0 L0)
  refine jr_aload_n (pc := 0) F 0 dX5_restore_0 rfl rfl ?_
  refine jr_iconst (pc := 1) F dX5_restore_1 ?_
  obtain ⟨L1, e2, k⟩ := Ok_let k
  refine jr_putI (pc := 2) F (gs g0 4 0 L1) fw_5_92 m4_0 rfl (show Rg 0 from ⟨by decide, by decide⟩) (put1 e2) dX5_restore_2 ?_
  refine cnd (c := (L1 0 28) = 0) (GT := J X 12 [(0, .ref (xad X (4, 0, 0)))] [] (gs g0 4 0 L1)) (GF := J X 19 [(0, .ref (xad X (4, 0, 0)))] [] (gs g0 4 0 L1)) k (fun HT HF => ?_) (fun h5 k => ?_) (fun h5 k => ?_)
  · refine jr_aload_n (pc := 5) F 0 dX5_restore_5 rfl rfl ?_
    refine jr_getI (pc := 6) F (L1 0 28) f_5_231 m4_0 rfl (gs_at' _ _ _ _ _ _) dX5_restore_6 (fun r3 => ?_)
    refine jr_if_ne (pc := 9) (tgt := 19) F r3 dX5_restore_9 (by decide) (fun h4 => ?_) (fun h4 => ?_)
    · exact HF h4
    exact HT h4
  · refine jr_aload_n (pc := 12) F 0 dX5_restore_12 rfl rfl ?_
    refine jr_bipush (pc := 13) F dX5_restore_13 (by decide) ?_
    have k := Ok_bind k
    refine jr_callV (pc := 15) (st := []) F [iv (-3)] (snd_X5_refuse  (g0 := g0) (show Rg (-3) from ⟨by decide, by decide⟩) k) rfl ck_5_139 rfl m4_0 rfl rfl rfl (by decide) (Nat.le_of_ble_eq_true rfl) dX5_restore_15 rfl (fun v g' hq => ?_)
    obtain ⟨x, L', rfl, r6, eg, k⟩ := hq
    obtain ⟨z7, ez⟩ : ∃ z : Int × LT, z = (x, L') := ⟨_, rfl⟩
    obtain ⟨rfl, rfl⟩ : x = z7.1 ∧ L' = z7.2 := ⟨by rw [ez], by rw [ez]⟩
    clear ez
    refine J_eq eg ?_
    show J X 18 [(0, .ref (xad X (4, 0, 0)))] [iv z7.1] (gs g0 4 0 z7.2)
    exact jr_iret (pc := 18) F hQ rfl dX5_restore_18 ⟨_, _, rfl, r6, rfl, (Ok_some k)⟩
  refine jr_aload_n (pc := 19) F 0 dX5_restore_19 rfl rfl ?_
  refine jr_aload_n (pc := 20) F 0 dX5_restore_20 rfl rfl ?_
  refine jr_getR (pc := 21) (b := (4, 0, 28)) F f_5_71 m4_0 rfl dX5_restore_21 ?_
  refine jr_iconst (pc := 24) F dX5_restore_24 ?_
  have k := Ok_bind k
  refine jr_callV (pc := 25) (st := []) F [.ref (xad X (4, 0, 28)), iv 0] (snd_X5_carryAll  (g0 := g0) (show Rg 0 from ⟨by decide, by decide⟩) k) rfl ck_5_227 rfl m4_0 rfl rfl rfl (by decide) (Nat.le_of_ble_eq_true rfl) dX5_restore_25 rfl (fun v g' hq => ?_)
  obtain ⟨z9, rfl, eg, k⟩ := hq
  refine J_eq eg ?_
  show J X 28 [(0, .ref (xad X (4, 0, 0)))] [] (gs g0 4 0 z9)
  refine jr_aload_n (pc := 28) F 0 dX5_restore_28 rfl rfl ?_
  refine jr_iconst (pc := 29) F dX5_restore_29 ?_
  obtain ⟨L10, e11, k⟩ := Ok_let k
  refine jr_putI (pc := 30) F (gs g0 4 0 L10) fw_5_212 m4_0 rfl (show Rg 0 from ⟨by decide, by decide⟩) (put1 e11) dX5_restore_30 ?_
  refine jr_aload_n (pc := 33) F 0 dX5_restore_33 rfl rfl ?_
  refine jr_getI (pc := 34) F (L10 0 4) f_5_120 m4_0 rfl (gs_at' _ _ _ _ _ _) dX5_restore_34 (fun r12 => ?_)
  exact jr_iret (pc := 37) F hQ rfl dX5_restore_37 ⟨_, _, rfl, r12, rfl, (Ok_some k)⟩
set_option maxHeartbeats 4000000 in
set_option maxRecDepth 100000 in
theorem snd_X5_row {L0 : LT} {v_v : Int} {g0 : GG} (rgp_v : Rg v_v) {Q : (Int × LT) → Prop} (k : Ok (X5_row L0 v_v) Q) : MetG SL yX5_row cX5_row 2 (some .int) 1 (fun ad => [.ref (ad (4, 0, 0)), iv v_v]) (gs g0 4 0 L0) (fun v g' => ∃ (x : Int) (L' : LT), v = some (iv x) ∧ Rg x ∧ g' = gs g0 4 0 L' ∧ Q (x, L')) := by
  refine met_intro SL_ok (by decide +kernel) (fun ad => Nat.le_of_ble_eq_true rfl) (fun X F hQ hR => ?_)
  replace F : FX X cX5_row RX5 2 (some .int) SL 1 := F
  show J X 0 [(0, .ref (xad X (4, 0, 0))), (1, iv v_v)] [] (gs g0 4 0 L0)
  refine jr_aload_n (pc := 0) F 0 dX5_row_0 rfl rfl ?_
  refine jr_iconst (pc := 1) F dX5_row_1 ?_
  obtain ⟨L1, e2, k⟩ := Ok_let k
  refine jr_putI (pc := 2) F (gs g0 4 0 L1) fw_5_92 m4_0 rfl (show Rg 0 from ⟨by decide, by decide⟩) (put1 e2) dX5_row_2 ?_
  refine jr_iload_n (pc := 5) F 1 dX5_row_5 rfl rfl ?_
  refine jr_if_ge (pc := 6) (tgt := 16) F rgp_v dX5_row_6 (by decide) (fun h3 => ?_) (fun h3 => ?_)
  · have k := Ok_f (ng_lt h3) k
    refine cnd (c := (99 < v_v) ∨ ((L1 0 39) = 16)) (GT := J X 31 [(0, .ref (xad X (4, 0, 0))), (1, iv v_v)] [] (gs g0 4 0 L1)) (GF := J X 38 [(0, .ref (xad X (4, 0, 0))), (1, iv v_v)] [] (gs g0 4 0 L1)) k (fun HT HF => ?_) (fun h7 k => ?_) (fun h7 k => ?_)
    · refine jr_iload_n (pc := 16) F 1 dX5_row_16 rfl rfl ?_
      refine jr_bipush (pc := 17) F dX5_row_17 (by decide) ?_
      refine jr_icmp_gt (pc := 19) (tgt := 31) F rgp_v (show Rg 99 from ⟨by decide, by decide⟩) dX5_row_19 (by decide) (fun h4 => ?_) (fun h4 => ?_)
      · exact HT (Or.inl h4)
      refine jr_aload_n (pc := 22) F 0 dX5_row_22 rfl rfl ?_
      refine jr_getI (pc := 23) F (L1 0 39) f_5_276 m4_0 rfl (gs_at' _ _ _ _ _ _) dX5_row_23 (fun r5 => ?_)
      refine jr_bipush (pc := 26) F dX5_row_26 (by decide) ?_
      refine jr_icmp_ne (pc := 28) (tgt := 38) F r5 (show Rg 16 from ⟨by decide, by decide⟩) dX5_row_28 (by decide) (fun h6 => ?_) (fun h6 => ?_)
      · exact HF (fun q => q.elim (ng_lt h4) h6)
      exact HT (Or.inr h6)
    · refine jr_aload_n (pc := 31) F 0 dX5_row_31 rfl rfl ?_
      refine jr_bipush (pc := 32) F dX5_row_32 (by decide) ?_
      have k := Ok_bind k
      refine jr_callV (pc := 34) (st := []) F [iv (-6)] (snd_X5_refuse  (g0 := g0) (show Rg (-6) from ⟨by decide, by decide⟩) k) rfl ck_5_139 rfl m4_0 rfl rfl rfl (by decide) (Nat.le_of_ble_eq_true rfl) dX5_row_34 rfl (fun v g' hq => ?_)
      obtain ⟨x, L', rfl, r8, eg, k⟩ := hq
      obtain ⟨z9, ez⟩ : ∃ z : Int × LT, z = (x, L') := ⟨_, rfl⟩
      obtain ⟨rfl, rfl⟩ : x = z9.1 ∧ L' = z9.2 := ⟨by rw [ez], by rw [ez]⟩
      clear ez
      refine J_eq eg ?_
      show J X 37 [(0, .ref (xad X (4, 0, 0))), (1, iv v_v)] [iv z9.1] (gs g0 4 0 z9.2)
      exact jr_iret (pc := 37) F hQ rfl dX5_row_37 ⟨_, _, rfl, r8, rfl, (Ok_some k)⟩
    refine jr_aload_n (pc := 38) F 0 dX5_row_38 rfl rfl ?_
    refine jr_getR (pc := 39) (b := (4, 0, 39)) F f_5_89 m4_0 rfl dX5_row_39 ?_
    refine jr_aload_n (pc := 42) F 0 dX5_row_42 rfl rfl ?_
    refine jr_getI (pc := 43) F (L1 0 39) f_5_276 m4_0 rfl (gs_at' _ _ _ _ _ _) dX5_row_43 (fun r10 => ?_)
    refine jr_iload_n (pc := 46) F 1 dX5_row_46 rfl rfl ?_
    obtain ⟨c11, k⟩ := Ok_grd k
    obtain ⟨L12, e13, k⟩ := Ok_let k
    refine jr_iast (pc := 47) F (gs g0 4 0 L12) m4_39 (by decide) c11 rgp_v (put1 e13) dX5_row_47 ?_
    refine jr_aload_n (pc := 48) F 0 dX5_row_48 rfl rfl ?_
    refine jr_dup (pc := 49) F dX5_row_49 rfl ?_
    refine jr_getI (pc := 50) F (L12 0 39) f_5_276 m4_0 rfl (gs_at' _ _ _ _ _ _) dX5_row_50 (fun r14 => ?_)
    refine jr_iconst (pc := 53) F dX5_row_53 ?_
    refine jr_iadd (pc := 54) F dX5_row_54 ?_
    obtain ⟨L15, e16, k⟩ := Ok_let k
    refine jr_putI (pc := 55) F (gs g0 4 0 L15) fw_5_276 m4_0 rfl (rg_w _) (put1 e16) dX5_row_55 ?_
    refine jr_aload_n (pc := 58) F 0 dX5_row_58 rfl rfl ?_
    refine jr_getI (pc := 59) F (L15 0 39) f_5_276 m4_0 rfl (gs_at' _ _ _ _ _ _) dX5_row_59 (fun r17 => ?_)
    exact jr_iret (pc := 62) F hQ rfl dX5_row_62 ⟨_, _, rfl, r17, rfl, (Ok_some k)⟩
  have k := Ok_t h3 k
  refine jr_aload_n (pc := 9) F 0 dX5_row_9 rfl rfl ?_
  refine jr_bipush (pc := 10) F dX5_row_10 (by decide) ?_
  have k := Ok_bind k
  refine jr_callV (pc := 12) (st := []) F [iv (-4)] (snd_X5_refuse  (g0 := g0) (show Rg (-4) from ⟨by decide, by decide⟩) k) rfl ck_5_139 rfl m4_0 rfl rfl rfl (by decide) (Nat.le_of_ble_eq_true rfl) dX5_row_12 rfl (fun v g' hq => ?_)
  obtain ⟨x, L', rfl, r18, eg, k⟩ := hq
  obtain ⟨z19, ez⟩ : ∃ z : Int × LT, z = (x, L') := ⟨_, rfl⟩
  obtain ⟨rfl, rfl⟩ : x = z19.1 ∧ L' = z19.2 := ⟨by rw [ez], by rw [ez]⟩
  clear ez
  refine J_eq eg ?_
  show J X 15 [(0, .ref (xad X (4, 0, 0))), (1, iv v_v)] [iv z19.1] (gs g0 4 0 z19.2)
  exact jr_iret (pc := 15) F hQ rfl dX5_row_15 ⟨_, _, rfl, r18, rfl, (Ok_some k)⟩
set_option maxHeartbeats 4000000 in
set_option maxRecDepth 100000 in
theorem snd_X5_runs {L0 : LT} {v_weight : Int} {v_what : Int} {g0 : GG} (rgp_weight : Rg v_weight) (rgp_what : Rg v_what) {Q : (Int × LT) → Prop} (k : Ok (X5_runs L0 v_weight v_what) Q) : MetG SL yX5_runs cX5_runs 8 (some .int) 2 (fun ad => [.ref (ad (4, 0, 0)), iv v_weight, iv v_what]) (gs g0 4 0 L0) (fun v g' => ∃ (x : Int) (L' : LT), v = some (iv x) ∧ Rg x ∧ g' = gs g0 4 0 L' ∧ Q (x, L')) := by
  refine met_intro SL_ok (by decide +kernel) (fun ad => Nat.le_of_ble_eq_true rfl) (fun X F hQ hR => ?_)
  replace F : FX X cX5_runs RX5 8 (some .int) SL 2 := F
  show J X 0 [(0, .ref (xad X (4, 0, 0))), (1, iv v_weight), (2, iv v_what)] [] (gs g0 4 0 L0)
  refine jr_aload_n (pc := 0) F 0 dX5_runs_0 rfl rfl ?_
  refine jr_iconst (pc := 1) F dX5_runs_1 ?_
  obtain ⟨L1, e2, k⟩ := Ok_let k
  refine jr_putI (pc := 2) F (gs g0 4 0 L1) fw_5_92 m4_0 rfl (show Rg 0 from ⟨by decide, by decide⟩) (put1 e2) dX5_runs_2 ?_
  refine jr_iload_n (pc := 5) F 1 dX5_runs_5 rfl rfl ?_
  refine jr_iconst (pc := 6) F dX5_runs_6 ?_
  refine jr_bipush (pc := 7) F dX5_runs_7 (by decide) ?_
  refine jr_callS (pc := 9) (st := []) F [iv v_weight, iv 1, iv 60] (snd_X5_wrongNumber (g0 := gs g0 4 0 L1) rgp_weight (show Rg 1 from ⟨by decide, by decide⟩) (show Rg 60 from ⟨by decide, by decide⟩) (X5_wrongNumber_ok _ _ _ )) rfl ck_5_236 rfl rfl (by decide) (Nat.le_of_ble_eq_true rfl) dX5_runs_9 rfl (fun v g' hq => ?_)
  obtain ⟨x, rfl, r3, eg, hx⟩ := hq
  subst hx
  refine J_eq eg ?_
  show J X 12 [(0, .ref (xad X (4, 0, 0))), (1, iv v_weight), (2, iv v_what)] [iv (X5_wrongNumber_v v_weight 1 60)] (gs g0 4 0 L1)
  refine jr_iload_n (pc := 12) F 2 dX5_runs_12 rfl rfl ?_
  refine jr_iconst (pc := 13) F dX5_runs_13 ?_
  refine jr_callS (pc := 14) (st := []) F [iv (X5_wrongNumber_v v_weight 1 60), iv v_what, iv 1] (snd_X5_wrongBit (g0 := gs g0 4 0 L1) r3 rgp_what (show Rg 1 from ⟨by decide, by decide⟩) (X5_wrongBit_ok _ _ _ )) rfl ck_5_246 rfl rfl (by decide) (Nat.le_of_ble_eq_true rfl) dX5_runs_14 rfl (fun v g' hq => ?_)
  obtain ⟨x, rfl, r4, eg, hx⟩ := hq
  subst hx
  refine J_eq eg ?_
  show J X 17 [(0, .ref (xad X (4, 0, 0))), (1, iv v_weight), (2, iv v_what)] [iv (X5_wrongBit_v (X5_wrongNumber_v v_weight 1 60) v_what 1)] (gs g0 4 0 L1)
  obtain ⟨x5, e6, k⟩ := Ok_let k
  have r7 : Rg x5 := rg_of e6 r4
  refine jr_top e6 ?_
  refine jr_istore_n (pc := 17) F [(3, iv x5), (0, .ref (xad X (4, 0, 0))), (1, iv v_weight), (2, iv v_what)] dX5_runs_17 rfl (by decide) rfl ?_
  refine jr_iload_n (pc := 18) F 0 dX5_runs_18 rfl rfl ?_
  refine jr_if_ge (pc := 19) (tgt := 28) F r7 dX5_runs_19 (by decide) (fun h8 => ?_) (fun h8 => ?_)
  · have k := Ok_f (ng_lt h8) k
    refine jr_iconst (pc := 28) F dX5_runs_28 ?_
    refine jr_istore (pc := 29) F [(4, iv 0), (3, iv x5), (0, .ref (xad X (4, 0, 0))), (1, iv v_weight), (2, iv v_what)] dX5_runs_29 (by decide) rfl ?_
    refine jr_iconst (pc := 31) F dX5_runs_31 ?_
    refine jr_istore (pc := 32) F [(5, iv 0), (4, iv 0), (3, iv x5), (0, .ref (xad X (4, 0, 0))), (1, iv v_weight), (2, iv v_what)] dX5_runs_32 (by decide) rfl ?_
    refine jr_bipush (pc := 34) F dX5_runs_34 (by decide) ?_
    refine jr_istore (pc := 36) F [(6, iv (-9)), (5, iv 0), (4, iv 0), (3, iv x5), (0, .ref (xad X (4, 0, 0))), (1, iv v_weight), (2, iv v_what)] dX5_runs_36 (by decide) rfl ?_
    refine jr_iconst (pc := 38) F dX5_runs_38 ?_
    refine jr_istore (pc := 39) F [(7, iv 0), (6, iv (-9)), (5, iv 0), (4, iv 0), (3, iv x5), (0, .ref (xad X (4, 0, 0))), (1, iv v_weight), (2, iv v_what)] dX5_runs_39 (by decide) rfl ?_
    refine jr_sub F [5, 6, 7, 4, 3, 2, 1, 0] [(0, .ref (xad X (4, 0, 0))), (1, iv v_weight), (2, iv v_what), (3, iv x5), (4, iv 0), (5, iv 0), (6, iv (-9)), (7, iv 0)] rfl ?_
    refine lpj (P := fun s : Int × Int × Int × Int => Rg (s.1) → Rg (s.2.1) → Rg (s.2.2.1) → Rg (s.2.2.2) → J X 41 [(0, .ref (xad X (4, 0, 0))), (1, iv v_weight), (2, iv v_what), (3, iv x5), (4, iv s.1), (5, iv s.2.1), (6, iv s.2.2.1), (7, iv s.2.2.2)] [] (gs g0 4 0 L1)) (PE := fun r : Int × Int × Int × Int => Rg (r.1) → Rg (r.2.1) → Rg (r.2.2.1) → Rg (r.2.2.2) → J X 113 [(0, .ref (xad X (4, 0, 0))), (1, iv v_weight), (2, iv v_what), (3, iv x5), (4, iv r.1), (5, iv r.2.1), (6, iv r.2.2.1), (7, iv r.2.2.2)] [] (gs g0 4 0 L1)) k (fun s9 Q10 k hC11 hE12 r14 r15 r16 r17 => ?_) (fun z13 k => ?_) (fun h => h (show Rg 0 from ⟨by decide, by decide⟩) (show Rg 0 from ⟨by decide, by decide⟩) (show Rg (-9) from ⟨by decide, by decide⟩) (show Rg 0 from ⟨by decide, by decide⟩))
    · refine jr_iload (pc := 41) F 7 dX5_runs_41 rfl ?_
      refine jr_aload_n (pc := 43) F 0 dX5_runs_43 rfl rfl ?_
      refine jr_getI (pc := 44) F (L1 0 0) f_5_7 m4_0 rfl (gs_at' _ _ _ _ _ _) dX5_runs_44 (fun r18 => ?_)
      refine jr_icmp_ge (pc := 47) (tgt := 113) F r17 r18 dX5_runs_47 (by decide) (fun h19 => ?_) (fun h19 => ?_)
      · have k := Ok_f (ng_lt h19) k
        exact hE12 (s9.1, s9.2.1, s9.2.2.1, s9.2.2.2) (Ok_some k) r14 r15 r16 r17
      have k := Ok_t h19 k
      obtain ⟨c20, k⟩ := Ok_grd k
      refine jifP (P := fun v => Rg v → J X 68 [(0, .ref (xad X (4, 0, 0))), (1, iv v_weight), (2, iv v_what), (3, iv x5), (4, iv s9.1), (5, iv s9.2.1), (6, iv s9.2.2.1), (7, iv s9.2.2.2)] (iv v :: []) (gs g0 4 0 L1)) (c := ¬ (X5_bears_v L1 s9.2.2.2 v_weight) = 0) (w32 (s9.1 + 1)) (0) (fun Ht Hf => ?_) (fun r23 => ?_)
      · refine jr_aload_n (pc := 50) F 0 dX5_runs_50 rfl rfl ?_
        refine jr_iload (pc := 51) F 7 dX5_runs_51 rfl ?_
        refine jr_iload_n (pc := 53) F 1 dX5_runs_53 rfl rfl ?_
        refine jr_callV (pc := 54) (st := []) F [iv s9.2.2.2, iv v_weight] (snd_X5_bears  (g0 := g0) r17 rgp_weight (X5_bears_ok _ _ _ c20)) rfl ck_5_110 rfl m4_0 rfl rfl rfl (by decide) (Nat.le_of_ble_eq_true rfl) dX5_runs_54 rfl (fun v g' hq => ?_)
        obtain ⟨x, rfl, r21, eg, hx⟩ := hq
        subst hx
        refine J_eq eg ?_
        show J X 57 [(0, .ref (xad X (4, 0, 0))), (1, iv v_weight), (2, iv v_what), (3, iv x5), (4, iv s9.1), (5, iv s9.2.1), (6, iv s9.2.2.1), (7, iv s9.2.2.2)] [iv (X5_bears_v L1 s9.2.2.2 v_weight)] (gs g0 4 0 L1)
        refine jr_if_eq (pc := 57) (tgt := 67) F (rg_z r21) dX5_runs_57 (by decide) (fun h22 => ?_) (fun h22 => ?_)
        · refine jr_iconst (pc := 67) F dX5_runs_67 ?_
          exact Hf (fun q => q h22) (show Rg 0 from ⟨by decide, by decide⟩)
        refine jr_iload (pc := 60) F 4 dX5_runs_60 rfl ?_
        refine jr_iconst (pc := 62) F dX5_runs_62 ?_
        refine jr_iadd (pc := 63) F dX5_runs_63 ?_
        refine jr_goto (pc := 64) (tgt := 68) F dX5_runs_64 (by decide) ?_
        exact Ht h22 (rg_w _)
      obtain ⟨x24, e25, k⟩ := Ok_let k
      have r26 : Rg x24 := rg_of e25 r23
      refine jr_top e25 ?_
      refine jr_istore (pc := 68) F [(4, iv x24), (0, .ref (xad X (4, 0, 0))), (1, iv v_weight), (2, iv v_what), (3, iv x5), (5, iv s9.2.1), (6, iv s9.2.2.1), (7, iv s9.2.2.2)] dX5_runs_68 (by decide) rfl ?_
      refine jifP (P := fun v => Rg v → J X 89 [(4, iv x24), (0, .ref (xad X (4, 0, 0))), (1, iv v_weight), (2, iv v_what), (3, iv x5), (5, iv s9.2.1), (6, iv s9.2.2.1), (7, iv s9.2.2.2)] (iv v :: []) (gs g0 4 0 L1)) (c := s9.2.1 < x24) (w32 ((w32 (s9.2.2.2 - x24)) + 1)) (s9.2.2.1) (fun Ht Hf => ?_) (fun r28 => ?_)
      · refine jr_iload (pc := 70) F 0 dX5_runs_70 rfl ?_
        refine jr_iload (pc := 72) F 5 dX5_runs_72 rfl ?_
        refine jr_icmp_le (pc := 74) (tgt := 87) F r26 r15 dX5_runs_74 (by decide) (fun h27 => ?_) (fun h27 => ?_)
        · refine jr_iload (pc := 87) F 6 dX5_runs_87 rfl ?_
          exact Hf (ng_lt h27) r16
        refine jr_iload (pc := 77) F 7 dX5_runs_77 rfl ?_
        refine jr_iload (pc := 79) F 0 dX5_runs_79 rfl ?_
        refine jr_isub (pc := 81) F dX5_runs_81 ?_
        refine jr_iconst (pc := 82) F dX5_runs_82 ?_
        refine jr_iadd (pc := 83) F dX5_runs_83 ?_
        refine jr_goto (pc := 84) (tgt := 89) F dX5_runs_84 (by decide) ?_
        exact Ht h27 (rg_w _)
      obtain ⟨x29, e30, k⟩ := Ok_let k
      have r31 : Rg x29 := rg_of e30 r28
      refine jr_top e30 ?_
      refine jr_istore (pc := 89) F [(6, iv x29), (4, iv x24), (0, .ref (xad X (4, 0, 0))), (1, iv v_weight), (2, iv v_what), (3, iv x5), (5, iv s9.2.1), (7, iv s9.2.2.2)] dX5_runs_89 (by decide) rfl ?_
      refine jifP (P := fun v => Rg v → J X 105 [(6, iv x29), (4, iv x24), (0, .ref (xad X (4, 0, 0))), (1, iv v_weight), (2, iv v_what), (3, iv x5), (5, iv s9.2.1), (7, iv s9.2.2.2)] (iv v :: []) (gs g0 4 0 L1)) (c := s9.2.1 < x24) (x24) (s9.2.1) (fun Ht Hf => ?_) (fun r33 => ?_)
      · refine jr_iload (pc := 91) F 1 dX5_runs_91 rfl ?_
        refine jr_iload (pc := 93) F 6 dX5_runs_93 rfl ?_
        refine jr_icmp_le (pc := 95) (tgt := 103) F r26 r15 dX5_runs_95 (by decide) (fun h32 => ?_) (fun h32 => ?_)
        · refine jr_iload (pc := 103) F 6 dX5_runs_103 rfl ?_
          exact Hf (ng_lt h32) r15
        refine jr_iload (pc := 98) F 1 dX5_runs_98 rfl ?_
        refine jr_goto (pc := 100) (tgt := 105) F dX5_runs_100 (by decide) ?_
        exact Ht h32 r26
      obtain ⟨x34, e35, k⟩ := Ok_let k
      have r36 : Rg x34 := rg_of e35 r33
      refine jr_top e35 ?_
      refine jr_istore (pc := 105) F [(5, iv x34), (6, iv x29), (4, iv x24), (0, .ref (xad X (4, 0, 0))), (1, iv v_weight), (2, iv v_what), (3, iv x5), (7, iv s9.2.2.2)] dX5_runs_105 (by decide) rfl ?_
      refine jr_iinc (pc := 107) F [(7, iv (w32 (s9.2.2.2 + 1))), (5, iv x34), (6, iv x29), (4, iv x24), (0, .ref (xad X (4, 0, 0))), (1, iv v_weight), (2, iv v_what), (3, iv x5)] 7 dX5_runs_107 rfl (by decide) rfl ?_
      refine jr_goto (pc := 110) (tgt := 41) F dX5_runs_110 (by decide) ?_
      refine jr_sub F [4, 5, 6, 7, 3, 1, 2, 0] [(0, .ref (xad X (4, 0, 0))), (1, iv v_weight), (2, iv v_what), (3, iv x5), (4, iv x24), (5, iv x34), (6, iv x29), (7, iv (w32 (s9.2.2.2 + 1)))] rfl ?_
      exact hC11 (x24, x34, x29, w32 (s9.2.2.2 + 1)) (Ok_some k) r26 r36 r31 (rg_w _)
    intro r37 r38 r39 r40
    refine jifP (P := fun v => Rg v → J X 124 [(0, .ref (xad X (4, 0, 0))), (1, iv v_weight), (2, iv v_what), (3, iv x5), (4, iv z13.1), (5, iv z13.2.1), (6, iv z13.2.2.1), (7, iv z13.2.2.2)] (iv v :: []) (gs g0 4 0 L1)) (c := v_what = 0) (z13.2.1) (z13.2.2.1) (fun Ht Hf => ?_) (fun r42 => ?_)
    · refine jr_iload_n (pc := 113) F 2 dX5_runs_113 rfl rfl ?_
      refine jr_if_ne (pc := 114) (tgt := 122) F rgp_what dX5_runs_114 (by decide) (fun h41 => ?_) (fun h41 => ?_)
      · refine jr_iload (pc := 122) F 6 dX5_runs_122 rfl ?_
        exact Hf h41 r39
      refine jr_iload (pc := 117) F 5 dX5_runs_117 rfl ?_
      refine jr_goto (pc := 119) (tgt := 124) F dX5_runs_119 (by decide) ?_
      exact Ht h41 r38
    exact jr_iret (pc := 124) F hQ rfl dX5_runs_124 ⟨_, _, rfl, r42, rfl, (Ok_some k)⟩
  have k := Ok_t h8 k
  refine jr_aload_n (pc := 22) F 1 dX5_runs_22 rfl rfl ?_
  refine jr_iload_n (pc := 23) F 0 dX5_runs_23 rfl rfl ?_
  have k := Ok_bind k
  refine jr_callV (pc := 24) (st := []) F [iv x5] (snd_X5_refuse  (g0 := g0) r7 k) rfl ck_5_139 rfl m4_0 rfl rfl rfl (by decide) (Nat.le_of_ble_eq_true rfl) dX5_runs_24 rfl (fun v g' hq => ?_)
  obtain ⟨x, L', rfl, r43, eg, k⟩ := hq
  obtain ⟨z44, ez⟩ : ∃ z : Int × LT, z = (x, L') := ⟨_, rfl⟩
  obtain ⟨rfl, rfl⟩ : x = z44.1 ∧ L' = z44.2 := ⟨by rw [ez], by rw [ez]⟩
  clear ez
  refine J_eq eg ?_
  show J X 27 [(3, iv x5), (0, .ref (xad X (4, 0, 0))), (1, iv v_weight), (2, iv v_what)] [iv z44.1] (gs g0 4 0 z44.2)
  exact jr_iret (pc := 27) F hQ rfl dX5_runs_27 ⟨_, _, rfl, r43, rfl, (Ok_some k)⟩
set_option maxHeartbeats 4000000 in
set_option maxRecDepth 100000 in
theorem snd_X5_said {L0 : LT} {g0 : GG}  {Q : (Int × LT) → Prop} (k : Ok (X5_said L0) Q) : MetG SL yX5_said cX5_said 5 (some .int) 0 (fun ad => [.ref (ad (4, 0, 0))]) (gs g0 4 0 L0) (fun v g' => ∃ (x : Int) (L' : LT), v = some (iv x) ∧ Rg x ∧ g' = gs g0 4 0 L' ∧ Q (x, L')) := by
  refine met_intro SL_ok (by decide +kernel) (fun ad => Nat.le_of_ble_eq_true rfl) (fun X F hQ hR => ?_)
  replace F : FX X cX5_said RX5 5 (some .int) SL 0 := F
  show J X 0 [(0, .ref (xad X (4, 0, 0)))] [] (gs g0 4 0 L0)
  refine jr_aload_n (pc := 0) F 0 dX5_said_0 rfl rfl ?_
  refine jr_iconst (pc := 1) F dX5_said_1 ?_
  obtain ⟨L1, e2, k⟩ := Ok_let k
  refine jr_putI (pc := 2) F (gs g0 4 0 L1) fw_5_92 m4_0 rfl (show Rg 0 from ⟨by decide, by decide⟩) (put1 e2) dX5_said_2 ?_
  refine jr_iconst (pc := 5) F dX5_said_5 ?_
  refine jr_istore_n (pc := 6) F [(1, iv 0), (0, .ref (xad X (4, 0, 0)))] dX5_said_6 rfl (by decide) rfl ?_
  refine jr_iconst (pc := 7) F dX5_said_7 ?_
  refine jr_istore_n (pc := 8) F [(2, iv 0), (1, iv 0), (0, .ref (xad X (4, 0, 0)))] dX5_said_8 rfl (by decide) rfl ?_
  refine jr_sub F [2, 1, 0] [(0, .ref (xad X (4, 0, 0))), (1, iv 0), (2, iv 0)] rfl ?_
  refine lpj (P := fun s : Int × Int => Rg (s.1) → Rg (s.2) → J X 9 [(0, .ref (xad X (4, 0, 0))), (1, iv s.1), (2, iv s.2)] [] (gs g0 4 0 L1)) (PE := fun r : Int × Int => Rg (r.1) → Rg (r.2) → J X 88 [(0, .ref (xad X (4, 0, 0))), (1, iv r.1), (2, iv r.2)] [] (gs g0 4 0 L1)) k (fun s3 Q4 k hC5 hE6 r8 r9 => ?_) (fun z7 k => ?_) (fun h => h (show Rg 0 from ⟨by decide, by decide⟩) (show Rg 0 from ⟨by decide, by decide⟩))
  · refine jr_iload_n (pc := 9) F 2 dX5_said_9 rfl rfl ?_
    refine jr_bipush (pc := 10) F dX5_said_10 (by decide) ?_
    refine jr_icmp_ge (pc := 12) (tgt := 88) F r9 (show Rg 10 from ⟨by decide, by decide⟩) dX5_said_12 (by decide) (fun h10 => ?_) (fun h10 => ?_)
    · have k := Ok_f (ng_lt h10) k
      exact hE6 (s3.1, s3.2) (Ok_some k) r8 r9
    have k := Ok_t h10 k
    refine jr_iconst (pc := 15) F dX5_said_15 ?_
    refine jr_istore_n (pc := 16) F [(3, iv 1), (0, .ref (xad X (4, 0, 0))), (1, iv s3.1), (2, iv s3.2)] dX5_said_16 rfl (by decide) rfl ?_
    refine jr_iconst (pc := 17) F dX5_said_17 ?_
    refine jr_istore (pc := 18) F [(4, iv 0), (3, iv 1), (0, .ref (xad X (4, 0, 0))), (1, iv s3.1), (2, iv s3.2)] dX5_said_18 (by decide) rfl ?_
    refine jr_sub F [2, 3, 4, 1, 0] [(0, .ref (xad X (4, 0, 0))), (1, iv s3.1), (2, iv s3.2), (3, iv 1), (4, iv 0)] rfl ?_
    refine lpj (P := fun s : Int × Int => Bz (s.1) → Rg (s.2) → J X 20 [(0, .ref (xad X (4, 0, 0))), (1, iv s3.1), (2, iv s3.2), (3, iv s.1), (4, iv s.2)] [] (gs g0 4 0 L1)) (PE := fun r : Int × Int => Bz (r.1) → Rg (r.2) → J X 68 [(0, .ref (xad X (4, 0, 0))), (1, iv s3.1), (2, iv s3.2), (3, iv r.1), (4, iv r.2)] [] (gs g0 4 0 L1)) k (fun s11 Q12 k hC13 hE14 r16 r17 => ?_) (fun z15 k => ?_) (fun h => h (Or.inr rfl) (show Rg 0 from ⟨by decide, by decide⟩))
    · refine jr_iload (pc := 20) F 4 dX5_said_20 rfl ?_
      refine jr_aload_n (pc := 22) F 0 dX5_said_22 rfl rfl ?_
      refine jr_getI (pc := 23) F (L1 0 39) f_5_276 m4_0 rfl (gs_at' _ _ _ _ _ _) dX5_said_23 (fun r18 => ?_)
      refine jr_icmp_ge (pc := 26) (tgt := 68) F r17 r18 dX5_said_26 (by decide) (fun h19 => ?_) (fun h19 => ?_)
      · have k := Ok_f (ng_lt h19) k
        exact hE14 (s11.1, s11.2) (Ok_some k) r16 r17
      have k := Ok_t h19 k
      obtain ⟨c20, k⟩ := Ok_grd k
      obtain ⟨c21, k⟩ := Ok_grd k
      refine jifP (P := fun v => Bz v → J X 61 [(0, .ref (xad X (4, 0, 0))), (1, iv s3.1), (2, iv s3.2), (3, iv s11.1), (4, iv s11.2)] (iv v :: []) (gs g0 4 0 L1)) (c := (¬ s11.1 = 0) ∧ (((L1 39 s11.2) = 99) ∨ ((L1 39 s11.2) = s3.2))) (1) (0) (fun Ht Hf => ?_) (fun r27 => ?_)
      · refine jr_iload_n (pc := 29) F 3 dX5_said_29 rfl rfl ?_
        refine jr_if_eq (pc := 30) (tgt := 60) F (rg_z r16) dX5_said_30 (by decide) (fun h22 => ?_) (fun h22 => ?_)
        · refine jr_iconst (pc := 60) F dX5_said_60 ?_
          exact Hf (fun q => (fun q => q h22) q.1) (Or.inl rfl)
        refine jr_aload_n (pc := 33) F 0 dX5_said_33 rfl rfl ?_
        refine jr_getR (pc := 34) (b := (4, 0, 39)) F f_5_89 m4_0 rfl dX5_said_34 ?_
        refine jr_iload (pc := 37) F 4 dX5_said_37 rfl ?_
        refine jr_iald (pc := 39) F (L1 39 s11.2) m4_39 (by decide) (c20 h22) (gs_at' _ _ _ _ _ _) dX5_said_39 (fun r23 => ?_)
        refine jr_bipush (pc := 40) F dX5_said_40 (by decide) ?_
        refine jr_icmp_eq (pc := 42) (tgt := 56) F r23 (show Rg 99 from ⟨by decide, by decide⟩) dX5_said_42 (by decide) (fun h24 => ?_) (fun h24 => ?_)
        · refine jr_iconst (pc := 56) F dX5_said_56 ?_
          refine jr_goto (pc := 57) (tgt := 61) F dX5_said_57 (by decide) ?_
          exact Ht ⟨h22, (Or.inl h24)⟩ (Or.inr rfl)
        refine jr_aload_n (pc := 45) F 0 dX5_said_45 rfl rfl ?_
        refine jr_getR (pc := 46) (b := (4, 0, 39)) F f_5_89 m4_0 rfl dX5_said_46 ?_
        refine jr_iload (pc := 49) F 4 dX5_said_49 rfl ?_
        refine jr_iald (pc := 51) F (L1 39 s11.2) m4_39 (by decide) (c21 h22 h24) (gs_at' _ _ _ _ _ _) dX5_said_51 (fun r25 => ?_)
        refine jr_iload_n (pc := 52) F 2 dX5_said_52 rfl rfl ?_
        refine jr_icmp_ne (pc := 53) (tgt := 60) F r25 r9 dX5_said_53 (by decide) (fun h26 => ?_) (fun h26 => ?_)
        · refine jr_iconst (pc := 60) F dX5_said_60 ?_
          exact Hf (fun q => (fun q => q.elim h24 h26) q.2) (Or.inl rfl)
        refine jr_iconst (pc := 56) F dX5_said_56 ?_
        refine jr_goto (pc := 57) (tgt := 61) F dX5_said_57 (by decide) ?_
        exact Ht ⟨h22, (Or.inr h26)⟩ (Or.inr rfl)
      obtain ⟨x28, e29, k⟩ := Ok_let k
      have r30 : Bz x28 := bz_of e29 r27
      refine jr_top e29 ?_
      refine jr_istore_n (pc := 61) F [(3, iv x28), (0, .ref (xad X (4, 0, 0))), (1, iv s3.1), (2, iv s3.2), (4, iv s11.2)] dX5_said_61 rfl (by decide) rfl ?_
      refine jr_iinc (pc := 62) F [(4, iv (w32 (s11.2 + 1))), (3, iv x28), (0, .ref (xad X (4, 0, 0))), (1, iv s3.1), (2, iv s3.2)] 4 dX5_said_62 rfl (by decide) rfl ?_
      refine jr_goto (pc := 65) (tgt := 20) F dX5_said_65 (by decide) ?_
      refine jr_sub F [2, 3, 4, 1, 0] [(0, .ref (xad X (4, 0, 0))), (1, iv s3.1), (2, iv s3.2), (3, iv x28), (4, iv (w32 (s11.2 + 1)))] rfl ?_
      exact hC13 (x28, w32 (s11.2 + 1)) (Ok_some k) r30 (rg_w _)
    intro r31 r32
    refine jr_iload_n (pc := 68) F 1 dX5_said_68 rfl rfl ?_
    refine jifP (P := fun v => Rg v → J X 80 [(0, .ref (xad X (4, 0, 0))), (1, iv s3.1), (2, iv s3.2), (3, iv z15.1), (4, iv z15.2)] (iv v :: [iv s3.1]) (gs g0 4 0 L1)) (c := ¬ z15.1 = 0) (b_shl 1 s3.2) (0) (fun Ht Hf => ?_) (fun r34 => ?_)
    · refine jr_iload_n (pc := 69) F 3 dX5_said_69 rfl rfl ?_
      refine jr_if_eq (pc := 70) (tgt := 79) F (rg_z r31) dX5_said_70 (by decide) (fun h33 => ?_) (fun h33 => ?_)
      · refine jr_iconst (pc := 79) F dX5_said_79 ?_
        exact Hf (fun q => q h33) (show Rg 0 from ⟨by decide, by decide⟩)
      refine jr_iconst (pc := 73) F dX5_said_73 ?_
      refine jr_iload_n (pc := 74) F 2 dX5_said_74 rfl rfl ?_
      refine jr_ishl (pc := 75) F dX5_said_75 ?_
      refine jr_goto (pc := 76) (tgt := 80) F dX5_said_76 (by decide) ?_
      exact Ht h33 (rg_shl _ _)
    refine jr_ior (pc := 80) F dX5_said_80 ?_
    obtain ⟨x35, e36, k⟩ := Ok_let k
    have r37 : Rg x35 := rg_of e36 (rg_or _ _)
    refine jr_top e36 ?_
    refine jr_istore_n (pc := 81) F [(1, iv x35), (0, .ref (xad X (4, 0, 0))), (2, iv s3.2), (3, iv z15.1), (4, iv z15.2)] dX5_said_81 rfl (by decide) rfl ?_
    refine jr_iinc (pc := 82) F [(2, iv (w32 (s3.2 + 1))), (1, iv x35), (0, .ref (xad X (4, 0, 0))), (3, iv z15.1), (4, iv z15.2)] 2 dX5_said_82 rfl (by decide) rfl ?_
    refine jr_goto (pc := 85) (tgt := 9) F dX5_said_85 (by decide) ?_
    refine jr_sub F [2, 1, 0] [(0, .ref (xad X (4, 0, 0))), (1, iv x35), (2, iv (w32 (s3.2 + 1)))] rfl ?_
    exact hC5 (x35, w32 (s3.2 + 1)) (Ok_some k) r37 (rg_w _)
  intro r38 r39
  refine jr_iload_n (pc := 88) F 1 dX5_said_88 rfl rfl ?_
  exact jr_iret (pc := 89) F hQ rfl dX5_said_89 ⟨_, _, rfl, r38, rfl, (Ok_some k)⟩
set_option maxHeartbeats 4000000 in
set_option maxRecDepth 100000 in
theorem snd_X5_stands {L0 : LT} {v_t : Int} {g0 : GG} (rgp_t : Rg v_t) {Q : (Int × LT) → Prop} (k : Ok (X5_stands L0 v_t) Q) : MetG SL yX5_stands cX5_stands 2 (some .int) 5 (fun ad => [.ref (ad (4, 0, 0)), iv v_t]) (gs g0 4 0 L0) (fun v g' => ∃ (x : Int) (L' : LT), v = some (iv x) ∧ Rg x ∧ g' = gs g0 4 0 L' ∧ Q (x, L')) := by
  refine met_intro SL_ok (by decide +kernel) (fun ad => Nat.le_of_ble_eq_true rfl) (fun X F hQ hR => ?_)
  replace F : FX X cX5_stands RX5 2 (some .int) SL 5 := F
  show J X 0 [(0, .ref (xad X (4, 0, 0))), (1, iv v_t)] [] (gs g0 4 0 L0)
  refine jr_aload_n (pc := 0) F 0 dX5_stands_0 rfl rfl ?_
  refine jr_iconst (pc := 1) F dX5_stands_1 ?_
  obtain ⟨L1, e2, k⟩ := Ok_let k
  refine jr_putI (pc := 2) F (gs g0 4 0 L1) fw_5_92 m4_0 rfl (show Rg 0 from ⟨by decide, by decide⟩) (put1 e2) dX5_stands_2 ?_
  refine cnd (c := (X5_isTrain_v L1 v_t) = 0) (GT := J X 13 [(0, .ref (xad X (4, 0, 0))), (1, iv v_t)] [] (gs g0 4 0 L1)) (GF := J X 19 [(0, .ref (xad X (4, 0, 0))), (1, iv v_t)] [] (gs g0 4 0 L1)) k (fun HT HF => ?_) (fun h5 k => ?_) (fun h5 k => ?_)
  · refine jr_aload_n (pc := 5) F 0 dX5_stands_5 rfl rfl ?_
    refine jr_iload_n (pc := 6) F 1 dX5_stands_6 rfl rfl ?_
    refine jr_callV (pc := 7) (st := []) F [iv v_t] (snd_X5_isTrain  (g0 := g0) rgp_t (X5_isTrain_ok _ _ )) rfl ck_5_192 rfl m4_0 rfl rfl rfl (by decide) (Nat.le_of_ble_eq_true rfl) dX5_stands_7 rfl (fun v g' hq => ?_)
    obtain ⟨x, rfl, r3, eg, hx⟩ := hq
    subst hx
    refine J_eq eg ?_
    show J X 10 [(0, .ref (xad X (4, 0, 0))), (1, iv v_t)] [iv (X5_isTrain_v L1 v_t)] (gs g0 4 0 L1)
    refine jr_if_ne (pc := 10) (tgt := 19) F (rg_z r3) dX5_stands_10 (by decide) (fun h4 => ?_) (fun h4 => ?_)
    · exact HF h4
    exact HT h4
  · refine jr_aload_n (pc := 13) F 0 dX5_stands_13 rfl rfl ?_
    refine jr_iconst (pc := 14) F dX5_stands_14 ?_
    have k := Ok_bind k
    refine jr_callV (pc := 15) (st := []) F [iv (-1)] (snd_X5_refuse  (g0 := g0) (show Rg (-1) from ⟨by decide, by decide⟩) k) rfl ck_5_139 rfl m4_0 rfl rfl rfl (by decide) (Nat.le_of_ble_eq_true rfl) dX5_stands_15 rfl (fun v g' hq => ?_)
    obtain ⟨x, L', rfl, r6, eg, k⟩ := hq
    obtain ⟨z7, ez⟩ : ∃ z : Int × LT, z = (x, L') := ⟨_, rfl⟩
    obtain ⟨rfl, rfl⟩ : x = z7.1 ∧ L' = z7.2 := ⟨by rw [ez], by rw [ez]⟩
    clear ez
    refine J_eq eg ?_
    show J X 18 [(0, .ref (xad X (4, 0, 0))), (1, iv v_t)] [iv z7.1] (gs g0 4 0 z7.2)
    exact jr_iret (pc := 18) F hQ rfl dX5_stands_18 ⟨_, _, rfl, r6, rfl, (Ok_some k)⟩
  refine jr_aload_n (pc := 19) F 0 dX5_stands_19 rfl rfl ?_
  have k := Ok_bind k
  refine jr_callV (pc := 20) (st := []) F [] (snd_X5_open  (g0 := g0)  k) rfl ck_5_203 rfl m4_0 rfl rfl rfl (by decide) (Nat.le_of_ble_eq_true rfl) dX5_stands_20 rfl (fun v g' hq => ?_)
  obtain ⟨z9, rfl, eg, k⟩ := hq
  refine J_eq eg ?_
  show J X 23 [(0, .ref (xad X (4, 0, 0))), (1, iv v_t)] [] (gs g0 4 0 z9)
  refine jr_aload_n (pc := 23) F 0 dX5_stands_23 rfl rfl ?_
  refine jr_bipush (pc := 24) F dX5_stands_24 (by decide) ?_
  have k := Ok_bind k
  refine jr_callV (pc := 26) (st := []) F [iv 72] (snd_X5_goHours  (g0 := g0) (show Rg 72 from ⟨by decide, by decide⟩) k) rfl ck_5_197 rfl m4_0 rfl rfl rfl (by decide) (Nat.le_of_ble_eq_true rfl) dX5_stands_26 rfl (fun v g' hq => ?_)
  obtain ⟨z11, rfl, eg, k⟩ := hq
  refine J_eq eg ?_
  show J X 29 [(0, .ref (xad X (4, 0, 0))), (1, iv v_t)] [] (gs g0 4 0 z11)
  refine jr_aload_n (pc := 29) F 0 dX5_stands_29 rfl rfl ?_
  have k := Ok_bind k
  refine jr_callV (pc := 30) (st := []) F [] (snd_X5_close  (g0 := g0)  k) rfl ck_5_209 rfl m4_0 rfl rfl rfl (by decide) (Nat.le_of_ble_eq_true rfl) dX5_stands_30 rfl (fun v g' hq => ?_)
  obtain ⟨z13, rfl, eg, k⟩ := hq
  refine J_eq eg ?_
  show J X 33 [(0, .ref (xad X (4, 0, 0))), (1, iv v_t)] [] (gs g0 4 0 z13)
  refine jr_aload_n (pc := 33) F 0 dX5_stands_33 rfl rfl ?_
  refine jr_getR (pc := 34) (b := (4, 0, 17)) F f_5_50 m4_0 rfl dX5_stands_34 ?_
  refine jr_iload_n (pc := 37) F 1 dX5_stands_37 rfl rfl ?_
  obtain ⟨c14, k⟩ := Ok_grd k
  refine jr_iald (pc := 38) F (z13 17 v_t) m4_17 (by decide) c14 (gs_at' _ _ _ _ _ _) dX5_stands_38 (fun r15 => ?_)
  exact jr_iret (pc := 39) F hQ rfl dX5_stands_39 ⟨_, _, rfl, r15, rfl, (Ok_some k)⟩
set_option maxHeartbeats 4000000 in
set_option maxRecDepth 100000 in
theorem snd_X5_weakestYard {L0 : LT} {g0 : GG}  {Q : (Int) → Prop} (k : Ok (X5_weakestYard L0) Q) : MetG SL yX5_weakestYard cX5_weakestYard 3 (some .int) 0 (fun ad => [.ref (ad (4, 0, 0))]) (gs g0 4 0 L0) (fun v g' => ∃ x : Int, v = some (iv x) ∧ Rg x ∧ g' = gs g0 4 0 L0 ∧ Q x) := by
  refine met_intro SL_ok (by decide +kernel) (fun ad => Nat.le_of_ble_eq_true rfl) (fun X F hQ hR => ?_)
  replace F : FX X cX5_weakestYard RX5 3 (some .int) SL 0 := F
  show J X 0 [(0, .ref (xad X (4, 0, 0)))] [] (gs g0 4 0 L0)
  refine jr_iconst (pc := 0) F dX5_weakestYard_0 ?_
  refine jr_istore_n (pc := 1) F [(1, iv 0), (0, .ref (xad X (4, 0, 0)))] dX5_weakestYard_1 rfl (by decide) rfl ?_
  refine jr_iconst (pc := 2) F dX5_weakestYard_2 ?_
  refine jr_istore_n (pc := 3) F [(2, iv 1), (1, iv 0), (0, .ref (xad X (4, 0, 0)))] dX5_weakestYard_3 rfl (by decide) rfl ?_
  refine jr_sub F [2, 1, 0] [(0, .ref (xad X (4, 0, 0))), (1, iv 0), (2, iv 1)] rfl ?_
  refine lpj (P := fun s : Int × Int => Rg (s.1) → Rg (s.2) → J X 4 [(0, .ref (xad X (4, 0, 0))), (1, iv s.1), (2, iv s.2)] [] (gs g0 4 0 L0)) (PE := fun r : Int × Int => Rg (r.1) → Rg (r.2) → J X 39 [(0, .ref (xad X (4, 0, 0))), (1, iv r.1), (2, iv r.2)] [] (gs g0 4 0 L0)) k (fun s1 Q2 k hC3 hE4 r6 r7 => ?_) (fun z5 k => ?_) (fun h => h (show Rg 0 from ⟨by decide, by decide⟩) (show Rg 1 from ⟨by decide, by decide⟩))
  · refine jr_iload_n (pc := 4) F 2 dX5_weakestYard_4 rfl rfl ?_
    refine jr_aload_n (pc := 5) F 0 dX5_weakestYard_5 rfl rfl ?_
    refine jr_getI (pc := 6) F (L0 0 0) f_5_7 m4_0 rfl (gs_at' _ _ _ _ _ _) dX5_weakestYard_6 (fun r8 => ?_)
    refine jr_icmp_ge (pc := 9) (tgt := 39) F r7 r8 dX5_weakestYard_9 (by decide) (fun h9 => ?_) (fun h9 => ?_)
    · have k := Ok_f (ng_lt h9) k
      exact hE4 (s1.1, s1.2) (Ok_some k) r6 r7
    have k := Ok_t h9 k
    obtain ⟨c10, k⟩ := Ok_grd k
    obtain ⟨c11, k⟩ := Ok_grd k
    refine jifP (P := fun v => Rg v → J X 32 [(0, .ref (xad X (4, 0, 0))), (1, iv s1.1), (2, iv s1.2)] (iv v :: []) (gs g0 4 0 L0)) (c := (L0 4 s1.2) < (L0 4 s1.1)) (s1.2) (s1.1) (fun Ht Hf => ?_) (fun r15 => ?_)
    · refine jr_aload_n (pc := 12) F 0 dX5_weakestYard_12 rfl rfl ?_
      refine jr_getR (pc := 13) (b := (4, 0, 4)) F f_5_20 m4_0 rfl dX5_weakestYard_13 ?_
      refine jr_iload_n (pc := 16) F 2 dX5_weakestYard_16 rfl rfl ?_
      refine jr_iald (pc := 17) F (L0 4 s1.2) m4_4 (by decide) c10 (gs_at' _ _ _ _ _ _) dX5_weakestYard_17 (fun r12 => ?_)
      refine jr_aload_n (pc := 18) F 0 dX5_weakestYard_18 rfl rfl ?_
      refine jr_getR (pc := 19) (b := (4, 0, 4)) F f_5_20 m4_0 rfl dX5_weakestYard_19 ?_
      refine jr_iload_n (pc := 22) F 1 dX5_weakestYard_22 rfl rfl ?_
      refine jr_iald (pc := 23) F (L0 4 s1.1) m4_4 (by decide) c11 (gs_at' _ _ _ _ _ _) dX5_weakestYard_23 (fun r13 => ?_)
      refine jr_icmp_ge (pc := 24) (tgt := 31) F r12 r13 dX5_weakestYard_24 (by decide) (fun h14 => ?_) (fun h14 => ?_)
      · refine jr_iload_n (pc := 31) F 1 dX5_weakestYard_31 rfl rfl ?_
        exact Hf (ng_lt h14) r6
      refine jr_iload_n (pc := 27) F 2 dX5_weakestYard_27 rfl rfl ?_
      refine jr_goto (pc := 28) (tgt := 32) F dX5_weakestYard_28 (by decide) ?_
      exact Ht h14 r7
    obtain ⟨x16, e17, k⟩ := Ok_let k
    have r18 : Rg x16 := rg_of e17 r15
    refine jr_top e17 ?_
    refine jr_istore_n (pc := 32) F [(1, iv x16), (0, .ref (xad X (4, 0, 0))), (2, iv s1.2)] dX5_weakestYard_32 rfl (by decide) rfl ?_
    refine jr_iinc (pc := 33) F [(2, iv (w32 (s1.2 + 1))), (1, iv x16), (0, .ref (xad X (4, 0, 0)))] 2 dX5_weakestYard_33 rfl (by decide) rfl ?_
    refine jr_goto (pc := 36) (tgt := 4) F dX5_weakestYard_36 (by decide) ?_
    refine jr_sub F [2, 1, 0] [(0, .ref (xad X (4, 0, 0))), (1, iv x16), (2, iv (w32 (s1.2 + 1)))] rfl ?_
    exact hC3 (x16, w32 (s1.2 + 1)) (Ok_some k) r18 (rg_w _)
  intro r19 r20
  refine jr_iload_n (pc := 39) F 1 dX5_weakestYard_39 rfl rfl ?_
  exact jr_iret (pc := 40) F hQ rfl dX5_weakestYard_40 ⟨_, rfl, r19, rfl, (Ok_some k)⟩
set_option maxHeartbeats 4000000 in
set_option maxRecDepth 100000 in
theorem snd_X5_strongest {L0 : LT} {v_weight : Int} {g0 : GG} (rgp_weight : Rg v_weight) {Q : (Int × LT) → Prop} (k : Ok (X5_strongest L0 v_weight) Q) : MetG SL yX5_strongest cX5_strongest 4 (some .int) 3 (fun ad => [.ref (ad (4, 0, 0)), iv v_weight]) (gs g0 4 0 L0) (fun v g' => ∃ (x : Int) (L' : LT), v = some (iv x) ∧ Rg x ∧ g' = gs g0 4 0 L' ∧ Q (x, L')) := by
  refine met_intro SL_ok (by decide +kernel) (fun ad => Nat.le_of_ble_eq_true rfl) (fun X F hQ hR => ?_)
  replace F : FX X cX5_strongest RX5 4 (some .int) SL 3 := F
  show J X 0 [(0, .ref (xad X (4, 0, 0))), (1, iv v_weight)] [] (gs g0 4 0 L0)
  refine jr_aload_n (pc := 0) F 0 dX5_strongest_0 rfl rfl ?_
  refine jr_iconst (pc := 1) F dX5_strongest_1 ?_
  obtain ⟨L1, e2, k⟩ := Ok_let k
  refine jr_putI (pc := 2) F (gs g0 4 0 L1) fw_5_92 m4_0 rfl (show Rg 0 from ⟨by decide, by decide⟩) (put1 e2) dX5_strongest_2 ?_
  refine jr_iload_n (pc := 5) F 1 dX5_strongest_5 rfl rfl ?_
  refine jr_iconst (pc := 6) F dX5_strongest_6 ?_
  refine jr_bipush (pc := 7) F dX5_strongest_7 (by decide) ?_
  refine jr_callS (pc := 9) (st := []) F [iv v_weight, iv 1, iv 60] (snd_X5_wrongNumber (g0 := gs g0 4 0 L1) rgp_weight (show Rg 1 from ⟨by decide, by decide⟩) (show Rg 60 from ⟨by decide, by decide⟩) (X5_wrongNumber_ok _ _ _ )) rfl ck_5_236 rfl rfl (by decide) (Nat.le_of_ble_eq_true rfl) dX5_strongest_9 rfl (fun v g' hq => ?_)
  obtain ⟨x, rfl, r3, eg, hx⟩ := hq
  subst hx
  refine J_eq eg ?_
  show J X 12 [(0, .ref (xad X (4, 0, 0))), (1, iv v_weight)] [iv (X5_wrongNumber_v v_weight 1 60)] (gs g0 4 0 L1)
  refine jr_if_ge (pc := 12) (tgt := 27) F r3 dX5_strongest_12 (by decide) (fun h4 => ?_) (fun h4 => ?_)
  · have k := Ok_f (ng_lt h4) k
    refine jr_iconst (pc := 27) F dX5_strongest_27 ?_
    refine jr_istore_n (pc := 28) F [(2, iv 0), (0, .ref (xad X (4, 0, 0))), (1, iv v_weight)] dX5_strongest_28 rfl (by decide) rfl ?_
    refine jr_aload_n (pc := 29) F 1 dX5_strongest_29 rfl rfl ?_
    have k := Ok_bind k
    refine jr_callV (pc := 30) (st := []) F [] (snd_X5_open  (g0 := g0)  k) rfl ck_5_203 rfl m4_0 rfl rfl rfl (by decide) (Nat.le_of_ble_eq_true rfl) dX5_strongest_30 rfl (fun v g' hq => ?_)
    obtain ⟨z6, rfl, eg, k⟩ := hq
    refine J_eq eg ?_
    show J X 33 [(2, iv 0), (0, .ref (xad X (4, 0, 0))), (1, iv v_weight)] [] (gs g0 4 0 z6)
    refine jr_sub F [1, 2, 0] [(0, .ref (xad X (4, 0, 0))), (1, iv v_weight), (2, iv 0)] rfl ?_
    refine lpj (P := fun s : Int × LT => Rg (s.1) → J X 33 [(0, .ref (xad X (4, 0, 0))), (1, iv v_weight), (2, iv s.1)] [] (gs g0 4 0 s.2)) (PE := fun r : Int × LT => Rg (r.1) → J X 61 [(0, .ref (xad X (4, 0, 0))), (1, iv v_weight), (2, iv r.1)] [] (gs g0 4 0 r.2)) k (fun s7 Q8 k hC9 hE10 r12 => ?_) (fun z11 k => ?_) (fun h => h (show Rg 0 from ⟨by decide, by decide⟩))
    · refine jr_iload_n (pc := 33) F 2 dX5_strongest_33 rfl rfl ?_
      refine jr_bipush (pc := 34) F dX5_strongest_34 (by decide) ?_
      refine jr_icmp_ge (pc := 36) (tgt := 61) F r12 (show Rg 20 from ⟨by decide, by decide⟩) dX5_strongest_36 (by decide) (fun h13 => ?_) (fun h13 => ?_)
      · have k := Ok_f (ng_lt h13) k
        exact hE10 (s7.1, s7.2) (Ok_some k) r12
      have k := Ok_t h13 k
      refine jr_aload_n (pc := 39) F 0 dX5_strongest_39 rfl rfl ?_
      refine jr_iload_n (pc := 40) F 1 dX5_strongest_40 rfl rfl ?_
      have k := Ok_bind k
      refine jr_callV (pc := 41) (st := []) F [iv v_weight] (snd_X5_allBear  (g0 := g0) rgp_weight k) rfl ck_5_264 rfl m4_0 rfl rfl rfl (by decide) (Nat.le_of_ble_eq_true rfl) dX5_strongest_41 rfl (fun v g' hq => ?_)
      obtain ⟨z15, rfl, r14, eg, k⟩ := hq
      refine J_eq eg ?_
      show J X 44 [(0, .ref (xad X (4, 0, 0))), (1, iv v_weight), (2, iv s7.1)] [iv z15] (gs g0 4 0 s7.2)
      refine jr_if_ne (pc := 44) (tgt := 61) F (rg_z r14) dX5_strongest_44 (by decide) (fun h16 => ?_) (fun h16 => ?_)
      · have k := Ok_t h16 k
        exact hE10 (s7.1, s7.2) (Ok_some k) r12
      have k := Ok_f (fun q => q h16) k
      refine jr_aload_n (pc := 47) F 0 dX5_strongest_47 rfl rfl ?_
      refine jr_aload_n (pc := 48) F 0 dX5_strongest_48 rfl rfl ?_
      have k := Ok_bind k
      refine jr_callV (pc := 49) (st := [.ref (xad X (4, 0, 0))]) F [] (snd_X5_weakestYard  (g0 := g0)  k) rfl ck_5_267 rfl m4_0 rfl rfl rfl (by decide) (Nat.le_of_ble_eq_true rfl) dX5_strongest_49 rfl (fun v g' hq => ?_)
      obtain ⟨z18, rfl, r17, eg, k⟩ := hq
      refine J_eq eg ?_
      show J X 52 [(0, .ref (xad X (4, 0, 0))), (1, iv v_weight), (2, iv s7.1)] [iv z18, .ref (xad X (4, 0, 0))] (gs g0 4 0 s7.2)
      have k := Ok_bind k
      refine jr_callV (pc := 52) (st := []) F [iv z18] (snd_X5_pour  (g0 := g0) r17 k) rfl ck_5_258 rfl m4_0 rfl rfl rfl (by decide) (Nat.le_of_ble_eq_true rfl) dX5_strongest_52 rfl (fun v g' hq => ?_)
      obtain ⟨z20, rfl, eg, k⟩ := hq
      refine J_eq eg ?_
      show J X 55 [(0, .ref (xad X (4, 0, 0))), (1, iv v_weight), (2, iv s7.1)] [] (gs g0 4 0 z20)
      refine jr_iinc (pc := 55) F [(2, iv (w32 (s7.1 + 1))), (0, .ref (xad X (4, 0, 0))), (1, iv v_weight)] 2 dX5_strongest_55 rfl (by decide) rfl ?_
      refine jr_goto (pc := 58) (tgt := 33) F dX5_strongest_58 (by decide) ?_
      refine jr_sub F [1, 2, 0] [(0, .ref (xad X (4, 0, 0))), (1, iv v_weight), (2, iv (w32 (s7.1 + 1)))] rfl ?_
      exact hC9 (w32 (s7.1 + 1), z20) (Ok_some k) (rg_w _)
    intro r21
    refine jr_aload_n (pc := 61) F 0 dX5_strongest_61 rfl rfl ?_
    refine jr_iload_n (pc := 62) F 1 dX5_strongest_62 rfl rfl ?_
    have k := Ok_bind k
    refine jr_callV (pc := 63) (st := []) F [iv v_weight] (snd_X5_allBear  (g0 := g0) rgp_weight k) rfl ck_5_264 rfl m4_0 rfl rfl rfl (by decide) (Nat.le_of_ble_eq_true rfl) dX5_strongest_63 rfl (fun v g' hq => ?_)
    obtain ⟨z23, rfl, r22, eg, k⟩ := hq
    refine J_eq eg ?_
    show J X 66 [(0, .ref (xad X (4, 0, 0))), (1, iv v_weight), (2, iv z11.1)] [iv z23] (gs g0 4 0 z11.2)
    refine jr_istore_n (pc := 66) F [(3, iv z23), (0, .ref (xad X (4, 0, 0))), (1, iv v_weight), (2, iv z11.1)] dX5_strongest_66 rfl (by decide) rfl ?_
    refine jr_aload_n (pc := 67) F 1 dX5_strongest_67 rfl rfl ?_
    have k := Ok_bind k
    refine jr_callV (pc := 68) (st := []) F [] (snd_X5_close  (g0 := g0)  k) rfl ck_5_209 rfl m4_0 rfl rfl rfl (by decide) (Nat.le_of_ble_eq_true rfl) dX5_strongest_68 rfl (fun v g' hq => ?_)
    obtain ⟨z25, rfl, eg, k⟩ := hq
    refine J_eq eg ?_
    show J X 71 [(3, iv z23), (0, .ref (xad X (4, 0, 0))), (1, iv v_weight), (2, iv z11.1)] [] (gs g0 4 0 z25)
    refine jifP (P := fun v => Rg v → J X 81 [(3, iv z23), (0, .ref (xad X (4, 0, 0))), (1, iv v_weight), (2, iv z11.1)] (iv v :: []) (gs g0 4 0 z25)) (c := ¬ z23 = 0) (z11.1) ((-9)) (fun Ht Hf => ?_) (fun r27 => ?_)
    · refine jr_iload_n (pc := 71) F 0 dX5_strongest_71 rfl rfl ?_
      refine jr_if_eq (pc := 72) (tgt := 79) F (rg_z r22) dX5_strongest_72 (by decide) (fun h26 => ?_) (fun h26 => ?_)
      · refine jr_bipush (pc := 79) F dX5_strongest_79 (by decide) ?_
        exact Hf (fun q => q h26) (show Rg (-9) from ⟨by decide, by decide⟩)
      refine jr_iload_n (pc := 75) F 3 dX5_strongest_75 rfl rfl ?_
      refine jr_goto (pc := 76) (tgt := 81) F dX5_strongest_76 (by decide) ?_
      exact Ht h26 r21
    exact jr_iret (pc := 81) F hQ rfl dX5_strongest_81 ⟨_, _, rfl, r27, rfl, (Ok_some k)⟩
  have k := Ok_t h4 k
  refine jr_aload_n (pc := 15) F 0 dX5_strongest_15 rfl rfl ?_
  refine jr_iload_n (pc := 16) F 1 dX5_strongest_16 rfl rfl ?_
  refine jr_iconst (pc := 17) F dX5_strongest_17 ?_
  refine jr_bipush (pc := 18) F dX5_strongest_18 (by decide) ?_
  refine jr_callS (pc := 20) (st := [.ref (xad X (4, 0, 0))]) F [iv v_weight, iv 1, iv 60] (snd_X5_wrongNumber (g0 := gs g0 4 0 L1) rgp_weight (show Rg 1 from ⟨by decide, by decide⟩) (show Rg 60 from ⟨by decide, by decide⟩) (X5_wrongNumber_ok _ _ _ )) rfl ck_5_236 rfl rfl (by decide) (Nat.le_of_ble_eq_true rfl) dX5_strongest_20 rfl (fun v g' hq => ?_)
  obtain ⟨x, rfl, r28, eg, hx⟩ := hq
  subst hx
  refine J_eq eg ?_
  show J X 23 [(0, .ref (xad X (4, 0, 0))), (1, iv v_weight)] [iv (X5_wrongNumber_v v_weight 1 60), .ref (xad X (4, 0, 0))] (gs g0 4 0 L1)
  have k := Ok_bind k
  refine jr_callV (pc := 23) (st := []) F [iv (X5_wrongNumber_v v_weight 1 60)] (snd_X5_refuse  (g0 := g0) r28 k) rfl ck_5_139 rfl m4_0 rfl rfl rfl (by decide) (Nat.le_of_ble_eq_true rfl) dX5_strongest_23 rfl (fun v g' hq => ?_)
  obtain ⟨x, L', rfl, r29, eg, k⟩ := hq
  obtain ⟨z30, ez⟩ : ∃ z : Int × LT, z = (x, L') := ⟨_, rfl⟩
  obtain ⟨rfl, rfl⟩ : x = z30.1 ∧ L' = z30.2 := ⟨by rw [ez], by rw [ez]⟩
  clear ez
  refine J_eq eg ?_
  show J X 26 [(0, .ref (xad X (4, 0, 0))), (1, iv v_weight)] [iv z30.1] (gs g0 4 0 z30.2)
  exact jr_iret (pc := 26) F hQ rfl dX5_strongest_26 ⟨_, _, rfl, r29, rfl, (Ok_some k)⟩
