-- WP_rule_0 Mo_isBy_42 Mo_canShut_42 Mo_ruleAt_42 Mo_rule_42 Ly_areIn_11 Ly_doorsBetween_11 Ly_isLet_11 WP_lets_0 Mo_letsBy_42 Mo_lets_42 Sp_chain_27 Sp_addRule_27 Ly_roomCount_11 Sp_begin_27_11
set_option maxHeartbeats 4000000 in
set_option maxRecDepth 100000 in
theorem b_WP_rule_0_0 {l : Launch} {G : GT} {N : Nat} {p : Program} {e : Env} {s : State} {m : MethodId} {args : Array Value} {below : List Frame} {meth : Method} {c : Code} (X : Cx G p s m args meth c cX10_rule 4 RX10 (some .int)) {r : Int32} {υ : Hp} {τ : Hp} {v1 v2 : Int32} {H : Heap} {locs : List Loc} {ls : Array Slot} (hH : Hs G τ s H locs) (hl : lv_has ls 4 [(0, .ref (aG G 0)), (1, .int v1), (2, .int v2)]) (hf : f_WP_rule N 0 τ v1 v2 = some (r, υ)) : WI l G (rmG 4 91) p e s m args below meth c r υ H locs (F0 m 0 ls []) := by
  have hx := X.hx
  have hb := X.hb
  unfold f_WP_rule at hf
  refine lv_iload_n hx hb dX10_rule_0 rfl (lv_at hl 1 rfl) ?_
  refine lv_iconst (v := 0) hx hb dX10_rule_1 (by decide) ?_
  refine lv_aload_n hx hb dX10_rule_2 rfl (lv_at hl 0 rfl) ?_
  refine g_get X hH (fa_0_3 G) tw_177 dX10_rule_3 ?_
  refine g_getN X hH (fa_10_3 G) 45 rfl dX10_rule_6 ?_
  refine lv_iconst (v := 1) hx hb dX10_rule_9 (by decide) ?_
  refine lv_isub hx hb dX10_rule_10 ?_
  obtain ⟨r1, τ2, hc3, hf⟩ := e_b hf
  refine c_Si X hH (n := 3) (As := [.int _, .int _, .int _]) (rest := []) (c_WP_isBetween l G (N := N) hc3) tw_198 tw_196 tw_197 tw_1 (by decide +kernel) ⟨by decide, by decide⟩ rfl hl.1 rfl (Nat.le_of_ble_eq_true rfl) ⟨Nat.zero_le _, Nat.zero_le _⟩ dX10_rule_11 (fun H locs hH => ?_)
  refine lv_if_ne (tgt := 19) hx hb dX10_rule_14 (by decide) (fun c4 => ?_) (fun c4 => ?_)
  · have hf := e_f c4 hf
    refine lv_aload_n hx hb dX10_rule_19 rfl (lv_at hl 0 rfl) ?_
    refine g_get X hH (fa_0_3 G) tw_177 dX10_rule_20 ?_
    refine g_getN X hH (fa_10_2 G) 42 rfl dX10_rule_23 ?_
    refine lv_iload_n hx hb dX10_rule_26 rfl (lv_at hl 1 rfl) ?_
    obtain ⟨g5, hf⟩ := e_g hf
    refine a_ld X hH (aa_17 G) g5 dX10_rule_27 ?_
    obtain ⟨x6, ex6, hf⟩ := e_l hf
    refine g_nm ex6 ?_
    refine lv_istore_n (lv' := [(3, .int x6), (0, .ref (aG G 0)), (1, .int v1), (2, .int v2)]) hx hb dX10_rule_28 rfl hl (by decide) rfl (fun ls hl => ?_)
    refine lv_iload_n hx hb dX10_rule_29 rfl (lv_at hl 3 rfl) ?_
    refine lv_topi (fun y7 ey7 => ?_)
    rw [← ey7] at hf
    by_cases c8 : y7 = 0
    · have hf := e_t c8 hf
      refine lv_tableIn (tgt := 68) hx hb dX10_rule_30 (by rw [c8]; decide) (by rw [c8]; decide) (off := 38) (by rw [c8]; decide) (by decide) ?_
      refine lv_iload_n hx hb dX10_rule_68 rfl (lv_at hl 0 rfl) ?_
      obtain ⟨r9, τ10, hc11, hf⟩ := e_b hf
      refine c_Si X hH (n := 1) (As := [.int _]) (rest := []) (c_WP_firstOf l G (N := N) hc11) tw_360 tw_374 tw_359 tw_1 (by decide +kernel) ⟨by decide, by decide⟩ rfl hl.1 rfl (Nat.le_of_ble_eq_true rfl) ⟨Nat.zero_le _, Nat.zero_le _⟩ dX10_rule_69 (fun H locs hH => ?_)
      exact r_i X hH hf dX10_rule_72
    have hf := e_f c8 hf
    by_cases c12 : y7 = 1
    · have hf := e_t c12 hf
      refine lv_tableIn (tgt := 73) hx hb dX10_rule_30 (by rw [c12]; decide) (by rw [c12]; decide) (off := 43) (by rw [c12]; decide) (by decide) ?_
      refine lv_iload_n hx hb dX10_rule_73 rfl (lv_at hl 0 rfl) ?_
      obtain ⟨r13, τ14, hc15, hf⟩ := e_b hf
      refine c_Si X hH (n := 1) (As := [.int _]) (rest := []) (c_WP_secondOf l G (N := N) hc15) tw_362 tw_375 tw_361 tw_1 (by decide +kernel) ⟨by decide, by decide⟩ rfl hl.1 rfl (Nat.le_of_ble_eq_true rfl) ⟨Nat.zero_le _, Nat.zero_le _⟩ dX10_rule_74 (fun H locs hH => ?_)
      exact r_i X hH hf dX10_rule_77
    have hf := e_f c12 hf
    by_cases c16 : y7 = 2
    · have hf := e_t c16 hf
      refine lv_tableIn (tgt := 78) hx hb dX10_rule_30 (by rw [c16]; decide) (by rw [c16]; decide) (off := 48) (by rw [c16]; decide) (by decide) ?_
      refine lv_iload_n hx hb dX10_rule_78 rfl (lv_at hl 0 rfl) ?_
      obtain ⟨r17, τ18, hc19, hf⟩ := e_b hf
      refine c_Si X hH (n := 1) (As := [.int _]) (rest := []) (c_WP_doorOf l G (N := N) hc19) tw_364 tw_376 tw_363 tw_1 (by decide +kernel) ⟨by decide, by decide⟩ rfl hl.1 rfl (Nat.le_of_ble_eq_true rfl) ⟨Nat.zero_le _, Nat.zero_le _⟩ dX10_rule_79 (fun H locs hH => ?_)
      exact r_i X hH hf dX10_rule_82
    have hf := e_f c16 hf
    by_cases c20 : y7 = 3
    · have hf := e_t c20 hf
      refine lv_tableIn (tgt := 83) hx hb dX10_rule_30 (by rw [c20]; decide) (by rw [c20]; decide) (off := 53) (by rw [c20]; decide) (by decide) ?_
      refine lv_aload_n hx hb dX10_rule_83 rfl (lv_at hl 1 rfl) ?_
      refine g_get X hH (fa_0_3 G) tw_177 dX10_rule_84 ?_
      refine lv_iload_n hx hb dX10_rule_87 rfl (lv_at hl 0 rfl) ?_
      obtain ⟨r21, τ22, hc23, hf⟩ := e_b hf
      refine c_Vi X hH (k := 10) (n := 1) (As := [.int _]) (rest := []) (c_Pl_waysBy_10 l G (N := N) hc23) (by decide) rfl rfl tw_380 tw_377 tw_378 tw_379 tw_5 (by decide +kernel) ⟨by decide, by decide⟩ rfl hl.1 rfl (Nat.le_of_ble_eq_true rfl) ⟨Nat.zero_le _, Nat.zero_le _⟩ dX10_rule_88 (fun H locs hH => ?_)
      exact r_i X hH hf dX10_rule_91
    have hf := e_f c20 hf
    by_cases c24 : y7 = 4
    · have hf := e_t c24 hf
      refine lv_tableIn (tgt := 92) hx hb dX10_rule_30 (by rw [c24]; decide) (by rw [c24]; decide) (off := 62) (by rw [c24]; decide) (by decide) ?_
      refine lv_aload_n hx hb dX10_rule_92 rfl (lv_at hl 1 rfl) ?_
      refine g_get X hH (fa_0_3 G) tw_177 dX10_rule_93 ?_
      refine lv_iload_n hx hb dX10_rule_96 rfl (lv_at hl 0 rfl) ?_
      refine lv_iconst (v := 0) hx hb dX10_rule_97 (by decide) ?_
      obtain ⟨r25, τ26, hc27, hf⟩ := e_b hf
      refine c_Vi X hH (k := 10) (n := 2) (As := [.int _, .int _]) (rest := []) (c_Pl_weightBy_10 l G (N := N) hc27) (by decide) rfl rfl tw_390 tw_387 tw_388 tw_389 tw_5 (by decide +kernel) ⟨by decide, by decide⟩ rfl hl.1 rfl (Nat.le_of_ble_eq_true rfl) ⟨Nat.zero_le _, Nat.zero_le _⟩ dX10_rule_98 (fun H locs hH => ?_)
      exact r_i X hH hf dX10_rule_101
    have hf := e_f c24 hf
    by_cases c28 : y7 = 5
    · have hf := e_t c28 hf
      refine lv_tableIn (tgt := 102) hx hb dX10_rule_30 (by rw [c28]; decide) (by rw [c28]; decide) (off := 72) (by rw [c28]; decide) (by decide) ?_
      refine lv_aload_n hx hb dX10_rule_102 rfl (lv_at hl 1 rfl) ?_
      refine g_get X hH (fa_0_3 G) tw_177 dX10_rule_103 ?_
      refine lv_iload_n hx hb dX10_rule_106 rfl (lv_at hl 0 rfl) ?_
      refine lv_aload_n hx hb dX10_rule_107 rfl (lv_at hl 1 rfl) ?_
      refine g_get X hH (fa_0_0 G) tw_174 dX10_rule_108 ?_
      refine g_getN X hH (fa_1_1 G) 1 rfl dX10_rule_111 ?_
      obtain ⟨r29, τ30, hc31, hf⟩ := e_b hf
      refine c_Vi X hH (k := 10) (n := 2) (As := [.int _, .ref (aG G 3)]) (rest := []) (c_Pl_isMustBy_10_3 l G (N := N) hc31) (by decide) rfl rfl tw_395 tw_392 tw_393 tw_394 tw_5 (by decide +kernel) ⟨by decide, by decide⟩ rfl hl.1 rfl (Nat.le_of_ble_eq_true rfl) ⟨Nat.zero_le _, Nat.zero_le _⟩ dX10_rule_114 (fun H locs hH => ?_)
      refine lv_if_eq (tgt := 124) hx hb dX10_rule_117 (by decide) (fun c32 => ?_) (fun c32 => ?_)
      · have hf := e_t c32 hf
        refine lv_iconst (v := 1) hx hb dX10_rule_124 (by decide) ?_
        exact r_i X hH hf dX10_rule_125
      · have hf := e_f c32 hf
        refine lv_iconst (v := 0) hx hb dX10_rule_120 (by decide) ?_
        refine lv_goto (tgt := 125) hx hb dX10_rule_121 (by decide) ?_
        exact r_i X hH hf dX10_rule_125
    have hf := e_f c28 hf
    refine lv_tableOut (tgt := 126) hx hb dX10_rule_30 (sw_out 5 (fun j hj => ?_)) (by decide) ?_
    · rcases (show j = 0 ∨ j = 1 ∨ j = 2 ∨ j = 3 ∨ j = 4 ∨ j = 5 by omega) with rfl | rfl | rfl | rfl | rfl | rfl
      · exact c8
      · exact c12
      · exact c16
      · exact c20
      · exact c24
      · exact c28
    refine lv_iconst (v := (-1)) hx hb dX10_rule_126 (by decide) ?_
    exact r_i X hH hf dX10_rule_127
  · have hf := e_t c4 hf
    refine lv_iconst (v := (-1)) hx hb dX10_rule_17 (by decide) ?_
    exact r_i X hH hf dX10_rule_18
theorem c_WP_rule_0 (l : Launch) (G : GT) {N : Nat} {τ υ : Hp} {v1 v2 : Int32} {r : Int32} (hf : f_WP_rule N 0 τ v1 v2 = some (r, υ)) : MI l G yX10_rule cX10_rule 4 (some .int) 4 91 [.ref (aG G 0), .int v1, .int v2] τ r υ := mk_I (by decide) (Nat.le_of_ble_eq_true rfl) (fun p e s m args below meth c X hH ls hl => b_WP_rule_0_0 (N := N) X hH (lv_sub hl [0, 1, 2] rfl) hf)
set_option maxHeartbeats 4000000 in
set_option maxRecDepth 100000 in
theorem b_Mo_isBy_42_0 {l : Launch} {G : GT} {N : Nat} {p : Program} {e : Env} {s : State} {m : MethodId} {args : Array Value} {below : List Frame} {meth : Method} {c : Code} (X : Cx G p s m args meth c cX11_isBy 5 RX11 (some .boolean)) {r : Int32} {υ : Hp} {τ : Hp} {v1 v2 : Int32} {H : Heap} {locs : List Loc} {ls : Array Slot} (hH : Hs G τ s H locs) (hl : lv_has ls 5 [(0, .ref (aG G 42)), (1, .int v1), (2, .int v2)]) (hf : f_Mo_isBy N 42 τ v1 v2 = some (r, υ)) : WI l G (rmG 0 0) p e s m args below meth c r υ H locs (F0 m 0 ls []) := by
  have hx := X.hx
  have hb := X.hb
  unfold f_Mo_isBy at hf
  refine lv_aload_n hx hb dX11_isBy_0 rfl (lv_at hl 0 rfl) ?_
  refine g_get X hH (fa_42_3 G) tw_529 dX11_isBy_1 ?_
  refine lv_iload_n hx hb dX11_isBy_4 rfl (lv_at hl 1 rfl) ?_
  refine lv_bipush (v := 32) hx hb dX11_isBy_5 (by decide) ?_
  refine lv_idiv hx hb dX11_isBy_7 (by decide) ?_
  obtain ⟨g1, hf⟩ := e_g hf
  refine a_ld X hH (aa_44 G) g1 dX11_isBy_8 ?_
  obtain ⟨x2, ex2, hf⟩ := e_l hf
  refine g_nm ex2 ?_
  refine lv_istore_n (lv' := [(3, .int x2), (0, .ref (aG G 42)), (1, .int v1), (2, .int v2)]) hx hb dX11_isBy_9 rfl hl (by decide) rfl (fun ls hl => ?_)
  refine lv_aload_n hx hb dX11_isBy_10 rfl (lv_at hl 1 rfl) ?_
  refine g_get X hH (fa_42_3 G) tw_529 dX11_isBy_11 ?_
  refine lv_iload_n hx hb dX11_isBy_14 rfl (lv_at hl 2 rfl) ?_
  refine lv_iconst (v := 4) hx hb dX11_isBy_15 (by decide) ?_
  refine lv_idiv hx hb dX11_isBy_16 (by decide) ?_
  refine lv_bipush (v := 8) hx hb dX11_isBy_17 (by decide) ?_
  refine lv_irem hx hb dX11_isBy_19 (by decide) ?_
  obtain ⟨g3, hf⟩ := e_g hf
  refine a_ld X hH (aa_44 G) g3 dX11_isBy_20 ?_
  obtain ⟨x4, ex4, hf⟩ := e_l hf
  refine g_nm ex4 ?_
  refine lv_istore (lv' := [(4, .int x4), (3, .int x2), (0, .ref (aG G 42)), (1, .int v1), (2, .int v2)]) hx hb dX11_isBy_21 hl (by decide) rfl (fun ls hl => ?_)
  refine lv_iload_n hx hb dX11_isBy_23 rfl (lv_at hl 1 rfl) ?_
  refine lv_iconst (v := (-1)) hx hb dX11_isBy_24 (by decide) ?_
  refine lv_icmp_eq (tgt := 61) hx hb dX11_isBy_25 (by decide) (fun c5 => ?_) (fun c5 => ?_)
  · have hf := e_t c5 hf
    refine lv_iconst (v := 0) hx hb dX11_isBy_61 (by decide) ?_
    exact r_z X hH rfl hf dX11_isBy_62
  · have hf := e_f c5 hf
    refine lv_iload hx hb dX11_isBy_28 (lv_at hl 0 rfl) ?_
    refine lv_iconst (v := (-1)) hx hb dX11_isBy_30 (by decide) ?_
    refine lv_icmp_eq (tgt := 61) hx hb dX11_isBy_31 (by decide) (fun c6 => ?_) (fun c6 => ?_)
    · have hf := e_t c6 hf
      refine lv_iconst (v := 0) hx hb dX11_isBy_61 (by decide) ?_
      exact r_z X hH rfl hf dX11_isBy_62
    · have hf := e_f c6 hf
      refine lv_iload_n hx hb dX11_isBy_34 rfl (lv_at hl 1 rfl) ?_
      refine lv_iload hx hb dX11_isBy_35 (lv_at hl 0 rfl) ?_
      refine lv_icmp_eq (tgt := 61) hx hb dX11_isBy_37 (by decide) (fun c7 => ?_) (fun c7 => ?_)
      · have hf := e_t c7 hf
        refine lv_iconst (v := 0) hx hb dX11_isBy_61 (by decide) ?_
        exact r_z X hH rfl hf dX11_isBy_62
      · have hf := e_f c7 hf
        refine lv_bipush (v := 32) hx hb dX11_isBy_40 (by decide) ?_
        refine lv_iload_n hx hb dX11_isBy_42 rfl (lv_at hl 1 rfl) ?_
        refine lv_imul hx hb dX11_isBy_43 ?_
        refine lv_iconst (v := 4) hx hb dX11_isBy_44 (by decide) ?_
        refine lv_iload hx hb dX11_isBy_45 (lv_at hl 0 rfl) ?_
        refine lv_imul hx hb dX11_isBy_47 ?_
        refine lv_iadd hx hb dX11_isBy_48 ?_
        refine lv_iload_n hx hb dX11_isBy_49 rfl (lv_at hl 3 rfl) ?_
        refine lv_iconst (v := 4) hx hb dX11_isBy_50 (by decide) ?_
        refine lv_irem hx hb dX11_isBy_51 (by decide) ?_
        refine lv_iadd hx hb dX11_isBy_52 ?_
        refine lv_iload_n hx hb dX11_isBy_53 rfl (lv_at hl 4 rfl) ?_
        refine lv_icmp_ne (tgt := 61) hx hb dX11_isBy_54 (by decide) (fun c8 => ?_) (fun c8 => ?_)
        · have hf := e_f c8 hf
          refine lv_iconst (v := 0) hx hb dX11_isBy_61 (by decide) ?_
          exact r_z X hH rfl hf dX11_isBy_62
        · have hf := e_t c8 hf
          refine lv_iconst (v := 1) hx hb dX11_isBy_57 (by decide) ?_
          refine lv_goto (tgt := 62) hx hb dX11_isBy_58 (by decide) ?_
          exact r_z X hH rfl hf dX11_isBy_62
theorem c_Mo_isBy_42 (l : Launch) (G : GT) {N : Nat} {τ υ : Hp} {v1 v2 : Int32} {r : Int32} (hf : f_Mo_isBy N 42 τ v1 v2 = some (r, υ)) : MI l G yX11_isBy cX11_isBy 5 (some .boolean) 0 0 [.ref (aG G 42), .int v1, .int v2] τ r υ := mk_I (by decide) (Nat.le_of_ble_eq_true rfl) (fun p e s m args below meth c X hH ls hl => b_Mo_isBy_42_0 (N := N) X hH (lv_sub hl [0, 1, 2] rfl) hf)
set_option maxHeartbeats 4000000 in
set_option maxRecDepth 100000 in
theorem b_Mo_canShut_42_2b {l : Launch} {G : GT} {N : Nat} {p : Program} {e : Env} {s : State} {m : MethodId} {args : Array Value} {below : List Frame} {meth : Method} {c : Code} (X : Cx G p s m args meth c cX11_canShut 3 RX11 (some .boolean)) {r : Int32} {υ : Hp} {k2 : Hp → Int32 → Int32 → OR} (hk2 : ∀ (τ : Hp) (v1 v2 : Int32) (H : Heap) (locs : List Loc) (ls : Array Slot), Hs G τ s H locs → lv_has ls 3 [(0, .ref (aG G 42)), (1, .int v1), (2, .int v2)] → k2 τ v1 v2 = some (r, υ) → WI l G (rmG 1 24) p e s m args below meth c r υ H locs (F0 m 2 ls [])) {τ : Hp} {v1 v2 : Int32} {H : Heap} {locs : List Loc} {ls : Array Slot} (hH : Hs G τ s H locs) (hl : lv_has ls 3 [(0, .ref (aG G 42)), (1, .int v1), (2, .int v2)]) (hf : f_Mo_canShut_L2b N 42 k2 τ v1 v2 = some (r, υ)) : WI l G (rmG 1 24) p e s m args below meth c r υ H locs (F0 m 2 ls []) := by
  have hx := X.hx
  have hb := X.hb
  unfold f_Mo_canShut_L2b at hf
  refine lv_iload_n hx hb dX11_canShut_2 rfl (lv_at hl 2 rfl) ?_
  refine lv_sipush (v := 256) hx hb dX11_canShut_3 (by decide) ?_
  refine lv_icmp_ge (tgt := 35) hx hb dX11_canShut_6 (by decide) (fun c1 => ?_) (fun c1 => ?_)
  · have hf := e_t c1 hf
    refine lv_iconst (v := 1) hx hb dX11_canShut_35 (by decide) ?_
    exact r_z X hH rfl hf dX11_canShut_36
  · have hf := e_f c1 hf
    refine lv_aload_n hx hb dX11_canShut_9 rfl (lv_at hl 0 rfl) ?_
    refine g_get X hH (fa_42_8 G) tw_534 dX11_canShut_10 ?_
    refine lv_iload_n hx hb dX11_canShut_13 rfl (lv_at hl 2 rfl) ?_
    obtain ⟨g2, hf⟩ := e_g hf
    refine z_ld X hH (aa_48 G) g2 dX11_canShut_14 ?_
    refine lv_if_eq (tgt := 29) hx hb dX11_canShut_15 (by decide) (fun c3 => ?_) (fun c3 => ?_)
    · have hf := e_t c3 hf
      obtain ⟨x4, ex4, hf⟩ := e_l hf
      refine lv_iinc (v := x4) (lv' := [(2, .int x4), (0, .ref (aG G 42)), (1, .int v1)]) hx hb dX11_canShut_29 hl (k := 2) rfl (by rw [ex4]; rfl) (by decide) rfl (fun ls hl => ?_)
      refine lv_goto (tgt := 2) hx hb dX11_canShut_32 (by decide) ?_
      exact hk2 _ _ _ _ _ _ hH (lv_sub hl [1, 2, 0] rfl) hf
    · have hf := e_f c3 hf
      refine lv_aload_n hx hb dX11_canShut_18 rfl (lv_at hl 0 rfl) ?_
      refine lv_iload_n hx hb dX11_canShut_19 rfl (lv_at hl 2 rfl) ?_
      refine lv_iload_n hx hb dX11_canShut_20 rfl (lv_at hl 1 rfl) ?_
      obtain ⟨r5, τ6, hc7, hf⟩ := e_b hf
      refine c_Vi X hH (k := 42) (n := 2) (As := [.int _, .int _]) (rest := []) (c_Mo_isBy_42 l G (N := N) hc7) (by decide) rfl rfl tw_691 tw_689 tw_690 tw_781 tw_13 (by decide +kernel) ⟨by decide, by decide⟩ rfl hl.1 rfl (Nat.le_of_ble_eq_true rfl) ⟨Nat.zero_le _, Nat.zero_le _⟩ dX11_canShut_21 (fun H locs hH => ?_)
      refine lv_if_eq (tgt := 29) hx hb dX11_canShut_24 (by decide) (fun c8 => ?_) (fun c8 => ?_)
      · have hf := e_t c8 hf
        obtain ⟨x9, ex9, hf⟩ := e_l hf
        refine lv_iinc (v := x9) (lv' := [(2, .int x9), (0, .ref (aG G 42)), (1, .int v1)]) hx hb dX11_canShut_29 hl (k := 2) rfl (by rw [ex9]; rfl) (by decide) rfl (fun ls hl => ?_)
        refine lv_goto (tgt := 2) hx hb dX11_canShut_32 (by decide) ?_
        exact hk2 _ _ _ _ _ _ hH (lv_sub hl [1, 2, 0] rfl) hf
      · have hf := e_f c8 hf
        refine lv_iconst (v := 0) hx hb dX11_canShut_27 (by decide) ?_
        exact r_z X hH rfl hf dX11_canShut_28
theorem b_Mo_canShut_42_2 {l : Launch} {G : GT} {N : Nat} {p : Program} {e : Env} {s : State} {m : MethodId} {args : Array Value} {below : List Frame} {meth : Method} {c : Code} (X : Cx G p s m args meth c cX11_canShut 3 RX11 (some .boolean)) {r : Int32} {υ : Hp} : ∀ (n : Nat) (τ : Hp) (v1 v2 : Int32) (H : Heap) (locs : List Loc) (ls : Array Slot), Hs G τ s H locs → lv_has ls 3 [(0, .ref (aG G 42)), (1, .int v1), (2, .int v2)] → f_Mo_canShut_L2 N 42 n τ v1 v2 = some (r, υ) → WI l G (rmG 1 24) p e s m args below meth c r υ H locs (F0 m 2 ls []) := by
  intro n
  induction n with
  | zero => intro τ v1 v2 H locs ls hH hl hf; exact nomatch (show (none : OR) = some (r, υ) from hf)
  | succ n ih => intro τ v1 v2 H locs ls hH hl hf; exact b_Mo_canShut_42_2b (N := N) X ih hH hl hf
set_option maxHeartbeats 4000000 in
set_option maxRecDepth 100000 in
theorem b_Mo_canShut_42_0 {l : Launch} {G : GT} {N : Nat} {p : Program} {e : Env} {s : State} {m : MethodId} {args : Array Value} {below : List Frame} {meth : Method} {c : Code} (X : Cx G p s m args meth c cX11_canShut 3 RX11 (some .boolean)) {r : Int32} {υ : Hp} {τ : Hp} {v1 : Int32} {H : Heap} {locs : List Loc} {ls : Array Slot} (hH : Hs G τ s H locs) (hl : lv_has ls 3 [(0, .ref (aG G 42)), (1, .int v1)]) (hf : f_Mo_canShut N 42 τ v1 = some (r, υ)) : WI l G (rmG 1 24) p e s m args below meth c r υ H locs (F0 m 0 ls []) := by
  have hx := X.hx
  have hb := X.hb
  unfold f_Mo_canShut at hf
  refine lv_iconst (v := 0) hx hb dX11_canShut_0 (by decide) ?_
  refine lv_istore_n (lv' := [(2, .int 0), (0, .ref (aG G 42)), (1, .int v1)]) hx hb dX11_canShut_1 rfl hl (by decide) rfl (fun ls hl => ?_)
  exact b_Mo_canShut_42_2 (N := N) X _ _ _ _ _ _ _ hH (lv_sub hl [1, 2, 0] rfl) hf
theorem c_Mo_canShut_42 (l : Launch) (G : GT) {N : Nat} {τ υ : Hp} {v1 : Int32} {r : Int32} (hf : f_Mo_canShut N 42 τ v1 = some (r, υ)) : MI l G yX11_canShut cX11_canShut 3 (some .boolean) 1 24 [.ref (aG G 42), .int v1] τ r υ := mk_I (by decide) (Nat.le_of_ble_eq_true rfl) (fun p e s m args below meth c X hH ls hl => b_Mo_canShut_42_0 (N := N) X hH (lv_sub hl [0, 1] rfl) hf)
set_option maxHeartbeats 4000000 in
set_option maxRecDepth 100000 in
theorem b_Mo_ruleAt_42_4b {l : Launch} {G : GT} {N : Nat} {p : Program} {e : Env} {s : State} {m : MethodId} {args : Array Value} {below : List Frame} {meth : Method} {c : Code} (X : Cx G p s m args meth c cX11_ruleAt 4 RX11 (some .int)) {r : Int32} {υ : Hp} {k4 : Hp → Int32 → Int32 → Int32 → OR} (hk4 : ∀ (τ : Hp) (v1 v2 v3 : Int32) (H : Heap) (locs : List Loc) (ls : Array Slot), Hs G τ s H locs → lv_has ls 4 [(0, .ref (aG G 42)), (1, .int v1), (2, .int v2), (3, .int v3)] → k4 τ v1 v2 v3 = some (r, υ) → WI l G (rmG 0 0) p e s m args below meth c r υ H locs (F0 m 4 ls [])) {τ : Hp} {v1 v2 v3 : Int32} {H : Heap} {locs : List Loc} {ls : Array Slot} (hH : Hs G τ s H locs) (hl : lv_has ls 4 [(0, .ref (aG G 42)), (1, .int v1), (2, .int v2), (3, .int v3)]) (hf : f_Mo_ruleAt_L4b N 42 k4 τ v1 v2 v3 = some (r, υ)) : WI l G (rmG 0 0) p e s m args below meth c r υ H locs (F0 m 4 ls []) := by
  have hx := X.hx
  have hb := X.hb
  unfold f_Mo_ruleAt_L4b at hf
  refine lv_iload_n hx hb dX11_ruleAt_4 rfl (lv_at hl 3 rfl) ?_
  refine lv_sipush (v := 256) hx hb dX11_ruleAt_5 (by decide) ?_
  refine lv_icmp_ge (tgt := 42) hx hb dX11_ruleAt_8 (by decide) (fun c1 => ?_) (fun c1 => ?_)
  · have hf := e_t c1 hf
    refine lv_iconst (v := (-1)) hx hb dX11_ruleAt_42 (by decide) ?_
    exact r_i X hH hf dX11_ruleAt_43
  · have hf := e_f c1 hf
    refine lv_iload_n hx hb dX11_ruleAt_11 rfl (lv_at hl 1 rfl) ?_
    refine lv_if_lt (tgt := 42) hx hb dX11_ruleAt_12 (by decide) (fun c2 => ?_) (fun c2 => ?_)
    · have hf := e_t c2 hf
      refine lv_iconst (v := (-1)) hx hb dX11_ruleAt_42 (by decide) ?_
      exact r_i X hH hf dX11_ruleAt_43
    · have hf := e_f c2 hf
      refine lv_aload_n hx hb dX11_ruleAt_15 rfl (lv_at hl 0 rfl) ?_
      refine g_get X hH (fa_42_25 G) tw_551 dX11_ruleAt_16 ?_
      refine lv_iload_n hx hb dX11_ruleAt_19 rfl (lv_at hl 3 rfl) ?_
      obtain ⟨g3, hf⟩ := e_g hf
      refine z_ld X hH (aa_57 G) g3 dX11_ruleAt_20 ?_
      refine lv_if_ne (tgt := 27) hx hb dX11_ruleAt_21 (by decide) (fun c4 => ?_) (fun c4 => ?_)
      · have hf := e_f c4 hf
        refine lv_iload_n hx hb dX11_ruleAt_27 rfl (lv_at hl 2 rfl) ?_
        refine lv_if_ne (tgt := 33) hx hb dX11_ruleAt_28 (by decide) (fun c5 => ?_) (fun c5 => ?_)
        · have hf := e_f c5 hf
          obtain ⟨x6, ex6, hf⟩ := e_l hf
          refine lv_iinc (v := x6) (lv' := [(2, .int x6), (0, .ref (aG G 42)), (1, .int v1), (3, .int v3)]) hx hb dX11_ruleAt_33 hl (k := 2) rfl (by rw [ex6]; rfl) (by decide) rfl (fun ls hl => ?_)
          obtain ⟨x7, ex7, hf⟩ := e_l hf
          refine lv_iinc (v := x7) (lv' := [(3, .int x7), (2, .int x6), (0, .ref (aG G 42)), (1, .int v1)]) hx hb dX11_ruleAt_36 hl (k := 3) rfl (by rw [ex7]; rfl) (by decide) rfl (fun ls hl => ?_)
          refine lv_goto (tgt := 4) hx hb dX11_ruleAt_39 (by decide) ?_
          exact hk4 _ _ _ _ _ _ _ hH (lv_sub hl [2, 3, 1, 0] rfl) hf
        · have hf := e_t c5 hf
          refine lv_iload_n hx hb dX11_ruleAt_31 rfl (lv_at hl 3 rfl) ?_
          exact r_i X hH hf dX11_ruleAt_32
      · have hf := e_t c4 hf
        refine lv_goto (tgt := 36) hx hb dX11_ruleAt_24 (by decide) ?_
        obtain ⟨x8, ex8, hf⟩ := e_l hf
        refine lv_iinc (v := x8) (lv' := [(3, .int x8), (0, .ref (aG G 42)), (1, .int v1), (2, .int v2)]) hx hb dX11_ruleAt_36 hl (k := 3) rfl (by rw [ex8]; rfl) (by decide) rfl (fun ls hl => ?_)
        refine lv_goto (tgt := 4) hx hb dX11_ruleAt_39 (by decide) ?_
        exact hk4 _ _ _ _ _ _ _ hH (lv_sub hl [1, 2, 3, 0] rfl) hf
theorem b_Mo_ruleAt_42_4 {l : Launch} {G : GT} {N : Nat} {p : Program} {e : Env} {s : State} {m : MethodId} {args : Array Value} {below : List Frame} {meth : Method} {c : Code} (X : Cx G p s m args meth c cX11_ruleAt 4 RX11 (some .int)) {r : Int32} {υ : Hp} : ∀ (n : Nat) (τ : Hp) (v1 v2 v3 : Int32) (H : Heap) (locs : List Loc) (ls : Array Slot), Hs G τ s H locs → lv_has ls 4 [(0, .ref (aG G 42)), (1, .int v1), (2, .int v2), (3, .int v3)] → f_Mo_ruleAt_L4 N 42 n τ v1 v2 v3 = some (r, υ) → WI l G (rmG 0 0) p e s m args below meth c r υ H locs (F0 m 4 ls []) := by
  intro n
  induction n with
  | zero => intro τ v1 v2 v3 H locs ls hH hl hf; exact nomatch (show (none : OR) = some (r, υ) from hf)
  | succ n ih => intro τ v1 v2 v3 H locs ls hH hl hf; exact b_Mo_ruleAt_42_4b (N := N) X ih hH hl hf
set_option maxHeartbeats 4000000 in
set_option maxRecDepth 100000 in
theorem b_Mo_ruleAt_42_0 {l : Launch} {G : GT} {N : Nat} {p : Program} {e : Env} {s : State} {m : MethodId} {args : Array Value} {below : List Frame} {meth : Method} {c : Code} (X : Cx G p s m args meth c cX11_ruleAt 4 RX11 (some .int)) {r : Int32} {υ : Hp} {τ : Hp} {v1 : Int32} {H : Heap} {locs : List Loc} {ls : Array Slot} (hH : Hs G τ s H locs) (hl : lv_has ls 4 [(0, .ref (aG G 42)), (1, .int v1)]) (hf : f_Mo_ruleAt N 42 τ v1 = some (r, υ)) : WI l G (rmG 0 0) p e s m args below meth c r υ H locs (F0 m 0 ls []) := by
  have hx := X.hx
  have hb := X.hb
  unfold f_Mo_ruleAt at hf
  refine lv_iload_n hx hb dX11_ruleAt_0 rfl (lv_at hl 1 rfl) ?_
  refine lv_istore_n (lv' := [(2, .int v1), (0, .ref (aG G 42)), (1, .int v1)]) hx hb dX11_ruleAt_1 rfl hl (by decide) rfl (fun ls hl => ?_)
  refine lv_iconst (v := 0) hx hb dX11_ruleAt_2 (by decide) ?_
  refine lv_istore_n (lv' := [(3, .int 0), (2, .int v1), (0, .ref (aG G 42)), (1, .int v1)]) hx hb dX11_ruleAt_3 rfl hl (by decide) rfl (fun ls hl => ?_)
  exact b_Mo_ruleAt_42_4 (N := N) X _ _ _ _ _ _ _ _ hH (lv_sub hl [2, 3, 1, 0] rfl) hf
theorem c_Mo_ruleAt_42 (l : Launch) (G : GT) {N : Nat} {τ υ : Hp} {v1 : Int32} {r : Int32} (hf : f_Mo_ruleAt N 42 τ v1 = some (r, υ)) : MI l G yX11_ruleAt cX11_ruleAt 4 (some .int) 0 0 [.ref (aG G 42), .int v1] τ r υ := mk_I (by decide) (Nat.le_of_ble_eq_true rfl) (fun p e s m args below meth c X hH ls hl => b_Mo_ruleAt_42_0 (N := N) X hH (lv_sub hl [0, 1] rfl) hf)
set_option maxHeartbeats 4000000 in
set_option maxRecDepth 100000 in
theorem b_Mo_rule_42_27b {l : Launch} {G : GT} {N : Nat} {p : Program} {e : Env} {s : State} {m : MethodId} {args : Array Value} {below : List Frame} {meth : Method} {c : Code} (X : Cx G p s m args meth c cX11_rule 7 RX11 (some .int)) {r : Int32} {υ : Hp} {k27 : Hp → Int32 → Int32 → Int32 → Int32 → Int32 → OR} (hk27 : ∀ (τ : Hp) (v2 v3 v4 v5 v6 : Int32) (H : Heap) (locs : List Loc) (ls : Array Slot), Hs G τ s H locs → lv_has ls 7 [(0, .ref (aG G 42)), (2, .int v2), (3, .int v3), (4, .int v4), (5, .int v5), (6, .int v6)] → k27 τ v2 v3 v4 v5 v6 = some (r, υ) → WI l G (rmG 2 46) p e s m args below meth c r υ H locs (F0 m 27 ls [])) {τ : Hp} {v2 v3 v4 v5 v6 : Int32} {H : Heap} {locs : List Loc} {ls : Array Slot} (hH : Hs G τ s H locs) (hl : lv_has ls 7 [(0, .ref (aG G 42)), (2, .int v2), (3, .int v3), (4, .int v4), (5, .int v5), (6, .int v6)]) (hf : f_Mo_rule_L27b N 42 k27 τ v2 v3 v4 v5 v6 = some (r, υ)) : WI l G (rmG 2 46) p e s m args below meth c r υ H locs (F0 m 27 ls []) := by
  have hx := X.hx
  have hb := X.hb
  unfold f_Mo_rule_L27b at hf
  refine lv_iload hx hb dX11_rule_27 (lv_at hl 5 rfl) ?_
  refine lv_sipush (v := 256) hx hb dX11_rule_29 (by decide) ?_
  refine lv_icmp_ge (tgt := 79) hx hb dX11_rule_32 (by decide) (fun c1 => ?_) (fun c1 => ?_)
  · have hf := e_t c1 hf
    refine lv_iload_n hx hb dX11_rule_79 rfl (lv_at hl 1 rfl) ?_
    refine lv_topi (fun y2 ey2 => ?_)
    rw [← ey2] at hf
    by_cases c3 : y2 = 0
    · have hf := e_t c3 hf
      refine lv_tableIn (tgt := 120) hx hb dX11_rule_80 (by rw [c3]; decide) (by rw [c3]; decide) (off := 40) (by rw [c3]; decide) (by decide) ?_
      refine lv_iload_n hx hb dX11_rule_120 rfl (lv_at hl 2 rfl) ?_
      refine lv_bipush (v := 32) hx hb dX11_rule_121 (by decide) ?_
      refine lv_idiv hx hb dX11_rule_123 (by decide) ?_
      exact r_i X hH hf dX11_rule_124
    have hf := e_f c3 hf
    by_cases c4 : y2 = 1
    · have hf := e_t c4 hf
      refine lv_tableIn (tgt := 125) hx hb dX11_rule_80 (by rw [c4]; decide) (by rw [c4]; decide) (off := 45) (by rw [c4]; decide) (by decide) ?_
      refine lv_iload_n hx hb dX11_rule_125 rfl (lv_at hl 2 rfl) ?_
      refine lv_iconst (v := 4) hx hb dX11_rule_126 (by decide) ?_
      refine lv_idiv hx hb dX11_rule_127 (by decide) ?_
      refine lv_bipush (v := 8) hx hb dX11_rule_128 (by decide) ?_
      refine lv_irem hx hb dX11_rule_130 (by decide) ?_
      exact r_i X hH hf dX11_rule_131
    have hf := e_f c4 hf
    by_cases c5 : y2 = 2
    · have hf := e_t c5 hf
      refine lv_tableIn (tgt := 132) hx hb dX11_rule_80 (by rw [c5]; decide) (by rw [c5]; decide) (off := 52) (by rw [c5]; decide) (by decide) ?_
      refine lv_iload_n hx hb dX11_rule_132 rfl (lv_at hl 2 rfl) ?_
      refine lv_iconst (v := 4) hx hb dX11_rule_133 (by decide) ?_
      refine lv_irem hx hb dX11_rule_134 (by decide) ?_
      exact r_i X hH hf dX11_rule_135
    have hf := e_f c5 hf
    by_cases c6 : y2 = 3
    · have hf := e_t c6 hf
      refine lv_tableIn (tgt := 136) hx hb dX11_rule_80 (by rw [c6]; decide) (by rw [c6]; decide) (off := 56) (by rw [c6]; decide) (by decide) ?_
      refine lv_iload hx hb dX11_rule_136 (lv_at hl 3 rfl) ?_
      exact r_i X hH hf dX11_rule_138
    have hf := e_f c6 hf
    by_cases c7 : y2 = 4
    · have hf := e_t c7 hf
      refine lv_tableIn (tgt := 139) hx hb dX11_rule_80 (by rw [c7]; decide) (by rw [c7]; decide) (off := 59) (by rw [c7]; decide) (by decide) ?_
      refine lv_iload hx hb dX11_rule_139 (lv_at hl 4 rfl) ?_
      exact r_i X hH hf dX11_rule_141
    have hf := e_f c7 hf
    by_cases c8 : y2 = 5
    · have hf := e_t c8 hf
      refine lv_tableIn (tgt := 142) hx hb dX11_rule_80 (by rw [c8]; decide) (by rw [c8]; decide) (off := 62) (by rw [c8]; decide) (by decide) ?_
      refine lv_aload_n hx hb dX11_rule_142 rfl (lv_at hl 0 rfl) ?_
      refine lv_iload_n hx hb dX11_rule_143 rfl (lv_at hl 2 rfl) ?_
      obtain ⟨r9, τ10, hc11, hf⟩ := e_b hf
      refine c_Vi X hH (k := 42) (n := 1) (As := [.int _]) (rest := []) (c_Mo_canShut_42 l G (N := N) hc11) (by decide) rfl rfl tw_694 tw_692 tw_693 tw_782 tw_13 (by decide +kernel) ⟨by decide, by decide⟩ rfl hl.1 rfl (Nat.le_of_ble_eq_true rfl) ⟨Nat.zero_le _, Nat.zero_le _⟩ dX11_rule_144 (fun H locs hH => ?_)
      refine lv_if_eq (tgt := 154) hx hb dX11_rule_147 (by decide) (fun c12 => ?_) (fun c12 => ?_)
      · have hf := e_t c12 hf
        refine lv_iconst (v := 0) hx hb dX11_rule_154 (by decide) ?_
        exact r_i X hH hf dX11_rule_155
      · have hf := e_f c12 hf
        refine lv_iconst (v := 1) hx hb dX11_rule_150 (by decide) ?_
        refine lv_goto (tgt := 155) hx hb dX11_rule_151 (by decide) ?_
        exact r_i X hH hf dX11_rule_155
    have hf := e_f c8 hf
    refine lv_tableOut (tgt := 156) hx hb dX11_rule_80 (sw_out 5 (fun j hj => ?_)) (by decide) ?_
    · rcases (show j = 0 ∨ j = 1 ∨ j = 2 ∨ j = 3 ∨ j = 4 ∨ j = 5 by omega) with rfl | rfl | rfl | rfl | rfl | rfl
      · exact c3
      · exact c4
      · exact c5
      · exact c6
      · exact c7
      · exact c8
    refine lv_iconst (v := (-1)) hx hb dX11_rule_156 (by decide) ?_
    exact r_i X hH hf dX11_rule_157
  · have hf := e_f c1 hf
    refine lv_aload_n hx hb dX11_rule_35 rfl (lv_at hl 0 rfl) ?_
    refine g_get X hH (fa_42_17 G) tw_543 dX11_rule_36 ?_
    refine lv_iload hx hb dX11_rule_39 (lv_at hl 5 rfl) ?_
    obtain ⟨g13, hf⟩ := e_g hf
    refine z_ld X hH (aa_52 G) g13 dX11_rule_41 ?_
    refine lv_if_eq (tgt := 73) hx hb dX11_rule_42 (by decide) (fun c14 => ?_) (fun c14 => ?_)
    · have hf := e_t c14 hf
      obtain ⟨x15, ex15, hf⟩ := e_l hf
      refine lv_iinc (v := x15) (lv' := [(6, .int x15), (0, .ref (aG G 42)), (2, .int v2), (3, .int v3), (4, .int v4), (5, .int v5)]) hx hb dX11_rule_73 hl (k := 5) rfl (by rw [ex15]; rfl) (by decide) rfl (fun ls hl => ?_)
      refine lv_goto (tgt := 27) hx hb dX11_rule_76 (by decide) ?_
      exact hk27 _ _ _ _ _ _ _ _ _ hH (lv_sub hl [1, 2, 3, 4, 5, 0] rfl) hf
    · have hf := e_f c14 hf
      refine lv_aload_n hx hb dX11_rule_45 rfl (lv_at hl 0 rfl) ?_
      refine lv_iload hx hb dX11_rule_46 (lv_at hl 5 rfl) ?_
      refine lv_iload_n hx hb dX11_rule_48 rfl (lv_at hl 2 rfl) ?_
      obtain ⟨r16, τ17, hc18, hf⟩ := e_b hf
      refine c_Vi X hH (k := 42) (n := 2) (As := [.int _, .int _]) (rest := []) (c_Mo_isBy_42 l G (N := N) hc18) (by decide) rfl rfl tw_691 tw_689 tw_690 tw_781 tw_13 (by decide +kernel) ⟨by decide, by decide⟩ rfl hl.1 rfl (Nat.le_of_ble_eq_true rfl) ⟨Nat.zero_le _, Nat.zero_le _⟩ dX11_rule_49 (fun H locs hH => ?_)
      refine lv_if_ne (tgt := 58) hx hb dX11_rule_52 (by decide) (fun c19 => ?_) (fun c19 => ?_)
      · have hf := e_f c19 hf
        obtain ⟨x20, ex20, hf⟩ := e_l hf
        refine lv_iinc (v := x20) (lv' := [(4, .int x20), (0, .ref (aG G 42)), (2, .int v2), (3, .int v3), (5, .int v5), (6, .int v6)]) hx hb dX11_rule_58 hl (k := 3) rfl (by rw [ex20]; rfl) (by decide) rfl (fun ls hl => ?_)
        refine lv_iload hx hb dX11_rule_61 (lv_at hl 4 rfl) ?_
        refine lv_aload_n hx hb dX11_rule_63 rfl (lv_at hl 1 rfl) ?_
        refine g_get X hH (fa_42_18 G) tw_544 dX11_rule_64 ?_
        refine lv_iload hx hb dX11_rule_67 (lv_at hl 5 rfl) ?_
        obtain ⟨g21, hf⟩ := e_g hf
        refine a_ld X hH (aa_53 G) g21 dX11_rule_69 ?_
        refine lv_iadd hx hb dX11_rule_70 ?_
        obtain ⟨x22, ex22, hf⟩ := e_l hf
        refine g_nm ex22 ?_
        refine lv_istore (lv' := [(5, .int x22), (4, .int x20), (0, .ref (aG G 42)), (2, .int v2), (3, .int v3), (6, .int v6)]) hx hb dX11_rule_71 hl (by decide) rfl (fun ls hl => ?_)
        obtain ⟨x23, ex23, hf⟩ := e_l hf
        refine lv_iinc (v := x23) (lv' := [(6, .int x23), (5, .int x22), (4, .int x20), (0, .ref (aG G 42)), (2, .int v2), (3, .int v3)]) hx hb dX11_rule_73 hl (k := 5) rfl (by rw [ex23]; rfl) (by decide) rfl (fun ls hl => ?_)
        refine lv_goto (tgt := 27) hx hb dX11_rule_76 (by decide) ?_
        exact hk27 _ _ _ _ _ _ _ _ _ hH (lv_sub hl [3, 4, 5, 2, 1, 0] rfl) hf
      · have hf := e_t c19 hf
        refine lv_goto (tgt := 73) hx hb dX11_rule_55 (by decide) ?_
        obtain ⟨x24, ex24, hf⟩ := e_l hf
        refine lv_iinc (v := x24) (lv' := [(6, .int x24), (0, .ref (aG G 42)), (2, .int v2), (3, .int v3), (4, .int v4), (5, .int v5)]) hx hb dX11_rule_73 hl (k := 5) rfl (by rw [ex24]; rfl) (by decide) rfl (fun ls hl => ?_)
        refine lv_goto (tgt := 27) hx hb dX11_rule_76 (by decide) ?_
        exact hk27 _ _ _ _ _ _ _ _ _ hH (lv_sub hl [1, 2, 3, 4, 5, 0] rfl) hf
theorem b_Mo_rule_42_27 {l : Launch} {G : GT} {N : Nat} {p : Program} {e : Env} {s : State} {m : MethodId} {args : Array Value} {below : List Frame} {meth : Method} {c : Code} (X : Cx G p s m args meth c cX11_rule 7 RX11 (some .int)) {r : Int32} {υ : Hp} : ∀ (n : Nat) (τ : Hp) (v2 v3 v4 v5 v6 : Int32) (H : Heap) (locs : List Loc) (ls : Array Slot), Hs G τ s H locs → lv_has ls 7 [(0, .ref (aG G 42)), (2, .int v2), (3, .int v3), (4, .int v4), (5, .int v5), (6, .int v6)] → f_Mo_rule_L27 N 42 n τ v2 v3 v4 v5 v6 = some (r, υ) → WI l G (rmG 2 46) p e s m args below meth c r υ H locs (F0 m 27 ls []) := by
  intro n
  induction n with
  | zero => intro τ v2 v3 v4 v5 v6 H locs ls hH hl hf; exact nomatch (show (none : OR) = some (r, υ) from hf)
  | succ n ih => intro τ v2 v3 v4 v5 v6 H locs ls hH hl hf; exact b_Mo_rule_42_27b (N := N) X ih hH hl hf
set_option maxHeartbeats 4000000 in
set_option maxRecDepth 100000 in
theorem b_Mo_rule_42_0 {l : Launch} {G : GT} {N : Nat} {p : Program} {e : Env} {s : State} {m : MethodId} {args : Array Value} {below : List Frame} {meth : Method} {c : Code} (X : Cx G p s m args meth c cX11_rule 7 RX11 (some .int)) {r : Int32} {υ : Hp} {τ : Hp} {v1 v2 : Int32} {H : Heap} {locs : List Loc} {ls : Array Slot} (hH : Hs G τ s H locs) (hl : lv_has ls 7 [(0, .ref (aG G 42)), (1, .int v1), (2, .int v2)]) (hf : f_Mo_rule N 42 τ v1 v2 = some (r, υ)) : WI l G (rmG 2 46) p e s m args below meth c r υ H locs (F0 m 0 ls []) := by
  have hx := X.hx
  have hb := X.hb
  unfold f_Mo_rule at hf
  refine lv_aload_n hx hb dX11_rule_0 rfl (lv_at hl 0 rfl) ?_
  refine lv_iconst (v := 0) hx hb dX11_rule_1 (by decide) ?_
  obtain ⟨τ1, eτ1, hf⟩ := e_l hf
  refine g_put X hH (fp_42_0 G) tw_526 rfl rfl dX11_rule_2 (fun H locs hH => ?_)
  have hH : Hs G τ1 s H locs := by rw [eτ1]; exact hH
  refine lv_aload_n hx hb dX11_rule_5 rfl (lv_at hl 0 rfl) ?_
  refine lv_iload_n hx hb dX11_rule_6 rfl (lv_at hl 1 rfl) ?_
  obtain ⟨r2, τ3, hc4, hf⟩ := e_b hf
  refine c_Vi X hH (k := 42) (n := 1) (As := [.int _]) (rest := []) (c_Mo_ruleAt_42 l G (N := N) hc4) (by decide) rfl rfl tw_688 tw_686 tw_687 tw_780 tw_13 (by decide +kernel) ⟨by decide, by decide⟩ rfl hl.1 rfl (Nat.le_of_ble_eq_true rfl) ⟨Nat.zero_le _, Nat.zero_le _⟩ dX11_rule_7 (fun H locs hH => ?_)
  refine lv_istore_n (lv' := [(3, .int r2), (0, .ref (aG G 42)), (1, .int v1), (2, .int v2)]) hx hb dX11_rule_10 rfl hl (by decide) rfl (fun ls hl => ?_)
  refine lv_iload_n hx hb dX11_rule_11 rfl (lv_at hl 0 rfl) ?_
  refine lv_iconst (v := (-1)) hx hb dX11_rule_12 (by decide) ?_
  refine lv_icmp_ne (tgt := 18) hx hb dX11_rule_13 (by decide) (fun c5 => ?_) (fun c5 => ?_)
  · have hf := e_f c5 hf
    refine lv_iconst (v := 0) hx hb dX11_rule_18 (by decide) ?_
    refine lv_istore (lv' := [(4, .int 0), (3, .int r2), (0, .ref (aG G 42)), (1, .int v1), (2, .int v2)]) hx hb dX11_rule_19 hl (by decide) rfl (fun ls hl => ?_)
    refine lv_iconst (v := 0) hx hb dX11_rule_21 (by decide) ?_
    refine lv_istore (lv' := [(5, .int 0), (4, .int 0), (3, .int r2), (0, .ref (aG G 42)), (1, .int v1), (2, .int v2)]) hx hb dX11_rule_22 hl (by decide) rfl (fun ls hl => ?_)
    refine lv_iconst (v := 0) hx hb dX11_rule_24 (by decide) ?_
    refine lv_istore (lv' := [(6, .int 0), (5, .int 0), (4, .int 0), (3, .int r2), (0, .ref (aG G 42)), (1, .int v1), (2, .int v2)]) hx hb dX11_rule_25 hl (by decide) rfl (fun ls hl => ?_)
    exact b_Mo_rule_42_27 (N := N) X _ _ _ _ _ _ _ _ _ _ hH (lv_sub hl [4, 6, 3, 2, 1, 0] rfl) hf
  · have hf := e_t c5 hf
    refine lv_iconst (v := (-1)) hx hb dX11_rule_16 (by decide) ?_
    exact r_i X hH hf dX11_rule_17
theorem c_Mo_rule_42 (l : Launch) (G : GT) {N : Nat} {τ υ : Hp} {v1 v2 : Int32} {r : Int32} (hf : f_Mo_rule N 42 τ v1 v2 = some (r, υ)) : MI l G yX11_rule cX11_rule 7 (some .int) 2 46 [.ref (aG G 42), .int v1, .int v2] τ r υ := mk_I (by decide) (Nat.le_of_ble_eq_true rfl) (fun p e s m args below meth c X hH ls hl => b_Mo_rule_42_0 (N := N) X hH (lv_sub hl [0, 1, 2] rfl) hf)
set_option maxHeartbeats 4000000 in
set_option maxRecDepth 100000 in
theorem b_Ly_areIn_11_0 {l : Launch} {G : GT} {N : Nat} {p : Program} {e : Env} {s : State} {m : MethodId} {args : Array Value} {below : List Frame} {meth : Method} {c : Code} (X : Cx G p s m args meth c cX2_areIn 3 RX2 (some .boolean)) {r : Int32} {υ : Hp} {τ : Hp} {v1 v2 : Int32} {H : Heap} {locs : List Loc} {ls : Array Slot} (hH : Hs G τ s H locs) (hl : lv_has ls 3 [(0, .ref (aG G 11)), (1, .int v1), (2, .int v2)]) (hf : f_Ly_areIn N 11 τ v1 v2 = some (r, υ)) : WI l G (rmG 0 0) p e s m args below meth c r υ H locs (F0 m 0 ls []) := by
  have hx := X.hx
  have hb := X.hb
  unfold f_Ly_areIn at hf
  refine lv_aload_n hx hb dX2_areIn_0 rfl (lv_at hl 0 rfl) ?_
  refine g_get X hH (fa_11_0 G) tw_81 dX2_areIn_1 ?_
  refine lv_iload_n hx hb dX2_areIn_4 rfl (lv_at hl 1 rfl) ?_
  obtain ⟨g1, hf⟩ := e_g hf
  refine a_ld X hH (aa_12 G) g1 dX2_areIn_5 ?_
  refine lv_iconst (v := (-1)) hx hb dX2_areIn_6 (by decide) ?_
  refine lv_icmp_eq (tgt := 24) hx hb dX2_areIn_7 (by decide) (fun c2 => ?_) (fun c2 => ?_)
  · have hf := e_t c2 hf
    refine lv_iconst (v := 0) hx hb dX2_areIn_24 (by decide) ?_
    exact r_z X hH rfl hf dX2_areIn_25
  · have hf := e_f c2 hf
    refine lv_aload_n hx hb dX2_areIn_10 rfl (lv_at hl 0 rfl) ?_
    refine g_get X hH (fa_11_0 G) tw_81 dX2_areIn_11 ?_
    refine lv_iload_n hx hb dX2_areIn_14 rfl (lv_at hl 2 rfl) ?_
    obtain ⟨g3, hf⟩ := e_g hf
    refine a_ld X hH (aa_12 G) g3 dX2_areIn_15 ?_
    refine lv_iconst (v := (-1)) hx hb dX2_areIn_16 (by decide) ?_
    refine lv_icmp_eq (tgt := 24) hx hb dX2_areIn_17 (by decide) (fun c4 => ?_) (fun c4 => ?_)
    · have hf := e_t c4 hf
      refine lv_iconst (v := 0) hx hb dX2_areIn_24 (by decide) ?_
      exact r_z X hH rfl hf dX2_areIn_25
    · have hf := e_f c4 hf
      refine lv_iconst (v := 1) hx hb dX2_areIn_20 (by decide) ?_
      refine lv_goto (tgt := 25) hx hb dX2_areIn_21 (by decide) ?_
      exact r_z X hH rfl hf dX2_areIn_25
theorem c_Ly_areIn_11 (l : Launch) (G : GT) {N : Nat} {τ υ : Hp} {v1 v2 : Int32} {r : Int32} (hf : f_Ly_areIn N 11 τ v1 v2 = some (r, υ)) : MI l G yX2_areIn cX2_areIn 3 (some .boolean) 0 0 [.ref (aG G 11), .int v1, .int v2] τ r υ := mk_I (by decide) (Nat.le_of_ble_eq_true rfl) (fun p e s m args below meth c X hH ls hl => b_Ly_areIn_11_0 (N := N) X hH (lv_sub hl [0, 1, 2] rfl) hf)
set_option maxHeartbeats 4000000 in
set_option maxRecDepth 100000 in
theorem b_Ly_doorsBetween_11_0 {l : Launch} {G : GT} {N : Nat} {p : Program} {e : Env} {s : State} {m : MethodId} {args : Array Value} {below : List Frame} {meth : Method} {c : Code} (X : Cx G p s m args meth c cX2_doorsBetween 3 RX2 (some .int)) {r : Int32} {υ : Hp} {τ : Hp} {v1 v2 : Int32} {H : Heap} {locs : List Loc} {ls : Array Slot} (hH : Hs G τ s H locs) (hl : lv_has ls 3 [(0, .ref (aG G 11)), (1, .int v1), (2, .int v2)]) (hf : f_Ly_doorsBetween N 11 τ v1 v2 = some (r, υ)) : WI l G (rmG 1 21) p e s m args below meth c r υ H locs (F0 m 0 ls []) := by
  have hx := X.hx
  have hb := X.hb
  unfold f_Ly_doorsBetween at hf
  refine lv_aload_n hx hb dX2_doorsBetween_0 rfl (lv_at hl 0 rfl) ?_
  refine g_get X hH (fa_11_1 G) tw_82 dX2_doorsBetween_1 ?_
  refine lv_aload_n hx hb dX2_doorsBetween_4 rfl (lv_at hl 0 rfl) ?_
  refine g_get X hH (fa_11_0 G) tw_81 dX2_doorsBetween_5 ?_
  refine lv_iload_n hx hb dX2_doorsBetween_8 rfl (lv_at hl 1 rfl) ?_
  obtain ⟨g1, hf⟩ := e_g hf
  refine a_ld X hH (aa_12 G) g1 dX2_doorsBetween_9 ?_
  refine lv_aload_n hx hb dX2_doorsBetween_10 rfl (lv_at hl 0 rfl) ?_
  refine g_get X hH (fa_11_0 G) tw_81 dX2_doorsBetween_11 ?_
  refine lv_iload_n hx hb dX2_doorsBetween_14 rfl (lv_at hl 2 rfl) ?_
  obtain ⟨g2, hf⟩ := e_g hf
  refine a_ld X hH (aa_12 G) g2 dX2_doorsBetween_15 ?_
  obtain ⟨r3, τ4, hc5, hf⟩ := e_b hf
  refine c_SNi X hH (n := 2) (As := [.int _, .int _]) (rest := [.ref (aG G 13)]) (c_WP_pairOf l G (N := N) hc5) tw_223 13 rfl tw_222 tw_1 (by decide +kernel) ⟨by decide, by decide⟩ rfl hl.1 rfl (Nat.le_of_ble_eq_true rfl) ⟨Nat.zero_le _, Nat.zero_le _⟩ dX2_doorsBetween_16 (fun H locs hH => ?_)
  obtain ⟨g6, hf⟩ := e_g hf
  refine a_ld X hH (aa_13 G) g6 dX2_doorsBetween_19 ?_
  exact r_i X hH hf dX2_doorsBetween_20
theorem c_Ly_doorsBetween_11 (l : Launch) (G : GT) {N : Nat} {τ υ : Hp} {v1 v2 : Int32} {r : Int32} (hf : f_Ly_doorsBetween N 11 τ v1 v2 = some (r, υ)) : MI l G yX2_doorsBetween cX2_doorsBetween 3 (some .int) 1 21 [.ref (aG G 11), .int v1, .int v2] τ r υ := mk_I (by decide) (Nat.le_of_ble_eq_true rfl) (fun p e s m args below meth c X hH ls hl => b_Ly_doorsBetween_11_0 (N := N) X hH (lv_sub hl [0, 1, 2] rfl) hf)
set_option maxHeartbeats 4000000 in
set_option maxRecDepth 100000 in
theorem b_Ly_isLet_11_0 {l : Launch} {G : GT} {N : Nat} {p : Program} {e : Env} {s : State} {m : MethodId} {args : Array Value} {below : List Frame} {meth : Method} {c : Code} (X : Cx G p s m args meth c cX2_isLet 4 RX2 (some .boolean)) {r : Int32} {υ : Hp} {τ : Hp} {v1 v2 v3 : Int32} {H : Heap} {locs : List Loc} {ls : Array Slot} (hH : Hs G τ s H locs) (hl : lv_has ls 4 [(0, .ref (aG G 11)), (1, .int v1), (2, .int v2), (3, .int v3)]) (hf : f_Ly_isLet N 11 τ v1 v2 v3 = some (r, υ)) : WI l G (rmG 2 43) p e s m args below meth c r υ H locs (F0 m 0 ls []) := by
  have hx := X.hx
  have hb := X.hb
  unfold f_Ly_isLet at hf
  refine lv_aload_n hx hb dX2_isLet_0 rfl (lv_at hl 0 rfl) ?_
  refine lv_iload_n hx hb dX2_isLet_1 rfl (lv_at hl 1 rfl) ?_
  refine lv_iload_n hx hb dX2_isLet_2 rfl (lv_at hl 2 rfl) ?_
  obtain ⟨r1, τ2, hc3, hf⟩ := e_b hf
  refine c_Vi X hH (k := 11) (n := 2) (As := [.int _, .int _]) (rest := []) (c_Ly_areIn_11 l G (N := N) hc3) (by decide) rfl rfl tw_403 tw_408 tw_401 tw_402 tw_6 (by decide +kernel) ⟨by decide, by decide⟩ rfl hl.1 rfl (Nat.le_of_ble_eq_true rfl) ⟨Nat.zero_le _, Nat.zero_le _⟩ dX2_isLet_3 (fun H locs hH => ?_)
  refine lv_if_eq (tgt := 26) hx hb dX2_isLet_6 (by decide) (fun c4 => ?_) (fun c4 => ?_)
  · have hf := e_t c4 hf
    refine lv_iconst (v := 0) hx hb dX2_isLet_26 (by decide) ?_
    exact r_z X hH rfl hf dX2_isLet_27
  · have hf := e_f c4 hf
    refine lv_aload_n hx hb dX2_isLet_9 rfl (lv_at hl 0 rfl) ?_
    refine lv_iload_n hx hb dX2_isLet_10 rfl (lv_at hl 1 rfl) ?_
    refine lv_iload_n hx hb dX2_isLet_11 rfl (lv_at hl 2 rfl) ?_
    obtain ⟨r5, τ6, hc7, hf⟩ := e_b hf
    refine c_Vi X hH (k := 11) (n := 2) (As := [.int _, .int _]) (rest := []) (c_Ly_doorsBetween_11 l G (N := N) hc7) (by decide) rfl rfl tw_412 tw_409 tw_410 tw_411 tw_6 (by decide +kernel) ⟨by decide, by decide⟩ rfl hl.1 rfl (Nat.le_of_ble_eq_true rfl) ⟨Nat.zero_le _, Nat.zero_le _⟩ dX2_isLet_12 (fun H locs hH => ?_)
    refine lv_iload_n hx hb dX2_isLet_15 rfl (lv_at hl 3 rfl) ?_
    obtain ⟨r8, τ9, hc10, hf⟩ := e_b hf
    refine c_SNi X hH (n := 2) (As := [.int _, .int _]) (rest := []) (c_WP_hasDoor l G (N := N) hc10) tw_237 20 rfl tw_236 tw_1 (by decide +kernel) ⟨by decide, by decide⟩ rfl hl.1 rfl (Nat.le_of_ble_eq_true rfl) ⟨Nat.zero_le _, Nat.zero_le _⟩ dX2_isLet_16 (fun H locs hH => ?_)
    refine lv_if_eq (tgt := 26) hx hb dX2_isLet_19 (by decide) (fun c11 => ?_) (fun c11 => ?_)
    · have hf := e_t c11 hf
      refine lv_iconst (v := 0) hx hb dX2_isLet_26 (by decide) ?_
      exact r_z X hH rfl hf dX2_isLet_27
    · have hf := e_f c11 hf
      refine lv_iconst (v := 1) hx hb dX2_isLet_22 (by decide) ?_
      refine lv_goto (tgt := 27) hx hb dX2_isLet_23 (by decide) ?_
      exact r_z X hH rfl hf dX2_isLet_27
theorem c_Ly_isLet_11 (l : Launch) (G : GT) {N : Nat} {τ υ : Hp} {v1 v2 v3 : Int32} {r : Int32} (hf : f_Ly_isLet N 11 τ v1 v2 v3 = some (r, υ)) : MI l G yX2_isLet cX2_isLet 4 (some .boolean) 2 43 [.ref (aG G 11), .int v1, .int v2, .int v3] τ r υ := mk_I (by decide) (Nat.le_of_ble_eq_true rfl) (fun p e s m args below meth c X hH ls hl => b_Ly_isLet_11_0 (N := N) X hH (lv_sub hl [0, 1, 2, 3] rfl) hf)
set_option maxHeartbeats 4000000 in
set_option maxRecDepth 100000 in
theorem b_WP_lets_0_0 {l : Launch} {G : GT} {N : Nat} {p : Program} {e : Env} {s : State} {m : MethodId} {args : Array Value} {below : List Frame} {meth : Method} {c : Code} (X : Cx G p s m args meth c cX10_lets 4 RX10 (some .int)) {r : Int32} {υ : Hp} {τ : Hp} {v1 v2 v3 : Int32} {H : Heap} {locs : List Loc} {ls : Array Slot} (hH : Hs G τ s H locs) (hl : lv_has ls 4 [(0, .ref (aG G 0)), (1, .int v1), (2, .int v2), (3, .int v3)]) (hf : f_WP_lets N 0 τ v1 v2 v3 = some (r, υ)) : WI l G (rmG 3 66) p e s m args below meth c r υ H locs (F0 m 0 ls []) := by
  have hx := X.hx
  have hb := X.hb
  unfold f_WP_lets at hf
  refine lv_aload_n hx hb dX10_lets_0 rfl (lv_at hl 0 rfl) ?_
  refine g_get X hH (fa_0_0 G) tw_174 dX10_lets_1 ?_
  refine lv_iload_n hx hb dX10_lets_4 rfl (lv_at hl 1 rfl) ?_
  refine lv_iload_n hx hb dX10_lets_5 rfl (lv_at hl 2 rfl) ?_
  refine lv_iload_n hx hb dX10_lets_6 rfl (lv_at hl 3 rfl) ?_
  obtain ⟨r1, τ2, hc3, hf⟩ := e_b hf
  refine c_Vi X hH (k := 1) (n := 3) (As := [.int _, .int _, .int _]) (rest := []) (c_Nt_isWay_1 l G (N := N) hc3) (by decide) rfl rfl tw_210 tw_207 tw_208 tw_209 tw_2 (by decide +kernel) ⟨by decide, by decide⟩ rfl hl.1 rfl (Nat.le_of_ble_eq_true rfl) ⟨Nat.zero_le _, Nat.zero_le _⟩ dX10_lets_7 (fun H locs hH => ?_)
  refine lv_if_eq (tgt := 28) hx hb dX10_lets_10 (by decide) (fun c4 => ?_) (fun c4 => ?_)
  · have hf := e_t c4 hf
    refine lv_iconst (v := (-1)) hx hb dX10_lets_28 (by decide) ?_
    exact r_i X hH hf dX10_lets_29
  · have hf := e_f c4 hf
    refine lv_aload_n hx hb dX10_lets_13 rfl (lv_at hl 0 rfl) ?_
    refine g_get X hH (fa_0_3 G) tw_177 dX10_lets_14 ?_
    refine g_getN X hH (fa_10_0 G) 39 rfl dX10_lets_17 ?_
    refine lv_iload_n hx hb dX10_lets_20 rfl (lv_at hl 1 rfl) ?_
    refine lv_iload_n hx hb dX10_lets_21 rfl (lv_at hl 2 rfl) ?_
    obtain ⟨r5, τ6, hc7, hf⟩ := e_b hf
    refine c_Vi X hH (k := 11) (n := 2) (As := [.int _, .int _]) (rest := []) (c_Ly_areIn_11 l G (N := N) hc7) (by decide) rfl rfl tw_403 tw_400 tw_401 tw_402 tw_6 (by decide +kernel) ⟨by decide, by decide⟩ rfl hl.1 rfl (Nat.le_of_ble_eq_true rfl) ⟨Nat.zero_le _, Nat.zero_le _⟩ dX10_lets_22 (fun H locs hH => ?_)
    refine lv_if_ne (tgt := 30) hx hb dX10_lets_25 (by decide) (fun c8 => ?_) (fun c8 => ?_)
    · have hf := e_f c8 hf
      refine lv_aload_n hx hb dX10_lets_30 rfl (lv_at hl 0 rfl) ?_
      refine g_get X hH (fa_0_3 G) tw_177 dX10_lets_31 ?_
      refine g_getN X hH (fa_10_0 G) 39 rfl dX10_lets_34 ?_
      refine lv_iload_n hx hb dX10_lets_37 rfl (lv_at hl 1 rfl) ?_
      refine lv_iload_n hx hb dX10_lets_38 rfl (lv_at hl 2 rfl) ?_
      refine lv_iload_n hx hb dX10_lets_39 rfl (lv_at hl 3 rfl) ?_
      obtain ⟨r9, τ10, hc11, hf⟩ := e_b hf
      refine c_Vi X hH (k := 11) (n := 3) (As := [.int _, .int _, .int _]) (rest := []) (c_Ly_isLet_11 l G (N := N) hc11) (by decide) rfl rfl tw_407 tw_404 tw_405 tw_406 tw_6 (by decide +kernel) ⟨by decide, by decide⟩ rfl hl.1 rfl (Nat.le_of_ble_eq_true rfl) ⟨Nat.zero_le _, Nat.zero_le _⟩ dX10_lets_40 (fun H locs hH => ?_)
      refine lv_if_ne (tgt := 48) hx hb dX10_lets_43 (by decide) (fun c12 => ?_) (fun c12 => ?_)
      · have hf := e_f c12 hf
        refine lv_aload_n hx hb dX10_lets_48 rfl (lv_at hl 0 rfl) ?_
        refine g_get X hH (fa_0_3 G) tw_177 dX10_lets_49 ?_
        refine g_getN X hH (fa_10_0 G) 39 rfl dX10_lets_52 ?_
        refine g_getN X hH (fa_11_0 G) 25 rfl dX10_lets_55 ?_
        refine lv_iload_n hx hb dX10_lets_58 rfl (lv_at hl 1 rfl) ?_
        obtain ⟨g13, hf⟩ := e_g hf
        refine a_ld X hH (aa_12 G) g13 dX10_lets_59 ?_
        refine lv_aload_n hx hb dX10_lets_60 rfl (lv_at hl 0 rfl) ?_
        refine g_get X hH (fa_0_3 G) tw_177 dX10_lets_61 ?_
        refine g_getN X hH (fa_10_0 G) 39 rfl dX10_lets_64 ?_
        refine g_getN X hH (fa_11_0 G) 25 rfl dX10_lets_67 ?_
        refine lv_iload_n hx hb dX10_lets_70 rfl (lv_at hl 2 rfl) ?_
        obtain ⟨g14, hf⟩ := e_g hf
        refine a_ld X hH (aa_12 G) g14 dX10_lets_71 ?_
        refine lv_icmp_ne (tgt := 79) hx hb dX10_lets_72 (by decide) (fun c15 => ?_) (fun c15 => ?_)
        · have hf := e_f c15 hf
          refine lv_iconst (v := 2) hx hb dX10_lets_79 (by decide) ?_
          exact r_i X hH hf dX10_lets_80
        · have hf := e_t c15 hf
          refine lv_iconst (v := 1) hx hb dX10_lets_75 (by decide) ?_
          refine lv_goto (tgt := 80) hx hb dX10_lets_76 (by decide) ?_
          exact r_i X hH hf dX10_lets_80
      · have hf := e_t c12 hf
        refine lv_iconst (v := 0) hx hb dX10_lets_46 (by decide) ?_
        exact r_i X hH hf dX10_lets_47
    · have hf := e_t c8 hf
      refine lv_iconst (v := (-1)) hx hb dX10_lets_28 (by decide) ?_
      exact r_i X hH hf dX10_lets_29
theorem c_WP_lets_0 (l : Launch) (G : GT) {N : Nat} {τ υ : Hp} {v1 v2 v3 : Int32} {r : Int32} (hf : f_WP_lets N 0 τ v1 v2 v3 = some (r, υ)) : MI l G yX10_lets cX10_lets 4 (some .int) 3 66 [.ref (aG G 0), .int v1, .int v2, .int v3] τ r υ := mk_I (by decide) (Nat.le_of_ble_eq_true rfl) (fun p e s m args below meth c X hH ls hl => b_WP_lets_0_0 (N := N) X hH (lv_sub hl [0, 1, 2, 3] rfl) hf)
set_option maxHeartbeats 4000000 in
set_option maxRecDepth 100000 in
theorem b_Mo_letsBy_42_0 {l : Launch} {G : GT} {N : Nat} {p : Program} {e : Env} {s : State} {m : MethodId} {args : Array Value} {below : List Frame} {meth : Method} {c : Code} (X : Cx G p s m args meth c cX11_letsBy 4 RX11 (some .int)) {r : Int32} {υ : Hp} {τ : Hp} {v1 : Int32} {H : Heap} {locs : List Loc} {ls : Array Slot} (hH : Hs G τ s H locs) (hl : lv_has ls 4 [(0, .ref (aG G 42)), (1, .int v1)]) (hf : f_Mo_letsBy N 42 τ v1 = some (r, υ)) : WI l G (rmG 0 0) p e s m args below meth c r υ H locs (F0 m 0 ls []) := by
  have hx := X.hx
  have hb := X.hb
  unfold f_Mo_letsBy at hf
  refine lv_aload_n hx hb dX11_letsBy_0 rfl (lv_at hl 0 rfl) ?_
  refine g_get X hH (fa_42_3 G) tw_529 dX11_letsBy_1 ?_
  refine lv_iload_n hx hb dX11_letsBy_4 rfl (lv_at hl 1 rfl) ?_
  refine lv_bipush (v := 32) hx hb dX11_letsBy_5 (by decide) ?_
  refine lv_idiv hx hb dX11_letsBy_7 (by decide) ?_
  obtain ⟨g1, hf⟩ := e_g hf
  refine a_ld X hH (aa_44 G) g1 dX11_letsBy_8 ?_
  obtain ⟨x2, ex2, hf⟩ := e_l hf
  refine g_nm ex2 ?_
  refine lv_istore_n (lv' := [(2, .int x2), (0, .ref (aG G 42)), (1, .int v1)]) hx hb dX11_letsBy_9 rfl hl (by decide) rfl (fun ls hl => ?_)
  refine lv_aload_n hx hb dX11_letsBy_10 rfl (lv_at hl 1 rfl) ?_
  refine g_get X hH (fa_42_3 G) tw_529 dX11_letsBy_11 ?_
  refine lv_iload_n hx hb dX11_letsBy_14 rfl (lv_at hl 2 rfl) ?_
  refine lv_iconst (v := 4) hx hb dX11_letsBy_15 (by decide) ?_
  refine lv_idiv hx hb dX11_letsBy_16 (by decide) ?_
  refine lv_bipush (v := 8) hx hb dX11_letsBy_17 (by decide) ?_
  refine lv_irem hx hb dX11_letsBy_19 (by decide) ?_
  obtain ⟨g3, hf⟩ := e_g hf
  refine a_ld X hH (aa_44 G) g3 dX11_letsBy_20 ?_
  obtain ⟨x4, ex4, hf⟩ := e_l hf
  refine g_nm ex4 ?_
  refine lv_istore_n (lv' := [(3, .int x4), (2, .int x2), (0, .ref (aG G 42)), (1, .int v1)]) hx hb dX11_letsBy_21 rfl hl (by decide) rfl (fun ls hl => ?_)
  refine lv_iload_n hx hb dX11_letsBy_22 rfl (lv_at hl 1 rfl) ?_
  refine lv_iload_n hx hb dX11_letsBy_23 rfl (lv_at hl 0 rfl) ?_
  refine lv_icmp_ne (tgt := 31) hx hb dX11_letsBy_24 (by decide) (fun c5 => ?_) (fun c5 => ?_)
  · have hf := e_f c5 hf
    refine lv_aload_n hx hb dX11_letsBy_31 rfl (lv_at hl 2 rfl) ?_
    refine g_get X hH (fa_42_25 G) tw_551 dX11_letsBy_32 ?_
    refine lv_bipush (v := 32) hx hb dX11_letsBy_35 (by decide) ?_
    refine lv_iload_n hx hb dX11_letsBy_37 rfl (lv_at hl 1 rfl) ?_
    refine lv_imul hx hb dX11_letsBy_38 ?_
    refine lv_iconst (v := 4) hx hb dX11_letsBy_39 (by decide) ?_
    refine lv_iload_n hx hb dX11_letsBy_40 rfl (lv_at hl 0 rfl) ?_
    refine lv_imul hx hb dX11_letsBy_41 ?_
    refine lv_iadd hx hb dX11_letsBy_42 ?_
    refine lv_iload_n hx hb dX11_letsBy_43 rfl (lv_at hl 3 rfl) ?_
    refine lv_iconst (v := 4) hx hb dX11_letsBy_44 (by decide) ?_
    refine lv_irem hx hb dX11_letsBy_45 (by decide) ?_
    refine lv_iadd hx hb dX11_letsBy_46 ?_
    obtain ⟨g6, hf⟩ := e_g hf
    refine z_ld X hH (aa_57 G) g6 dX11_letsBy_47 ?_
    refine lv_if_eq (tgt := 55) hx hb dX11_letsBy_48 (by decide) (fun c7 => ?_) (fun c7 => ?_)
    · have hf := e_t c7 hf
      refine lv_iconst (v := 0) hx hb dX11_letsBy_55 (by decide) ?_
      exact r_i X hH hf dX11_letsBy_56
    · have hf := e_f c7 hf
      refine lv_iconst (v := 2) hx hb dX11_letsBy_51 (by decide) ?_
      refine lv_goto (tgt := 56) hx hb dX11_letsBy_52 (by decide) ?_
      exact r_i X hH hf dX11_letsBy_56
  · have hf := e_t c5 hf
    refine lv_iconst (v := 1) hx hb dX11_letsBy_27 (by decide) ?_
    refine lv_goto (tgt := 56) hx hb dX11_letsBy_28 (by decide) ?_
    exact r_i X hH hf dX11_letsBy_56
theorem c_Mo_letsBy_42 (l : Launch) (G : GT) {N : Nat} {τ υ : Hp} {v1 : Int32} {r : Int32} (hf : f_Mo_letsBy N 42 τ v1 = some (r, υ)) : MI l G yX11_letsBy cX11_letsBy 4 (some .int) 0 0 [.ref (aG G 42), .int v1] τ r υ := mk_I (by decide) (Nat.le_of_ble_eq_true rfl) (fun p e s m args below meth c X hH ls hl => b_Mo_letsBy_42_0 (N := N) X hH (lv_sub hl [0, 1] rfl) hf)
set_option maxHeartbeats 4000000 in
set_option maxRecDepth 100000 in
theorem b_Mo_lets_42_0 {l : Launch} {G : GT} {N : Nat} {p : Program} {e : Env} {s : State} {m : MethodId} {args : Array Value} {below : List Frame} {meth : Method} {c : Code} (X : Cx G p s m args meth c cX11_lets 5 RX11 (some .int)) {r : Int32} {υ : Hp} {τ : Hp} {v1 v2 v3 : Int32} {H : Heap} {locs : List Loc} {ls : Array Slot} (hH : Hs G τ s H locs) (hl : lv_has ls 5 [(0, .ref (aG G 42)), (1, .int v1), (2, .int v2), (3, .int v3)]) (hf : f_Mo_lets N 42 τ v1 v2 v3 = some (r, υ)) : WI l G (rmG 2 44) p e s m args below meth c r υ H locs (F0 m 0 ls []) := by
  have hx := X.hx
  have hb := X.hb
  unfold f_Mo_lets at hf
  refine lv_aload_n hx hb dX11_lets_0 rfl (lv_at hl 0 rfl) ?_
  refine lv_iconst (v := 0) hx hb dX11_lets_1 (by decide) ?_
  obtain ⟨τ1, eτ1, hf⟩ := e_l hf
  refine g_put X hH (fp_42_0 G) tw_526 rfl rfl dX11_lets_2 (fun H locs hH => ?_)
  have hH : Hs G τ1 s H locs := by rw [eτ1]; exact hH
  refine lv_aload_n hx hb dX11_lets_5 rfl (lv_at hl 0 rfl) ?_
  refine lv_iload_n hx hb dX11_lets_6 rfl (lv_at hl 1 rfl) ?_
  refine lv_iload_n hx hb dX11_lets_7 rfl (lv_at hl 2 rfl) ?_
  refine lv_iload_n hx hb dX11_lets_8 rfl (lv_at hl 3 rfl) ?_
  obtain ⟨r2, τ3, hc4, hf⟩ := e_b hf
  refine c_Vi X hH (k := 42) (n := 3) (As := [.int _, .int _, .int _]) (rest := []) (c_Mo_way_42 l G (N := N) hc4) (by decide) rfl rfl tw_615 tw_613 tw_614 tw_769 tw_13 (by decide +kernel) ⟨by decide, by decide⟩ rfl hl.1 rfl (Nat.le_of_ble_eq_true rfl) ⟨Nat.zero_le _, Nat.zero_le _⟩ dX11_lets_9 (fun H locs hH => ?_)
  refine lv_istore (lv' := [(4, .int r2), (0, .ref (aG G 42)), (1, .int v1), (2, .int v2), (3, .int v3)]) hx hb dX11_lets_12 hl (by decide) rfl (fun ls hl => ?_)
  refine lv_iload hx hb dX11_lets_14 (lv_at hl 0 rfl) ?_
  refine lv_iconst (v := (-1)) hx hb dX11_lets_16 (by decide) ?_
  refine lv_icmp_eq (tgt := 40) hx hb dX11_lets_17 (by decide) (fun c5 => ?_) (fun c5 => ?_)
  · have hf := e_t c5 hf
    refine lv_iconst (v := (-1)) hx hb dX11_lets_40 (by decide) ?_
    refine lv_goto (tgt := 50) hx hb dX11_lets_41 (by decide) ?_
    exact r_i X hH hf dX11_lets_50
  · have hf := e_f c5 hf
    refine lv_aload_n hx hb dX11_lets_20 rfl (lv_at hl 1 rfl) ?_
    refine g_get X hH (fa_42_3 G) tw_529 dX11_lets_21 ?_
    refine lv_iload_n hx hb dX11_lets_24 rfl (lv_at hl 2 rfl) ?_
    obtain ⟨g6, hf⟩ := e_g hf
    refine a_ld X hH (aa_44 G) g6 dX11_lets_25 ?_
    refine lv_iconst (v := (-1)) hx hb dX11_lets_26 (by decide) ?_
    refine lv_icmp_eq (tgt := 40) hx hb dX11_lets_27 (by decide) (fun c7 => ?_) (fun c7 => ?_)
    · have hf := e_t c7 hf
      refine lv_iconst (v := (-1)) hx hb dX11_lets_40 (by decide) ?_
      refine lv_goto (tgt := 50) hx hb dX11_lets_41 (by decide) ?_
      exact r_i X hH hf dX11_lets_50
    · have hf := e_f c7 hf
      refine lv_aload_n hx hb dX11_lets_30 rfl (lv_at hl 1 rfl) ?_
      refine g_get X hH (fa_42_3 G) tw_529 dX11_lets_31 ?_
      refine lv_iload_n hx hb dX11_lets_34 rfl (lv_at hl 3 rfl) ?_
      obtain ⟨g8, hf⟩ := e_g hf
      refine a_ld X hH (aa_44 G) g8 dX11_lets_35 ?_
      refine lv_iconst (v := (-1)) hx hb dX11_lets_36 (by decide) ?_
      refine lv_icmp_ne (tgt := 44) hx hb dX11_lets_37 (by decide) (fun c9 => ?_) (fun c9 => ?_)
      · have hf := e_f c9 hf
        refine lv_aload_n hx hb dX11_lets_44 rfl (lv_at hl 1 rfl) ?_
        refine lv_iload hx hb dX11_lets_45 (lv_at hl 0 rfl) ?_
        obtain ⟨r10, τ11, hc12, hf⟩ := e_b hf
        refine c_Vi X hH (k := 42) (n := 1) (As := [.int _]) (rest := []) (c_Mo_letsBy_42 l G (N := N) hc12) (by decide) rfl rfl tw_701 tw_699 tw_700 tw_783 tw_13 (by decide +kernel) ⟨by decide, by decide⟩ rfl hl.1 rfl (Nat.le_of_ble_eq_true rfl) ⟨Nat.zero_le _, Nat.zero_le _⟩ dX11_lets_47 (fun H locs hH => ?_)
        exact r_i X hH hf dX11_lets_50
      · have hf := e_t c9 hf
        refine lv_iconst (v := (-1)) hx hb dX11_lets_40 (by decide) ?_
        refine lv_goto (tgt := 50) hx hb dX11_lets_41 (by decide) ?_
        exact r_i X hH hf dX11_lets_50
theorem c_Mo_lets_42 (l : Launch) (G : GT) {N : Nat} {τ υ : Hp} {v1 v2 v3 : Int32} {r : Int32} (hf : f_Mo_lets N 42 τ v1 v2 v3 = some (r, υ)) : MI l G yX11_lets cX11_lets 5 (some .int) 2 44 [.ref (aG G 42), .int v1, .int v2, .int v3] τ r υ := mk_I (by decide) (Nat.le_of_ble_eq_true rfl) (fun p e s m args below meth c X hH ls hl => b_Mo_lets_42_0 (N := N) X hH (lv_sub hl [0, 1, 2, 3] rfl) hf)
set_option maxHeartbeats 4000000 in
set_option maxRecDepth 100000 in
theorem b_Sp_chain_27_12b {l : Launch} {G : GT} {N : Nat} {p : Program} {e : Env} {s : State} {m : MethodId} {args : Array Value} {below : List Frame} {meth : Method} {c : Code} (X : Cx G p s m args meth c cX9_chain 3 RX9 none) {r : Int32} {υ : Hp} {k2 : Hp → Int32 → OR} (hk2 : ∀ (τ : Hp) (v1 : Int32) (H : Heap) (locs : List Loc) (ls : Array Slot), Hs G τ s H locs → lv_has ls 3 [(0, .ref (aG G 27)), (1, .int v1)] → k2 τ v1 = some (r, υ) → WV l G (rmG 0 0) p e s m args below meth c υ H locs (F0 m 2 ls [])) {k12 : Hp → Int32 → Int32 → OR} (hk12 : ∀ (τ : Hp) (v1 v2 : Int32) (H : Heap) (locs : List Loc) (ls : Array Slot), Hs G τ s H locs → lv_has ls 3 [(0, .ref (aG G 27)), (1, .int v1), (2, .int v2)] → k12 τ v1 v2 = some (r, υ) → WV l G (rmG 0 0) p e s m args below meth c υ H locs (F0 m 12 ls [])) {τ : Hp} {v1 v2 : Int32} {H : Heap} {locs : List Loc} {ls : Array Slot} (hH : Hs G τ s H locs) (hl : lv_has ls 3 [(0, .ref (aG G 27)), (1, .int v1), (2, .int v2)]) (hf : f_Sp_chain_L12b N 27 k2 k12 τ v1 v2 = some (r, υ)) : WV l G (rmG 0 0) p e s m args below meth c υ H locs (F0 m 12 ls []) := by
  have hx := X.hx
  have hb := X.hb
  unfold f_Sp_chain_L12b at hf
  refine lv_iload_n hx hb dX9_chain_12 rfl (lv_at hl 2 rfl) ?_
  refine lv_aload_n hx hb dX9_chain_13 rfl (lv_at hl 0 rfl) ?_
  refine g_get X hH (fa_27_2 G) tw_137 dX9_chain_14 ?_
  refine lv_icmp_ge (tgt := 55) hx hb dX9_chain_17 (by decide) (fun c1 => ?_) (fun c1 => ?_)
  · have hf := e_t c1 hf
    obtain ⟨x2, ex2, hf⟩ := e_l hf
    refine lv_iinc (v := x2) (lv' := [(1, .int x2), (0, .ref (aG G 27)), (2, .int v2)]) hx hb dX9_chain_55 hl (k := 1) rfl (by rw [ex2]; rfl) (by decide) rfl (fun ls hl => ?_)
    refine lv_goto (tgt := 2) hx hb dX9_chain_58 (by decide) ?_
    exact hk2 _ _ _ _ _ hH (lv_sub hl [1, 0] rfl) hf
  · have hf := e_f c1 hf
    refine lv_aload_n hx hb dX9_chain_20 rfl (lv_at hl 0 rfl) ?_
    refine g_get X hH (fa_27_1 G) tw_136 dX9_chain_21 ?_
    refine lv_iload_n hx hb dX9_chain_24 rfl (lv_at hl 2 rfl) ?_
    obtain ⟨g3, hf⟩ := e_g hf
    refine a_ld X hH (aa_29 G) g3 dX9_chain_25 ?_
    refine lv_iload_n hx hb dX9_chain_26 rfl (lv_at hl 1 rfl) ?_
    refine lv_ishr hx hb dX9_chain_27 ?_
    refine lv_iconst (v := 1) hx hb dX9_chain_28 (by decide) ?_
    refine lv_iand hx hb dX9_chain_29 ?_
    refine lv_iconst (v := 1) hx hb dX9_chain_30 (by decide) ?_
    refine lv_icmp_ne (tgt := 49) hx hb dX9_chain_31 (by decide) (fun c4 => ?_) (fun c4 => ?_)
    · have hf := e_f c4 hf
      obtain ⟨x5, ex5, hf⟩ := e_l hf
      refine lv_iinc (v := x5) (lv' := [(2, .int x5), (0, .ref (aG G 27)), (1, .int v1)]) hx hb dX9_chain_49 hl (k := 2) rfl (by rw [ex5]; rfl) (by decide) rfl (fun ls hl => ?_)
      refine lv_goto (tgt := 12) hx hb dX9_chain_52 (by decide) ?_
      exact hk12 _ _ _ _ _ _ hH (lv_sub hl [1, 2, 0] rfl) hf
    · have hf := e_t c4 hf
      refine lv_aload_n hx hb dX9_chain_34 rfl (lv_at hl 0 rfl) ?_
      refine g_get X hH (fa_27_1 G) tw_136 dX9_chain_35 ?_
      refine lv_iload_n hx hb dX9_chain_38 rfl (lv_at hl 2 rfl) ?_
      refine lv_dup2_11 hx hb dX9_chain_39 rfl rfl ?_
      obtain ⟨g6, hf⟩ := e_g hf
      refine a_ld X hH (aa_29 G) g6 dX9_chain_40 ?_
      refine lv_aload_n hx hb dX9_chain_41 rfl (lv_at hl 0 rfl) ?_
      refine g_get X hH (fa_27_1 G) tw_136 dX9_chain_42 ?_
      refine lv_iload_n hx hb dX9_chain_45 rfl (lv_at hl 1 rfl) ?_
      obtain ⟨g7, hf⟩ := e_g hf
      refine a_ld X hH (aa_29 G) g7 dX9_chain_46 ?_
      refine lv_ior hx hb dX9_chain_47 ?_
      obtain ⟨g8, hf⟩ := e_g hf
      obtain ⟨τ9, eτ9, hf⟩ := e_l hf
      refine a_st X hH (aa_29 G) g8 dX9_chain_48 (fun H locs hH => ?_)
      have hH : Hs G τ9 s H locs := by rw [eτ9]; exact hH
      obtain ⟨x10, ex10, hf⟩ := e_l hf
      refine lv_iinc (v := x10) (lv' := [(2, .int x10), (0, .ref (aG G 27)), (1, .int v1)]) hx hb dX9_chain_49 hl (k := 2) rfl (by rw [ex10]; rfl) (by decide) rfl (fun ls hl => ?_)
      refine lv_goto (tgt := 12) hx hb dX9_chain_52 (by decide) ?_
      exact hk12 _ _ _ _ _ _ hH (lv_sub hl [1, 2, 0] rfl) hf
theorem b_Sp_chain_27_12 {l : Launch} {G : GT} {N : Nat} {p : Program} {e : Env} {s : State} {m : MethodId} {args : Array Value} {below : List Frame} {meth : Method} {c : Code} (X : Cx G p s m args meth c cX9_chain 3 RX9 none) {r : Int32} {υ : Hp} {k2 : Hp → Int32 → OR} (hk2 : ∀ (τ : Hp) (v1 : Int32) (H : Heap) (locs : List Loc) (ls : Array Slot), Hs G τ s H locs → lv_has ls 3 [(0, .ref (aG G 27)), (1, .int v1)] → k2 τ v1 = some (r, υ) → WV l G (rmG 0 0) p e s m args below meth c υ H locs (F0 m 2 ls [])) : ∀ (n : Nat) (τ : Hp) (v1 v2 : Int32) (H : Heap) (locs : List Loc) (ls : Array Slot), Hs G τ s H locs → lv_has ls 3 [(0, .ref (aG G 27)), (1, .int v1), (2, .int v2)] → f_Sp_chain_L12 N 27 k2 n τ v1 v2 = some (r, υ) → WV l G (rmG 0 0) p e s m args below meth c υ H locs (F0 m 12 ls []) := by
  intro n
  induction n with
  | zero => intro τ v1 v2 H locs ls hH hl hf; exact nomatch (show (none : OR) = some (r, υ) from hf)
  | succ n ih => intro τ v1 v2 H locs ls hH hl hf; exact b_Sp_chain_27_12b (N := N) X hk2 ih hH hl hf
set_option maxHeartbeats 4000000 in
set_option maxRecDepth 100000 in
theorem b_Sp_chain_27_2b {l : Launch} {G : GT} {N : Nat} {p : Program} {e : Env} {s : State} {m : MethodId} {args : Array Value} {below : List Frame} {meth : Method} {c : Code} (X : Cx G p s m args meth c cX9_chain 3 RX9 none) {r : Int32} {υ : Hp} {k2 : Hp → Int32 → OR} (hk2 : ∀ (τ : Hp) (v1 : Int32) (H : Heap) (locs : List Loc) (ls : Array Slot), Hs G τ s H locs → lv_has ls 3 [(0, .ref (aG G 27)), (1, .int v1)] → k2 τ v1 = some (r, υ) → WV l G (rmG 0 0) p e s m args below meth c υ H locs (F0 m 2 ls [])) {τ : Hp} {v1 : Int32} {H : Heap} {locs : List Loc} {ls : Array Slot} (hH : Hs G τ s H locs) (hl : lv_has ls 3 [(0, .ref (aG G 27)), (1, .int v1)]) (hf : f_Sp_chain_L2b N 27 k2 τ v1 = some (r, υ)) : WV l G (rmG 0 0) p e s m args below meth c υ H locs (F0 m 2 ls []) := by
  have hx := X.hx
  have hb := X.hb
  unfold f_Sp_chain_L2b at hf
  refine lv_iload_n hx hb dX9_chain_2 rfl (lv_at hl 1 rfl) ?_
  refine lv_aload_n hx hb dX9_chain_3 rfl (lv_at hl 0 rfl) ?_
  refine g_get X hH (fa_27_2 G) tw_137 dX9_chain_4 ?_
  refine lv_icmp_ge (tgt := 61) hx hb dX9_chain_7 (by decide) (fun c1 => ?_) (fun c1 => ?_)
  · have hf := e_t c1 hf
    exact r_v X hH hf dX9_chain_61
  · have hf := e_f c1 hf
    refine lv_iconst (v := 0) hx hb dX9_chain_10 (by decide) ?_
    refine lv_istore_n (lv' := [(2, .int 0), (0, .ref (aG G 27)), (1, .int v1)]) hx hb dX9_chain_11 rfl hl (by decide) rfl (fun ls hl => ?_)
    exact b_Sp_chain_27_12 (N := N) X hk2 _ _ _ _ _ _ _ hH (lv_sub hl [1, 2, 0] rfl) hf
theorem b_Sp_chain_27_2 {l : Launch} {G : GT} {N : Nat} {p : Program} {e : Env} {s : State} {m : MethodId} {args : Array Value} {below : List Frame} {meth : Method} {c : Code} (X : Cx G p s m args meth c cX9_chain 3 RX9 none) {r : Int32} {υ : Hp} : ∀ (n : Nat) (τ : Hp) (v1 : Int32) (H : Heap) (locs : List Loc) (ls : Array Slot), Hs G τ s H locs → lv_has ls 3 [(0, .ref (aG G 27)), (1, .int v1)] → f_Sp_chain_L2 N 27 n τ v1 = some (r, υ) → WV l G (rmG 0 0) p e s m args below meth c υ H locs (F0 m 2 ls []) := by
  intro n
  induction n with
  | zero => intro τ v1 H locs ls hH hl hf; exact nomatch (show (none : OR) = some (r, υ) from hf)
  | succ n ih => intro τ v1 H locs ls hH hl hf; exact b_Sp_chain_27_2b (N := N) X ih hH hl hf
set_option maxHeartbeats 4000000 in
set_option maxRecDepth 100000 in
theorem b_Sp_chain_27_0 {l : Launch} {G : GT} {N : Nat} {p : Program} {e : Env} {s : State} {m : MethodId} {args : Array Value} {below : List Frame} {meth : Method} {c : Code} (X : Cx G p s m args meth c cX9_chain 3 RX9 none) {r : Int32} {υ : Hp} {τ : Hp} {H : Heap} {locs : List Loc} {ls : Array Slot} (hH : Hs G τ s H locs) (hl : lv_has ls 3 [(0, .ref (aG G 27))]) (hf : f_Sp_chain N 27 τ = some (r, υ)) : WV l G (rmG 0 0) p e s m args below meth c υ H locs (F0 m 0 ls []) := by
  have hx := X.hx
  have hb := X.hb
  unfold f_Sp_chain at hf
  refine lv_iconst (v := 0) hx hb dX9_chain_0 (by decide) ?_
  refine lv_istore_n (lv' := [(1, .int 0), (0, .ref (aG G 27))]) hx hb dX9_chain_1 rfl hl (by decide) rfl (fun ls hl => ?_)
  exact b_Sp_chain_27_2 (N := N) X _ _ _ _ _ _ hH (lv_sub hl [1, 0] rfl) hf
theorem c_Sp_chain_27 (l : Launch) (G : GT) {N : Nat} {τ υ : Hp} {r : Int32} (hf : f_Sp_chain N 27 τ = some (r, υ)) : MV l G yX9_chain cX9_chain 3 0 0 [.ref (aG G 27)] τ υ := mk_V (by decide) (Nat.le_of_ble_eq_true rfl) (fun p e s m args below meth c X hH ls hl => b_Sp_chain_27_0 (N := N) X hH (lv_sub hl [0] rfl) hf)
set_option maxHeartbeats 4000000 in
set_option maxRecDepth 100000 in
theorem b_Sp_addRule_27_0 {l : Launch} {G : GT} {N : Nat} {p : Program} {e : Env} {s : State} {m : MethodId} {args : Array Value} {below : List Frame} {meth : Method} {c : Code} (X : Cx G p s m args meth c cX9_addRule 2 RX9 none) {r : Int32} {υ : Hp} {τ : Hp} {v1 : Int32} {H : Heap} {locs : List Loc} {ls : Array Slot} (hH : Hs G τ s H locs) (hl : lv_has ls 2 [(0, .ref (aG G 27)), (1, .int v1)]) (hf : f_Sp_addRule N 27 τ v1 = some (r, υ)) : WV l G (rmG 1 20) p e s m args below meth c υ H locs (F0 m 0 ls []) := by
  have hx := X.hx
  have hb := X.hb
  unfold f_Sp_addRule at hf
  refine lv_aload_n hx hb dX9_addRule_0 rfl (lv_at hl 0 rfl) ?_
  refine g_get X hH (fa_27_1 G) tw_136 dX9_addRule_1 ?_
  refine lv_iload_n hx hb dX9_addRule_4 rfl (lv_at hl 1 rfl) ?_
  obtain ⟨r1, τ2, hc3, hf⟩ := e_b hf
  refine c_SNi X hH (n := 1) (As := [.int _]) (rest := [.ref (aG G 29)]) (c_WP_firstOf l G (N := N) hc3) tw_360 21 rfl tw_359 tw_1 (by decide +kernel) ⟨by decide, by decide⟩ rfl hl.1 rfl (Nat.le_of_ble_eq_true rfl) ⟨Nat.zero_le _, Nat.zero_le _⟩ dX9_addRule_5 (fun H locs hH => ?_)
  refine lv_dup2_11 hx hb dX9_addRule_8 rfl rfl ?_
  obtain ⟨g4, hf⟩ := e_g hf
  refine a_ld X hH (aa_29 G) g4 dX9_addRule_9 ?_
  refine lv_iconst (v := 1) hx hb dX9_addRule_10 (by decide) ?_
  refine lv_iload_n hx hb dX9_addRule_11 rfl (lv_at hl 1 rfl) ?_
  obtain ⟨r5, τ6, hc7, hf⟩ := e_b hf
  refine c_SNi X hH (n := 1) (As := [.int _]) (rest := [.int _, .int _, .int _, .ref (aG G 29)]) (c_WP_secondOf l G (N := N) hc7) tw_362 22 rfl tw_361 tw_1 (by decide +kernel) ⟨by decide, by decide⟩ rfl hl.1 rfl (Nat.le_of_ble_eq_true rfl) ⟨Nat.zero_le _, Nat.zero_le _⟩ dX9_addRule_12 (fun H locs hH => ?_)
  refine lv_ishl hx hb dX9_addRule_15 ?_
  refine lv_ior hx hb dX9_addRule_16 ?_
  obtain ⟨g8, hf⟩ := e_g hf
  obtain ⟨τ9, eτ9, hf⟩ := e_l hf
  refine a_st X hH (aa_29 G) g8 dX9_addRule_17 (fun H locs hH => ?_)
  have hH : Hs G τ9 s H locs := by rw [eτ9]; exact hH
  exact r_v X hH hf dX9_addRule_18
theorem c_Sp_addRule_27 (l : Launch) (G : GT) {N : Nat} {τ υ : Hp} {v1 : Int32} {r : Int32} (hf : f_Sp_addRule N 27 τ v1 = some (r, υ)) : MV l G yX9_addRule cX9_addRule 2 1 20 [.ref (aG G 27), .int v1] τ υ := mk_V (by decide) (Nat.le_of_ble_eq_true rfl) (fun p e s m args below meth c X hH ls hl => b_Sp_addRule_27_0 (N := N) X hH (lv_sub hl [0, 1] rfl) hf)
set_option maxHeartbeats 4000000 in
set_option maxRecDepth 100000 in
theorem b_Ly_roomCount_11_4b {l : Launch} {G : GT} {N : Nat} {p : Program} {e : Env} {s : State} {m : MethodId} {args : Array Value} {below : List Frame} {meth : Method} {c : Code} (X : Cx G p s m args meth c cX2_roomCount 3 RX2 (some .int)) {r : Int32} {υ : Hp} {k4 : Hp → Int32 → Int32 → OR} (hk4 : ∀ (τ : Hp) (v1 v2 : Int32) (H : Heap) (locs : List Loc) (ls : Array Slot), Hs G τ s H locs → lv_has ls 3 [(0, .ref (aG G 11)), (1, .int v1), (2, .int v2)] → k4 τ v1 v2 = some (r, υ) → WI l G (rmG 1 21) p e s m args below meth c r υ H locs (F0 m 4 ls [])) {τ : Hp} {v1 v2 : Int32} {H : Heap} {locs : List Loc} {ls : Array Slot} (hH : Hs G τ s H locs) (hl : lv_has ls 3 [(0, .ref (aG G 11)), (1, .int v1), (2, .int v2)]) (hf : f_Ly_roomCount_L4b N 11 k4 τ v1 v2 = some (r, υ)) : WI l G (rmG 1 21) p e s m args below meth c r υ H locs (F0 m 4 ls []) := by
  have hx := X.hx
  have hb := X.hb
  unfold f_Ly_roomCount_L4b at hf
  refine lv_iload_n hx hb dX2_roomCount_4 rfl (lv_at hl 2 rfl) ?_
  refine lv_bipush (v := 8) hx hb dX2_roomCount_5 (by decide) ?_
  refine lv_icmp_ge (tgt := 27) hx hb dX2_roomCount_7 (by decide) (fun c1 => ?_) (fun c1 => ?_)
  · have hf := e_t c1 hf
    refine lv_iload_n hx hb dX2_roomCount_27 rfl (lv_at hl 1 rfl) ?_
    refine lv_iconst (v := 1) hx hb dX2_roomCount_28 (by decide) ?_
    refine lv_iadd hx hb dX2_roomCount_29 ?_
    exact r_i X hH hf dX2_roomCount_30
  · have hf := e_f c1 hf
    refine lv_iload_n hx hb dX2_roomCount_10 rfl (lv_at hl 1 rfl) ?_
    refine lv_aload_n hx hb dX2_roomCount_11 rfl (lv_at hl 0 rfl) ?_
    refine g_get X hH (fa_11_0 G) tw_81 dX2_roomCount_12 ?_
    refine lv_iload_n hx hb dX2_roomCount_15 rfl (lv_at hl 2 rfl) ?_
    obtain ⟨g2, hf⟩ := e_g hf
    refine a_ld X hH (aa_12 G) g2 dX2_roomCount_16 ?_
    refine g_max X hl.1.symm tw_429 tw_338 tw_16 tw_339 (by decide) (Nat.le_of_ble_eq_true rfl) ⟨Nat.zero_le _, Nat.zero_le _⟩ dX2_roomCount_17 ?_
    obtain ⟨x3, ex3, hf⟩ := e_l hf
    refine g_nm ex3 ?_
    refine lv_istore_n (lv' := [(1, .int x3), (0, .ref (aG G 11)), (2, .int v2)]) hx hb dX2_roomCount_20 rfl hl (by decide) rfl (fun ls hl => ?_)
    obtain ⟨x4, ex4, hf⟩ := e_l hf
    refine lv_iinc (v := x4) (lv' := [(2, .int x4), (1, .int x3), (0, .ref (aG G 11))]) hx hb dX2_roomCount_21 hl (k := 2) rfl (by rw [ex4]; rfl) (by decide) rfl (fun ls hl => ?_)
    refine lv_goto (tgt := 4) hx hb dX2_roomCount_24 (by decide) ?_
    exact hk4 _ _ _ _ _ _ hH (lv_sub hl [2, 1, 0] rfl) hf
theorem b_Ly_roomCount_11_4 {l : Launch} {G : GT} {N : Nat} {p : Program} {e : Env} {s : State} {m : MethodId} {args : Array Value} {below : List Frame} {meth : Method} {c : Code} (X : Cx G p s m args meth c cX2_roomCount 3 RX2 (some .int)) {r : Int32} {υ : Hp} : ∀ (n : Nat) (τ : Hp) (v1 v2 : Int32) (H : Heap) (locs : List Loc) (ls : Array Slot), Hs G τ s H locs → lv_has ls 3 [(0, .ref (aG G 11)), (1, .int v1), (2, .int v2)] → f_Ly_roomCount_L4 N 11 n τ v1 v2 = some (r, υ) → WI l G (rmG 1 21) p e s m args below meth c r υ H locs (F0 m 4 ls []) := by
  intro n
  induction n with
  | zero => intro τ v1 v2 H locs ls hH hl hf; exact nomatch (show (none : OR) = some (r, υ) from hf)
  | succ n ih => intro τ v1 v2 H locs ls hH hl hf; exact b_Ly_roomCount_11_4b (N := N) X ih hH hl hf
set_option maxHeartbeats 4000000 in
set_option maxRecDepth 100000 in
theorem b_Ly_roomCount_11_0 {l : Launch} {G : GT} {N : Nat} {p : Program} {e : Env} {s : State} {m : MethodId} {args : Array Value} {below : List Frame} {meth : Method} {c : Code} (X : Cx G p s m args meth c cX2_roomCount 3 RX2 (some .int)) {r : Int32} {υ : Hp} {τ : Hp} {H : Heap} {locs : List Loc} {ls : Array Slot} (hH : Hs G τ s H locs) (hl : lv_has ls 3 [(0, .ref (aG G 11))]) (hf : f_Ly_roomCount N 11 τ = some (r, υ)) : WI l G (rmG 1 21) p e s m args below meth c r υ H locs (F0 m 0 ls []) := by
  have hx := X.hx
  have hb := X.hb
  unfold f_Ly_roomCount at hf
  refine lv_iconst (v := (-1)) hx hb dX2_roomCount_0 (by decide) ?_
  refine lv_istore_n (lv' := [(1, .int (-1)), (0, .ref (aG G 11))]) hx hb dX2_roomCount_1 rfl hl (by decide) rfl (fun ls hl => ?_)
  refine lv_iconst (v := 0) hx hb dX2_roomCount_2 (by decide) ?_
  refine lv_istore_n (lv' := [(2, .int 0), (1, .int (-1)), (0, .ref (aG G 11))]) hx hb dX2_roomCount_3 rfl hl (by decide) rfl (fun ls hl => ?_)
  exact b_Ly_roomCount_11_4 (N := N) X _ _ _ _ _ _ _ hH (lv_sub hl [2, 1, 0] rfl) hf
theorem c_Ly_roomCount_11 (l : Launch) (G : GT) {N : Nat} {τ υ : Hp} {r : Int32} (hf : f_Ly_roomCount N 11 τ = some (r, υ)) : MI l G yX2_roomCount cX2_roomCount 3 (some .int) 1 21 [.ref (aG G 11)] τ r υ := mk_I (by decide) (Nat.le_of_ble_eq_true rfl) (fun p e s m args below meth c X hH ls hl => b_Ly_roomCount_11_0 (N := N) X hH (lv_sub hl [0] rfl) hf)
set_option maxHeartbeats 4000000 in
set_option maxRecDepth 100000 in
theorem b_Sp_begin_27_11_40b {l : Launch} {G : GT} {N : Nat} {p : Program} {e : Env} {s : State} {m : MethodId} {args : Array Value} {below : List Frame} {meth : Method} {c : Code} (X : Cx G p s m args meth c cX9_begin 3 RX9 none) {r : Int32} {υ : Hp} {k40 : Hp → Int32 → OR} (hk40 : ∀ (τ : Hp) (v2 : Int32) (H : Heap) (locs : List Loc) (ls : Array Slot), Hs G τ s H locs → lv_has ls 3 [(0, .ref (aG G 27)), (1, .ref (aG G 11)), (2, .int v2)] → k40 τ v2 = some (r, υ) → WV l G (rmG 2 43) p e s m args below meth c υ H locs (F0 m 40 ls [])) {τ : Hp} {v2 : Int32} {H : Heap} {locs : List Loc} {ls : Array Slot} (hH : Hs G τ s H locs) (hl : lv_has ls 3 [(0, .ref (aG G 27)), (1, .ref (aG G 11)), (2, .int v2)]) (hf : f_Sp_begin_L40b N 27 11 k40 τ v2 = some (r, υ)) : WV l G (rmG 2 43) p e s m args below meth c υ H locs (F0 m 40 ls []) := by
  have hx := X.hx
  have hb := X.hb
  unfold f_Sp_begin_L40b at hf
  refine lv_iload_n hx hb dX9_begin_40 rfl (lv_at hl 2 rfl) ?_
  refine lv_bipush (v := 8) hx hb dX9_begin_41 (by decide) ?_
  refine lv_icmp_ge (tgt := 77) hx hb dX9_begin_43 (by decide) (fun c1 => ?_) (fun c1 => ?_)
  · have hf := e_t c1 hf
    exact r_v X hH hf dX9_begin_77
  · have hf := e_f c1 hf
    refine lv_aload_n hx hb dX9_begin_46 rfl (lv_at hl 1 rfl) ?_
    refine g_getN X hH (fa_11_0 G) 23 rfl dX9_begin_47 ?_
    refine lv_iload_n hx hb dX9_begin_50 rfl (lv_at hl 2 rfl) ?_
    obtain ⟨g2, hf⟩ := e_g hf
    refine a_ld X hH (aa_12 G) g2 dX9_begin_51 ?_
    refine lv_iconst (v := (-1)) hx hb dX9_begin_52 (by decide) ?_
    refine lv_icmp_eq (tgt := 71) hx hb dX9_begin_53 (by decide) (fun c3 => ?_) (fun c3 => ?_)
    · have hf := e_t c3 hf
      obtain ⟨x4, ex4, hf⟩ := e_l hf
      refine lv_iinc (v := x4) (lv' := [(2, .int x4), (0, .ref (aG G 27)), (1, .ref (aG G 11))]) hx hb dX9_begin_71 hl (k := 2) rfl (by rw [ex4]; rfl) (by decide) rfl (fun ls hl => ?_)
      refine lv_goto (tgt := 40) hx hb dX9_begin_74 (by decide) ?_
      exact hk40 _ _ _ _ _ hH (lv_sub hl [1, 2, 0] rfl) hf
    · have hf := e_f c3 hf
      refine lv_aload_n hx hb dX9_begin_56 rfl (lv_at hl 0 rfl) ?_
      refine g_get X hH (fa_27_0 G) tw_135 dX9_begin_57 ?_
      refine lv_aload_n hx hb dX9_begin_60 rfl (lv_at hl 1 rfl) ?_
      refine g_getN X hH (fa_11_0 G) 23 rfl dX9_begin_61 ?_
      refine lv_iload_n hx hb dX9_begin_64 rfl (lv_at hl 2 rfl) ?_
      obtain ⟨g5, hf⟩ := e_g hf
      refine a_ld X hH (aa_12 G) g5 dX9_begin_65 ?_
      refine lv_dup2_11 hx hb dX9_begin_66 rfl rfl ?_
      obtain ⟨g6, hf⟩ := e_g hf
      refine a_ld X hH (aa_28 G) g6 dX9_begin_67 ?_
      refine lv_iconst (v := 1) hx hb dX9_begin_68 (by decide) ?_
      refine lv_iadd hx hb dX9_begin_69 ?_
      obtain ⟨g7, hf⟩ := e_g hf
      obtain ⟨τ8, eτ8, hf⟩ := e_l hf
      refine a_st X hH (aa_28 G) g7 dX9_begin_70 (fun H locs hH => ?_)
      have hH : Hs G τ8 s H locs := by rw [eτ8]; exact hH
      obtain ⟨x9, ex9, hf⟩ := e_l hf
      refine lv_iinc (v := x9) (lv' := [(2, .int x9), (0, .ref (aG G 27)), (1, .ref (aG G 11))]) hx hb dX9_begin_71 hl (k := 2) rfl (by rw [ex9]; rfl) (by decide) rfl (fun ls hl => ?_)
      refine lv_goto (tgt := 40) hx hb dX9_begin_74 (by decide) ?_
      exact hk40 _ _ _ _ _ hH (lv_sub hl [1, 2, 0] rfl) hf
theorem b_Sp_begin_27_11_40 {l : Launch} {G : GT} {N : Nat} {p : Program} {e : Env} {s : State} {m : MethodId} {args : Array Value} {below : List Frame} {meth : Method} {c : Code} (X : Cx G p s m args meth c cX9_begin 3 RX9 none) {r : Int32} {υ : Hp} : ∀ (n : Nat) (τ : Hp) (v2 : Int32) (H : Heap) (locs : List Loc) (ls : Array Slot), Hs G τ s H locs → lv_has ls 3 [(0, .ref (aG G 27)), (1, .ref (aG G 11)), (2, .int v2)] → f_Sp_begin_L40 N 27 11 n τ v2 = some (r, υ) → WV l G (rmG 2 43) p e s m args below meth c υ H locs (F0 m 40 ls []) := by
  intro n
  induction n with
  | zero => intro τ v2 H locs ls hH hl hf; exact nomatch (show (none : OR) = some (r, υ) from hf)
  | succ n ih => intro τ v2 H locs ls hH hl hf; exact b_Sp_begin_27_11_40b (N := N) X ih hH hl hf
set_option maxHeartbeats 4000000 in
set_option maxRecDepth 100000 in
theorem b_Sp_begin_27_11_10b {l : Launch} {G : GT} {N : Nat} {p : Program} {e : Env} {s : State} {m : MethodId} {args : Array Value} {below : List Frame} {meth : Method} {c : Code} (X : Cx G p s m args meth c cX9_begin 3 RX9 none) {r : Int32} {υ : Hp} {k10 : Hp → Int32 → OR} (hk10 : ∀ (τ : Hp) (v2 : Int32) (H : Heap) (locs : List Loc) (ls : Array Slot), Hs G τ s H locs → lv_has ls 3 [(0, .ref (aG G 27)), (1, .ref (aG G 11)), (2, .int v2)] → k10 τ v2 = some (r, υ) → WV l G (rmG 2 43) p e s m args below meth c υ H locs (F0 m 10 ls [])) {τ : Hp} {v2 : Int32} {H : Heap} {locs : List Loc} {ls : Array Slot} (hH : Hs G τ s H locs) (hl : lv_has ls 3 [(0, .ref (aG G 27)), (1, .ref (aG G 11)), (2, .int v2)]) (hf : f_Sp_begin_L10b N 27 11 k10 τ v2 = some (r, υ)) : WV l G (rmG 2 43) p e s m args below meth c υ H locs (F0 m 10 ls []) := by
  have hx := X.hx
  have hb := X.hb
  unfold f_Sp_begin_L10b at hf
  refine lv_iload_n hx hb dX9_begin_10 rfl (lv_at hl 2 rfl) ?_
  refine lv_bipush (v := 8) hx hb dX9_begin_11 (by decide) ?_
  refine lv_icmp_ge (tgt := 38) hx hb dX9_begin_13 (by decide) (fun c1 => ?_) (fun c1 => ?_)
  · have hf := e_t c1 hf
    refine lv_iconst (v := 0) hx hb dX9_begin_38 (by decide) ?_
    refine lv_istore_n (lv' := [(2, .int 0), (0, .ref (aG G 27)), (1, .ref (aG G 11))]) hx hb dX9_begin_39 rfl hl (by decide) rfl (fun ls hl => ?_)
    exact b_Sp_begin_27_11_40 (N := N) X _ _ _ _ _ _ hH (lv_sub hl [1, 2, 0] rfl) hf
  · have hf := e_f c1 hf
    refine lv_aload_n hx hb dX9_begin_16 rfl (lv_at hl 0 rfl) ?_
    refine g_get X hH (fa_27_0 G) tw_135 dX9_begin_17 ?_
    refine lv_iload_n hx hb dX9_begin_20 rfl (lv_at hl 2 rfl) ?_
    refine lv_iconst (v := 0) hx hb dX9_begin_21 (by decide) ?_
    obtain ⟨g2, hf⟩ := e_g hf
    obtain ⟨τ3, eτ3, hf⟩ := e_l hf
    refine a_st X hH (aa_28 G) g2 dX9_begin_22 (fun H locs hH => ?_)
    have hH : Hs G τ3 s H locs := by rw [eτ3]; exact hH
    refine lv_aload_n hx hb dX9_begin_23 rfl (lv_at hl 0 rfl) ?_
    refine g_get X hH (fa_27_1 G) tw_136 dX9_begin_24 ?_
    refine lv_iload_n hx hb dX9_begin_27 rfl (lv_at hl 2 rfl) ?_
    refine lv_iconst (v := 1) hx hb dX9_begin_28 (by decide) ?_
    refine lv_iload_n hx hb dX9_begin_29 rfl (lv_at hl 2 rfl) ?_
    refine lv_ishl hx hb dX9_begin_30 ?_
    obtain ⟨g4, hf⟩ := e_g hf
    obtain ⟨τ5, eτ5, hf⟩ := e_l hf
    refine a_st X hH (aa_29 G) g4 dX9_begin_31 (fun H locs hH => ?_)
    have hH : Hs G τ5 s H locs := by rw [eτ5]; exact hH
    obtain ⟨x6, ex6, hf⟩ := e_l hf
    refine lv_iinc (v := x6) (lv' := [(2, .int x6), (0, .ref (aG G 27)), (1, .ref (aG G 11))]) hx hb dX9_begin_32 hl (k := 2) rfl (by rw [ex6]; rfl) (by decide) rfl (fun ls hl => ?_)
    refine lv_goto (tgt := 10) hx hb dX9_begin_35 (by decide) ?_
    exact hk10 _ _ _ _ _ hH (lv_sub hl [1, 2, 0] rfl) hf
theorem b_Sp_begin_27_11_10 {l : Launch} {G : GT} {N : Nat} {p : Program} {e : Env} {s : State} {m : MethodId} {args : Array Value} {below : List Frame} {meth : Method} {c : Code} (X : Cx G p s m args meth c cX9_begin 3 RX9 none) {r : Int32} {υ : Hp} : ∀ (n : Nat) (τ : Hp) (v2 : Int32) (H : Heap) (locs : List Loc) (ls : Array Slot), Hs G τ s H locs → lv_has ls 3 [(0, .ref (aG G 27)), (1, .ref (aG G 11)), (2, .int v2)] → f_Sp_begin_L10 N 27 11 n τ v2 = some (r, υ) → WV l G (rmG 2 43) p e s m args below meth c υ H locs (F0 m 10 ls []) := by
  intro n
  induction n with
  | zero => intro τ v2 H locs ls hH hl hf; exact nomatch (show (none : OR) = some (r, υ) from hf)
  | succ n ih => intro τ v2 H locs ls hH hl hf; exact b_Sp_begin_27_11_10b (N := N) X ih hH hl hf
set_option maxHeartbeats 4000000 in
set_option maxRecDepth 100000 in
theorem b_Sp_begin_27_11_0 {l : Launch} {G : GT} {N : Nat} {p : Program} {e : Env} {s : State} {m : MethodId} {args : Array Value} {below : List Frame} {meth : Method} {c : Code} (X : Cx G p s m args meth c cX9_begin 3 RX9 none) {r : Int32} {υ : Hp} {τ : Hp} {H : Heap} {locs : List Loc} {ls : Array Slot} (hH : Hs G τ s H locs) (hl : lv_has ls 3 [(0, .ref (aG G 27)), (1, .ref (aG G 11))]) (hf : f_Sp_begin N 27 11 τ = some (r, υ)) : WV l G (rmG 2 43) p e s m args below meth c υ H locs (F0 m 0 ls []) := by
  have hx := X.hx
  have hb := X.hb
  unfold f_Sp_begin at hf
  refine lv_aload_n hx hb dX9_begin_0 rfl (lv_at hl 0 rfl) ?_
  refine lv_aload_n hx hb dX9_begin_1 rfl (lv_at hl 1 rfl) ?_
  obtain ⟨r1, τ2, hc3, hf⟩ := e_b hf
  refine c_Vi X hH (k := 11) (n := 0) (As := []) (rest := [.ref (aG G 27)]) (c_Ly_roomCount_11 l G (N := N) hc3) (by decide) rfl rfl tw_428 tw_425 tw_426 tw_427 tw_6 (by decide +kernel) ⟨by decide, by decide⟩ rfl hl.1 rfl (Nat.le_of_ble_eq_true rfl) ⟨Nat.zero_le _, Nat.zero_le _⟩ dX9_begin_2 (fun H locs hH => ?_)
  obtain ⟨τ4, eτ4, hf⟩ := e_l hf
  refine g_put X hH (fp_27_2 G) tw_137 rfl rfl dX9_begin_5 (fun H locs hH => ?_)
  have hH : Hs G τ4 s H locs := by rw [eτ4]; exact hH
  refine lv_iconst (v := 0) hx hb dX9_begin_8 (by decide) ?_
  refine lv_istore_n (lv' := [(2, .int 0), (0, .ref (aG G 27)), (1, .ref (aG G 11))]) hx hb dX9_begin_9 rfl hl (by decide) rfl (fun ls hl => ?_)
  exact b_Sp_begin_27_11_10 (N := N) X _ _ _ _ _ _ hH (lv_sub hl [1, 2, 0] rfl) hf
theorem c_Sp_begin_27_11 (l : Launch) (G : GT) {N : Nat} {τ υ : Hp} {r : Int32} (hf : f_Sp_begin N 27 11 τ = some (r, υ)) : MV l G yX9_begin cX9_begin 3 2 43 [.ref (aG G 27), .ref (aG G 11)] τ υ := mk_V (by decide) (Nat.le_of_ble_eq_true rfl) (fun p e s m args below meth c X hH ls hl => b_Sp_begin_27_11_0 (N := N) X hH (lv_sub hl [0, 1] rfl) hf)
