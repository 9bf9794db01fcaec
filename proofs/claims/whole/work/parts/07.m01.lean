-- WP_prices_0 Mo_prices_42 Di_isWithin_6 Di_sumOf_6 WP_weight_0 Mo_weightOf_42 Mo_weight_42 Nt_isNeed_1 WP_needed_0 Mo_isNeeded_42 Mo_needed_42 Nd_doorsOf_18_1 Jf_fill_20 Di_sumAll_6_20 Nd_take_18_1_5_6 Jb_bitCount Ly_countStraysFrom_22_19_4
set_option maxHeartbeats 4000000 in
set_option maxRecDepth 100000 in
theorem b_WP_prices_0_0 {l : Launch} {G : GT} {N : Nat} {p : Program} {e : Env} {s : State} {m : MethodId} {args : Array Value} {below : List Frame} {meth : Method} {c : Code} (X : Cx G p s m args meth c cX10_prices 3 RX10 (some .boolean)) {r : Int32} {υ : Hp} {τ : Hp} {v1 v2 : Int32} {H : Heap} {locs : List Loc} {ls : Array Slot} (hH : Hs G τ s H locs) (hl : lv_has ls 3 [(0, .ref (aG G 0)), (1, .int v1), (2, .int v2)]) (hf : f_WP_prices N 0 τ v1 v2 = some (r, υ)) : WI l G (rmG 1 22) p e s m args below meth c r υ H locs (F0 m 0 ls []) := by
  have hx := X.hx
  have hb := X.hb
  unfold f_WP_prices at hf
  refine lv_iload_n hx hb dX10_prices_0 rfl (lv_at hl 1 rfl) ?_
  refine lv_iconst (v := 0) hx hb dX10_prices_1 (by decide) ?_
  refine lv_bipush (v := 99) hx hb dX10_prices_2 (by decide) ?_
  obtain ⟨r1, τ2, hc3, hf⟩ := e_b hf
  refine c_Si X hH (n := 3) (As := [.int _, .int _, .int _]) (rest := []) (c_WP_isBetween l G (N := N) hc3) tw_198 tw_196 tw_197 tw_1 (by decide +kernel) ⟨by decide, by decide⟩ rfl hl.1 rfl (Nat.le_of_ble_eq_true rfl) ⟨Nat.zero_le _, Nat.zero_le _⟩ dX10_prices_4 (fun H locs hH => ?_)
  refine lv_if_eq (tgt := 20) hx hb dX10_prices_7 (by decide) (fun c4 => ?_) (fun c4 => ?_)
  · have hf := e_t c4 hf
    refine lv_iconst (v := 0) hx hb dX10_prices_20 (by decide) ?_
    exact r_z X hH rfl hf dX10_prices_21
  · have hf := e_f c4 hf
    refine lv_iload_n hx hb dX10_prices_10 rfl (lv_at hl 2 rfl) ?_
    refine lv_iconst (v := 0) hx hb dX10_prices_11 (by decide) ?_
    refine lv_bipush (v := 99) hx hb dX10_prices_12 (by decide) ?_
    obtain ⟨r5, τ6, hc7, hf⟩ := e_b hf
    refine c_Si X hH (n := 3) (As := [.int _, .int _, .int _]) (rest := []) (c_WP_isBetween l G (N := N) hc7) tw_198 tw_196 tw_197 tw_1 (by decide +kernel) ⟨by decide, by decide⟩ rfl hl.1 rfl (Nat.le_of_ble_eq_true rfl) ⟨Nat.zero_le _, Nat.zero_le _⟩ dX10_prices_14 (fun H locs hH => ?_)
    refine lv_if_ne (tgt := 22) hx hb dX10_prices_17 (by decide) (fun c8 => ?_) (fun c8 => ?_)
    · have hf := e_f c8 hf
      refine lv_aload_n hx hb dX10_prices_22 rfl (lv_at hl 0 rfl) ?_
      refine g_get X hH (fa_0_1 G) tw_175 dX10_prices_23 ?_
      refine lv_iload_n hx hb dX10_prices_26 rfl (lv_at hl 1 rfl) ?_
      obtain ⟨τ9, eτ9, hf⟩ := e_l hf
      refine g_putN X hH (fp_5_3 G) 14 rfl rfl rfl dX10_prices_27 (fun H locs hH => ?_)
      have hH : Hs G τ9 s H locs := by rw [eτ9]; exact hH
      refine lv_aload_n hx hb dX10_prices_30 rfl (lv_at hl 0 rfl) ?_
      refine g_get X hH (fa_0_1 G) tw_175 dX10_prices_31 ?_
      refine lv_iload_n hx hb dX10_prices_34 rfl (lv_at hl 2 rfl) ?_
      obtain ⟨τ10, eτ10, hf⟩ := e_l hf
      refine g_putN X hH (fp_5_4 G) 15 rfl rfl rfl dX10_prices_35 (fun H locs hH => ?_)
      have hH : Hs G τ10 s H locs := by rw [eτ10]; exact hH
      refine lv_iconst (v := 1) hx hb dX10_prices_38 (by decide) ?_
      exact r_z X hH rfl hf dX10_prices_39
    · have hf := e_t c8 hf
      refine lv_iconst (v := 0) hx hb dX10_prices_20 (by decide) ?_
      exact r_z X hH rfl hf dX10_prices_21
theorem c_WP_prices_0 (l : Launch) (G : GT) {N : Nat} {τ υ : Hp} {v1 v2 : Int32} {r : Int32} (hf : f_WP_prices N 0 τ v1 v2 = some (r, υ)) : MI l G yX10_prices cX10_prices 3 (some .boolean) 1 22 [.ref (aG G 0), .int v1, .int v2] τ r υ := mk_I (by decide) (Nat.le_of_ble_eq_true rfl) (fun p e s m args below meth c X hH ls hl => b_WP_prices_0_0 (N := N) X hH (lv_sub hl [0, 1, 2] rfl) hf)
set_option maxHeartbeats 4000000 in
set_option maxRecDepth 100000 in
theorem b_Mo_prices_42_0 {l : Launch} {G : GT} {N : Nat} {p : Program} {e : Env} {s : State} {m : MethodId} {args : Array Value} {below : List Frame} {meth : Method} {c : Code} (X : Cx G p s m args meth c cX11_prices 3 RX11 (some .boolean)) {r : Int32} {υ : Hp} {τ : Hp} {v1 v2 : Int32} {H : Heap} {locs : List Loc} {ls : Array Slot} (hH : Hs G τ s H locs) (hl : lv_has ls 3 [(0, .ref (aG G 42)), (1, .int v1), (2, .int v2)]) (hf : f_Mo_prices N 42 τ v1 v2 = some (r, υ)) : WI l G (rmG 0 0) p e s m args below meth c r υ H locs (F0 m 0 ls []) := by
  have hx := X.hx
  have hb := X.hb
  unfold f_Mo_prices at hf
  refine lv_aload_n hx hb dX11_prices_0 rfl (lv_at hl 0 rfl) ?_
  refine lv_iconst (v := 0) hx hb dX11_prices_1 (by decide) ?_
  obtain ⟨τ1, eτ1, hf⟩ := e_l hf
  refine g_put X hH (fp_42_0 G) tw_526 rfl rfl dX11_prices_2 (fun H locs hH => ?_)
  have hH : Hs G τ1 s H locs := by rw [eτ1]; exact hH
  refine lv_iload_n hx hb dX11_prices_5 rfl (lv_at hl 1 rfl) ?_
  refine lv_if_lt (tgt := 25) hx hb dX11_prices_6 (by decide) (fun c2 => ?_) (fun c2 => ?_)
  · have hf := e_t c2 hf
    refine lv_iconst (v := 0) hx hb dX11_prices_25 (by decide) ?_
    exact r_z X hH rfl hf dX11_prices_26
  · have hf := e_f c2 hf
    refine lv_iload_n hx hb dX11_prices_9 rfl (lv_at hl 1 rfl) ?_
    refine lv_bipush (v := 99) hx hb dX11_prices_10 (by decide) ?_
    refine lv_icmp_gt (tgt := 25) hx hb dX11_prices_12 (by decide) (fun c3 => ?_) (fun c3 => ?_)
    · have hf := e_t c3 hf
      refine lv_iconst (v := 0) hx hb dX11_prices_25 (by decide) ?_
      exact r_z X hH rfl hf dX11_prices_26
    · have hf := e_f c3 hf
      refine lv_iload_n hx hb dX11_prices_15 rfl (lv_at hl 2 rfl) ?_
      refine lv_if_lt (tgt := 25) hx hb dX11_prices_16 (by decide) (fun c4 => ?_) (fun c4 => ?_)
      · have hf := e_t c4 hf
        refine lv_iconst (v := 0) hx hb dX11_prices_25 (by decide) ?_
        exact r_z X hH rfl hf dX11_prices_26
      · have hf := e_f c4 hf
        refine lv_iload_n hx hb dX11_prices_19 rfl (lv_at hl 2 rfl) ?_
        refine lv_bipush (v := 99) hx hb dX11_prices_20 (by decide) ?_
        refine lv_icmp_le (tgt := 27) hx hb dX11_prices_22 (by decide) (fun c5 => ?_) (fun c5 => ?_)
        · have hf := e_t c5 hf
          refine lv_aload_n hx hb dX11_prices_27 rfl (lv_at hl 0 rfl) ?_
          refine lv_iload_n hx hb dX11_prices_28 rfl (lv_at hl 1 rfl) ?_
          obtain ⟨τ6, eτ6, hf⟩ := e_l hf
          refine g_put X hH (fp_42_13 G) tw_539 rfl rfl dX11_prices_29 (fun H locs hH => ?_)
          have hH : Hs G τ6 s H locs := by rw [eτ6]; exact hH
          refine lv_aload_n hx hb dX11_prices_32 rfl (lv_at hl 0 rfl) ?_
          refine lv_iload_n hx hb dX11_prices_33 rfl (lv_at hl 2 rfl) ?_
          obtain ⟨τ7, eτ7, hf⟩ := e_l hf
          refine g_put X hH (fp_42_14 G) tw_540 rfl rfl dX11_prices_34 (fun H locs hH => ?_)
          have hH : Hs G τ7 s H locs := by rw [eτ7]; exact hH
          refine lv_iconst (v := 1) hx hb dX11_prices_37 (by decide) ?_
          exact r_z X hH rfl hf dX11_prices_38
        · have hf := e_f c5 hf
          refine lv_iconst (v := 0) hx hb dX11_prices_25 (by decide) ?_
          exact r_z X hH rfl hf dX11_prices_26
theorem c_Mo_prices_42 (l : Launch) (G : GT) {N : Nat} {τ υ : Hp} {v1 v2 : Int32} {r : Int32} (hf : f_Mo_prices N 42 τ v1 v2 = some (r, υ)) : MI l G yX11_prices cX11_prices 3 (some .boolean) 0 0 [.ref (aG G 42), .int v1, .int v2] τ r υ := mk_I (by decide) (Nat.le_of_ble_eq_true rfl) (fun p e s m args below meth c X hH ls hl => b_Mo_prices_42_0 (N := N) X hH (lv_sub hl [0, 1, 2] rfl) hf)
set_option maxHeartbeats 4000000 in
set_option maxRecDepth 100000 in
theorem b_Di_isWithin_6_0 {l : Launch} {G : GT} {N : Nat} {p : Program} {e : Env} {s : State} {m : MethodId} {args : Array Value} {below : List Frame} {meth : Method} {c : Code} (X : Cx G p s m args meth c cX0_isWithin 4 RX0 (some .boolean)) {r : Int32} {υ : Hp} {τ : Hp} {v1 v2 v3 : Int32} {H : Heap} {locs : List Loc} {ls : Array Slot} (hH : Hs G τ s H locs) (hl : lv_has ls 4 [(0, .ref (aG G 6)), (1, .int v1), (2, .int v2), (3, .int v3)]) (hf : f_Di_isWithin N 6 τ v1 v2 v3 = some (r, υ)) : WI l G (rmG 0 0) p e s m args below meth c r υ H locs (F0 m 0 ls []) := by
  have hx := X.hx
  have hb := X.hb
  unfold f_Di_isWithin at hf
  refine lv_aload_n hx hb dX0_isWithin_0 rfl (lv_at hl 0 rfl) ?_
  refine g_get X hH (fa_6_1 G) tw_60 dX0_isWithin_1 ?_
  refine lv_iload_n hx hb dX0_isWithin_4 rfl (lv_at hl 1 rfl) ?_
  obtain ⟨g1, hf⟩ := e_g hf
  refine a_ld X hH (aa_8 G) g1 dX0_isWithin_5 ?_
  refine lv_iload_n hx hb dX0_isWithin_6 rfl (lv_at hl 2 rfl) ?_
  refine lv_icmp_gt (tgt := 26) hx hb dX0_isWithin_7 (by decide) (fun c2 => ?_) (fun c2 => ?_)
  · have hf := e_t c2 hf
    refine lv_iconst (v := 0) hx hb dX0_isWithin_26 (by decide) ?_
    exact r_z X hH rfl hf dX0_isWithin_27
  · have hf := e_f c2 hf
    refine lv_aload_n hx hb dX0_isWithin_10 rfl (lv_at hl 0 rfl) ?_
    refine g_get X hH (fa_6_1 G) tw_60 dX0_isWithin_11 ?_
    refine lv_iload_n hx hb dX0_isWithin_14 rfl (lv_at hl 1 rfl) ?_
    obtain ⟨g3, hf⟩ := e_g hf
    refine a_ld X hH (aa_8 G) g3 dX0_isWithin_15 ?_
    refine lv_iload_n hx hb dX0_isWithin_16 rfl (lv_at hl 2 rfl) ?_
    refine lv_iload_n hx hb dX0_isWithin_17 rfl (lv_at hl 3 rfl) ?_
    refine lv_isub hx hb dX0_isWithin_18 ?_
    refine lv_icmp_le (tgt := 26) hx hb dX0_isWithin_19 (by decide) (fun c4 => ?_) (fun c4 => ?_)
    · have hf := e_t c4 hf
      refine lv_iconst (v := 0) hx hb dX0_isWithin_26 (by decide) ?_
      exact r_z X hH rfl hf dX0_isWithin_27
    · have hf := e_f c4 hf
      refine lv_iconst (v := 1) hx hb dX0_isWithin_22 (by decide) ?_
      refine lv_goto (tgt := 27) hx hb dX0_isWithin_23 (by decide) ?_
      exact r_z X hH rfl hf dX0_isWithin_27
theorem c_Di_isWithin_6 (l : Launch) (G : GT) {N : Nat} {τ υ : Hp} {v1 v2 v3 : Int32} {r : Int32} (hf : f_Di_isWithin N 6 τ v1 v2 v3 = some (r, υ)) : MI l G yX0_isWithin cX0_isWithin 4 (some .boolean) 0 0 [.ref (aG G 6), .int v1, .int v2, .int v3] τ r υ := mk_I (by decide) (Nat.le_of_ble_eq_true rfl) (fun p e s m args below meth c X hH ls hl => b_Di_isWithin_6_0 (N := N) X hH (lv_sub hl [0, 1, 2, 3] rfl) hf)
set_option maxHeartbeats 4000000 in
set_option maxRecDepth 100000 in
theorem b_Di_sumOf_6_6b {l : Launch} {G : GT} {N : Nat} {p : Program} {e : Env} {s : State} {m : MethodId} {args : Array Value} {below : List Frame} {meth : Method} {c : Code} (X : Cx G p s m args meth c cX0_sumOf 6 RX0 (some .int)) {r : Int32} {υ : Hp} {k6 : Hp → Int32 → Int32 → Int32 → Int32 → Int32 → OR} (hk6 : ∀ (τ : Hp) (v1 v2 v3 v4 v5 : Int32) (H : Heap) (locs : List Loc) (ls : Array Slot), Hs G τ s H locs → lv_has ls 6 [(0, .ref (aG G 6)), (1, .int v1), (2, .int v2), (3, .int v3), (4, .int v4), (5, .int v5)] → k6 τ v1 v2 v3 v4 v5 = some (r, υ) → WI l G (rmG 1 23) p e s m args below meth c r υ H locs (F0 m 6 ls [])) {τ : Hp} {v1 v2 v3 v4 v5 : Int32} {H : Heap} {locs : List Loc} {ls : Array Slot} (hH : Hs G τ s H locs) (hl : lv_has ls 6 [(0, .ref (aG G 6)), (1, .int v1), (2, .int v2), (3, .int v3), (4, .int v4), (5, .int v5)]) (hf : f_Di_sumOf_L6b N 6 k6 τ v1 v2 v3 v4 v5 = some (r, υ)) : WI l G (rmG 1 23) p e s m args below meth c r υ H locs (F0 m 6 ls []) := by
  have hx := X.hx
  have hb := X.hb
  unfold f_Di_sumOf_L6b at hf
  refine lv_iload hx hb dX0_sumOf_6 (lv_at hl 5 rfl) ?_
  refine lv_aload_n hx hb dX0_sumOf_8 rfl (lv_at hl 0 rfl) ?_
  refine g_get X hH (fa_6_3 G) tw_62 dX0_sumOf_9 ?_
  refine lv_icmp_ge (tgt := 55) hx hb dX0_sumOf_12 (by decide) (fun c1 => ?_) (fun c1 => ?_)
  · have hf := e_t c1 hf
    refine lv_iload hx hb dX0_sumOf_55 (lv_at hl 4 rfl) ?_
    exact r_i X hH hf dX0_sumOf_57
  · have hf := e_f c1 hf
    refine lv_aload_n hx hb dX0_sumOf_15 rfl (lv_at hl 0 rfl) ?_
    refine g_get X hH (fa_6_0 G) tw_59 dX0_sumOf_16 ?_
    refine lv_iload hx hb dX0_sumOf_19 (lv_at hl 5 rfl) ?_
    obtain ⟨g2, hf⟩ := e_g hf
    refine a_ld X hH (aa_7 G) g2 dX0_sumOf_21 ?_
    refine lv_iload_n hx hb dX0_sumOf_22 rfl (lv_at hl 1 rfl) ?_
    refine lv_icmp_ne (tgt := 49) hx hb dX0_sumOf_23 (by decide) (fun c3 => ?_) (fun c3 => ?_)
    · have hf := e_f c3 hf
      obtain ⟨x4, ex4, hf⟩ := e_l hf
      refine lv_iinc (v := x4) (lv' := [(5, .int x4), (0, .ref (aG G 6)), (1, .int v1), (2, .int v2), (3, .int v3), (4, .int v4)]) hx hb dX0_sumOf_49 hl (k := 5) rfl (by rw [ex4]; rfl) (by decide) rfl (fun ls hl => ?_)
      refine lv_goto (tgt := 6) hx hb dX0_sumOf_52 (by decide) ?_
      exact hk6 _ _ _ _ _ _ _ _ _ hH (lv_sub hl [1, 2, 3, 4, 5, 0] rfl) hf
    · have hf := e_t c3 hf
      refine lv_aload_n hx hb dX0_sumOf_26 rfl (lv_at hl 0 rfl) ?_
      refine lv_iload hx hb dX0_sumOf_27 (lv_at hl 5 rfl) ?_
      refine lv_iload_n hx hb dX0_sumOf_29 rfl (lv_at hl 2 rfl) ?_
      refine lv_iload_n hx hb dX0_sumOf_30 rfl (lv_at hl 3 rfl) ?_
      obtain ⟨r5, τ6, hc7, hf⟩ := e_b hf
      refine c_Vi X hH (k := 6) (n := 3) (As := [.int _, .int _, .int _]) (rest := []) (c_Di_isWithin_6 l G (N := N) hc7) (by decide) rfl rfl tw_261 tw_258 tw_259 tw_260 tw_4 (by decide +kernel) ⟨by decide, by decide⟩ rfl hl.1 rfl (Nat.le_of_ble_eq_true rfl) ⟨Nat.zero_le _, Nat.zero_le _⟩ dX0_sumOf_31 (fun H locs hH => ?_)
      refine lv_if_eq (tgt := 49) hx hb dX0_sumOf_34 (by decide) (fun c8 => ?_) (fun c8 => ?_)
      · have hf := e_t c8 hf
        obtain ⟨x9, ex9, hf⟩ := e_l hf
        refine lv_iinc (v := x9) (lv' := [(5, .int x9), (0, .ref (aG G 6)), (1, .int v1), (2, .int v2), (3, .int v3), (4, .int v4)]) hx hb dX0_sumOf_49 hl (k := 5) rfl (by rw [ex9]; rfl) (by decide) rfl (fun ls hl => ?_)
        refine lv_goto (tgt := 6) hx hb dX0_sumOf_52 (by decide) ?_
        exact hk6 _ _ _ _ _ _ _ _ _ hH (lv_sub hl [1, 2, 3, 4, 5, 0] rfl) hf
      · have hf := e_f c8 hf
        refine lv_iload hx hb dX0_sumOf_37 (lv_at hl 4 rfl) ?_
        refine lv_aload_n hx hb dX0_sumOf_39 rfl (lv_at hl 0 rfl) ?_
        refine g_get X hH (fa_6_2 G) tw_61 dX0_sumOf_40 ?_
        refine lv_iload hx hb dX0_sumOf_43 (lv_at hl 5 rfl) ?_
        obtain ⟨g10, hf⟩ := e_g hf
        refine a_ld X hH (aa_9 G) g10 dX0_sumOf_45 ?_
        refine lv_iadd hx hb dX0_sumOf_46 ?_
        obtain ⟨x11, ex11, hf⟩ := e_l hf
        refine g_nm ex11 ?_
        refine lv_istore (lv' := [(4, .int x11), (0, .ref (aG G 6)), (1, .int v1), (2, .int v2), (3, .int v3), (5, .int v5)]) hx hb dX0_sumOf_47 hl (by decide) rfl (fun ls hl => ?_)
        obtain ⟨x12, ex12, hf⟩ := e_l hf
        refine lv_iinc (v := x12) (lv' := [(5, .int x12), (4, .int x11), (0, .ref (aG G 6)), (1, .int v1), (2, .int v2), (3, .int v3)]) hx hb dX0_sumOf_49 hl (k := 5) rfl (by rw [ex12]; rfl) (by decide) rfl (fun ls hl => ?_)
        refine lv_goto (tgt := 6) hx hb dX0_sumOf_52 (by decide) ?_
        exact hk6 _ _ _ _ _ _ _ _ _ hH (lv_sub hl [2, 3, 4, 5, 1, 0] rfl) hf
theorem b_Di_sumOf_6_6 {l : Launch} {G : GT} {N : Nat} {p : Program} {e : Env} {s : State} {m : MethodId} {args : Array Value} {below : List Frame} {meth : Method} {c : Code} (X : Cx G p s m args meth c cX0_sumOf 6 RX0 (some .int)) {r : Int32} {υ : Hp} : ∀ (n : Nat) (τ : Hp) (v1 v2 v3 v4 v5 : Int32) (H : Heap) (locs : List Loc) (ls : Array Slot), Hs G τ s H locs → lv_has ls 6 [(0, .ref (aG G 6)), (1, .int v1), (2, .int v2), (3, .int v3), (4, .int v4), (5, .int v5)] → f_Di_sumOf_L6 N 6 n τ v1 v2 v3 v4 v5 = some (r, υ) → WI l G (rmG 1 23) p e s m args below meth c r υ H locs (F0 m 6 ls []) := by
  intro n
  induction n with
  | zero => intro τ v1 v2 v3 v4 v5 H locs ls hH hl hf; exact nomatch (show (none : OR) = some (r, υ) from hf)
  | succ n ih => intro τ v1 v2 v3 v4 v5 H locs ls hH hl hf; exact b_Di_sumOf_6_6b (N := N) X ih hH hl hf
set_option maxHeartbeats 4000000 in
set_option maxRecDepth 100000 in
theorem b_Di_sumOf_6_0 {l : Launch} {G : GT} {N : Nat} {p : Program} {e : Env} {s : State} {m : MethodId} {args : Array Value} {below : List Frame} {meth : Method} {c : Code} (X : Cx G p s m args meth c cX0_sumOf 6 RX0 (some .int)) {r : Int32} {υ : Hp} {τ : Hp} {v1 v2 v3 : Int32} {H : Heap} {locs : List Loc} {ls : Array Slot} (hH : Hs G τ s H locs) (hl : lv_has ls 6 [(0, .ref (aG G 6)), (1, .int v1), (2, .int v2), (3, .int v3)]) (hf : f_Di_sumOf N 6 τ v1 v2 v3 = some (r, υ)) : WI l G (rmG 1 23) p e s m args below meth c r υ H locs (F0 m 0 ls []) := by
  have hx := X.hx
  have hb := X.hb
  unfold f_Di_sumOf at hf
  refine lv_iconst (v := 0) hx hb dX0_sumOf_0 (by decide) ?_
  refine lv_istore (lv' := [(4, .int 0), (0, .ref (aG G 6)), (1, .int v1), (2, .int v2), (3, .int v3)]) hx hb dX0_sumOf_1 hl (by decide) rfl (fun ls hl => ?_)
  refine lv_iconst (v := 0) hx hb dX0_sumOf_3 (by decide) ?_
  refine lv_istore (lv' := [(5, .int 0), (4, .int 0), (0, .ref (aG G 6)), (1, .int v1), (2, .int v2), (3, .int v3)]) hx hb dX0_sumOf_4 hl (by decide) rfl (fun ls hl => ?_)
  exact b_Di_sumOf_6_6 (N := N) X _ _ _ _ _ _ _ _ _ _ hH (lv_sub hl [2, 3, 4, 5, 1, 0] rfl) hf
theorem c_Di_sumOf_6 (l : Launch) (G : GT) {N : Nat} {τ υ : Hp} {v1 v2 v3 : Int32} {r : Int32} (hf : f_Di_sumOf N 6 τ v1 v2 v3 = some (r, υ)) : MI l G yX0_sumOf cX0_sumOf 6 (some .int) 1 23 [.ref (aG G 6), .int v1, .int v2, .int v3] τ r υ := mk_I (by decide) (Nat.le_of_ble_eq_true rfl) (fun p e s m args below meth c X hH ls hl => b_Di_sumOf_6_0 (N := N) X hH (lv_sub hl [0, 1, 2, 3] rfl) hf)
set_option maxHeartbeats 4000000 in
set_option maxRecDepth 100000 in
theorem b_WP_weight_0_0 {l : Launch} {G : GT} {N : Nat} {p : Program} {e : Env} {s : State} {m : MethodId} {args : Array Value} {below : List Frame} {meth : Method} {c : Code} (X : Cx G p s m args meth c cX10_weight 5 RX10 (some .int)) {r : Int32} {υ : Hp} {τ : Hp} {v1 v2 v3 v4 : Int32} {H : Heap} {locs : List Loc} {ls : Array Slot} (hH : Hs G τ s H locs) (hl : lv_has ls 5 [(0, .ref (aG G 0)), (1, .int v1), (2, .int v2), (3, .int v3), (4, .int v4)]) (hf : f_WP_weight N 0 τ v1 v2 v3 v4 = some (r, υ)) : WI l G (rmG 3 66) p e s m args below meth c r υ H locs (F0 m 0 ls []) := by
  have hx := X.hx
  have hb := X.hb
  unfold f_WP_weight at hf
  refine lv_aload_n hx hb dX10_weight_0 rfl (lv_at hl 0 rfl) ?_
  refine g_get X hH (fa_0_0 G) tw_174 dX10_weight_1 ?_
  refine lv_iload_n hx hb dX10_weight_4 rfl (lv_at hl 1 rfl) ?_
  refine lv_iload_n hx hb dX10_weight_5 rfl (lv_at hl 2 rfl) ?_
  refine lv_iload_n hx hb dX10_weight_6 rfl (lv_at hl 3 rfl) ?_
  obtain ⟨r1, τ2, hc3, hf⟩ := e_b hf
  refine c_Vi X hH (k := 1) (n := 3) (As := [.int _, .int _, .int _]) (rest := []) (c_Nt_isWay_1 l G (N := N) hc3) (by decide) rfl rfl tw_210 tw_207 tw_208 tw_209 tw_2 (by decide +kernel) ⟨by decide, by decide⟩ rfl hl.1 rfl (Nat.le_of_ble_eq_true rfl) ⟨Nat.zero_le _, Nat.zero_le _⟩ dX10_weight_7 (fun H locs hH => ?_)
  refine lv_if_eq (tgt := 21) hx hb dX10_weight_10 (by decide) (fun c4 => ?_) (fun c4 => ?_)
  · have hf := e_t c4 hf
    refine lv_iconst (v := (-1)) hx hb dX10_weight_21 (by decide) ?_
    exact r_i X hH hf dX10_weight_22
  · have hf := e_f c4 hf
    refine lv_iload hx hb dX10_weight_13 (lv_at hl 4 rfl) ?_
    obtain ⟨r5, τ6, hc7, hf⟩ := e_b hf
    refine c_Si X hH (n := 1) (As := [.int _]) (rest := []) (c_WP_isDay l G (N := N) hc7) tw_217 tw_215 tw_216 tw_1 (by decide +kernel) ⟨by decide, by decide⟩ rfl hl.1 rfl (Nat.le_of_ble_eq_true rfl) ⟨Nat.zero_le _, Nat.zero_le _⟩ dX10_weight_15 (fun H locs hH => ?_)
    refine lv_if_ne (tgt := 23) hx hb dX10_weight_18 (by decide) (fun c8 => ?_) (fun c8 => ?_)
    · have hf := e_f c8 hf
      refine lv_aload_n hx hb dX10_weight_23 rfl (lv_at hl 0 rfl) ?_
      refine g_get X hH (fa_0_2 G) tw_176 dX10_weight_24 ?_
      refine lv_iload_n hx hb dX10_weight_27 rfl (lv_at hl 1 rfl) ?_
      refine lv_iload_n hx hb dX10_weight_28 rfl (lv_at hl 2 rfl) ?_
      refine lv_iload_n hx hb dX10_weight_29 rfl (lv_at hl 3 rfl) ?_
      obtain ⟨r9, τ10, hc11, hf⟩ := e_b hf
      refine c_Si X hH (n := 3) (As := [.int _, .int _, .int _]) (rest := [.ref (aG G 6)]) (c_WP_wayOf l G (N := N) hc11) tw_220 tw_218 tw_219 tw_1 (by decide +kernel) ⟨by decide, by decide⟩ rfl hl.1 rfl (Nat.le_of_ble_eq_true rfl) ⟨Nat.zero_le _, Nat.zero_le _⟩ dX10_weight_30 (fun H locs hH => ?_)
      refine lv_iload hx hb dX10_weight_33 (lv_at hl 4 rfl) ?_
      refine lv_aload_n hx hb dX10_weight_35 rfl (lv_at hl 0 rfl) ?_
      refine g_get X hH (fa_0_1 G) tw_175 dX10_weight_36 ?_
      refine g_getN X hH (fa_5_0 G) 9 rfl dX10_weight_39 ?_
      obtain ⟨r12, τ13, hc14, hf⟩ := e_b hf
      refine c_Vi X hH (k := 6) (n := 3) (As := [.int _, .int _, .int _]) (rest := []) (c_Di_sumOf_6 l G (N := N) hc14) (by decide) rfl rfl tw_257 tw_254 tw_255 tw_256 tw_4 (by decide +kernel) ⟨by decide, by decide⟩ rfl hl.1 rfl (Nat.le_of_ble_eq_true rfl) ⟨Nat.zero_le _, Nat.zero_le _⟩ dX10_weight_42 (fun H locs hH => ?_)
      exact r_i X hH hf dX10_weight_45
    · have hf := e_t c8 hf
      refine lv_iconst (v := (-1)) hx hb dX10_weight_21 (by decide) ?_
      exact r_i X hH hf dX10_weight_22
theorem c_WP_weight_0 (l : Launch) (G : GT) {N : Nat} {τ υ : Hp} {v1 v2 v3 v4 : Int32} {r : Int32} (hf : f_WP_weight N 0 τ v1 v2 v3 v4 = some (r, υ)) : MI l G yX10_weight cX10_weight 5 (some .int) 3 66 [.ref (aG G 0), .int v1, .int v2, .int v3, .int v4] τ r υ := mk_I (by decide) (Nat.le_of_ble_eq_true rfl) (fun p e s m args below meth c X hH ls hl => b_WP_weight_0_0 (N := N) X hH (lv_sub hl [0, 1, 2, 3, 4] rfl) hf)
set_option maxHeartbeats 4000000 in
set_option maxRecDepth 100000 in
theorem b_Mo_weightOf_42_5b {l : Launch} {G : GT} {N : Nat} {p : Program} {e : Env} {s : State} {m : MethodId} {args : Array Value} {below : List Frame} {meth : Method} {c : Code} (X : Cx G p s m args meth c cX11_weightOf 5 RX11 (some .int)) {r : Int32} {υ : Hp} {k5 : Hp → Int32 → Int32 → Int32 → Int32 → OR} (hk5 : ∀ (τ : Hp) (v1 v2 v3 v4 : Int32) (H : Heap) (locs : List Loc) (ls : Array Slot), Hs G τ s H locs → lv_has ls 5 [(0, .ref (aG G 42)), (1, .int v1), (2, .int v2), (3, .int v3), (4, .int v4)] → k5 τ v1 v2 v3 v4 = some (r, υ) → WI l G (rmG 0 0) p e s m args below meth c r υ H locs (F0 m 5 ls [])) {τ : Hp} {v1 v2 v3 v4 : Int32} {H : Heap} {locs : List Loc} {ls : Array Slot} (hH : Hs G τ s H locs) (hl : lv_has ls 5 [(0, .ref (aG G 42)), (1, .int v1), (2, .int v2), (3, .int v3), (4, .int v4)]) (hf : f_Mo_weightOf_L5b N 42 k5 τ v1 v2 v3 v4 = some (r, υ)) : WI l G (rmG 0 0) p e s m args below meth c r υ H locs (F0 m 5 ls []) := by
  have hx := X.hx
  have hb := X.hb
  unfold f_Mo_weightOf_L5b at hf
  refine lv_iload hx hb dX11_weightOf_5 (lv_at hl 4 rfl) ?_
  refine lv_aload_n hx hb dX11_weightOf_7 rfl (lv_at hl 0 rfl) ?_
  refine g_get X hH (fa_42_4 G) tw_530 dX11_weightOf_8 ?_
  refine lv_icmp_ge (tgt := 68) hx hb dX11_weightOf_11 (by decide) (fun c1 => ?_) (fun c1 => ?_)
  · have hf := e_t c1 hf
    refine lv_iload_n hx hb dX11_weightOf_68 rfl (lv_at hl 3 rfl) ?_
    exact r_i X hH hf dX11_weightOf_69
  · have hf := e_f c1 hf
    refine lv_aload_n hx hb dX11_weightOf_14 rfl (lv_at hl 0 rfl) ?_
    refine g_get X hH (fa_42_5 G) tw_531 dX11_weightOf_15 ?_
    refine lv_iload hx hb dX11_weightOf_18 (lv_at hl 4 rfl) ?_
    obtain ⟨g2, hf⟩ := e_g hf
    refine a_ld X hH (aa_45 G) g2 dX11_weightOf_20 ?_
    refine lv_iload_n hx hb dX11_weightOf_21 rfl (lv_at hl 1 rfl) ?_
    refine lv_icmp_ne (tgt := 62) hx hb dX11_weightOf_22 (by decide) (fun c3 => ?_) (fun c3 => ?_)
    · have hf := e_f c3 hf
      obtain ⟨x4, ex4, hf⟩ := e_l hf
      refine lv_iinc (v := x4) (lv' := [(4, .int x4), (0, .ref (aG G 42)), (1, .int v1), (2, .int v2), (3, .int v3)]) hx hb dX11_weightOf_62 hl (k := 4) rfl (by rw [ex4]; rfl) (by decide) rfl (fun ls hl => ?_)
      refine lv_goto (tgt := 5) hx hb dX11_weightOf_65 (by decide) ?_
      exact hk5 _ _ _ _ _ _ _ _ hH (lv_sub hl [1, 2, 3, 4, 0] rfl) hf
    · have hf := e_t c3 hf
      refine lv_aload_n hx hb dX11_weightOf_25 rfl (lv_at hl 0 rfl) ?_
      refine g_get X hH (fa_42_6 G) tw_532 dX11_weightOf_26 ?_
      refine lv_iload hx hb dX11_weightOf_29 (lv_at hl 4 rfl) ?_
      obtain ⟨g5, hf⟩ := e_g hf
      refine a_ld X hH (aa_46 G) g5 dX11_weightOf_31 ?_
      refine lv_iload_n hx hb dX11_weightOf_32 rfl (lv_at hl 2 rfl) ?_
      refine lv_icmp_gt (tgt := 62) hx hb dX11_weightOf_33 (by decide) (fun c6 => ?_) (fun c6 => ?_)
      · have hf := e_t c6 hf
        obtain ⟨x7, ex7, hf⟩ := e_l hf
        refine lv_iinc (v := x7) (lv' := [(4, .int x7), (0, .ref (aG G 42)), (1, .int v1), (2, .int v2), (3, .int v3)]) hx hb dX11_weightOf_62 hl (k := 4) rfl (by rw [ex7]; rfl) (by decide) rfl (fun ls hl => ?_)
        refine lv_goto (tgt := 5) hx hb dX11_weightOf_65 (by decide) ?_
        exact hk5 _ _ _ _ _ _ _ _ hH (lv_sub hl [1, 2, 3, 4, 0] rfl) hf
      · have hf := e_f c6 hf
        refine lv_aload_n hx hb dX11_weightOf_36 rfl (lv_at hl 0 rfl) ?_
        refine g_get X hH (fa_42_6 G) tw_532 dX11_weightOf_37 ?_
        refine lv_iload hx hb dX11_weightOf_40 (lv_at hl 4 rfl) ?_
        obtain ⟨g8, hf⟩ := e_g hf
        refine a_ld X hH (aa_46 G) g8 dX11_weightOf_42 ?_
        refine lv_iload_n hx hb dX11_weightOf_43 rfl (lv_at hl 2 rfl) ?_
        refine lv_aload_n hx hb dX11_weightOf_44 rfl (lv_at hl 0 rfl) ?_
        refine g_get X hH (fa_42_10 G) tw_536 dX11_weightOf_45 ?_
        refine lv_isub hx hb dX11_weightOf_48 ?_
        refine lv_icmp_le (tgt := 62) hx hb dX11_weightOf_49 (by decide) (fun c9 => ?_) (fun c9 => ?_)
        · have hf := e_t c9 hf
          obtain ⟨x10, ex10, hf⟩ := e_l hf
          refine lv_iinc (v := x10) (lv' := [(4, .int x10), (0, .ref (aG G 42)), (1, .int v1), (2, .int v2), (3, .int v3)]) hx hb dX11_weightOf_62 hl (k := 4) rfl (by rw [ex10]; rfl) (by decide) rfl (fun ls hl => ?_)
          refine lv_goto (tgt := 5) hx hb dX11_weightOf_65 (by decide) ?_
          exact hk5 _ _ _ _ _ _ _ _ hH (lv_sub hl [1, 2, 3, 4, 0] rfl) hf
        · have hf := e_f c9 hf
          refine lv_iload_n hx hb dX11_weightOf_52 rfl (lv_at hl 3 rfl) ?_
          refine lv_aload_n hx hb dX11_weightOf_53 rfl (lv_at hl 0 rfl) ?_
          refine g_get X hH (fa_42_7 G) tw_533 dX11_weightOf_54 ?_
          refine lv_iload hx hb dX11_weightOf_57 (lv_at hl 4 rfl) ?_
          obtain ⟨g11, hf⟩ := e_g hf
          refine a_ld X hH (aa_47 G) g11 dX11_weightOf_59 ?_
          refine lv_iadd hx hb dX11_weightOf_60 ?_
          obtain ⟨x12, ex12, hf⟩ := e_l hf
          refine g_nm ex12 ?_
          refine lv_istore_n (lv' := [(3, .int x12), (0, .ref (aG G 42)), (1, .int v1), (2, .int v2), (4, .int v4)]) hx hb dX11_weightOf_61 rfl hl (by decide) rfl (fun ls hl => ?_)
          obtain ⟨x13, ex13, hf⟩ := e_l hf
          refine lv_iinc (v := x13) (lv' := [(4, .int x13), (3, .int x12), (0, .ref (aG G 42)), (1, .int v1), (2, .int v2)]) hx hb dX11_weightOf_62 hl (k := 4) rfl (by rw [ex13]; rfl) (by decide) rfl (fun ls hl => ?_)
          refine lv_goto (tgt := 5) hx hb dX11_weightOf_65 (by decide) ?_
          exact hk5 _ _ _ _ _ _ _ _ hH (lv_sub hl [2, 3, 4, 1, 0] rfl) hf
theorem b_Mo_weightOf_42_5 {l : Launch} {G : GT} {N : Nat} {p : Program} {e : Env} {s : State} {m : MethodId} {args : Array Value} {below : List Frame} {meth : Method} {c : Code} (X : Cx G p s m args meth c cX11_weightOf 5 RX11 (some .int)) {r : Int32} {υ : Hp} : ∀ (n : Nat) (τ : Hp) (v1 v2 v3 v4 : Int32) (H : Heap) (locs : List Loc) (ls : Array Slot), Hs G τ s H locs → lv_has ls 5 [(0, .ref (aG G 42)), (1, .int v1), (2, .int v2), (3, .int v3), (4, .int v4)] → f_Mo_weightOf_L5 N 42 n τ v1 v2 v3 v4 = some (r, υ) → WI l G (rmG 0 0) p e s m args below meth c r υ H locs (F0 m 5 ls []) := by
  intro n
  induction n with
  | zero => intro τ v1 v2 v3 v4 H locs ls hH hl hf; exact nomatch (show (none : OR) = some (r, υ) from hf)
  | succ n ih => intro τ v1 v2 v3 v4 H locs ls hH hl hf; exact b_Mo_weightOf_42_5b (N := N) X ih hH hl hf
set_option maxHeartbeats 4000000 in
set_option maxRecDepth 100000 in
theorem b_Mo_weightOf_42_0 {l : Launch} {G : GT} {N : Nat} {p : Program} {e : Env} {s : State} {m : MethodId} {args : Array Value} {below : List Frame} {meth : Method} {c : Code} (X : Cx G p s m args meth c cX11_weightOf 5 RX11 (some .int)) {r : Int32} {υ : Hp} {τ : Hp} {v1 v2 : Int32} {H : Heap} {locs : List Loc} {ls : Array Slot} (hH : Hs G τ s H locs) (hl : lv_has ls 5 [(0, .ref (aG G 42)), (1, .int v1), (2, .int v2)]) (hf : f_Mo_weightOf N 42 τ v1 v2 = some (r, υ)) : WI l G (rmG 0 0) p e s m args below meth c r υ H locs (F0 m 0 ls []) := by
  have hx := X.hx
  have hb := X.hb
  unfold f_Mo_weightOf at hf
  refine lv_iconst (v := 0) hx hb dX11_weightOf_0 (by decide) ?_
  refine lv_istore_n (lv' := [(3, .int 0), (0, .ref (aG G 42)), (1, .int v1), (2, .int v2)]) hx hb dX11_weightOf_1 rfl hl (by decide) rfl (fun ls hl => ?_)
  refine lv_iconst (v := 0) hx hb dX11_weightOf_2 (by decide) ?_
  refine lv_istore (lv' := [(4, .int 0), (3, .int 0), (0, .ref (aG G 42)), (1, .int v1), (2, .int v2)]) hx hb dX11_weightOf_3 hl (by decide) rfl (fun ls hl => ?_)
  exact b_Mo_weightOf_42_5 (N := N) X _ _ _ _ _ _ _ _ _ hH (lv_sub hl [2, 3, 4, 1, 0] rfl) hf
theorem c_Mo_weightOf_42 (l : Launch) (G : GT) {N : Nat} {τ υ : Hp} {v1 v2 : Int32} {r : Int32} (hf : f_Mo_weightOf N 42 τ v1 v2 = some (r, υ)) : MI l G yX11_weightOf cX11_weightOf 5 (some .int) 0 0 [.ref (aG G 42), .int v1, .int v2] τ r υ := mk_I (by decide) (Nat.le_of_ble_eq_true rfl) (fun p e s m args below meth c X hH ls hl => b_Mo_weightOf_42_0 (N := N) X hH (lv_sub hl [0, 1, 2] rfl) hf)
set_option maxHeartbeats 4000000 in
set_option maxRecDepth 100000 in
theorem b_Mo_weight_42_0 {l : Launch} {G : GT} {N : Nat} {p : Program} {e : Env} {s : State} {m : MethodId} {args : Array Value} {below : List Frame} {meth : Method} {c : Code} (X : Cx G p s m args meth c cX11_weight 6 RX11 (some .int)) {r : Int32} {υ : Hp} {τ : Hp} {v1 v2 v3 v4 : Int32} {H : Heap} {locs : List Loc} {ls : Array Slot} (hH : Hs G τ s H locs) (hl : lv_has ls 6 [(0, .ref (aG G 42)), (1, .int v1), (2, .int v2), (3, .int v3), (4, .int v4)]) (hf : f_Mo_weight N 42 τ v1 v2 v3 v4 = some (r, υ)) : WI l G (rmG 2 44) p e s m args below meth c r υ H locs (F0 m 0 ls []) := by
  have hx := X.hx
  have hb := X.hb
  unfold f_Mo_weight at hf
  refine lv_aload_n hx hb dX11_weight_0 rfl (lv_at hl 0 rfl) ?_
  refine lv_iconst (v := 0) hx hb dX11_weight_1 (by decide) ?_
  obtain ⟨τ1, eτ1, hf⟩ := e_l hf
  refine g_put X hH (fp_42_0 G) tw_526 rfl rfl dX11_weight_2 (fun H locs hH => ?_)
  have hH : Hs G τ1 s H locs := by rw [eτ1]; exact hH
  refine lv_aload_n hx hb dX11_weight_5 rfl (lv_at hl 0 rfl) ?_
  refine lv_iload_n hx hb dX11_weight_6 rfl (lv_at hl 1 rfl) ?_
  refine lv_iload_n hx hb dX11_weight_7 rfl (lv_at hl 2 rfl) ?_
  refine lv_iload_n hx hb dX11_weight_8 rfl (lv_at hl 3 rfl) ?_
  obtain ⟨r2, τ3, hc4, hf⟩ := e_b hf
  refine c_Vi X hH (k := 42) (n := 3) (As := [.int _, .int _, .int _]) (rest := []) (c_Mo_way_42 l G (N := N) hc4) (by decide) rfl rfl tw_615 tw_613 tw_614 tw_769 tw_13 (by decide +kernel) ⟨by decide, by decide⟩ rfl hl.1 rfl (Nat.le_of_ble_eq_true rfl) ⟨Nat.zero_le _, Nat.zero_le _⟩ dX11_weight_9 (fun H locs hH => ?_)
  refine lv_istore (lv' := [(5, .int r2), (0, .ref (aG G 42)), (1, .int v1), (2, .int v2), (3, .int v3), (4, .int v4)]) hx hb dX11_weight_12 hl (by decide) rfl (fun ls hl => ?_)
  refine lv_iload hx hb dX11_weight_14 (lv_at hl 0 rfl) ?_
  refine lv_iconst (v := (-1)) hx hb dX11_weight_16 (by decide) ?_
  refine lv_icmp_eq (tgt := 28) hx hb dX11_weight_17 (by decide) (fun c5 => ?_) (fun c5 => ?_)
  · have hf := e_t c5 hf
    refine lv_iconst (v := (-1)) hx hb dX11_weight_28 (by decide) ?_
    refine lv_goto (tgt := 40) hx hb dX11_weight_29 (by decide) ?_
    exact r_i X hH hf dX11_weight_40
  · have hf := e_f c5 hf
    refine lv_iload hx hb dX11_weight_20 (lv_at hl 5 rfl) ?_
    obtain ⟨r6, τ7, hc8, hf⟩ := e_b hf
    refine c_Si X hH (n := 1) (As := [.int _]) (rest := []) (c_Mo_isDay l G (N := N) hc8) tw_621 tw_619 tw_620 tw_13 (by decide +kernel) ⟨by decide, by decide⟩ rfl hl.1 rfl (Nat.le_of_ble_eq_true rfl) ⟨Nat.zero_le _, Nat.zero_le _⟩ dX11_weight_22 (fun H locs hH => ?_)
    refine lv_if_ne (tgt := 32) hx hb dX11_weight_25 (by decide) (fun c9 => ?_) (fun c9 => ?_)
    · have hf := e_f c9 hf
      refine lv_aload_n hx hb dX11_weight_32 rfl (lv_at hl 1 rfl) ?_
      refine lv_iload hx hb dX11_weight_33 (lv_at hl 0 rfl) ?_
      refine lv_iload hx hb dX11_weight_35 (lv_at hl 5 rfl) ?_
      obtain ⟨r10, τ11, hc12, hf⟩ := e_b hf
      refine c_Vi X hH (k := 42) (n := 2) (As := [.int _, .int _]) (rest := []) (c_Mo_weightOf_42 l G (N := N) hc12) (by decide) rfl rfl tw_644 tw_642 tw_643 tw_771 tw_13 (by decide +kernel) ⟨by decide, by decide⟩ rfl hl.1 rfl (Nat.le_of_ble_eq_true rfl) ⟨Nat.zero_le _, Nat.zero_le _⟩ dX11_weight_37 (fun H locs hH => ?_)
      exact r_i X hH hf dX11_weight_40
    · have hf := e_t c9 hf
      refine lv_iconst (v := (-1)) hx hb dX11_weight_28 (by decide) ?_
      refine lv_goto (tgt := 40) hx hb dX11_weight_29 (by decide) ?_
      exact r_i X hH hf dX11_weight_40
theorem c_Mo_weight_42 (l : Launch) (G : GT) {N : Nat} {τ υ : Hp} {v1 v2 v3 v4 : Int32} {r : Int32} (hf : f_Mo_weight N 42 τ v1 v2 v3 v4 = some (r, υ)) : MI l G yX11_weight cX11_weight 6 (some .int) 2 44 [.ref (aG G 42), .int v1, .int v2, .int v3, .int v4] τ r υ := mk_I (by decide) (Nat.le_of_ble_eq_true rfl) (fun p e s m args below meth c X hH ls hl => b_Mo_weight_42_0 (N := N) X hH (lv_sub hl [0, 1, 2, 3, 4] rfl) hf)
set_option maxHeartbeats 4000000 in
set_option maxRecDepth 100000 in
theorem b_Nt_isNeed_1_0 {l : Launch} {G : GT} {N : Nat} {p : Program} {e : Env} {s : State} {m : MethodId} {args : Array Value} {below : List Frame} {meth : Method} {c : Code} (X : Cx G p s m args meth c cX4_isNeed 5 RX4 (some .boolean)) {r : Int32} {υ : Hp} {τ : Hp} {v1 v2 v3 v4 : Int32} {H : Heap} {locs : List Loc} {ls : Array Slot} (hH : Hs G τ s H locs) (hl : lv_has ls 5 [(0, .ref (aG G 1)), (1, .int v1), (2, .int v2), (3, .int v3), (4, .int v4)]) (hf : f_Nt_isNeed N 1 τ v1 v2 v3 v4 = some (r, υ)) : WI l G (rmG 1 21) p e s m args below meth c r υ H locs (F0 m 0 ls []) := by
  have hx := X.hx
  have hb := X.hb
  unfold f_Nt_isNeed at hf
  refine lv_aload_n hx hb dX4_isNeed_0 rfl (lv_at hl 0 rfl) ?_
  refine g_get X hH (fa_1_1 G) tw_31 dX4_isNeed_1 ?_
  refine lv_iload_n hx hb dX4_isNeed_4 rfl (lv_at hl 1 rfl) ?_
  obtain ⟨g1, hf⟩ := e_g hf
  refine a_ld X hH (aa_3 G) g1 dX4_isNeed_5 ?_
  refine lv_iload_n hx hb dX4_isNeed_6 rfl (lv_at hl 2 rfl) ?_
  obtain ⟨r2, τ3, hc4, hf⟩ := e_b hf
  refine c_SNi X hH (n := 2) (As := [.int _, .int _]) (rest := []) (c_WP_hasDoor l G (N := N) hc4) tw_237 12 rfl tw_236 tw_1 (by decide +kernel) ⟨by decide, by decide⟩ rfl hl.1 rfl (Nat.le_of_ble_eq_true rfl) ⟨Nat.zero_le _, Nat.zero_le _⟩ dX4_isNeed_7 (fun H locs hH => ?_)
  refine lv_if_ne (tgt := 32) hx hb dX4_isNeed_10 (by decide) (fun c5 => ?_) (fun c5 => ?_)
  · have hf := e_f c5 hf
    refine lv_iconst (v := 1) hx hb dX4_isNeed_32 (by decide) ?_
    refine lv_goto (tgt := 37) hx hb dX4_isNeed_33 (by decide) ?_
    exact r_z X hH rfl hf dX4_isNeed_37
  · have hf := e_t c5 hf
    refine lv_aload_n hx hb dX4_isNeed_13 rfl (lv_at hl 0 rfl) ?_
    refine g_get X hH (fa_1_2 G) tw_32 dX4_isNeed_14 ?_
    refine lv_iload_n hx hb dX4_isNeed_17 rfl (lv_at hl 1 rfl) ?_
    obtain ⟨g6, hf⟩ := e_g hf
    refine a_ld X hH (aa_4 G) g6 dX4_isNeed_18 ?_
    refine lv_iload_n hx hb dX4_isNeed_19 rfl (lv_at hl 2 rfl) ?_
    obtain ⟨r7, τ8, hc9, hf⟩ := e_b hf
    refine c_SNi X hH (n := 2) (As := [.int _, .int _]) (rest := []) (c_WP_hasDoor l G (N := N) hc9) tw_237 12 rfl tw_236 tw_1 (by decide +kernel) ⟨by decide, by decide⟩ rfl hl.1 rfl (Nat.le_of_ble_eq_true rfl) ⟨Nat.zero_le _, Nat.zero_le _⟩ dX4_isNeed_20 (fun H locs hH => ?_)
    refine lv_if_ne (tgt := 36) hx hb dX4_isNeed_23 (by decide) (fun c10 => ?_) (fun c10 => ?_)
    · have hf := e_f c10 hf
      refine lv_iconst (v := 0) hx hb dX4_isNeed_36 (by decide) ?_
      exact r_z X hH rfl hf dX4_isNeed_37
    · have hf := e_t c10 hf
      refine lv_iload_n hx hb dX4_isNeed_26 rfl (lv_at hl 3 rfl) ?_
      refine lv_iload hx hb dX4_isNeed_27 (lv_at hl 4 rfl) ?_
      refine lv_icmp_lt (tgt := 36) hx hb dX4_isNeed_29 (by decide) (fun c11 => ?_) (fun c11 => ?_)
      · have hf := e_t c11 hf
        refine lv_iconst (v := 0) hx hb dX4_isNeed_36 (by decide) ?_
        exact r_z X hH rfl hf dX4_isNeed_37
      · have hf := e_f c11 hf
        refine lv_iconst (v := 1) hx hb dX4_isNeed_32 (by decide) ?_
        refine lv_goto (tgt := 37) hx hb dX4_isNeed_33 (by decide) ?_
        exact r_z X hH rfl hf dX4_isNeed_37
theorem c_Nt_isNeed_1 (l : Launch) (G : GT) {N : Nat} {τ υ : Hp} {v1 v2 v3 v4 : Int32} {r : Int32} (hf : f_Nt_isNeed N 1 τ v1 v2 v3 v4 = some (r, υ)) : MI l G yX4_isNeed cX4_isNeed 5 (some .boolean) 1 21 [.ref (aG G 1), .int v1, .int v2, .int v3, .int v4] τ r υ := mk_I (by decide) (Nat.le_of_ble_eq_true rfl) (fun p e s m args below meth c X hH ls hl => b_Nt_isNeed_1_0 (N := N) X hH (lv_sub hl [0, 1, 2, 3, 4] rfl) hf)
set_option maxHeartbeats 4000000 in
set_option maxRecDepth 100000 in
theorem b_WP_needed_0_0 {l : Launch} {G : GT} {N : Nat} {p : Program} {e : Env} {s : State} {m : MethodId} {args : Array Value} {below : List Frame} {meth : Method} {c : Code} (X : Cx G p s m args meth c cX10_needed 6 RX10 (some .int)) {r : Int32} {υ : Hp} {τ : Hp} {v1 v2 v3 v4 : Int32} {H : Heap} {locs : List Loc} {ls : Array Slot} (hH : Hs G τ s H locs) (hl : lv_has ls 6 [(0, .ref (aG G 0)), (1, .int v1), (2, .int v2), (3, .int v3), (4, .int v4)]) (hf : f_WP_needed N 0 τ v1 v2 v3 v4 = some (r, υ)) : WI l G (rmG 3 66) p e s m args below meth c r υ H locs (F0 m 0 ls []) := by
  have hx := X.hx
  have hb := X.hb
  unfold f_WP_needed at hf
  refine lv_aload_n hx hb dX10_needed_0 rfl (lv_at hl 0 rfl) ?_
  refine g_get X hH (fa_0_0 G) tw_174 dX10_needed_1 ?_
  refine lv_iload_n hx hb dX10_needed_4 rfl (lv_at hl 1 rfl) ?_
  refine lv_iload_n hx hb dX10_needed_5 rfl (lv_at hl 2 rfl) ?_
  refine lv_iload_n hx hb dX10_needed_6 rfl (lv_at hl 3 rfl) ?_
  obtain ⟨r1, τ2, hc3, hf⟩ := e_b hf
  refine c_Vi X hH (k := 1) (n := 3) (As := [.int _, .int _, .int _]) (rest := []) (c_Nt_isWay_1 l G (N := N) hc3) (by decide) rfl rfl tw_210 tw_207 tw_208 tw_209 tw_2 (by decide +kernel) ⟨by decide, by decide⟩ rfl hl.1 rfl (Nat.le_of_ble_eq_true rfl) ⟨Nat.zero_le _, Nat.zero_le _⟩ dX10_needed_7 (fun H locs hH => ?_)
  refine lv_if_eq (tgt := 21) hx hb dX10_needed_10 (by decide) (fun c4 => ?_) (fun c4 => ?_)
  · have hf := e_t c4 hf
    refine lv_iconst (v := (-1)) hx hb dX10_needed_21 (by decide) ?_
    exact r_i X hH hf dX10_needed_22
  · have hf := e_f c4 hf
    refine lv_iload hx hb dX10_needed_13 (lv_at hl 4 rfl) ?_
    obtain ⟨r5, τ6, hc7, hf⟩ := e_b hf
    refine c_Si X hH (n := 1) (As := [.int _]) (rest := []) (c_WP_isDay l G (N := N) hc7) tw_217 tw_215 tw_216 tw_1 (by decide +kernel) ⟨by decide, by decide⟩ rfl hl.1 rfl (Nat.le_of_ble_eq_true rfl) ⟨Nat.zero_le _, Nat.zero_le _⟩ dX10_needed_15 (fun H locs hH => ?_)
    refine lv_if_ne (tgt := 23) hx hb dX10_needed_18 (by decide) (fun c8 => ?_) (fun c8 => ?_)
    · have hf := e_f c8 hf
      refine lv_aload_n hx hb dX10_needed_23 rfl (lv_at hl 0 rfl) ?_
      refine g_get X hH (fa_0_2 G) tw_176 dX10_needed_24 ?_
      refine lv_iload_n hx hb dX10_needed_27 rfl (lv_at hl 1 rfl) ?_
      refine lv_iload_n hx hb dX10_needed_28 rfl (lv_at hl 2 rfl) ?_
      refine lv_iload_n hx hb dX10_needed_29 rfl (lv_at hl 3 rfl) ?_
      obtain ⟨r9, τ10, hc11, hf⟩ := e_b hf
      refine c_Si X hH (n := 3) (As := [.int _, .int _, .int _]) (rest := [.ref (aG G 6)]) (c_WP_wayOf l G (N := N) hc11) tw_220 tw_218 tw_219 tw_1 (by decide +kernel) ⟨by decide, by decide⟩ rfl hl.1 rfl (Nat.le_of_ble_eq_true rfl) ⟨Nat.zero_le _, Nat.zero_le _⟩ dX10_needed_30 (fun H locs hH => ?_)
      refine lv_iload hx hb dX10_needed_33 (lv_at hl 4 rfl) ?_
      refine lv_aload_n hx hb dX10_needed_35 rfl (lv_at hl 0 rfl) ?_
      refine g_get X hH (fa_0_1 G) tw_175 dX10_needed_36 ?_
      refine g_getN X hH (fa_5_0 G) 9 rfl dX10_needed_39 ?_
      obtain ⟨r12, τ13, hc14, hf⟩ := e_b hf
      refine c_Vi X hH (k := 6) (n := 3) (As := [.int _, .int _, .int _]) (rest := []) (c_Di_sumOf_6 l G (N := N) hc14) (by decide) rfl rfl tw_257 tw_254 tw_255 tw_256 tw_4 (by decide +kernel) ⟨by decide, by decide⟩ rfl hl.1 rfl (Nat.le_of_ble_eq_true rfl) ⟨Nat.zero_le _, Nat.zero_le _⟩ dX10_needed_42 (fun H locs hH => ?_)
      refine lv_istore (lv' := [(5, .int r12), (0, .ref (aG G 0)), (1, .int v1), (2, .int v2), (3, .int v3), (4, .int v4)]) hx hb dX10_needed_45 hl (by decide) rfl (fun ls hl => ?_)
      refine lv_aload_n hx hb dX10_needed_47 rfl (lv_at hl 1 rfl) ?_
      refine g_get X hH (fa_0_0 G) tw_174 dX10_needed_48 ?_
      refine lv_iload_n hx hb dX10_needed_51 rfl (lv_at hl 2 rfl) ?_
      refine lv_iload_n hx hb dX10_needed_52 rfl (lv_at hl 3 rfl) ?_
      obtain ⟨r15, τ16, hc17, hf⟩ := e_b hf
      refine c_Si X hH (n := 2) (As := [.int _, .int _]) (rest := [.ref (aG G 1)]) (c_WP_pairOf l G (N := N) hc17) tw_223 tw_221 tw_222 tw_1 (by decide +kernel) ⟨by decide, by decide⟩ rfl hl.1 rfl (Nat.le_of_ble_eq_true rfl) ⟨Nat.zero_le _, Nat.zero_le _⟩ dX10_needed_53 (fun H locs hH => ?_)
      refine lv_iload_n hx hb dX10_needed_56 rfl (lv_at hl 4 rfl) ?_
      refine lv_iload hx hb dX10_needed_57 (lv_at hl 0 rfl) ?_
      refine lv_aload_n hx hb dX10_needed_59 rfl (lv_at hl 1 rfl) ?_
      refine g_get X hH (fa_0_1 G) tw_175 dX10_needed_60 ?_
      refine g_getN X hH (fa_5_1 G) 11 rfl dX10_needed_63 ?_
      obtain ⟨r18, τ19, hc20, hf⟩ := e_b hf
      refine c_Vi X hH (k := 1) (n := 4) (As := [.int _, .int _, .int _, .int _]) (rest := []) (c_Nt_isNeed_1 l G (N := N) hc20) (by decide) rfl rfl tw_269 tw_266 tw_267 tw_268 tw_2 (by decide +kernel) ⟨by decide, by decide⟩ rfl hl.1 rfl (Nat.le_of_ble_eq_true rfl) ⟨Nat.zero_le _, Nat.zero_le _⟩ dX10_needed_66 (fun H locs hH => ?_)
      refine lv_if_eq (tgt := 76) hx hb dX10_needed_69 (by decide) (fun c21 => ?_) (fun c21 => ?_)
      · have hf := e_t c21 hf
        refine lv_iconst (v := 0) hx hb dX10_needed_76 (by decide) ?_
        exact r_i X hH hf dX10_needed_77
      · have hf := e_f c21 hf
        refine lv_iconst (v := 1) hx hb dX10_needed_72 (by decide) ?_
        refine lv_goto (tgt := 77) hx hb dX10_needed_73 (by decide) ?_
        exact r_i X hH hf dX10_needed_77
    · have hf := e_t c8 hf
      refine lv_iconst (v := (-1)) hx hb dX10_needed_21 (by decide) ?_
      exact r_i X hH hf dX10_needed_22
theorem c_WP_needed_0 (l : Launch) (G : GT) {N : Nat} {τ υ : Hp} {v1 v2 v3 v4 : Int32} {r : Int32} (hf : f_WP_needed N 0 τ v1 v2 v3 v4 = some (r, υ)) : MI l G yX10_needed cX10_needed 6 (some .int) 3 66 [.ref (aG G 0), .int v1, .int v2, .int v3, .int v4] τ r υ := mk_I (by decide) (Nat.le_of_ble_eq_true rfl) (fun p e s m args below meth c X hH ls hl => b_WP_needed_0_0 (N := N) X hH (lv_sub hl [0, 1, 2, 3, 4] rfl) hf)
set_option maxHeartbeats 4000000 in
set_option maxRecDepth 100000 in
theorem b_Mo_isNeeded_42_0 {l : Launch} {G : GT} {N : Nat} {p : Program} {e : Env} {s : State} {m : MethodId} {args : Array Value} {below : List Frame} {meth : Method} {c : Code} (X : Cx G p s m args meth c cX11_isNeeded 3 RX11 (some .boolean)) {r : Int32} {υ : Hp} {τ : Hp} {v1 v2 : Int32} {H : Heap} {locs : List Loc} {ls : Array Slot} (hH : Hs G τ s H locs) (hl : lv_has ls 3 [(0, .ref (aG G 42)), (1, .int v1), (2, .int v2)]) (hf : f_Mo_isNeeded N 42 τ v1 v2 = some (r, υ)) : WI l G (rmG 0 0) p e s m args below meth c r υ H locs (F0 m 0 ls []) := by
  have hx := X.hx
  have hb := X.hb
  unfold f_Mo_isNeeded at hf
  refine lv_aload_n hx hb dX11_isNeeded_0 rfl (lv_at hl 0 rfl) ?_
  refine g_get X hH (fa_42_8 G) tw_534 dX11_isNeeded_1 ?_
  refine lv_iload_n hx hb dX11_isNeeded_4 rfl (lv_at hl 1 rfl) ?_
  obtain ⟨g1, hf⟩ := e_g hf
  refine z_ld X hH (aa_48 G) g1 dX11_isNeeded_5 ?_
  refine lv_if_ne (tgt := 26) hx hb dX11_isNeeded_6 (by decide) (fun c2 => ?_) (fun c2 => ?_)
  · have hf := e_f c2 hf
    refine lv_iconst (v := 1) hx hb dX11_isNeeded_26 (by decide) ?_
    refine lv_goto (tgt := 31) hx hb dX11_isNeeded_27 (by decide) ?_
    exact r_z X hH rfl hf dX11_isNeeded_31
  · have hf := e_t c2 hf
    refine lv_aload_n hx hb dX11_isNeeded_9 rfl (lv_at hl 0 rfl) ?_
    refine g_get X hH (fa_42_9 G) tw_535 dX11_isNeeded_10 ?_
    refine lv_iload_n hx hb dX11_isNeeded_13 rfl (lv_at hl 1 rfl) ?_
    obtain ⟨g3, hf⟩ := e_g hf
    refine z_ld X hH (aa_49 G) g3 dX11_isNeeded_14 ?_
    refine lv_if_ne (tgt := 30) hx hb dX11_isNeeded_15 (by decide) (fun c4 => ?_) (fun c4 => ?_)
    · have hf := e_f c4 hf
      refine lv_iconst (v := 0) hx hb dX11_isNeeded_30 (by decide) ?_
      exact r_z X hH rfl hf dX11_isNeeded_31
    · have hf := e_t c4 hf
      refine lv_iload_n hx hb dX11_isNeeded_18 rfl (lv_at hl 2 rfl) ?_
      refine lv_aload_n hx hb dX11_isNeeded_19 rfl (lv_at hl 0 rfl) ?_
      refine g_get X hH (fa_42_11 G) tw_537 dX11_isNeeded_20 ?_
      refine lv_icmp_lt (tgt := 30) hx hb dX11_isNeeded_23 (by decide) (fun c5 => ?_) (fun c5 => ?_)
      · have hf := e_t c5 hf
        refine lv_iconst (v := 0) hx hb dX11_isNeeded_30 (by decide) ?_
        exact r_z X hH rfl hf dX11_isNeeded_31
      · have hf := e_f c5 hf
        refine lv_iconst (v := 1) hx hb dX11_isNeeded_26 (by decide) ?_
        refine lv_goto (tgt := 31) hx hb dX11_isNeeded_27 (by decide) ?_
        exact r_z X hH rfl hf dX11_isNeeded_31
theorem c_Mo_isNeeded_42 (l : Launch) (G : GT) {N : Nat} {τ υ : Hp} {v1 v2 : Int32} {r : Int32} (hf : f_Mo_isNeeded N 42 τ v1 v2 = some (r, υ)) : MI l G yX11_isNeeded cX11_isNeeded 3 (some .boolean) 0 0 [.ref (aG G 42), .int v1, .int v2] τ r υ := mk_I (by decide) (Nat.le_of_ble_eq_true rfl) (fun p e s m args below meth c X hH ls hl => b_Mo_isNeeded_42_0 (N := N) X hH (lv_sub hl [0, 1, 2] rfl) hf)
set_option maxHeartbeats 4000000 in
set_option maxRecDepth 100000 in
theorem b_Mo_needed_42_0 {l : Launch} {G : GT} {N : Nat} {p : Program} {e : Env} {s : State} {m : MethodId} {args : Array Value} {below : List Frame} {meth : Method} {c : Code} (X : Cx G p s m args meth c cX11_needed 6 RX11 (some .int)) {r : Int32} {υ : Hp} {τ : Hp} {v1 v2 v3 v4 : Int32} {H : Heap} {locs : List Loc} {ls : Array Slot} (hH : Hs G τ s H locs) (hl : lv_has ls 6 [(0, .ref (aG G 42)), (1, .int v1), (2, .int v2), (3, .int v3), (4, .int v4)]) (hf : f_Mo_needed N 42 τ v1 v2 v3 v4 = some (r, υ)) : WI l G (rmG 2 44) p e s m args below meth c r υ H locs (F0 m 0 ls []) := by
  have hx := X.hx
  have hb := X.hb
  unfold f_Mo_needed at hf
  refine lv_aload_n hx hb dX11_needed_0 rfl (lv_at hl 0 rfl) ?_
  refine lv_iconst (v := 0) hx hb dX11_needed_1 (by decide) ?_
  obtain ⟨τ1, eτ1, hf⟩ := e_l hf
  refine g_put X hH (fp_42_0 G) tw_526 rfl rfl dX11_needed_2 (fun H locs hH => ?_)
  have hH : Hs G τ1 s H locs := by rw [eτ1]; exact hH
  refine lv_aload_n hx hb dX11_needed_5 rfl (lv_at hl 0 rfl) ?_
  refine lv_iload_n hx hb dX11_needed_6 rfl (lv_at hl 1 rfl) ?_
  refine lv_iload_n hx hb dX11_needed_7 rfl (lv_at hl 2 rfl) ?_
  refine lv_iload_n hx hb dX11_needed_8 rfl (lv_at hl 3 rfl) ?_
  obtain ⟨r2, τ3, hc4, hf⟩ := e_b hf
  refine c_Vi X hH (k := 42) (n := 3) (As := [.int _, .int _, .int _]) (rest := []) (c_Mo_way_42 l G (N := N) hc4) (by decide) rfl rfl tw_615 tw_613 tw_614 tw_769 tw_13 (by decide +kernel) ⟨by decide, by decide⟩ rfl hl.1 rfl (Nat.le_of_ble_eq_true rfl) ⟨Nat.zero_le _, Nat.zero_le _⟩ dX11_needed_9 (fun H locs hH => ?_)
  refine lv_istore (lv' := [(5, .int r2), (0, .ref (aG G 42)), (1, .int v1), (2, .int v2), (3, .int v3), (4, .int v4)]) hx hb dX11_needed_12 hl (by decide) rfl (fun ls hl => ?_)
  refine lv_iload hx hb dX11_needed_14 (lv_at hl 0 rfl) ?_
  refine lv_iconst (v := (-1)) hx hb dX11_needed_16 (by decide) ?_
  refine lv_icmp_eq (tgt := 28) hx hb dX11_needed_17 (by decide) (fun c5 => ?_) (fun c5 => ?_)
  · have hf := e_t c5 hf
    refine lv_iconst (v := (-1)) hx hb dX11_needed_28 (by decide) ?_
    refine lv_goto (tgt := 54) hx hb dX11_needed_29 (by decide) ?_
    exact r_i X hH hf dX11_needed_54
  · have hf := e_f c5 hf
    refine lv_iload hx hb dX11_needed_20 (lv_at hl 5 rfl) ?_
    obtain ⟨r6, τ7, hc8, hf⟩ := e_b hf
    refine c_Si X hH (n := 1) (As := [.int _]) (rest := []) (c_Mo_isDay l G (N := N) hc8) tw_621 tw_619 tw_620 tw_13 (by decide +kernel) ⟨by decide, by decide⟩ rfl hl.1 rfl (Nat.le_of_ble_eq_true rfl) ⟨Nat.zero_le _, Nat.zero_le _⟩ dX11_needed_22 (fun H locs hH => ?_)
    refine lv_if_ne (tgt := 32) hx hb dX11_needed_25 (by decide) (fun c9 => ?_) (fun c9 => ?_)
    · have hf := e_f c9 hf
      refine lv_aload_n hx hb dX11_needed_32 rfl (lv_at hl 1 rfl) ?_
      refine lv_iload hx hb dX11_needed_33 (lv_at hl 0 rfl) ?_
      refine lv_aload_n hx hb dX11_needed_35 rfl (lv_at hl 1 rfl) ?_
      refine lv_iload hx hb dX11_needed_36 (lv_at hl 0 rfl) ?_
      refine lv_iload hx hb dX11_needed_38 (lv_at hl 5 rfl) ?_
      obtain ⟨r10, τ11, hc12, hf⟩ := e_b hf
      refine c_Vi X hH (k := 42) (n := 2) (As := [.int _, .int _]) (rest := [.int _, .ref (aG G 42)]) (c_Mo_weightOf_42 l G (N := N) hc12) (by decide) rfl rfl tw_644 tw_642 tw_643 tw_771 tw_13 (by decide +kernel) ⟨by decide, by decide⟩ rfl hl.1 rfl (Nat.le_of_ble_eq_true rfl) ⟨Nat.zero_le _, Nat.zero_le _⟩ dX11_needed_40 (fun H locs hH => ?_)
      obtain ⟨r13, τ14, hc15, hf⟩ := e_b hf
      refine c_Vi X hH (k := 42) (n := 2) (As := [.int _, .int _]) (rest := []) (c_Mo_isNeeded_42 l G (N := N) hc15) (by decide) rfl rfl tw_651 tw_649 tw_650 tw_772 tw_13 (by decide +kernel) ⟨by decide, by decide⟩ rfl hl.1 rfl (Nat.le_of_ble_eq_true rfl) ⟨Nat.zero_le _, Nat.zero_le _⟩ dX11_needed_43 (fun H locs hH => ?_)
      refine lv_if_eq (tgt := 53) hx hb dX11_needed_46 (by decide) (fun c16 => ?_) (fun c16 => ?_)
      · have hf := e_t c16 hf
        refine lv_iconst (v := 0) hx hb dX11_needed_53 (by decide) ?_
        exact r_i X hH hf dX11_needed_54
      · have hf := e_f c16 hf
        refine lv_iconst (v := 1) hx hb dX11_needed_49 (by decide) ?_
        refine lv_goto (tgt := 54) hx hb dX11_needed_50 (by decide) ?_
        exact r_i X hH hf dX11_needed_54
    · have hf := e_t c9 hf
      refine lv_iconst (v := (-1)) hx hb dX11_needed_28 (by decide) ?_
      refine lv_goto (tgt := 54) hx hb dX11_needed_29 (by decide) ?_
      exact r_i X hH hf dX11_needed_54
theorem c_Mo_needed_42 (l : Launch) (G : GT) {N : Nat} {τ υ : Hp} {v1 v2 v3 v4 : Int32} {r : Int32} (hf : f_Mo_needed N 42 τ v1 v2 v3 v4 = some (r, υ)) : MI l G yX11_needed cX11_needed 6 (some .int) 2 44 [.ref (aG G 42), .int v1, .int v2, .int v3, .int v4] τ r υ := mk_I (by decide) (Nat.le_of_ble_eq_true rfl) (fun p e s m args below meth c X hH ls hl => b_Mo_needed_42_0 (N := N) X hH (lv_sub hl [0, 1, 2, 3, 4] rfl) hf)
set_option maxHeartbeats 4000000 in
set_option maxRecDepth 100000 in
theorem b_Nd_doorsOf_18_1_6b {l : Launch} {G : GT} {N : Nat} {p : Program} {e : Env} {s : State} {m : MethodId} {args : Array Value} {below : List Frame} {meth : Method} {c : Code} (X : Cx G p s m args meth c cX3_doorsOf 6 RX3 (some .int)) {r : Int32} {υ : Hp} {k6 : Hp → Int32 → Int32 → Int32 → Int32 → OR} (hk6 : ∀ (τ : Hp) (v1 v3 v4 v5 : Int32) (H : Heap) (locs : List Loc) (ls : Array Slot), Hs G τ s H locs → lv_has ls 6 [(0, .ref (aG G 18)), (1, .int v1), (2, .ref (aG G 1)), (3, .int v3), (4, .int v4), (5, .int v5)] → k6 τ v1 v3 v4 v5 = some (r, υ) → WI l G (rmG 2 45) p e s m args below meth c r υ H locs (F0 m 6 ls [])) {τ : Hp} {v1 v3 v4 v5 : Int32} {H : Heap} {locs : List Loc} {ls : Array Slot} (hH : Hs G τ s H locs) (hl : lv_has ls 6 [(0, .ref (aG G 18)), (1, .int v1), (2, .ref (aG G 1)), (3, .int v3), (4, .int v4), (5, .int v5)]) (hf : f_Nd_doorsOf_L6b N 18 1 k6 τ v1 v3 v4 v5 = some (r, υ)) : WI l G (rmG 2 45) p e s m args below meth c r υ H locs (F0 m 6 ls []) := by
  have hx := X.hx
  have hb := X.hb
  unfold f_Nd_doorsOf_L6b at hf
  refine lv_iload hx hb dX3_doorsOf_6 (lv_at hl 5 rfl) ?_
  refine lv_iconst (v := 4) hx hb dX3_doorsOf_8 (by decide) ?_
  refine lv_icmp_ge (tgt := 49) hx hb dX3_doorsOf_9 (by decide) (fun c1 => ?_) (fun c1 => ?_)
  · have hf := e_t c1 hf
    refine lv_iload hx hb dX3_doorsOf_49 (lv_at hl 4 rfl) ?_
    exact r_i X hH hf dX3_doorsOf_51
  · have hf := e_f c1 hf
    refine lv_aload_n hx hb dX3_doorsOf_12 rfl (lv_at hl 2 rfl) ?_
    refine lv_iload_n hx hb dX3_doorsOf_13 rfl (lv_at hl 1 rfl) ?_
    refine lv_iload hx hb dX3_doorsOf_14 (lv_at hl 5 rfl) ?_
    refine lv_aload_n hx hb dX3_doorsOf_16 rfl (lv_at hl 0 rfl) ?_
    refine g_get X hH (fa_18_1 G) tw_97 dX3_doorsOf_17 ?_
    refine lv_iload_n hx hb dX3_doorsOf_20 rfl (lv_at hl 1 rfl) ?_
    refine lv_iconst (v := 4) hx hb dX3_doorsOf_21 (by decide) ?_
    refine lv_imul hx hb dX3_doorsOf_22 ?_
    refine lv_iload hx hb dX3_doorsOf_23 (lv_at hl 5 rfl) ?_
    refine lv_iadd hx hb dX3_doorsOf_25 ?_
    obtain ⟨g2, hf⟩ := e_g hf
    refine a_ld X hH (aa_20 G) g2 dX3_doorsOf_26 ?_
    refine lv_iload_n hx hb dX3_doorsOf_27 rfl (lv_at hl 3 rfl) ?_
    obtain ⟨r3, τ4, hc5, hf⟩ := e_b hf
    refine c_Vi X hH (k := 1) (n := 4) (As := [.int _, .int _, .int _, .int _]) (rest := []) (c_Nt_isNeed_1 l G (N := N) hc5) (by decide) rfl rfl tw_269 tw_286 tw_267 tw_268 tw_2 (by decide +kernel) ⟨by decide, by decide⟩ rfl hl.1 rfl (Nat.le_of_ble_eq_true rfl) ⟨Nat.zero_le _, Nat.zero_le _⟩ dX3_doorsOf_28 (fun H locs hH => ?_)
    refine lv_if_eq (tgt := 43) hx hb dX3_doorsOf_31 (by decide) (fun c6 => ?_) (fun c6 => ?_)
    · have hf := e_t c6 hf
      obtain ⟨x7, ex7, hf⟩ := e_l hf
      refine lv_iinc (v := x7) (lv' := [(5, .int x7), (0, .ref (aG G 18)), (1, .int v1), (2, .ref (aG G 1)), (3, .int v3), (4, .int v4)]) hx hb dX3_doorsOf_43 hl (k := 5) rfl (by rw [ex7]; rfl) (by decide) rfl (fun ls hl => ?_)
      refine lv_goto (tgt := 6) hx hb dX3_doorsOf_46 (by decide) ?_
      exact hk6 _ _ _ _ _ _ _ _ hH (lv_sub hl [1, 2, 3, 4, 5, 0] rfl) hf
    · have hf := e_f c6 hf
      refine lv_iload hx hb dX3_doorsOf_34 (lv_at hl 4 rfl) ?_
      refine lv_iconst (v := 1) hx hb dX3_doorsOf_36 (by decide) ?_
      refine lv_iload hx hb dX3_doorsOf_37 (lv_at hl 5 rfl) ?_
      refine lv_ishl hx hb dX3_doorsOf_39 ?_
      refine lv_ior hx hb dX3_doorsOf_40 ?_
      obtain ⟨x8, ex8, hf⟩ := e_l hf
      refine g_nm ex8 ?_
      refine lv_istore (lv' := [(4, .int x8), (0, .ref (aG G 18)), (1, .int v1), (2, .ref (aG G 1)), (3, .int v3), (5, .int v5)]) hx hb dX3_doorsOf_41 hl (by decide) rfl (fun ls hl => ?_)
      obtain ⟨x9, ex9, hf⟩ := e_l hf
      refine lv_iinc (v := x9) (lv' := [(5, .int x9), (4, .int x8), (0, .ref (aG G 18)), (1, .int v1), (2, .ref (aG G 1)), (3, .int v3)]) hx hb dX3_doorsOf_43 hl (k := 5) rfl (by rw [ex9]; rfl) (by decide) rfl (fun ls hl => ?_)
      refine lv_goto (tgt := 6) hx hb dX3_doorsOf_46 (by decide) ?_
      exact hk6 _ _ _ _ _ _ _ _ hH (lv_sub hl [2, 3, 4, 5, 1, 0] rfl) hf
theorem b_Nd_doorsOf_18_1_6 {l : Launch} {G : GT} {N : Nat} {p : Program} {e : Env} {s : State} {m : MethodId} {args : Array Value} {below : List Frame} {meth : Method} {c : Code} (X : Cx G p s m args meth c cX3_doorsOf 6 RX3 (some .int)) {r : Int32} {υ : Hp} : ∀ (n : Nat) (τ : Hp) (v1 v3 v4 v5 : Int32) (H : Heap) (locs : List Loc) (ls : Array Slot), Hs G τ s H locs → lv_has ls 6 [(0, .ref (aG G 18)), (1, .int v1), (2, .ref (aG G 1)), (3, .int v3), (4, .int v4), (5, .int v5)] → f_Nd_doorsOf_L6 N 18 1 n τ v1 v3 v4 v5 = some (r, υ) → WI l G (rmG 2 45) p e s m args below meth c r υ H locs (F0 m 6 ls []) := by
  intro n
  induction n with
  | zero => intro τ v1 v3 v4 v5 H locs ls hH hl hf; exact nomatch (show (none : OR) = some (r, υ) from hf)
  | succ n ih => intro τ v1 v3 v4 v5 H locs ls hH hl hf; exact b_Nd_doorsOf_18_1_6b (N := N) X ih hH hl hf
set_option maxHeartbeats 4000000 in
set_option maxRecDepth 100000 in
theorem b_Nd_doorsOf_18_1_0 {l : Launch} {G : GT} {N : Nat} {p : Program} {e : Env} {s : State} {m : MethodId} {args : Array Value} {below : List Frame} {meth : Method} {c : Code} (X : Cx G p s m args meth c cX3_doorsOf 6 RX3 (some .int)) {r : Int32} {υ : Hp} {τ : Hp} {v1 v3 : Int32} {H : Heap} {locs : List Loc} {ls : Array Slot} (hH : Hs G τ s H locs) (hl : lv_has ls 6 [(0, .ref (aG G 18)), (1, .int v1), (2, .ref (aG G 1)), (3, .int v3)]) (hf : f_Nd_doorsOf N 18 1 τ v1 v3 = some (r, υ)) : WI l G (rmG 2 45) p e s m args below meth c r υ H locs (F0 m 0 ls []) := by
  have hx := X.hx
  have hb := X.hb
  unfold f_Nd_doorsOf at hf
  refine lv_iconst (v := 0) hx hb dX3_doorsOf_0 (by decide) ?_
  refine lv_istore (lv' := [(4, .int 0), (0, .ref (aG G 18)), (1, .int v1), (2, .ref (aG G 1)), (3, .int v3)]) hx hb dX3_doorsOf_1 hl (by decide) rfl (fun ls hl => ?_)
  refine lv_iconst (v := 0) hx hb dX3_doorsOf_3 (by decide) ?_
  refine lv_istore (lv' := [(5, .int 0), (4, .int 0), (0, .ref (aG G 18)), (1, .int v1), (2, .ref (aG G 1)), (3, .int v3)]) hx hb dX3_doorsOf_4 hl (by decide) rfl (fun ls hl => ?_)
  exact b_Nd_doorsOf_18_1_6 (N := N) X _ _ _ _ _ _ _ _ _ hH (lv_sub hl [2, 3, 4, 5, 1, 0] rfl) hf
theorem c_Nd_doorsOf_18_1 (l : Launch) (G : GT) {N : Nat} {τ υ : Hp} {v1 v3 : Int32} {r : Int32} (hf : f_Nd_doorsOf N 18 1 τ v1 v3 = some (r, υ)) : MI l G yX3_doorsOf cX3_doorsOf 6 (some .int) 2 45 [.ref (aG G 18), .int v1, .ref (aG G 1), .int v3] τ r υ := mk_I (by decide) (Nat.le_of_ble_eq_true rfl) (fun p e s m args below meth c X hH ls hl => b_Nd_doorsOf_18_1_0 (N := N) X hH (lv_sub hl [0, 1, 2, 3] rfl) hf)
set_option maxHeartbeats 4000000 in
set_option maxRecDepth 100000 in
theorem b_Jf_fill_20_5b {l : Launch} {G : GT} {N : Nat} {p : Program} {e : Env} {s : State} {m : MethodId} {args : Array Value} {below : List Frame} {meth : Method} {c : Code} (X : Cx G p s m args meth c cJ7_fill_53178 4 RJ7 none) {r : Int32} {υ : Hp} {k5 : Hp → Int32 → Int32 → Int32 → OR} (hk5 : ∀ (τ : Hp) (v1 v2 v3 : Int32) (H : Heap) (locs : List Loc) (ls : Array Slot), Hs G τ s H locs → lv_has ls 4 [(0, .ref (aG G 20)), (1, .int v1), (2, .int v2), (3, .int v3)] → k5 τ v1 v2 v3 = some (r, υ) → WV l G (rmG 0 0) p e s m args below meth c υ H locs (F0 m 5 ls [])) {τ : Hp} {v1 v2 v3 : Int32} {H : Heap} {locs : List Loc} {ls : Array Slot} (hH : Hs G τ s H locs) (hl : lv_has ls 4 [(0, .ref (aG G 20)), (1, .int v1), (2, .int v2), (3, .int v3)]) (hf : f_Jf_fill_L5b N 20 k5 τ v1 v2 v3 = some (r, υ)) : WV l G (rmG 0 0) p e s m args below meth c υ H locs (F0 m 5 ls []) := by
  have hx := X.hx
  have hb := X.hb
  unfold f_Jf_fill_L5b at hf
  refine lv_iload_n hx hb dJ7_fill_53178_5 rfl (lv_at hl 2 rfl) ?_
  refine lv_iload_n hx hb dJ7_fill_53178_6 rfl (lv_at hl 3 rfl) ?_
  refine lv_icmp_ge (tgt := 20) hx hb dJ7_fill_53178_7 (by decide) (fun c1 => ?_) (fun c1 => ?_)
  · have hf := e_t c1 hf
    exact r_v X hH hf dJ7_fill_53178_20
  · have hf := e_f c1 hf
    refine lv_aload_n hx hb dJ7_fill_53178_10 rfl (lv_at hl 0 rfl) ?_
    refine lv_iload_n hx hb dJ7_fill_53178_11 rfl (lv_at hl 2 rfl) ?_
    refine lv_iload_n hx hb dJ7_fill_53178_12 rfl (lv_at hl 1 rfl) ?_
    obtain ⟨g2, hf⟩ := e_g hf
    obtain ⟨τ3, eτ3, hf⟩ := e_l hf
    refine a_st X hH (aa_20 G) g2 dJ7_fill_53178_13 (fun H locs hH => ?_)
    have hH : Hs G τ3 s H locs := by rw [eτ3]; exact hH
    obtain ⟨x4, ex4, hf⟩ := e_l hf
    refine lv_iinc (v := x4) (lv' := [(2, .int x4), (0, .ref (aG G 20)), (1, .int v1), (3, .int v3)]) hx hb dJ7_fill_53178_14 hl (k := 2) rfl (by rw [ex4]; rfl) (by decide) rfl (fun ls hl => ?_)
    refine lv_goto (tgt := 5) hx hb dJ7_fill_53178_17 (by decide) ?_
    exact hk5 _ _ _ _ _ _ _ hH (lv_sub hl [1, 2, 0, 3] rfl) hf
theorem b_Jf_fill_20_5 {l : Launch} {G : GT} {N : Nat} {p : Program} {e : Env} {s : State} {m : MethodId} {args : Array Value} {below : List Frame} {meth : Method} {c : Code} (X : Cx G p s m args meth c cJ7_fill_53178 4 RJ7 none) {r : Int32} {υ : Hp} : ∀ (n : Nat) (τ : Hp) (v1 v2 v3 : Int32) (H : Heap) (locs : List Loc) (ls : Array Slot), Hs G τ s H locs → lv_has ls 4 [(0, .ref (aG G 20)), (1, .int v1), (2, .int v2), (3, .int v3)] → f_Jf_fill_L5 N 20 n τ v1 v2 v3 = some (r, υ) → WV l G (rmG 0 0) p e s m args below meth c υ H locs (F0 m 5 ls []) := by
  intro n
  induction n with
  | zero => intro τ v1 v2 v3 H locs ls hH hl hf; exact nomatch (show (none : OR) = some (r, υ) from hf)
  | succ n ih => intro τ v1 v2 v3 H locs ls hH hl hf; exact b_Jf_fill_20_5b (N := N) X ih hH hl hf
set_option maxHeartbeats 4000000 in
set_option maxRecDepth 100000 in
theorem b_Jf_fill_20_0 {l : Launch} {G : GT} {N : Nat} {p : Program} {e : Env} {s : State} {m : MethodId} {args : Array Value} {below : List Frame} {meth : Method} {c : Code} (X : Cx G p s m args meth c cJ7_fill_53178 4 RJ7 none) {r : Int32} {υ : Hp} {τ : Hp} {v1 : Int32} {H : Heap} {locs : List Loc} {ls : Array Slot} (hH : Hs G τ s H locs) (hl : lv_has ls 4 [(0, .ref (aG G 20)), (1, .int v1)]) (hf : f_Jf_fill N 20 τ v1 = some (r, υ)) : WV l G (rmG 0 0) p e s m args below meth c υ H locs (F0 m 0 ls []) := by
  have hx := X.hx
  have hb := X.hb
  unfold f_Jf_fill at hf
  refine lv_iconst (v := 0) hx hb dJ7_fill_53178_0 (by decide) ?_
  refine lv_istore_n (lv' := [(2, .int 0), (0, .ref (aG G 20)), (1, .int v1)]) hx hb dJ7_fill_53178_1 rfl hl (by decide) rfl (fun ls hl => ?_)
  refine lv_aload_n hx hb dJ7_fill_53178_2 rfl (lv_at hl 1 rfl) ?_
  refine a_len X hH (aa_20 G) dJ7_fill_53178_3 ?_
  obtain ⟨x1, ex1, hf⟩ := e_l hf
  refine g_nm ex1 ?_
  refine lv_istore_n (lv' := [(3, .int x1), (2, .int 0), (0, .ref (aG G 20)), (1, .int v1)]) hx hb dJ7_fill_53178_4 rfl hl (by decide) rfl (fun ls hl => ?_)
  exact b_Jf_fill_20_5 (N := N) X _ _ _ _ _ _ _ _ hH (lv_sub hl [2, 3, 1, 0] rfl) hf
theorem c_Jf_fill_20 (l : Launch) (G : GT) {N : Nat} {τ υ : Hp} {v1 : Int32} {r : Int32} (hf : f_Jf_fill N 20 τ v1 = some (r, υ)) : MV l G yJ7_fill_53178 cJ7_fill_53178 4 0 0 [.ref (aG G 20), .int v1] τ υ := mk_V (by decide) (Nat.le_of_ble_eq_true rfl) (fun p e s m args below meth c X hH ls hl => b_Jf_fill_20_0 (N := N) X hH (lv_sub hl [0, 1] rfl) hf)
set_option maxHeartbeats 4000000 in
set_option maxRecDepth 100000 in
theorem b_Di_sumAll_6_20_8b {l : Launch} {G : GT} {N : Nat} {p : Program} {e : Env} {s : State} {m : MethodId} {args : Array Value} {below : List Frame} {meth : Method} {c : Code} (X : Cx G p s m args meth c cX0_sumAll 5 RX0 none) {r : Int32} {υ : Hp} {k8 : Hp → Int32 → Int32 → Int32 → OR} (hk8 : ∀ (τ : Hp) (v2 v3 v4 : Int32) (H : Heap) (locs : List Loc) (ls : Array Slot), Hs G τ s H locs → lv_has ls 5 [(0, .ref (aG G 6)), (1, .ref (aG G 20)), (2, .int v2), (3, .int v3), (4, .int v4)] → k8 τ v2 v3 v4 = some (r, υ) → WV l G (rmG 1 23) p e s m args below meth c υ H locs (F0 m 8 ls [])) {τ : Hp} {v2 v3 v4 : Int32} {H : Heap} {locs : List Loc} {ls : Array Slot} (hH : Hs G τ s H locs) (hl : lv_has ls 5 [(0, .ref (aG G 6)), (1, .ref (aG G 20)), (2, .int v2), (3, .int v3), (4, .int v4)]) (hf : f_Di_sumAll_L8b N 6 20 k8 τ v2 v3 v4 = some (r, υ)) : WV l G (rmG 1 23) p e s m args below meth c υ H locs (F0 m 8 ls []) := by
  have hx := X.hx
  have hb := X.hb
  unfold f_Di_sumAll_L8b at hf
  refine lv_iload hx hb dX0_sumAll_8 (lv_at hl 4 rfl) ?_
  refine lv_aload_n hx hb dX0_sumAll_10 rfl (lv_at hl 0 rfl) ?_
  refine g_get X hH (fa_6_3 G) tw_62 dX0_sumAll_11 ?_
  refine lv_icmp_ge (tgt := 53) hx hb dX0_sumAll_14 (by decide) (fun c1 => ?_) (fun c1 => ?_)
  · have hf := e_t c1 hf
    exact r_v X hH hf dX0_sumAll_53
  · have hf := e_f c1 hf
    refine lv_aload_n hx hb dX0_sumAll_17 rfl (lv_at hl 0 rfl) ?_
    refine lv_iload hx hb dX0_sumAll_18 (lv_at hl 4 rfl) ?_
    refine lv_iload_n hx hb dX0_sumAll_20 rfl (lv_at hl 2 rfl) ?_
    refine lv_iload_n hx hb dX0_sumAll_21 rfl (lv_at hl 3 rfl) ?_
    obtain ⟨r2, τ3, hc4, hf⟩ := e_b hf
    refine c_Vi X hH (k := 6) (n := 3) (As := [.int _, .int _, .int _]) (rest := []) (c_Di_isWithin_6 l G (N := N) hc4) (by decide) rfl rfl tw_261 tw_258 tw_259 tw_260 tw_4 (by decide +kernel) ⟨by decide, by decide⟩ rfl hl.1 rfl (Nat.le_of_ble_eq_true rfl) ⟨Nat.zero_le _, Nat.zero_le _⟩ dX0_sumAll_22 (fun H locs hH => ?_)
    refine lv_if_eq (tgt := 47) hx hb dX0_sumAll_25 (by decide) (fun c5 => ?_) (fun c5 => ?_)
    · have hf := e_t c5 hf
      obtain ⟨x6, ex6, hf⟩ := e_l hf
      refine lv_iinc (v := x6) (lv' := [(4, .int x6), (0, .ref (aG G 6)), (1, .ref (aG G 20)), (2, .int v2), (3, .int v3)]) hx hb dX0_sumAll_47 hl (k := 4) rfl (by rw [ex6]; rfl) (by decide) rfl (fun ls hl => ?_)
      refine lv_goto (tgt := 8) hx hb dX0_sumAll_50 (by decide) ?_
      exact hk8 _ _ _ _ _ _ _ hH (lv_sub hl [1, 2, 3, 4, 0] rfl) hf
    · have hf := e_f c5 hf
      refine lv_aload_n hx hb dX0_sumAll_28 rfl (lv_at hl 1 rfl) ?_
      refine lv_aload_n hx hb dX0_sumAll_29 rfl (lv_at hl 0 rfl) ?_
      refine g_get X hH (fa_6_0 G) tw_59 dX0_sumAll_30 ?_
      refine lv_iload hx hb dX0_sumAll_33 (lv_at hl 4 rfl) ?_
      obtain ⟨g7, hf⟩ := e_g hf
      refine a_ld X hH (aa_7 G) g7 dX0_sumAll_35 ?_
      refine lv_dup2_11 hx hb dX0_sumAll_36 rfl rfl ?_
      obtain ⟨g8, hf⟩ := e_g hf
      refine a_ld X hH (aa_20 G) g8 dX0_sumAll_37 ?_
      refine lv_aload_n hx hb dX0_sumAll_38 rfl (lv_at hl 0 rfl) ?_
      refine g_get X hH (fa_6_2 G) tw_61 dX0_sumAll_39 ?_
      refine lv_iload hx hb dX0_sumAll_42 (lv_at hl 4 rfl) ?_
      obtain ⟨g9, hf⟩ := e_g hf
      refine a_ld X hH (aa_9 G) g9 dX0_sumAll_44 ?_
      refine lv_iadd hx hb dX0_sumAll_45 ?_
      obtain ⟨g10, hf⟩ := e_g hf
      obtain ⟨τ11, eτ11, hf⟩ := e_l hf
      refine a_st X hH (aa_20 G) g10 dX0_sumAll_46 (fun H locs hH => ?_)
      have hH : Hs G τ11 s H locs := by rw [eτ11]; exact hH
      obtain ⟨x12, ex12, hf⟩ := e_l hf
      refine lv_iinc (v := x12) (lv' := [(4, .int x12), (0, .ref (aG G 6)), (1, .ref (aG G 20)), (2, .int v2), (3, .int v3)]) hx hb dX0_sumAll_47 hl (k := 4) rfl (by rw [ex12]; rfl) (by decide) rfl (fun ls hl => ?_)
      refine lv_goto (tgt := 8) hx hb dX0_sumAll_50 (by decide) ?_
      exact hk8 _ _ _ _ _ _ _ hH (lv_sub hl [1, 2, 3, 4, 0] rfl) hf
theorem b_Di_sumAll_6_20_8 {l : Launch} {G : GT} {N : Nat} {p : Program} {e : Env} {s : State} {m : MethodId} {args : Array Value} {below : List Frame} {meth : Method} {c : Code} (X : Cx G p s m args meth c cX0_sumAll 5 RX0 none) {r : Int32} {υ : Hp} : ∀ (n : Nat) (τ : Hp) (v2 v3 v4 : Int32) (H : Heap) (locs : List Loc) (ls : Array Slot), Hs G τ s H locs → lv_has ls 5 [(0, .ref (aG G 6)), (1, .ref (aG G 20)), (2, .int v2), (3, .int v3), (4, .int v4)] → f_Di_sumAll_L8 N 6 20 n τ v2 v3 v4 = some (r, υ) → WV l G (rmG 1 23) p e s m args below meth c υ H locs (F0 m 8 ls []) := by
  intro n
  induction n with
  | zero => intro τ v2 v3 v4 H locs ls hH hl hf; exact nomatch (show (none : OR) = some (r, υ) from hf)
  | succ n ih => intro τ v2 v3 v4 H locs ls hH hl hf; exact b_Di_sumAll_6_20_8b (N := N) X ih hH hl hf
set_option maxHeartbeats 4000000 in
set_option maxRecDepth 100000 in
theorem b_Di_sumAll_6_20_0 {l : Launch} {G : GT} {N : Nat} {p : Program} {e : Env} {s : State} {m : MethodId} {args : Array Value} {below : List Frame} {meth : Method} {c : Code} (X : Cx G p s m args meth c cX0_sumAll 5 RX0 none) {r : Int32} {υ : Hp} {τ : Hp} {v2 v3 : Int32} {H : Heap} {locs : List Loc} {ls : Array Slot} (hH : Hs G τ s H locs) (hl : lv_has ls 5 [(0, .ref (aG G 6)), (1, .ref (aG G 20)), (2, .int v2), (3, .int v3)]) (hf : f_Di_sumAll N 6 20 τ v2 v3 = some (r, υ)) : WV l G (rmG 1 23) p e s m args below meth c υ H locs (F0 m 0 ls []) := by
  have hx := X.hx
  have hb := X.hb
  unfold f_Di_sumAll at hf
  refine lv_aload_n hx hb dX0_sumAll_0 rfl (lv_at hl 1 rfl) ?_
  refine lv_iconst (v := 0) hx hb dX0_sumAll_1 (by decide) ?_
  obtain ⟨r1, τ2, hc3, hf⟩ := e_b hf
  refine c_Sv X hH (n := 2) (As := [.ref (aG G 20), .int _]) (rest := []) (c_Jf_fill_20 l G (N := N) hc3) tw_80 tw_282 tw_79 tw_7 (by decide +kernel) ⟨by decide, by decide⟩ rfl hl.1 rfl (Nat.le_of_ble_eq_true rfl) ⟨Nat.zero_le _, Nat.zero_le _⟩ dX0_sumAll_2 (fun H locs hH => ?_)
  refine lv_iconst (v := 0) hx hb dX0_sumAll_5 (by decide) ?_
  refine lv_istore (lv' := [(4, .int 0), (0, .ref (aG G 6)), (1, .ref (aG G 20)), (2, .int v2), (3, .int v3)]) hx hb dX0_sumAll_6 hl (by decide) rfl (fun ls hl => ?_)
  exact b_Di_sumAll_6_20_8 (N := N) X _ _ _ _ _ _ _ _ hH (lv_sub hl [1, 2, 3, 4, 0] rfl) hf
theorem c_Di_sumAll_6_20 (l : Launch) (G : GT) {N : Nat} {τ υ : Hp} {v2 v3 : Int32} {r : Int32} (hf : f_Di_sumAll N 6 20 τ v2 v3 = some (r, υ)) : MV l G yX0_sumAll cX0_sumAll 5 1 23 [.ref (aG G 6), .ref (aG G 20), .int v2, .int v3] τ υ := mk_V (by decide) (Nat.le_of_ble_eq_true rfl) (fun p e s m args below meth c X hH ls hl => b_Di_sumAll_6_20_0 (N := N) X hH (lv_sub hl [0, 1, 2, 3] rfl) hf)
set_option maxHeartbeats 4000000 in
set_option maxRecDepth 100000 in
theorem b_Nd_take_18_1_5_6_17b {l : Launch} {G : GT} {N : Nat} {p : Program} {e : Env} {s : State} {m : MethodId} {args : Array Value} {below : List Frame} {meth : Method} {c : Code} (X : Cx G p s m args meth c cX3_take 6 RX3 none) {r : Int32} {υ : Hp} {k17 : Hp → Int32 → OR} (hk17 : ∀ (τ : Hp) (v5 : Int32) (H : Heap) (locs : List Loc) (ls : Array Slot), Hs G τ s H locs → lv_has ls 6 [(0, .ref (aG G 18)), (1, .ref (aG G 1)), (2, .ref (aG G 5)), (5, .int v5)] → k17 τ v5 = some (r, υ) → WV l G (rmG 3 70) p e s m args below meth c υ H locs (F0 m 17 ls [])) {τ : Hp} {v5 : Int32} {H : Heap} {locs : List Loc} {ls : Array Slot} (hH : Hs G τ s H locs) (hl : lv_has ls 6 [(0, .ref (aG G 18)), (1, .ref (aG G 1)), (2, .ref (aG G 5)), (5, .int v5)]) (hf : f_Nd_take_L17b N 18 1 5 6 k17 τ v5 = some (r, υ)) : WV l G (rmG 3 70) p e s m args below meth c υ H locs (F0 m 17 ls []) := by
  have hx := X.hx
  have hb := X.hb
  unfold f_Nd_take_L17b at hf
  refine lv_iload hx hb dX3_take_17 (lv_at hl 3 rfl) ?_
  refine lv_bipush (v := 64) hx hb dX3_take_19 (by decide) ?_
  refine lv_icmp_ge (tgt := 48) hx hb dX3_take_21 (by decide) (fun c1 => ?_) (fun c1 => ?_)
  · have hf := e_t c1 hf
    exact r_v X hH hf dX3_take_48
  · have hf := e_f c1 hf
    refine lv_aload_n hx hb dX3_take_24 rfl (lv_at hl 0 rfl) ?_
    refine g_get X hH (fa_18_0 G) tw_96 dX3_take_25 ?_
    refine lv_iload hx hb dX3_take_28 (lv_at hl 3 rfl) ?_
    refine lv_aload_n hx hb dX3_take_30 rfl (lv_at hl 0 rfl) ?_
    refine lv_iload hx hb dX3_take_31 (lv_at hl 3 rfl) ?_
    refine lv_aload_n hx hb dX3_take_33 rfl (lv_at hl 1 rfl) ?_
    refine lv_aload_n hx hb dX3_take_34 rfl (lv_at hl 2 rfl) ?_
    refine g_getN X hH (fa_5_1 G) 10 rfl dX3_take_35 ?_
    obtain ⟨r2, τ3, hc4, hf⟩ := e_b hf
    refine c_Vi X hH (k := 18) (n := 3) (As := [.int _, .ref (aG G 1), .int _]) (rest := [.int _, .ref (aG G 19)]) (c_Nd_doorsOf_18_1 l G (N := N) hc4) (by decide) rfl rfl tw_285 tw_283 tw_284 tw_755 tw_8 (by decide +kernel) ⟨by decide, by decide⟩ rfl hl.1 rfl (Nat.le_of_ble_eq_true rfl) ⟨Nat.zero_le _, Nat.zero_le _⟩ dX3_take_38 (fun H locs hH => ?_)
    obtain ⟨g5, hf⟩ := e_g hf
    obtain ⟨τ6, eτ6, hf⟩ := e_l hf
    refine a_st X hH (aa_19 G) g5 dX3_take_41 (fun H locs hH => ?_)
    have hH : Hs G τ6 s H locs := by rw [eτ6]; exact hH
    obtain ⟨x7, ex7, hf⟩ := e_l hf
    refine lv_iinc (v := x7) (lv' := [(5, .int x7), (0, .ref (aG G 18)), (1, .ref (aG G 1)), (2, .ref (aG G 5))]) hx hb dX3_take_42 hl (k := 3) rfl (by rw [ex7]; rfl) (by decide) rfl (fun ls hl => ?_)
    refine lv_goto (tgt := 17) hx hb dX3_take_45 (by decide) ?_
    exact hk17 _ _ _ _ _ hH (lv_sub hl [1, 2, 3, 0] rfl) hf
theorem b_Nd_take_18_1_5_6_17 {l : Launch} {G : GT} {N : Nat} {p : Program} {e : Env} {s : State} {m : MethodId} {args : Array Value} {below : List Frame} {meth : Method} {c : Code} (X : Cx G p s m args meth c cX3_take 6 RX3 none) {r : Int32} {υ : Hp} : ∀ (n : Nat) (τ : Hp) (v5 : Int32) (H : Heap) (locs : List Loc) (ls : Array Slot), Hs G τ s H locs → lv_has ls 6 [(0, .ref (aG G 18)), (1, .ref (aG G 1)), (2, .ref (aG G 5)), (5, .int v5)] → f_Nd_take_L17 N 18 1 5 6 n τ v5 = some (r, υ) → WV l G (rmG 3 70) p e s m args below meth c υ H locs (F0 m 17 ls []) := by
  intro n
  induction n with
  | zero => intro τ v5 H locs ls hH hl hf; exact nomatch (show (none : OR) = some (r, υ) from hf)
  | succ n ih => intro τ v5 H locs ls hH hl hf; exact b_Nd_take_18_1_5_6_17b (N := N) X ih hH hl hf
set_option maxHeartbeats 4000000 in
set_option maxRecDepth 100000 in
theorem b_Nd_take_18_1_5_6_0 {l : Launch} {G : GT} {N : Nat} {p : Program} {e : Env} {s : State} {m : MethodId} {args : Array Value} {below : List Frame} {meth : Method} {c : Code} (X : Cx G p s m args meth c cX3_take 6 RX3 none) {r : Int32} {υ : Hp} {τ : Hp} {v4 : Int32} {H : Heap} {locs : List Loc} {ls : Array Slot} (hH : Hs G τ s H locs) (hl : lv_has ls 6 [(0, .ref (aG G 18)), (1, .ref (aG G 1)), (2, .ref (aG G 5)), (3, .ref (aG G 6)), (4, .int v4)]) (hf : f_Nd_take N 18 1 5 6 τ v4 = some (r, υ)) : WV l G (rmG 3 70) p e s m args below meth c υ H locs (F0 m 0 ls []) := by
  have hx := X.hx
  have hb := X.hb
  unfold f_Nd_take at hf
  refine lv_aload_n hx hb dX3_take_0 rfl (lv_at hl 3 rfl) ?_
  refine lv_aload_n hx hb dX3_take_1 rfl (lv_at hl 0 rfl) ?_
  refine g_get X hH (fa_18_1 G) tw_97 dX3_take_2 ?_
  refine lv_iload hx hb dX3_take_5 (lv_at hl 4 rfl) ?_
  refine lv_aload_n hx hb dX3_take_7 rfl (lv_at hl 2 rfl) ?_
  refine g_getN X hH (fa_5_0 G) 8 rfl dX3_take_8 ?_
  obtain ⟨r1, τ2, hc3, hf⟩ := e_b hf
  refine c_Vv X hH (k := 6) (n := 3) (As := [.ref (aG G 20), .int _, .int _]) (rest := []) (c_Di_sumAll_6_20 l G (N := N) hc3) (by decide) rfl rfl tw_281 tw_278 tw_279 tw_280 tw_4 (by decide +kernel) ⟨by decide, by decide⟩ rfl hl.1 rfl (Nat.le_of_ble_eq_true rfl) ⟨Nat.zero_le _, Nat.zero_le _⟩ dX3_take_11 (fun H locs hH => ?_)
  refine lv_iconst (v := 0) hx hb dX3_take_14 (by decide) ?_
  refine lv_istore (lv' := [(5, .int 0), (0, .ref (aG G 18)), (1, .ref (aG G 1)), (2, .ref (aG G 5)), (3, .ref (aG G 6)), (4, .int v4)]) hx hb dX3_take_15 hl (by decide) rfl (fun ls hl => ?_)
  exact b_Nd_take_18_1_5_6_17 (N := N) X _ _ _ _ _ _ hH (lv_sub hl [1, 2, 3, 0] rfl) hf
theorem c_Nd_take_18_1_5_6 (l : Launch) (G : GT) {N : Nat} {τ υ : Hp} {v4 : Int32} {r : Int32} (hf : f_Nd_take N 18 1 5 6 τ v4 = some (r, υ)) : MV l G yX3_take cX3_take 6 3 70 [.ref (aG G 18), .ref (aG G 1), .ref (aG G 5), .ref (aG G 6), .int v4] τ υ := mk_V (by decide) (Nat.le_of_ble_eq_true rfl) (fun p e s m args below meth c X hH ls hl => b_Nd_take_18_1_5_6_0 (N := N) X hH (lv_sub hl [0, 1, 2, 3, 4] rfl) hf)
set_option maxHeartbeats 4000000 in
set_option maxRecDepth 100000 in
theorem b_Jb_bitCount_0 {l : Launch} {G : GT} {N : Nat} {p : Program} {e : Env} {s : State} {m : MethodId} {args : Array Value} {below : List Frame} {meth : Method} {c : Code} (X : Cx G p s m args meth c cJ6_bitCount_0f7a4 1 RJ6 (some .int)) {r : Int32} {υ : Hp} {τ : Hp} {v0 : Int32} {H : Heap} {locs : List Loc} {ls : Array Slot} (hH : Hs G τ s H locs) (hl : lv_has ls 1 [(0, .int v0)]) (hf : f_Jb_bitCount N τ v0 = some (r, υ)) : WI l G (rmG 0 0) p e s m args below meth c r υ H locs (F0 m 0 ls []) := by
  have hx := X.hx
  have hb := X.hb
  unfold f_Jb_bitCount at hf
  refine lv_iload_n hx hb dJ6_bitCount_0f7a4_0 rfl (lv_at hl 0 rfl) ?_
  refine lv_iload_n hx hb dJ6_bitCount_0f7a4_1 rfl (lv_at hl 0 rfl) ?_
  refine lv_iconst (v := 1) hx hb dJ6_bitCount_0f7a4_2 (by decide) ?_
  refine lv_iushr hx hb dJ6_bitCount_0f7a4_3 rfl ?_
  refine lv_ldcw X.hx X.hb X.hown (X.hts _ tw_298) dJ6_bitCount_0f7a4_4 ?_
  refine lv_iand hx hb dJ6_bitCount_0f7a4_7 ?_
  refine lv_isub hx hb dJ6_bitCount_0f7a4_8 ?_
  obtain ⟨x1, ex1, hf⟩ := e_l hf
  refine g_nm ex1 ?_
  refine lv_istore_n (lv' := [(0, .int x1)]) hx hb dJ6_bitCount_0f7a4_9 rfl hl (by decide) rfl (fun ls hl => ?_)
  refine lv_iload_n hx hb dJ6_bitCount_0f7a4_10 rfl (lv_at hl 0 rfl) ?_
  refine lv_ldcw X.hx X.hb X.hown (X.hts _ tw_299) dJ6_bitCount_0f7a4_11 ?_
  refine lv_iand hx hb dJ6_bitCount_0f7a4_14 ?_
  refine lv_iload_n hx hb dJ6_bitCount_0f7a4_15 rfl (lv_at hl 0 rfl) ?_
  refine lv_iconst (v := 2) hx hb dJ6_bitCount_0f7a4_16 (by decide) ?_
  refine lv_iushr hx hb dJ6_bitCount_0f7a4_17 rfl ?_
  refine lv_ldcw X.hx X.hb X.hown (X.hts _ tw_299) dJ6_bitCount_0f7a4_18 ?_
  refine lv_iand hx hb dJ6_bitCount_0f7a4_21 ?_
  refine lv_iadd hx hb dJ6_bitCount_0f7a4_22 ?_
  obtain ⟨x2, ex2, hf⟩ := e_l hf
  refine g_nm ex2 ?_
  refine lv_istore_n (lv' := [(0, .int x2)]) hx hb dJ6_bitCount_0f7a4_23 rfl hl (by decide) rfl (fun ls hl => ?_)
  refine lv_iload_n hx hb dJ6_bitCount_0f7a4_24 rfl (lv_at hl 0 rfl) ?_
  refine lv_iload_n hx hb dJ6_bitCount_0f7a4_25 rfl (lv_at hl 0 rfl) ?_
  refine lv_iconst (v := 4) hx hb dJ6_bitCount_0f7a4_26 (by decide) ?_
  refine lv_iushr hx hb dJ6_bitCount_0f7a4_27 rfl ?_
  refine lv_iadd hx hb dJ6_bitCount_0f7a4_28 ?_
  refine lv_ldcw X.hx X.hb X.hown (X.hts _ tw_300) dJ6_bitCount_0f7a4_29 ?_
  refine lv_iand hx hb dJ6_bitCount_0f7a4_32 ?_
  obtain ⟨x3, ex3, hf⟩ := e_l hf
  refine g_nm ex3 ?_
  refine lv_istore_n (lv' := [(0, .int x3)]) hx hb dJ6_bitCount_0f7a4_33 rfl hl (by decide) rfl (fun ls hl => ?_)
  refine lv_iload_n hx hb dJ6_bitCount_0f7a4_34 rfl (lv_at hl 0 rfl) ?_
  refine lv_iload_n hx hb dJ6_bitCount_0f7a4_35 rfl (lv_at hl 0 rfl) ?_
  refine lv_bipush (v := 8) hx hb dJ6_bitCount_0f7a4_36 (by decide) ?_
  refine lv_iushr hx hb dJ6_bitCount_0f7a4_38 rfl ?_
  refine lv_iadd hx hb dJ6_bitCount_0f7a4_39 ?_
  obtain ⟨x4, ex4, hf⟩ := e_l hf
  refine g_nm ex4 ?_
  refine lv_istore_n (lv' := [(0, .int x4)]) hx hb dJ6_bitCount_0f7a4_40 rfl hl (by decide) rfl (fun ls hl => ?_)
  refine lv_iload_n hx hb dJ6_bitCount_0f7a4_41 rfl (lv_at hl 0 rfl) ?_
  refine lv_iload_n hx hb dJ6_bitCount_0f7a4_42 rfl (lv_at hl 0 rfl) ?_
  refine lv_bipush (v := 16) hx hb dJ6_bitCount_0f7a4_43 (by decide) ?_
  refine lv_iushr hx hb dJ6_bitCount_0f7a4_45 rfl ?_
  refine lv_iadd hx hb dJ6_bitCount_0f7a4_46 ?_
  obtain ⟨x5, ex5, hf⟩ := e_l hf
  refine g_nm ex5 ?_
  refine lv_istore_n (lv' := [(0, .int x5)]) hx hb dJ6_bitCount_0f7a4_47 rfl hl (by decide) rfl (fun ls hl => ?_)
  refine lv_iload_n hx hb dJ6_bitCount_0f7a4_48 rfl (lv_at hl 0 rfl) ?_
  refine lv_bipush (v := 63) hx hb dJ6_bitCount_0f7a4_49 (by decide) ?_
  refine lv_iand hx hb dJ6_bitCount_0f7a4_51 ?_
  exact r_i X hH hf dJ6_bitCount_0f7a4_52
theorem c_Jb_bitCount (l : Launch) (G : GT) {N : Nat} {τ υ : Hp} {v0 : Int32} {r : Int32} (hf : f_Jb_bitCount N τ v0 = some (r, υ)) : MI l G yJ6_bitCount_0f7a4 cJ6_bitCount_0f7a4 1 (some .int) 0 0 [.int v0] τ r υ := mk_I (by decide) (Nat.le_of_ble_eq_true rfl) (fun p e s m args below meth c X hH ls hl => b_Jb_bitCount_0 (N := N) X hH (lv_sub hl [0] rfl) hf)
set_option maxHeartbeats 4000000 in
set_option maxRecDepth 100000 in
theorem b_Ly_countStraysFrom_22_19_4_56 {l : Launch} {G : GT} {N : Nat} {p : Program} {e : Env} {s : State} {m : MethodId} {args : Array Value} {below : List Frame} {meth : Method} {c : Code} (X : Cx G p s m args meth c cX2_countStraysFrom 9 RX2 none) {r : Int32} {υ : Hp} {k11 : Hp → Int32 → Int32 → Int32 → Int32 → OR} (hk11 : ∀ (τ : Hp) (v1 v4 v5 v6 : Int32) (H : Heap) (locs : List Loc) (ls : Array Slot), Hs G τ s H locs → lv_has ls 9 [(0, .ref (aG G 22)), (1, .int v1), (2, .ref (aG G 19)), (3, .ref (aG G 4)), (4, .int v4), (5, .int v5), (6, .int v6)] → k11 τ v1 v4 v5 v6 = some (r, υ) → WV l G (rmG 1 21) p e s m args below meth c υ H locs (F0 m 11 ls [])) {τ : Hp} {v1 v4 v5 v6 w0 : Int32} {H : Heap} {locs : List Loc} {ls : Array Slot} (hH : Hs G τ s H locs) (hl : lv_has ls 9 [(0, .ref (aG G 22)), (1, .int v1), (2, .ref (aG G 19)), (3, .ref (aG G 4)), (4, .int v4), (5, .int v5), (6, .int v6)]) (hf : f_Ly_countStraysFrom_J56 N 22 19 4 k11 τ v1 v4 v5 v6 w0 = some (r, υ)) : WV l G (rmG 1 21) p e s m args below meth c υ H locs (F0 m 56 ls [.int w0]) := by
  have hx := X.hx
  have hb := X.hb
  unfold f_Ly_countStraysFrom_J56 at hf
  refine lv_istore (lv' := [(7, .int w0), (0, .ref (aG G 22)), (1, .int v1), (2, .ref (aG G 19)), (3, .ref (aG G 4)), (4, .int v4), (5, .int v5), (6, .int v6)]) hx hb dX2_countStraysFrom_56 hl (by decide) rfl (fun ls hl => ?_)
  refine lv_iload hx hb dX2_countStraysFrom_58 (lv_at hl 0 rfl) ?_
  refine lv_if_eq (tgt := 118) hx hb dX2_countStraysFrom_60 (by decide) (fun c1 => ?_) (fun c1 => ?_)
  · have hf := e_t c1 hf
    obtain ⟨x2, ex2, hf⟩ := e_l hf
    refine lv_iinc (v := x2) (lv' := [(6, .int x2), (7, .int w0), (0, .ref (aG G 22)), (1, .int v1), (2, .ref (aG G 19)), (3, .ref (aG G 4)), (4, .int v4), (5, .int v5)]) hx hb dX2_countStraysFrom_118 hl (k := 7) rfl (by rw [ex2]; rfl) (by decide) rfl (fun ls hl => ?_)
    refine lv_goto (tgt := 11) hx hb dX2_countStraysFrom_121 (by decide) ?_
    exact hk11 _ _ _ _ _ _ _ _ hH (lv_sub hl [2, 3, 4, 5, 6, 7, 0] rfl) hf
  · have hf := e_f c1 hf
    refine lv_iload_n hx hb dX2_countStraysFrom_63 rfl (lv_at hl 2 rfl) ?_
    refine lv_iload hx hb dX2_countStraysFrom_64 (lv_at hl 7 rfl) ?_
    obtain ⟨r3, τ4, hc5, hf⟩ := e_b hf
    refine c_SNi X hH (n := 2) (As := [.int _, .int _]) (rest := []) (c_WP_pairOf l G (N := N) hc5) tw_223 13 rfl tw_222 tw_1 (by decide +kernel) ⟨by decide, by decide⟩ rfl hl.1 rfl (Nat.le_of_ble_eq_true rfl) ⟨Nat.zero_le _, Nat.zero_le _⟩ dX2_countStraysFrom_66 (fun H locs hH => ?_)
    refine lv_istore (lv' := [(8, .int r3), (7, .int w0), (0, .ref (aG G 22)), (1, .int v1), (2, .ref (aG G 19)), (3, .ref (aG G 4)), (4, .int v4), (5, .int v5), (6, .int v6)]) hx hb dX2_countStraysFrom_69 hl (by decide) rfl (fun ls hl => ?_)
    refine lv_aload_n hx hb dX2_countStraysFrom_71 rfl (lv_at hl 2 rfl) ?_
    refine lv_dup hx hb dX2_countStraysFrom_72 rfl ?_
    refine g_get X hH (fa_22_3 G) tw_84 dX2_countStraysFrom_73 ?_
    refine lv_iload hx hb dX2_countStraysFrom_76 (lv_at hl 1 rfl) ?_
    refine lv_aload_n hx hb dX2_countStraysFrom_78 rfl (lv_at hl 4 rfl) ?_
    refine lv_iload hx hb dX2_countStraysFrom_79 (lv_at hl 0 rfl) ?_
    obtain ⟨g6, hf⟩ := e_g hf
    refine a_ld X hH (aa_19 G) g6 dX2_countStraysFrom_81 ?_
    refine lv_iconst (v := (-1)) hx hb dX2_countStraysFrom_82 (by decide) ?_
    refine lv_ixor hx hb dX2_countStraysFrom_83 ?_
    refine lv_iand hx hb dX2_countStraysFrom_84 ?_
    obtain ⟨r7, τ8, hc9, hf⟩ := e_b hf
    refine c_Si X hH (n := 1) (As := [.int _]) (rest := [.int _, .ref (aG G 22)]) (c_Jb_bitCount l G (N := N) hc9) tw_297 tw_324 tw_296 tw_14 (by decide +kernel) ⟨by decide, by decide⟩ rfl hl.1 rfl (Nat.le_of_ble_eq_true rfl) ⟨Nat.zero_le _, Nat.zero_le _⟩ dX2_countStraysFrom_85 (fun H locs hH => ?_)
    refine lv_iadd hx hb dX2_countStraysFrom_88 ?_
    obtain ⟨τ10, eτ10, hf⟩ := e_l hf
    refine g_put X hH (fp_22_3 G) tw_84 rfl rfl dX2_countStraysFrom_89 (fun H locs hH => ?_)
    have hH : Hs G τ10 s H locs := by rw [eτ10]; exact hH
    refine lv_aload_n hx hb dX2_countStraysFrom_92 rfl (lv_at hl 2 rfl) ?_
    refine lv_aload_n hx hb dX2_countStraysFrom_93 rfl (lv_at hl 2 rfl) ?_
    refine g_get X hH (fa_22_4 G) tw_85 dX2_countStraysFrom_94 ?_
    refine lv_if_ne (tgt := 110) hx hb dX2_countStraysFrom_97 (by decide) (fun c11 => ?_) (fun c11 => ?_)
    · have hf := e_f c11 hf
      refine lv_iconst (v := 1) hx hb dX2_countStraysFrom_110 (by decide) ?_
      refine lv_goto (tgt := 115) hx hb dX2_countStraysFrom_111 (by decide) ?_
      obtain ⟨τ12, eτ12, hf⟩ := e_l hf
      refine g_put X hH (fp_22_4 G) tw_85 (isB_n rfl) (isB_f rfl) dX2_countStraysFrom_115 (fun H locs hH => ?_)
      have hH : Hs G τ12 s H locs := by rw [eτ12]; exact hH
      obtain ⟨x13, ex13, hf⟩ := e_l hf
      refine lv_iinc (v := x13) (lv' := [(6, .int x13), (8, .int r3), (7, .int w0), (0, .ref (aG G 22)), (1, .int v1), (2, .ref (aG G 19)), (3, .ref (aG G 4)), (4, .int v4), (5, .int v5)]) hx hb dX2_countStraysFrom_118 hl (k := 8) rfl (by rw [ex13]; rfl) (by decide) rfl (fun ls hl => ?_)
      refine lv_goto (tgt := 11) hx hb dX2_countStraysFrom_121 (by decide) ?_
      exact hk11 _ _ _ _ _ _ _ _ hH (lv_sub hl [3, 4, 5, 6, 7, 8, 0] rfl) hf
    · have hf := e_t c11 hf
      refine lv_iload hx hb dX2_countStraysFrom_100 (lv_at hl 1 rfl) ?_
      refine lv_aload_n hx hb dX2_countStraysFrom_102 rfl (lv_at hl 5 rfl) ?_
      refine lv_iload hx hb dX2_countStraysFrom_103 (lv_at hl 0 rfl) ?_
      obtain ⟨g14, hf⟩ := e_g hf
      refine a_ld X hH (aa_4 G) g14 dX2_countStraysFrom_105 ?_
      refine lv_iand hx hb dX2_countStraysFrom_106 ?_
      refine lv_if_eq (tgt := 114) hx hb dX2_countStraysFrom_107 (by decide) (fun c15 => ?_) (fun c15 => ?_)
      · have hf := e_t c15 hf
        refine lv_iconst (v := 0) hx hb dX2_countStraysFrom_114 (by decide) ?_
        obtain ⟨τ16, eτ16, hf⟩ := e_l hf
        refine g_put X hH (fp_22_4 G) tw_85 (isB_n rfl) (isB_f rfl) dX2_countStraysFrom_115 (fun H locs hH => ?_)
        have hH : Hs G τ16 s H locs := by rw [eτ16]; exact hH
        obtain ⟨x17, ex17, hf⟩ := e_l hf
        refine lv_iinc (v := x17) (lv' := [(6, .int x17), (8, .int r3), (7, .int w0), (0, .ref (aG G 22)), (1, .int v1), (2, .ref (aG G 19)), (3, .ref (aG G 4)), (4, .int v4), (5, .int v5)]) hx hb dX2_countStraysFrom_118 hl (k := 8) rfl (by rw [ex17]; rfl) (by decide) rfl (fun ls hl => ?_)
        refine lv_goto (tgt := 11) hx hb dX2_countStraysFrom_121 (by decide) ?_
        exact hk11 _ _ _ _ _ _ _ _ hH (lv_sub hl [3, 4, 5, 6, 7, 8, 0] rfl) hf
      · have hf := e_f c15 hf
        refine lv_iconst (v := 1) hx hb dX2_countStraysFrom_110 (by decide) ?_
        refine lv_goto (tgt := 115) hx hb dX2_countStraysFrom_111 (by decide) ?_
        obtain ⟨τ18, eτ18, hf⟩ := e_l hf
        refine g_put X hH (fp_22_4 G) tw_85 (isB_n rfl) (isB_f rfl) dX2_countStraysFrom_115 (fun H locs hH => ?_)
        have hH : Hs G τ18 s H locs := by rw [eτ18]; exact hH
        obtain ⟨x19, ex19, hf⟩ := e_l hf
        refine lv_iinc (v := x19) (lv' := [(6, .int x19), (8, .int r3), (7, .int w0), (0, .ref (aG G 22)), (1, .int v1), (2, .ref (aG G 19)), (3, .ref (aG G 4)), (4, .int v4), (5, .int v5)]) hx hb dX2_countStraysFrom_118 hl (k := 8) rfl (by rw [ex19]; rfl) (by decide) rfl (fun ls hl => ?_)
        refine lv_goto (tgt := 11) hx hb dX2_countStraysFrom_121 (by decide) ?_
        exact hk11 _ _ _ _ _ _ _ _ hH (lv_sub hl [3, 4, 5, 6, 7, 8, 0] rfl) hf
set_option maxHeartbeats 4000000 in
set_option maxRecDepth 100000 in
theorem b_Ly_countStraysFrom_22_19_4_35 {l : Launch} {G : GT} {N : Nat} {p : Program} {e : Env} {s : State} {m : MethodId} {args : Array Value} {below : List Frame} {meth : Method} {c : Code} (X : Cx G p s m args meth c cX2_countStraysFrom 9 RX2 none) {r : Int32} {υ : Hp} {k11 : Hp → Int32 → Int32 → Int32 → Int32 → OR} (hk11 : ∀ (τ : Hp) (v1 v4 v5 v6 : Int32) (H : Heap) (locs : List Loc) (ls : Array Slot), Hs G τ s H locs → lv_has ls 9 [(0, .ref (aG G 22)), (1, .int v1), (2, .ref (aG G 19)), (3, .ref (aG G 4)), (4, .int v4), (5, .int v5), (6, .int v6)] → k11 τ v1 v4 v5 v6 = some (r, υ) → WV l G (rmG 1 21) p e s m args below meth c υ H locs (F0 m 11 ls [])) {τ : Hp} {v1 v4 v5 v6 : Int32} {H : Heap} {locs : List Loc} {ls : Array Slot} (hH : Hs G τ s H locs) (hl : lv_has ls 9 [(0, .ref (aG G 22)), (1, .int v1), (2, .ref (aG G 19)), (3, .ref (aG G 4)), (4, .int v4), (5, .int v5), (6, .int v6)]) (hf : f_Ly_countStraysFrom_J35 N 22 19 4 k11 τ v1 v4 v5 v6 = some (r, υ)) : WV l G (rmG 1 21) p e s m args below meth c υ H locs (F0 m 35 ls []) := by
  have hx := X.hx
  have hb := X.hb
  unfold f_Ly_countStraysFrom_J35 at hf
  refine lv_iconst (v := 0) hx hb dX2_countStraysFrom_35 (by decide) ?_
  refine lv_goto (tgt := 56) hx hb dX2_countStraysFrom_36 (by decide) ?_
  exact b_Ly_countStraysFrom_22_19_4_56 (N := N) X hk11 hH (lv_sub hl [0, 1, 2, 3, 4, 5, 6] rfl) hf
set_option maxHeartbeats 4000000 in
set_option maxRecDepth 100000 in
theorem b_Ly_countStraysFrom_22_19_4_11b {l : Launch} {G : GT} {N : Nat} {p : Program} {e : Env} {s : State} {m : MethodId} {args : Array Value} {below : List Frame} {meth : Method} {c : Code} (X : Cx G p s m args meth c cX2_countStraysFrom 9 RX2 none) {r : Int32} {υ : Hp} {k11 : Hp → Int32 → Int32 → Int32 → Int32 → OR} (hk11 : ∀ (τ : Hp) (v1 v4 v5 v6 : Int32) (H : Heap) (locs : List Loc) (ls : Array Slot), Hs G τ s H locs → lv_has ls 9 [(0, .ref (aG G 22)), (1, .int v1), (2, .ref (aG G 19)), (3, .ref (aG G 4)), (4, .int v4), (5, .int v5), (6, .int v6)] → k11 τ v1 v4 v5 v6 = some (r, υ) → WV l G (rmG 1 21) p e s m args below meth c υ H locs (F0 m 11 ls [])) {τ : Hp} {v1 v4 v5 v6 : Int32} {H : Heap} {locs : List Loc} {ls : Array Slot} (hH : Hs G τ s H locs) (hl : lv_has ls 9 [(0, .ref (aG G 22)), (1, .int v1), (2, .ref (aG G 19)), (3, .ref (aG G 4)), (4, .int v4), (5, .int v5), (6, .int v6)]) (hf : f_Ly_countStraysFrom_L11b N 22 19 4 k11 τ v1 v4 v5 v6 = some (r, υ)) : WV l G (rmG 1 21) p e s m args below meth c υ H locs (F0 m 11 ls []) := by
  have hx := X.hx
  have hb := X.hb
  unfold f_Ly_countStraysFrom_L11b at hf
  refine lv_iload hx hb dX2_countStraysFrom_11 (lv_at hl 6 rfl) ?_
  refine lv_iload hx hb dX2_countStraysFrom_13 (lv_at hl 4 rfl) ?_
  refine lv_icmp_ge (tgt := 124) hx hb dX2_countStraysFrom_15 (by decide) (fun c1 => ?_) (fun c1 => ?_)
  · have hf := e_t c1 hf
    exact r_v X hH hf dX2_countStraysFrom_124
  · have hf := e_f c1 hf
    refine lv_aload_n hx hb dX2_countStraysFrom_18 rfl (lv_at hl 0 rfl) ?_
    refine g_get X hH (fa_22_0 G) tw_81 dX2_countStraysFrom_19 ?_
    refine lv_iload hx hb dX2_countStraysFrom_22 (lv_at hl 6 rfl) ?_
    obtain ⟨g2, hf⟩ := e_g hf
    refine a_ld X hH (aa_23 G) g2 dX2_countStraysFrom_24 ?_
    refine lv_iconst (v := (-1)) hx hb dX2_countStraysFrom_25 (by decide) ?_
    refine lv_icmp_eq (tgt := 35) hx hb dX2_countStraysFrom_26 (by decide) (fun c3 => ?_) (fun c3 => ?_)
    · have hf := e_t c3 hf
      exact b_Ly_countStraysFrom_22_19_4_35 (N := N) X hk11 hH (lv_sub hl [0, 1, 2, 3, 4, 5, 6] rfl) hf
    · have hf := e_f c3 hf
      refine lv_iload hx hb dX2_countStraysFrom_29 (lv_at hl 6 rfl) ?_
      refine lv_iload_n hx hb dX2_countStraysFrom_31 rfl (lv_at hl 1 rfl) ?_
      refine lv_icmp_ne (tgt := 39) hx hb dX2_countStraysFrom_32 (by decide) (fun c4 => ?_) (fun c4 => ?_)
      · have hf := e_f c4 hf
        refine lv_aload_n hx hb dX2_countStraysFrom_39 rfl (lv_at hl 0 rfl) ?_
        refine g_get X hH (fa_22_1 G) tw_82 dX2_countStraysFrom_40 ?_
        refine lv_iload hx hb dX2_countStraysFrom_43 (lv_at hl 5 rfl) ?_
        refine lv_aload_n hx hb dX2_countStraysFrom_45 rfl (lv_at hl 0 rfl) ?_
        refine g_get X hH (fa_22_0 G) tw_81 dX2_countStraysFrom_46 ?_
        refine lv_iload hx hb dX2_countStraysFrom_49 (lv_at hl 6 rfl) ?_
        obtain ⟨g5, hf⟩ := e_g hf
        refine a_ld X hH (aa_23 G) g5 dX2_countStraysFrom_51 ?_
        obtain ⟨r6, τ7, hc8, hf⟩ := e_b hf
        refine c_SNi X hH (n := 2) (As := [.int _, .int _]) (rest := [.ref (aG G 24)]) (c_WP_pairOf l G (N := N) hc8) tw_223 13 rfl tw_222 tw_1 (by decide +kernel) ⟨by decide, by decide⟩ rfl hl.1 rfl (Nat.le_of_ble_eq_true rfl) ⟨Nat.zero_le _, Nat.zero_le _⟩ dX2_countStraysFrom_52 (fun H locs hH => ?_)
        obtain ⟨g9, hf⟩ := e_g hf
        refine a_ld X hH (aa_24 G) g9 dX2_countStraysFrom_55 ?_
        exact b_Ly_countStraysFrom_22_19_4_56 (N := N) X hk11 hH (lv_sub hl [0, 1, 2, 3, 4, 5, 6] rfl) hf
      · have hf := e_t c4 hf
        exact b_Ly_countStraysFrom_22_19_4_35 (N := N) X hk11 hH (lv_sub hl [0, 1, 2, 3, 4, 5, 6] rfl) hf
theorem b_Ly_countStraysFrom_22_19_4_11 {l : Launch} {G : GT} {N : Nat} {p : Program} {e : Env} {s : State} {m : MethodId} {args : Array Value} {below : List Frame} {meth : Method} {c : Code} (X : Cx G p s m args meth c cX2_countStraysFrom 9 RX2 none) {r : Int32} {υ : Hp} : ∀ (n : Nat) (τ : Hp) (v1 v4 v5 v6 : Int32) (H : Heap) (locs : List Loc) (ls : Array Slot), Hs G τ s H locs → lv_has ls 9 [(0, .ref (aG G 22)), (1, .int v1), (2, .ref (aG G 19)), (3, .ref (aG G 4)), (4, .int v4), (5, .int v5), (6, .int v6)] → f_Ly_countStraysFrom_L11 N 22 19 4 n τ v1 v4 v5 v6 = some (r, υ) → WV l G (rmG 1 21) p e s m args below meth c υ H locs (F0 m 11 ls []) := by
  intro n
  induction n with
  | zero => intro τ v1 v4 v5 v6 H locs ls hH hl hf; exact nomatch (show (none : OR) = some (r, υ) from hf)
  | succ n ih => intro τ v1 v4 v5 v6 H locs ls hH hl hf; exact b_Ly_countStraysFrom_22_19_4_11b (N := N) X ih hH hl hf
set_option maxHeartbeats 4000000 in
set_option maxRecDepth 100000 in
theorem b_Ly_countStraysFrom_22_19_4_0 {l : Launch} {G : GT} {N : Nat} {p : Program} {e : Env} {s : State} {m : MethodId} {args : Array Value} {below : List Frame} {meth : Method} {c : Code} (X : Cx G p s m args meth c cX2_countStraysFrom 9 RX2 none) {r : Int32} {υ : Hp} {τ : Hp} {v1 v4 : Int32} {H : Heap} {locs : List Loc} {ls : Array Slot} (hH : Hs G τ s H locs) (hl : lv_has ls 9 [(0, .ref (aG G 22)), (1, .int v1), (2, .ref (aG G 19)), (3, .ref (aG G 4)), (4, .int v4)]) (hf : f_Ly_countStraysFrom N 22 19 4 τ v1 v4 = some (r, υ)) : WV l G (rmG 1 21) p e s m args below meth c υ H locs (F0 m 0 ls []) := by
  have hx := X.hx
  have hb := X.hb
  unfold f_Ly_countStraysFrom at hf
  refine lv_aload_n hx hb dX2_countStraysFrom_0 rfl (lv_at hl 0 rfl) ?_
  refine g_get X hH (fa_22_0 G) tw_81 dX2_countStraysFrom_1 ?_
  refine lv_iload_n hx hb dX2_countStraysFrom_4 rfl (lv_at hl 1 rfl) ?_
  obtain ⟨g1, hf⟩ := e_g hf
  refine a_ld X hH (aa_23 G) g1 dX2_countStraysFrom_5 ?_
  obtain ⟨x2, ex2, hf⟩ := e_l hf
  refine g_nm ex2 ?_
  refine lv_istore (lv' := [(5, .int x2), (0, .ref (aG G 22)), (1, .int v1), (2, .ref (aG G 19)), (3, .ref (aG G 4)), (4, .int v4)]) hx hb dX2_countStraysFrom_6 hl (by decide) rfl (fun ls hl => ?_)
  refine lv_iconst (v := 0) hx hb dX2_countStraysFrom_8 (by decide) ?_
  refine lv_istore (lv' := [(6, .int 0), (5, .int x2), (0, .ref (aG G 22)), (1, .int v1), (2, .ref (aG G 19)), (3, .ref (aG G 4)), (4, .int v4)]) hx hb dX2_countStraysFrom_9 hl (by decide) rfl (fun ls hl => ?_)
  exact b_Ly_countStraysFrom_22_19_4_11 (N := N) X _ _ _ _ _ _ _ _ _ hH (lv_sub hl [2, 3, 4, 5, 6, 1, 0] rfl) hf
theorem c_Ly_countStraysFrom_22_19_4 (l : Launch) (G : GT) {N : Nat} {τ υ : Hp} {v1 v4 : Int32} {r : Int32} (hf : f_Ly_countStraysFrom N 22 19 4 τ v1 v4 = some (r, υ)) : MV l G yX2_countStraysFrom cX2_countStraysFrom 9 1 21 [.ref (aG G 22), .int v1, .ref (aG G 19), .ref (aG G 4), .int v4] τ υ := mk_V (by decide) (Nat.le_of_ble_eq_true rfl) (fun p e s m args below meth c X hH ls hl => b_Ly_countStraysFrom_22_19_4_0 (N := N) X hH (lv_sub hl [0, 1, 2, 3, 4] rfl) hf)
