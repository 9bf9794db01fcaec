-- WP_isBetween Nt_addHost_1 WP_host_0 Mo_host_42 Nt_isHost_1 Nt_isWay_1 WP_isDay WP_pairOf WP_wayOf Di_write_6 WP_talk_0 Mo_isHost_42 Mo_way_42 Mo_isDay Mo_talk_42 WP_hasDoor WP_turnDoor_3_4 WP_must_0 Mo_must_42 WP_turnDoor_4_3 WP_bar_0 Mo_bar_42 WP_law_0 Mo_law_42
set_option maxHeartbeats 4000000 in
set_option maxRecDepth 100000 in
theorem b_WP_isBetween_0 {l : Launch} {G : GT} {N : Nat} {p : Program} {e : Env} {s : State} {m : MethodId} {args : Array Value} {below : List Frame} {meth : Method} {c : Code} (X : Cx G p s m args meth c cX10_isBetween 3 RX10 (some .boolean)) {r : Int32} {υ : Hp} {τ : Hp} {v0 v1 v2 : Int32} {H : Heap} {locs : List Loc} {ls : Array Slot} (hH : Hs G τ s H locs) (hl : lv_has ls 3 [(0, .int v0), (1, .int v1), (2, .int v2)]) (hf : f_WP_isBetween N τ v0 v1 v2 = some (r, υ)) : WI l G (rmG 0 0) p e s m args below meth c r υ H locs (F0 m 0 ls []) := by
  have hx := X.hx
  have hb := X.hb
  unfold f_WP_isBetween at hf
  refine lv_iload_n hx hb dX10_isBetween_0 rfl (lv_at hl 0 rfl) ?_
  refine lv_iload_n hx hb dX10_isBetween_1 rfl (lv_at hl 1 rfl) ?_
  refine lv_icmp_lt (tgt := 14) hx hb dX10_isBetween_2 (by decide) (fun c1 => ?_) (fun c1 => ?_)
  · have hf := e_t c1 hf
    refine lv_iconst (v := 0) hx hb dX10_isBetween_14 (by decide) ?_
    exact r_z X hH rfl hf dX10_isBetween_15
  · have hf := e_f c1 hf
    refine lv_iload_n hx hb dX10_isBetween_5 rfl (lv_at hl 0 rfl) ?_
    refine lv_iload_n hx hb dX10_isBetween_6 rfl (lv_at hl 2 rfl) ?_
    refine lv_icmp_gt (tgt := 14) hx hb dX10_isBetween_7 (by decide) (fun c2 => ?_) (fun c2 => ?_)
    · have hf := e_t c2 hf
      refine lv_iconst (v := 0) hx hb dX10_isBetween_14 (by decide) ?_
      exact r_z X hH rfl hf dX10_isBetween_15
    · have hf := e_f c2 hf
      refine lv_iconst (v := 1) hx hb dX10_isBetween_10 (by decide) ?_
      refine lv_goto (tgt := 15) hx hb dX10_isBetween_11 (by decide) ?_
      exact r_z X hH rfl hf dX10_isBetween_15
theorem c_WP_isBetween (l : Launch) (G : GT) {N : Nat} {τ υ : Hp} {v0 v1 v2 : Int32} {r : Int32} (hf : f_WP_isBetween N τ v0 v1 v2 = some (r, υ)) : MI l G yX10_isBetween cX10_isBetween 3 (some .boolean) 0 0 [.int v0, .int v1, .int v2] τ r υ := mk_I (by decide) (Nat.le_of_ble_eq_true rfl) (fun p e s m args below meth c X hH ls hl => b_WP_isBetween_0 (N := N) X hH (lv_sub hl [0, 1, 2] rfl) hf)
set_option maxHeartbeats 4000000 in
set_option maxRecDepth 100000 in
theorem b_Nt_addHost_1_0 {l : Launch} {G : GT} {N : Nat} {p : Program} {e : Env} {s : State} {m : MethodId} {args : Array Value} {below : List Frame} {meth : Method} {c : Code} (X : Cx G p s m args meth c cX4_addHost 2 RX4 (some .int)) {r : Int32} {υ : Hp} {τ : Hp} {v1 : Int32} {H : Heap} {locs : List Loc} {ls : Array Slot} (hH : Hs G τ s H locs) (hl : lv_has ls 2 [(0, .ref (aG G 1)), (1, .int v1)]) (hf : f_Nt_addHost N 1 τ v1 = some (r, υ)) : WI l G (rmG 0 0) p e s m args below meth c r υ H locs (F0 m 0 ls []) := by
  have hx := X.hx
  have hb := X.hb
  unfold f_Nt_addHost at hf
  refine lv_aload_n hx hb dX4_addHost_0 rfl (lv_at hl 0 rfl) ?_
  refine g_get X hH (fa_1_3 G) tw_33 dX4_addHost_1 ?_
  refine lv_bipush (v := 8) hx hb dX4_addHost_4 (by decide) ?_
  refine lv_icmp_lt (tgt := 11) hx hb dX4_addHost_6 (by decide) (fun c1 => ?_) (fun c1 => ?_)
  · have hf := e_t c1 hf
    refine lv_aload_n hx hb dX4_addHost_11 rfl (lv_at hl 0 rfl) ?_
    refine g_get X hH (fa_1_0 G) tw_30 dX4_addHost_12 ?_
    refine lv_aload_n hx hb dX4_addHost_15 rfl (lv_at hl 0 rfl) ?_
    refine g_get X hH (fa_1_3 G) tw_33 dX4_addHost_16 ?_
    refine lv_iload_n hx hb dX4_addHost_19 rfl (lv_at hl 1 rfl) ?_
    obtain ⟨g2, hf⟩ := e_g hf
    obtain ⟨τ3, eτ3, hf⟩ := e_l hf
    refine a_st X hH (aa_2 G) g2 dX4_addHost_20 (fun H locs hH => ?_)
    have hH : Hs G τ3 s H locs := by rw [eτ3]; exact hH
    refine lv_aload_n hx hb dX4_addHost_21 rfl (lv_at hl 0 rfl) ?_
    refine lv_dup hx hb dX4_addHost_22 rfl ?_
    refine g_get X hH (fa_1_3 G) tw_33 dX4_addHost_23 ?_
    refine lv_iconst (v := 1) hx hb dX4_addHost_26 (by decide) ?_
    refine lv_iadd hx hb dX4_addHost_27 ?_
    obtain ⟨τ4, eτ4, hf⟩ := e_l hf
    refine g_put X hH (fp_1_3 G) tw_33 rfl rfl dX4_addHost_28 (fun H locs hH => ?_)
    have hH : Hs G τ4 s H locs := by rw [eτ4]; exact hH
    refine lv_aload_n hx hb dX4_addHost_31 rfl (lv_at hl 0 rfl) ?_
    refine g_get X hH (fa_1_3 G) tw_33 dX4_addHost_32 ?_
    refine lv_iconst (v := 1) hx hb dX4_addHost_35 (by decide) ?_
    refine lv_isub hx hb dX4_addHost_36 ?_
    exact r_i X hH hf dX4_addHost_37
  · have hf := e_f c1 hf
    refine lv_iconst (v := (-1)) hx hb dX4_addHost_9 (by decide) ?_
    exact r_i X hH hf dX4_addHost_10
theorem c_Nt_addHost_1 (l : Launch) (G : GT) {N : Nat} {τ υ : Hp} {v1 : Int32} {r : Int32} (hf : f_Nt_addHost N 1 τ v1 = some (r, υ)) : MI l G yX4_addHost cX4_addHost 2 (some .int) 0 0 [.ref (aG G 1), .int v1] τ r υ := mk_I (by decide) (Nat.le_of_ble_eq_true rfl) (fun p e s m args below meth c X hH ls hl => b_Nt_addHost_1_0 (N := N) X hH (lv_sub hl [0, 1] rfl) hf)
set_option maxHeartbeats 4000000 in
set_option maxRecDepth 100000 in
theorem b_WP_host_0_0 {l : Launch} {G : GT} {N : Nat} {p : Program} {e : Env} {s : State} {m : MethodId} {args : Array Value} {below : List Frame} {meth : Method} {c : Code} (X : Cx G p s m args meth c cX10_host 2 RX10 (some .int)) {r : Int32} {υ : Hp} {τ : Hp} {v1 : Int32} {H : Heap} {locs : List Loc} {ls : Array Slot} (hH : Hs G τ s H locs) (hl : lv_has ls 2 [(0, .ref (aG G 0)), (1, .int v1)]) (hf : f_WP_host N 0 τ v1 = some (r, υ)) : WI l G (rmG 1 22) p e s m args below meth c r υ H locs (F0 m 0 ls []) := by
  have hx := X.hx
  have hb := X.hb
  unfold f_WP_host at hf
  refine lv_iload_n hx hb dX10_host_0 rfl (lv_at hl 1 rfl) ?_
  refine lv_iconst (v := 0) hx hb dX10_host_1 (by decide) ?_
  refine lv_iconst (v := 3) hx hb dX10_host_2 (by decide) ?_
  obtain ⟨r1, τ2, hc3, hf⟩ := e_b hf
  refine c_Si X hH (n := 3) (As := [.int _, .int _, .int _]) (rest := []) (c_WP_isBetween l G (N := N) hc3) tw_198 tw_196 tw_197 tw_1 (by decide +kernel) ⟨by decide, by decide⟩ rfl hl.1 rfl (Nat.le_of_ble_eq_true rfl) ⟨Nat.zero_le _, Nat.zero_le _⟩ dX10_host_3 (fun H locs hH => ?_)
  refine lv_if_ne (tgt := 11) hx hb dX10_host_6 (by decide) (fun c4 => ?_) (fun c4 => ?_)
  · have hf := e_f c4 hf
    refine lv_aload_n hx hb dX10_host_11 rfl (lv_at hl 0 rfl) ?_
    refine g_get X hH (fa_0_0 G) tw_174 dX10_host_12 ?_
    refine lv_iload_n hx hb dX10_host_15 rfl (lv_at hl 1 rfl) ?_
    obtain ⟨r5, τ6, hc7, hf⟩ := e_b hf
    refine c_Vi X hH (k := 1) (n := 1) (As := [.int _]) (rest := []) (c_Nt_addHost_1 l G (N := N) hc7) (by decide) rfl rfl tw_202 tw_199 tw_200 tw_201 tw_2 (by decide +kernel) ⟨by decide, by decide⟩ rfl hl.1 rfl (Nat.le_of_ble_eq_true rfl) ⟨Nat.zero_le _, Nat.zero_le _⟩ dX10_host_16 (fun H locs hH => ?_)
    exact r_i X hH hf dX10_host_19
  · have hf := e_t c4 hf
    refine lv_iconst (v := (-1)) hx hb dX10_host_9 (by decide) ?_
    exact r_i X hH hf dX10_host_10
theorem c_WP_host_0 (l : Launch) (G : GT) {N : Nat} {τ υ : Hp} {v1 : Int32} {r : Int32} (hf : f_WP_host N 0 τ v1 = some (r, υ)) : MI l G yX10_host cX10_host 2 (some .int) 1 22 [.ref (aG G 0), .int v1] τ r υ := mk_I (by decide) (Nat.le_of_ble_eq_true rfl) (fun p e s m args below meth c X hH ls hl => b_WP_host_0_0 (N := N) X hH (lv_sub hl [0, 1] rfl) hf)
set_option maxHeartbeats 4000000 in
set_option maxRecDepth 100000 in
theorem b_Mo_host_42_0 {l : Launch} {G : GT} {N : Nat} {p : Program} {e : Env} {s : State} {m : MethodId} {args : Array Value} {below : List Frame} {meth : Method} {c : Code} (X : Cx G p s m args meth c cX11_host 2 RX11 (some .int)) {r : Int32} {υ : Hp} {τ : Hp} {v1 : Int32} {H : Heap} {locs : List Loc} {ls : Array Slot} (hH : Hs G τ s H locs) (hl : lv_has ls 2 [(0, .ref (aG G 42)), (1, .int v1)]) (hf : f_Mo_host N 42 τ v1 = some (r, υ)) : WI l G (rmG 0 0) p e s m args below meth c r υ H locs (F0 m 0 ls []) := by
  have hx := X.hx
  have hb := X.hb
  unfold f_Mo_host at hf
  refine lv_aload_n hx hb dX11_host_0 rfl (lv_at hl 0 rfl) ?_
  refine lv_iconst (v := 0) hx hb dX11_host_1 (by decide) ?_
  obtain ⟨τ1, eτ1, hf⟩ := e_l hf
  refine g_put X hH (fp_42_0 G) tw_526 rfl rfl dX11_host_2 (fun H locs hH => ?_)
  have hH : Hs G τ1 s H locs := by rw [eτ1]; exact hH
  refine lv_iload_n hx hb dX11_host_5 rfl (lv_at hl 1 rfl) ?_
  refine lv_if_lt (tgt := 23) hx hb dX11_host_6 (by decide) (fun c2 => ?_) (fun c2 => ?_)
  · have hf := e_t c2 hf
    refine lv_iconst (v := (-1)) hx hb dX11_host_23 (by decide) ?_
    exact r_i X hH hf dX11_host_24
  · have hf := e_f c2 hf
    refine lv_iload_n hx hb dX11_host_9 rfl (lv_at hl 1 rfl) ?_
    refine lv_iconst (v := 3) hx hb dX11_host_10 (by decide) ?_
    refine lv_icmp_gt (tgt := 23) hx hb dX11_host_11 (by decide) (fun c3 => ?_) (fun c3 => ?_)
    · have hf := e_t c3 hf
      refine lv_iconst (v := (-1)) hx hb dX11_host_23 (by decide) ?_
      exact r_i X hH hf dX11_host_24
    · have hf := e_f c3 hf
      refine lv_aload_n hx hb dX11_host_14 rfl (lv_at hl 0 rfl) ?_
      refine g_get X hH (fa_42_1 G) tw_527 dX11_host_15 ?_
      refine lv_bipush (v := 8) hx hb dX11_host_18 (by decide) ?_
      refine lv_icmp_ne (tgt := 25) hx hb dX11_host_20 (by decide) (fun c4 => ?_) (fun c4 => ?_)
      · have hf := e_f c4 hf
        refine lv_aload_n hx hb dX11_host_25 rfl (lv_at hl 0 rfl) ?_
        refine g_get X hH (fa_42_2 G) tw_528 dX11_host_26 ?_
        refine lv_aload_n hx hb dX11_host_29 rfl (lv_at hl 0 rfl) ?_
        refine g_get X hH (fa_42_1 G) tw_527 dX11_host_30 ?_
        refine lv_iload_n hx hb dX11_host_33 rfl (lv_at hl 1 rfl) ?_
        obtain ⟨g5, hf⟩ := e_g hf
        obtain ⟨τ6, eτ6, hf⟩ := e_l hf
        refine a_st X hH (aa_43 G) g5 dX11_host_34 (fun H locs hH => ?_)
        have hH : Hs G τ6 s H locs := by rw [eτ6]; exact hH
        refine lv_aload_n hx hb dX11_host_35 rfl (lv_at hl 0 rfl) ?_
        refine lv_dup hx hb dX11_host_36 rfl ?_
        refine g_get X hH (fa_42_1 G) tw_527 dX11_host_37 ?_
        refine lv_iconst (v := 1) hx hb dX11_host_40 (by decide) ?_
        refine lv_iadd hx hb dX11_host_41 ?_
        obtain ⟨τ7, eτ7, hf⟩ := e_l hf
        refine g_put X hH (fp_42_1 G) tw_527 rfl rfl dX11_host_42 (fun H locs hH => ?_)
        have hH : Hs G τ7 s H locs := by rw [eτ7]; exact hH
        refine lv_aload_n hx hb dX11_host_45 rfl (lv_at hl 0 rfl) ?_
        refine g_get X hH (fa_42_1 G) tw_527 dX11_host_46 ?_
        refine lv_iconst (v := 1) hx hb dX11_host_49 (by decide) ?_
        refine lv_isub hx hb dX11_host_50 ?_
        exact r_i X hH hf dX11_host_51
      · have hf := e_t c4 hf
        refine lv_iconst (v := (-1)) hx hb dX11_host_23 (by decide) ?_
        exact r_i X hH hf dX11_host_24
theorem c_Mo_host_42 (l : Launch) (G : GT) {N : Nat} {τ υ : Hp} {v1 : Int32} {r : Int32} (hf : f_Mo_host N 42 τ v1 = some (r, υ)) : MI l G yX11_host cX11_host 2 (some .int) 0 0 [.ref (aG G 42), .int v1] τ r υ := mk_I (by decide) (Nat.le_of_ble_eq_true rfl) (fun p e s m args below meth c X hH ls hl => b_Mo_host_42_0 (N := N) X hH (lv_sub hl [0, 1] rfl) hf)
set_option maxHeartbeats 4000000 in
set_option maxRecDepth 100000 in
theorem b_Nt_isHost_1_0 {l : Launch} {G : GT} {N : Nat} {p : Program} {e : Env} {s : State} {m : MethodId} {args : Array Value} {below : List Frame} {meth : Method} {c : Code} (X : Cx G p s m args meth c cX4_isHost 2 RX4 (some .boolean)) {r : Int32} {υ : Hp} {τ : Hp} {v1 : Int32} {H : Heap} {locs : List Loc} {ls : Array Slot} (hH : Hs G τ s H locs) (hl : lv_has ls 2 [(0, .ref (aG G 1)), (1, .int v1)]) (hf : f_Nt_isHost N 1 τ v1 = some (r, υ)) : WI l G (rmG 1 22) p e s m args below meth c r υ H locs (F0 m 0 ls []) := by
  have hx := X.hx
  have hb := X.hb
  unfold f_Nt_isHost at hf
  refine lv_iload_n hx hb dX4_isHost_0 rfl (lv_at hl 1 rfl) ?_
  refine lv_iconst (v := 0) hx hb dX4_isHost_1 (by decide) ?_
  refine lv_aload_n hx hb dX4_isHost_2 rfl (lv_at hl 0 rfl) ?_
  refine g_get X hH (fa_1_3 G) tw_33 dX4_isHost_3 ?_
  refine lv_iconst (v := 1) hx hb dX4_isHost_6 (by decide) ?_
  refine lv_isub hx hb dX4_isHost_7 ?_
  obtain ⟨r1, τ2, hc3, hf⟩ := e_b hf
  refine c_SNi X hH (n := 3) (As := [.int _, .int _, .int _]) (rest := []) (c_WP_isBetween l G (N := N) hc3) tw_198 11 rfl tw_197 tw_1 (by decide +kernel) ⟨by decide, by decide⟩ rfl hl.1 rfl (Nat.le_of_ble_eq_true rfl) ⟨Nat.zero_le _, Nat.zero_le _⟩ dX4_isHost_8 (fun H locs hH => ?_)
  obtain ⟨g4, hf⟩ := e_g hf
  exact r_z X hH g4 hf dX4_isHost_11
theorem c_Nt_isHost_1 (l : Launch) (G : GT) {N : Nat} {τ υ : Hp} {v1 : Int32} {r : Int32} (hf : f_Nt_isHost N 1 τ v1 = some (r, υ)) : MI l G yX4_isHost cX4_isHost 2 (some .boolean) 1 22 [.ref (aG G 1), .int v1] τ r υ := mk_I (by decide) (Nat.le_of_ble_eq_true rfl) (fun p e s m args below meth c X hH ls hl => b_Nt_isHost_1_0 (N := N) X hH (lv_sub hl [0, 1] rfl) hf)
set_option maxHeartbeats 4000000 in
set_option maxRecDepth 100000 in
theorem b_Nt_isWay_1_0 {l : Launch} {G : GT} {N : Nat} {p : Program} {e : Env} {s : State} {m : MethodId} {args : Array Value} {below : List Frame} {meth : Method} {c : Code} (X : Cx G p s m args meth c cX4_isWay 4 RX4 (some .boolean)) {r : Int32} {υ : Hp} {τ : Hp} {v1 v2 v3 : Int32} {H : Heap} {locs : List Loc} {ls : Array Slot} (hH : Hs G τ s H locs) (hl : lv_has ls 4 [(0, .ref (aG G 1)), (1, .int v1), (2, .int v2), (3, .int v3)]) (hf : f_Nt_isWay N 1 τ v1 v2 v3 = some (r, υ)) : WI l G (rmG 2 43) p e s m args below meth c r υ H locs (F0 m 0 ls []) := by
  have hx := X.hx
  have hb := X.hb
  unfold f_Nt_isWay at hf
  refine lv_aload_n hx hb dX4_isWay_0 rfl (lv_at hl 0 rfl) ?_
  refine lv_iload_n hx hb dX4_isWay_1 rfl (lv_at hl 1 rfl) ?_
  obtain ⟨r1, τ2, hc3, hf⟩ := e_b hf
  refine c_Vi X hH (k := 1) (n := 1) (As := [.int _]) (rest := []) (c_Nt_isHost_1 l G (N := N) hc3) (by decide) rfl rfl tw_214 tw_211 tw_212 tw_213 tw_2 (by decide +kernel) ⟨by decide, by decide⟩ rfl hl.1 rfl (Nat.le_of_ble_eq_true rfl) ⟨Nat.zero_le _, Nat.zero_le _⟩ dX4_isWay_2 (fun H locs hH => ?_)
  refine lv_if_eq (tgt := 34) hx hb dX4_isWay_5 (by decide) (fun c4 => ?_) (fun c4 => ?_)
  · have hf := e_t c4 hf
    refine lv_iconst (v := 0) hx hb dX4_isWay_34 (by decide) ?_
    exact r_z X hH rfl hf dX4_isWay_35
  · have hf := e_f c4 hf
    refine lv_aload_n hx hb dX4_isWay_8 rfl (lv_at hl 0 rfl) ?_
    refine lv_iload_n hx hb dX4_isWay_9 rfl (lv_at hl 2 rfl) ?_
    obtain ⟨r5, τ6, hc7, hf⟩ := e_b hf
    refine c_Vi X hH (k := 1) (n := 1) (As := [.int _]) (rest := []) (c_Nt_isHost_1 l G (N := N) hc7) (by decide) rfl rfl tw_214 tw_211 tw_212 tw_213 tw_2 (by decide +kernel) ⟨by decide, by decide⟩ rfl hl.1 rfl (Nat.le_of_ble_eq_true rfl) ⟨Nat.zero_le _, Nat.zero_le _⟩ dX4_isWay_10 (fun H locs hH => ?_)
    refine lv_if_eq (tgt := 34) hx hb dX4_isWay_13 (by decide) (fun c8 => ?_) (fun c8 => ?_)
    · have hf := e_t c8 hf
      refine lv_iconst (v := 0) hx hb dX4_isWay_34 (by decide) ?_
      exact r_z X hH rfl hf dX4_isWay_35
    · have hf := e_f c8 hf
      refine lv_iload_n hx hb dX4_isWay_16 rfl (lv_at hl 1 rfl) ?_
      refine lv_iload_n hx hb dX4_isWay_17 rfl (lv_at hl 2 rfl) ?_
      refine lv_icmp_eq (tgt := 34) hx hb dX4_isWay_18 (by decide) (fun c9 => ?_) (fun c9 => ?_)
      · have hf := e_t c9 hf
        refine lv_iconst (v := 0) hx hb dX4_isWay_34 (by decide) ?_
        exact r_z X hH rfl hf dX4_isWay_35
      · have hf := e_f c9 hf
        refine lv_iload_n hx hb dX4_isWay_21 rfl (lv_at hl 3 rfl) ?_
        refine lv_iconst (v := 0) hx hb dX4_isWay_22 (by decide) ?_
        refine lv_iconst (v := 3) hx hb dX4_isWay_23 (by decide) ?_
        obtain ⟨r10, τ11, hc12, hf⟩ := e_b hf
        refine c_SNi X hH (n := 3) (As := [.int _, .int _, .int _]) (rest := []) (c_WP_isBetween l G (N := N) hc12) tw_198 11 rfl tw_197 tw_1 (by decide +kernel) ⟨by decide, by decide⟩ rfl hl.1 rfl (Nat.le_of_ble_eq_true rfl) ⟨Nat.zero_le _, Nat.zero_le _⟩ dX4_isWay_24 (fun H locs hH => ?_)
        refine lv_if_eq (tgt := 34) hx hb dX4_isWay_27 (by decide) (fun c13 => ?_) (fun c13 => ?_)
        · have hf := e_t c13 hf
          refine lv_iconst (v := 0) hx hb dX4_isWay_34 (by decide) ?_
          exact r_z X hH rfl hf dX4_isWay_35
        · have hf := e_f c13 hf
          refine lv_iconst (v := 1) hx hb dX4_isWay_30 (by decide) ?_
          refine lv_goto (tgt := 35) hx hb dX4_isWay_31 (by decide) ?_
          exact r_z X hH rfl hf dX4_isWay_35
theorem c_Nt_isWay_1 (l : Launch) (G : GT) {N : Nat} {τ υ : Hp} {v1 v2 v3 : Int32} {r : Int32} (hf : f_Nt_isWay N 1 τ v1 v2 v3 = some (r, υ)) : MI l G yX4_isWay cX4_isWay 4 (some .boolean) 2 43 [.ref (aG G 1), .int v1, .int v2, .int v3] τ r υ := mk_I (by decide) (Nat.le_of_ble_eq_true rfl) (fun p e s m args below meth c X hH ls hl => b_Nt_isWay_1_0 (N := N) X hH (lv_sub hl [0, 1, 2, 3] rfl) hf)
set_option maxHeartbeats 4000000 in
set_option maxRecDepth 100000 in
theorem b_WP_isDay_0 {l : Launch} {G : GT} {N : Nat} {p : Program} {e : Env} {s : State} {m : MethodId} {args : Array Value} {below : List Frame} {meth : Method} {c : Code} (X : Cx G p s m args meth c cX10_isDay 1 RX10 (some .boolean)) {r : Int32} {υ : Hp} {τ : Hp} {v0 : Int32} {H : Heap} {locs : List Loc} {ls : Array Slot} (hH : Hs G τ s H locs) (hl : lv_has ls 1 [(0, .int v0)]) (hf : f_WP_isDay N τ v0 = some (r, υ)) : WI l G (rmG 1 22) p e s m args below meth c r υ H locs (F0 m 0 ls []) := by
  have hx := X.hx
  have hb := X.hb
  unfold f_WP_isDay at hf
  refine lv_iload_n hx hb dX10_isDay_0 rfl (lv_at hl 0 rfl) ?_
  refine lv_iconst (v := 0) hx hb dX10_isDay_1 (by decide) ?_
  refine lv_bipush (v := 99) hx hb dX10_isDay_2 (by decide) ?_
  obtain ⟨r1, τ2, hc3, hf⟩ := e_b hf
  refine c_Si X hH (n := 3) (As := [.int _, .int _, .int _]) (rest := []) (c_WP_isBetween l G (N := N) hc3) tw_198 tw_196 tw_197 tw_1 (by decide +kernel) ⟨by decide, by decide⟩ rfl hl.1 rfl (Nat.le_of_ble_eq_true rfl) ⟨Nat.zero_le _, Nat.zero_le _⟩ dX10_isDay_4 (fun H locs hH => ?_)
  obtain ⟨g4, hf⟩ := e_g hf
  exact r_z X hH g4 hf dX10_isDay_7
theorem c_WP_isDay (l : Launch) (G : GT) {N : Nat} {τ υ : Hp} {v0 : Int32} {r : Int32} (hf : f_WP_isDay N τ v0 = some (r, υ)) : MI l G yX10_isDay cX10_isDay 1 (some .boolean) 1 22 [.int v0] τ r υ := mk_I (by decide) (Nat.le_of_ble_eq_true rfl) (fun p e s m args below meth c X hH ls hl => b_WP_isDay_0 (N := N) X hH (lv_sub hl [0] rfl) hf)
set_option maxHeartbeats 4000000 in
set_option maxRecDepth 100000 in
theorem b_WP_pairOf_0 {l : Launch} {G : GT} {N : Nat} {p : Program} {e : Env} {s : State} {m : MethodId} {args : Array Value} {below : List Frame} {meth : Method} {c : Code} (X : Cx G p s m args meth c cX10_pairOf 2 RX10 (some .int)) {r : Int32} {υ : Hp} {τ : Hp} {v0 v1 : Int32} {H : Heap} {locs : List Loc} {ls : Array Slot} (hH : Hs G τ s H locs) (hl : lv_has ls 2 [(0, .int v0), (1, .int v1)]) (hf : f_WP_pairOf N τ v0 v1 = some (r, υ)) : WI l G (rmG 0 0) p e s m args below meth c r υ H locs (F0 m 0 ls []) := by
  have hx := X.hx
  have hb := X.hb
  unfold f_WP_pairOf at hf
  refine lv_iload_n hx hb dX10_pairOf_0 rfl (lv_at hl 0 rfl) ?_
  refine lv_bipush (v := 8) hx hb dX10_pairOf_1 (by decide) ?_
  refine lv_imul hx hb dX10_pairOf_3 ?_
  refine lv_iload_n hx hb dX10_pairOf_4 rfl (lv_at hl 1 rfl) ?_
  refine lv_iadd hx hb dX10_pairOf_5 ?_
  exact r_i X hH hf dX10_pairOf_6
theorem c_WP_pairOf (l : Launch) (G : GT) {N : Nat} {τ υ : Hp} {v0 v1 : Int32} {r : Int32} (hf : f_WP_pairOf N τ v0 v1 = some (r, υ)) : MI l G yX10_pairOf cX10_pairOf 2 (some .int) 0 0 [.int v0, .int v1] τ r υ := mk_I (by decide) (Nat.le_of_ble_eq_true rfl) (fun p e s m args below meth c X hH ls hl => b_WP_pairOf_0 (N := N) X hH (lv_sub hl [0, 1] rfl) hf)
set_option maxHeartbeats 4000000 in
set_option maxRecDepth 100000 in
theorem b_WP_wayOf_0 {l : Launch} {G : GT} {N : Nat} {p : Program} {e : Env} {s : State} {m : MethodId} {args : Array Value} {below : List Frame} {meth : Method} {c : Code} (X : Cx G p s m args meth c cX10_wayOf 3 RX10 (some .int)) {r : Int32} {υ : Hp} {τ : Hp} {v0 v1 v2 : Int32} {H : Heap} {locs : List Loc} {ls : Array Slot} (hH : Hs G τ s H locs) (hl : lv_has ls 3 [(0, .int v0), (1, .int v1), (2, .int v2)]) (hf : f_WP_wayOf N τ v0 v1 v2 = some (r, υ)) : WI l G (rmG 1 21) p e s m args below meth c r υ H locs (F0 m 0 ls []) := by
  have hx := X.hx
  have hb := X.hb
  unfold f_WP_wayOf at hf
  refine lv_iload_n hx hb dX10_wayOf_0 rfl (lv_at hl 0 rfl) ?_
  refine lv_iload_n hx hb dX10_wayOf_1 rfl (lv_at hl 1 rfl) ?_
  obtain ⟨r1, τ2, hc3, hf⟩ := e_b hf
  refine c_Si X hH (n := 2) (As := [.int _, .int _]) (rest := []) (c_WP_pairOf l G (N := N) hc3) tw_223 tw_221 tw_222 tw_1 (by decide +kernel) ⟨by decide, by decide⟩ rfl hl.1 rfl (Nat.le_of_ble_eq_true rfl) ⟨Nat.zero_le _, Nat.zero_le _⟩ dX10_wayOf_2 (fun H locs hH => ?_)
  refine lv_iconst (v := 4) hx hb dX10_wayOf_5 (by decide) ?_
  refine lv_imul hx hb dX10_wayOf_6 ?_
  refine lv_iload_n hx hb dX10_wayOf_7 rfl (lv_at hl 2 rfl) ?_
  refine lv_iadd hx hb dX10_wayOf_8 ?_
  exact r_i X hH hf dX10_wayOf_9
theorem c_WP_wayOf (l : Launch) (G : GT) {N : Nat} {τ υ : Hp} {v0 v1 v2 : Int32} {r : Int32} (hf : f_WP_wayOf N τ v0 v1 v2 = some (r, υ)) : MI l G yX10_wayOf cX10_wayOf 3 (some .int) 1 21 [.int v0, .int v1, .int v2] τ r υ := mk_I (by decide) (Nat.le_of_ble_eq_true rfl) (fun p e s m args below meth c X hH ls hl => b_WP_wayOf_0 (N := N) X hH (lv_sub hl [0, 1, 2] rfl) hf)
set_option maxHeartbeats 4000000 in
set_option maxRecDepth 100000 in
theorem b_Di_write_6_0 {l : Launch} {G : GT} {N : Nat} {p : Program} {e : Env} {s : State} {m : MethodId} {args : Array Value} {below : List Frame} {meth : Method} {c : Code} (X : Cx G p s m args meth c cX0_write 4 RX0 (some .int)) {r : Int32} {υ : Hp} {τ : Hp} {v1 v2 v3 : Int32} {H : Heap} {locs : List Loc} {ls : Array Slot} (hH : Hs G τ s H locs) (hl : lv_has ls 4 [(0, .ref (aG G 6)), (1, .int v1), (2, .int v2), (3, .int v3)]) (hf : f_Di_write N 6 τ v1 v2 v3 = some (r, υ)) : WI l G (rmG 0 0) p e s m args below meth c r υ H locs (F0 m 0 ls []) := by
  have hx := X.hx
  have hb := X.hb
  unfold f_Di_write at hf
  refine lv_aload_n hx hb dX0_write_0 rfl (lv_at hl 0 rfl) ?_
  refine g_get X hH (fa_6_3 G) tw_62 dX0_write_1 ?_
  refine lv_sipush (v := 300) hx hb dX0_write_4 (by decide) ?_
  refine lv_icmp_lt (tgt := 12) hx hb dX0_write_7 (by decide) (fun c1 => ?_) (fun c1 => ?_)
  · have hf := e_t c1 hf
    refine lv_aload_n hx hb dX0_write_12 rfl (lv_at hl 0 rfl) ?_
    refine g_get X hH (fa_6_0 G) tw_59 dX0_write_13 ?_
    refine lv_aload_n hx hb dX0_write_16 rfl (lv_at hl 0 rfl) ?_
    refine g_get X hH (fa_6_3 G) tw_62 dX0_write_17 ?_
    refine lv_iload_n hx hb dX0_write_20 rfl (lv_at hl 1 rfl) ?_
    obtain ⟨g2, hf⟩ := e_g hf
    obtain ⟨τ3, eτ3, hf⟩ := e_l hf
    refine a_st X hH (aa_7 G) g2 dX0_write_21 (fun H locs hH => ?_)
    have hH : Hs G τ3 s H locs := by rw [eτ3]; exact hH
    refine lv_aload_n hx hb dX0_write_22 rfl (lv_at hl 0 rfl) ?_
    refine g_get X hH (fa_6_1 G) tw_60 dX0_write_23 ?_
    refine lv_aload_n hx hb dX0_write_26 rfl (lv_at hl 0 rfl) ?_
    refine g_get X hH (fa_6_3 G) tw_62 dX0_write_27 ?_
    refine lv_iload_n hx hb dX0_write_30 rfl (lv_at hl 2 rfl) ?_
    obtain ⟨g4, hf⟩ := e_g hf
    obtain ⟨τ5, eτ5, hf⟩ := e_l hf
    refine a_st X hH (aa_8 G) g4 dX0_write_31 (fun H locs hH => ?_)
    have hH : Hs G τ5 s H locs := by rw [eτ5]; exact hH
    refine lv_aload_n hx hb dX0_write_32 rfl (lv_at hl 0 rfl) ?_
    refine g_get X hH (fa_6_2 G) tw_61 dX0_write_33 ?_
    refine lv_aload_n hx hb dX0_write_36 rfl (lv_at hl 0 rfl) ?_
    refine g_get X hH (fa_6_3 G) tw_62 dX0_write_37 ?_
    refine lv_iload_n hx hb dX0_write_40 rfl (lv_at hl 3 rfl) ?_
    obtain ⟨g6, hf⟩ := e_g hf
    obtain ⟨τ7, eτ7, hf⟩ := e_l hf
    refine a_st X hH (aa_9 G) g6 dX0_write_41 (fun H locs hH => ?_)
    have hH : Hs G τ7 s H locs := by rw [eτ7]; exact hH
    refine lv_aload_n hx hb dX0_write_42 rfl (lv_at hl 0 rfl) ?_
    refine lv_dup hx hb dX0_write_43 rfl ?_
    refine g_get X hH (fa_6_3 G) tw_62 dX0_write_44 ?_
    refine lv_iconst (v := 1) hx hb dX0_write_47 (by decide) ?_
    refine lv_iadd hx hb dX0_write_48 ?_
    obtain ⟨τ8, eτ8, hf⟩ := e_l hf
    refine g_put X hH (fp_6_3 G) tw_62 rfl rfl dX0_write_49 (fun H locs hH => ?_)
    have hH : Hs G τ8 s H locs := by rw [eτ8]; exact hH
    refine lv_aload_n hx hb dX0_write_52 rfl (lv_at hl 0 rfl) ?_
    refine g_get X hH (fa_6_3 G) tw_62 dX0_write_53 ?_
    exact r_i X hH hf dX0_write_56
  · have hf := e_f c1 hf
    refine lv_iconst (v := (-1)) hx hb dX0_write_10 (by decide) ?_
    exact r_i X hH hf dX0_write_11
theorem c_Di_write_6 (l : Launch) (G : GT) {N : Nat} {τ υ : Hp} {v1 v2 v3 : Int32} {r : Int32} (hf : f_Di_write N 6 τ v1 v2 v3 = some (r, υ)) : MI l G yX0_write cX0_write 4 (some .int) 0 0 [.ref (aG G 6), .int v1, .int v2, .int v3] τ r υ := mk_I (by decide) (Nat.le_of_ble_eq_true rfl) (fun p e s m args below meth c X hH ls hl => b_Di_write_6_0 (N := N) X hH (lv_sub hl [0, 1, 2, 3] rfl) hf)
set_option maxHeartbeats 4000000 in
set_option maxRecDepth 100000 in
theorem b_WP_talk_0_0 {l : Launch} {G : GT} {N : Nat} {p : Program} {e : Env} {s : State} {m : MethodId} {args : Array Value} {below : List Frame} {meth : Method} {c : Code} (X : Cx G p s m args meth c cX10_talk 6 RX10 (some .int)) {r : Int32} {υ : Hp} {τ : Hp} {v1 v2 v3 v4 v5 : Int32} {H : Heap} {locs : List Loc} {ls : Array Slot} (hH : Hs G τ s H locs) (hl : lv_has ls 6 [(0, .ref (aG G 0)), (1, .int v1), (2, .int v2), (3, .int v3), (4, .int v4), (5, .int v5)]) (hf : f_WP_talk N 0 τ v1 v2 v3 v4 v5 = some (r, υ)) : WI l G (rmG 3 66) p e s m args below meth c r υ H locs (F0 m 0 ls []) := by
  have hx := X.hx
  have hb := X.hb
  unfold f_WP_talk at hf
  refine lv_aload_n hx hb dX10_talk_0 rfl (lv_at hl 0 rfl) ?_
  refine g_get X hH (fa_0_0 G) tw_174 dX10_talk_1 ?_
  refine lv_iload_n hx hb dX10_talk_4 rfl (lv_at hl 1 rfl) ?_
  refine lv_iload_n hx hb dX10_talk_5 rfl (lv_at hl 2 rfl) ?_
  refine lv_iload_n hx hb dX10_talk_6 rfl (lv_at hl 3 rfl) ?_
  obtain ⟨r1, τ2, hc3, hf⟩ := e_b hf
  refine c_Vi X hH (k := 1) (n := 3) (As := [.int _, .int _, .int _]) (rest := []) (c_Nt_isWay_1 l G (N := N) hc3) (by decide) rfl rfl tw_210 tw_207 tw_208 tw_209 tw_2 (by decide +kernel) ⟨by decide, by decide⟩ rfl hl.1 rfl (Nat.le_of_ble_eq_true rfl) ⟨Nat.zero_le _, Nat.zero_le _⟩ dX10_talk_7 (fun H locs hH => ?_)
  refine lv_if_eq (tgt := 33) hx hb dX10_talk_10 (by decide) (fun c4 => ?_) (fun c4 => ?_)
  · have hf := e_t c4 hf
    refine lv_iconst (v := (-1)) hx hb dX10_talk_33 (by decide) ?_
    exact r_i X hH hf dX10_talk_34
  · have hf := e_f c4 hf
    refine lv_iload hx hb dX10_talk_13 (lv_at hl 4 rfl) ?_
    obtain ⟨r5, τ6, hc7, hf⟩ := e_b hf
    refine c_Si X hH (n := 1) (As := [.int _]) (rest := []) (c_WP_isDay l G (N := N) hc7) tw_217 tw_215 tw_216 tw_1 (by decide +kernel) ⟨by decide, by decide⟩ rfl hl.1 rfl (Nat.le_of_ble_eq_true rfl) ⟨Nat.zero_le _, Nat.zero_le _⟩ dX10_talk_15 (fun H locs hH => ?_)
    refine lv_if_eq (tgt := 33) hx hb dX10_talk_18 (by decide) (fun c8 => ?_) (fun c8 => ?_)
    · have hf := e_t c8 hf
      refine lv_iconst (v := (-1)) hx hb dX10_talk_33 (by decide) ?_
      exact r_i X hH hf dX10_talk_34
    · have hf := e_f c8 hf
      refine lv_iload hx hb dX10_talk_21 (lv_at hl 5 rfl) ?_
      refine lv_iconst (v := 1) hx hb dX10_talk_23 (by decide) ?_
      refine lv_sipush (v := 999) hx hb dX10_talk_24 (by decide) ?_
      obtain ⟨r9, τ10, hc11, hf⟩ := e_b hf
      refine c_Si X hH (n := 3) (As := [.int _, .int _, .int _]) (rest := []) (c_WP_isBetween l G (N := N) hc11) tw_198 tw_196 tw_197 tw_1 (by decide +kernel) ⟨by decide, by decide⟩ rfl hl.1 rfl (Nat.le_of_ble_eq_true rfl) ⟨Nat.zero_le _, Nat.zero_le _⟩ dX10_talk_27 (fun H locs hH => ?_)
      refine lv_if_ne (tgt := 35) hx hb dX10_talk_30 (by decide) (fun c12 => ?_) (fun c12 => ?_)
      · have hf := e_f c12 hf
        refine lv_aload_n hx hb dX10_talk_35 rfl (lv_at hl 0 rfl) ?_
        refine g_get X hH (fa_0_2 G) tw_176 dX10_talk_36 ?_
        refine lv_iload_n hx hb dX10_talk_39 rfl (lv_at hl 1 rfl) ?_
        refine lv_iload_n hx hb dX10_talk_40 rfl (lv_at hl 2 rfl) ?_
        refine lv_iload_n hx hb dX10_talk_41 rfl (lv_at hl 3 rfl) ?_
        obtain ⟨r13, τ14, hc15, hf⟩ := e_b hf
        refine c_Si X hH (n := 3) (As := [.int _, .int _, .int _]) (rest := [.ref (aG G 6)]) (c_WP_wayOf l G (N := N) hc15) tw_220 tw_218 tw_219 tw_1 (by decide +kernel) ⟨by decide, by decide⟩ rfl hl.1 rfl (Nat.le_of_ble_eq_true rfl) ⟨Nat.zero_le _, Nat.zero_le _⟩ dX10_talk_42 (fun H locs hH => ?_)
        refine lv_iload hx hb dX10_talk_45 (lv_at hl 4 rfl) ?_
        refine lv_iload hx hb dX10_talk_47 (lv_at hl 5 rfl) ?_
        obtain ⟨r16, τ17, hc18, hf⟩ := e_b hf
        refine c_Vi X hH (k := 6) (n := 3) (As := [.int _, .int _, .int _]) (rest := []) (c_Di_write_6 l G (N := N) hc18) (by decide) rfl rfl tw_227 tw_224 tw_225 tw_226 tw_4 (by decide +kernel) ⟨by decide, by decide⟩ rfl hl.1 rfl (Nat.le_of_ble_eq_true rfl) ⟨Nat.zero_le _, Nat.zero_le _⟩ dX10_talk_49 (fun H locs hH => ?_)
        exact r_i X hH hf dX10_talk_52
      · have hf := e_t c12 hf
        refine lv_iconst (v := (-1)) hx hb dX10_talk_33 (by decide) ?_
        exact r_i X hH hf dX10_talk_34
theorem c_WP_talk_0 (l : Launch) (G : GT) {N : Nat} {τ υ : Hp} {v1 v2 v3 v4 v5 : Int32} {r : Int32} (hf : f_WP_talk N 0 τ v1 v2 v3 v4 v5 = some (r, υ)) : MI l G yX10_talk cX10_talk 6 (some .int) 3 66 [.ref (aG G 0), .int v1, .int v2, .int v3, .int v4, .int v5] τ r υ := mk_I (by decide) (Nat.le_of_ble_eq_true rfl) (fun p e s m args below meth c X hH ls hl => b_WP_talk_0_0 (N := N) X hH (lv_sub hl [0, 1, 2, 3, 4, 5] rfl) hf)
set_option maxHeartbeats 4000000 in
set_option maxRecDepth 100000 in
theorem b_Mo_isHost_42_0 {l : Launch} {G : GT} {N : Nat} {p : Program} {e : Env} {s : State} {m : MethodId} {args : Array Value} {below : List Frame} {meth : Method} {c : Code} (X : Cx G p s m args meth c cX11_isHost 2 RX11 (some .boolean)) {r : Int32} {υ : Hp} {τ : Hp} {v1 : Int32} {H : Heap} {locs : List Loc} {ls : Array Slot} (hH : Hs G τ s H locs) (hl : lv_has ls 2 [(0, .ref (aG G 42)), (1, .int v1)]) (hf : f_Mo_isHost N 42 τ v1 = some (r, υ)) : WI l G (rmG 0 0) p e s m args below meth c r υ H locs (F0 m 0 ls []) := by
  have hx := X.hx
  have hb := X.hb
  unfold f_Mo_isHost at hf
  refine lv_iload_n hx hb dX11_isHost_0 rfl (lv_at hl 1 rfl) ?_
  refine lv_if_lt (tgt := 16) hx hb dX11_isHost_1 (by decide) (fun c1 => ?_) (fun c1 => ?_)
  · have hf := e_t c1 hf
    refine lv_iconst (v := 0) hx hb dX11_isHost_16 (by decide) ?_
    exact r_z X hH rfl hf dX11_isHost_17
  · have hf := e_f c1 hf
    refine lv_iload_n hx hb dX11_isHost_4 rfl (lv_at hl 1 rfl) ?_
    refine lv_aload_n hx hb dX11_isHost_5 rfl (lv_at hl 0 rfl) ?_
    refine g_get X hH (fa_42_1 G) tw_527 dX11_isHost_6 ?_
    refine lv_icmp_ge (tgt := 16) hx hb dX11_isHost_9 (by decide) (fun c2 => ?_) (fun c2 => ?_)
    · have hf := e_t c2 hf
      refine lv_iconst (v := 0) hx hb dX11_isHost_16 (by decide) ?_
      exact r_z X hH rfl hf dX11_isHost_17
    · have hf := e_f c2 hf
      refine lv_iconst (v := 1) hx hb dX11_isHost_12 (by decide) ?_
      refine lv_goto (tgt := 17) hx hb dX11_isHost_13 (by decide) ?_
      exact r_z X hH rfl hf dX11_isHost_17
theorem c_Mo_isHost_42 (l : Launch) (G : GT) {N : Nat} {τ υ : Hp} {v1 : Int32} {r : Int32} (hf : f_Mo_isHost N 42 τ v1 = some (r, υ)) : MI l G yX11_isHost cX11_isHost 2 (some .boolean) 0 0 [.ref (aG G 42), .int v1] τ r υ := mk_I (by decide) (Nat.le_of_ble_eq_true rfl) (fun p e s m args below meth c X hH ls hl => b_Mo_isHost_42_0 (N := N) X hH (lv_sub hl [0, 1] rfl) hf)
set_option maxHeartbeats 4000000 in
set_option maxRecDepth 100000 in
theorem b_Mo_way_42_0 {l : Launch} {G : GT} {N : Nat} {p : Program} {e : Env} {s : State} {m : MethodId} {args : Array Value} {below : List Frame} {meth : Method} {c : Code} (X : Cx G p s m args meth c cX11_way 4 RX11 (some .int)) {r : Int32} {υ : Hp} {τ : Hp} {v1 v2 v3 : Int32} {H : Heap} {locs : List Loc} {ls : Array Slot} (hH : Hs G τ s H locs) (hl : lv_has ls 4 [(0, .ref (aG G 42)), (1, .int v1), (2, .int v2), (3, .int v3)]) (hf : f_Mo_way N 42 τ v1 v2 v3 = some (r, υ)) : WI l G (rmG 1 21) p e s m args below meth c r υ H locs (F0 m 0 ls []) := by
  have hx := X.hx
  have hb := X.hb
  unfold f_Mo_way at hf
  refine lv_aload_n hx hb dX11_way_0 rfl (lv_at hl 0 rfl) ?_
  refine lv_iload_n hx hb dX11_way_1 rfl (lv_at hl 1 rfl) ?_
  obtain ⟨r1, τ2, hc3, hf⟩ := e_b hf
  refine c_Vi X hH (k := 42) (n := 1) (As := [.int _]) (rest := []) (c_Mo_isHost_42 l G (N := N) hc3) (by decide) rfl rfl tw_618 tw_616 tw_617 tw_770 tw_13 (by decide +kernel) ⟨by decide, by decide⟩ rfl hl.1 rfl (Nat.le_of_ble_eq_true rfl) ⟨Nat.zero_le _, Nat.zero_le _⟩ dX11_way_2 (fun H locs hH => ?_)
  refine lv_if_eq (tgt := 43) hx hb dX11_way_5 (by decide) (fun c4 => ?_) (fun c4 => ?_)
  · have hf := e_t c4 hf
    refine lv_iconst (v := (-1)) hx hb dX11_way_43 (by decide) ?_
    exact r_i X hH hf dX11_way_44
  · have hf := e_f c4 hf
    refine lv_aload_n hx hb dX11_way_8 rfl (lv_at hl 0 rfl) ?_
    refine lv_iload_n hx hb dX11_way_9 rfl (lv_at hl 2 rfl) ?_
    obtain ⟨r5, τ6, hc7, hf⟩ := e_b hf
    refine c_Vi X hH (k := 42) (n := 1) (As := [.int _]) (rest := []) (c_Mo_isHost_42 l G (N := N) hc7) (by decide) rfl rfl tw_618 tw_616 tw_617 tw_770 tw_13 (by decide +kernel) ⟨by decide, by decide⟩ rfl hl.1 rfl (Nat.le_of_ble_eq_true rfl) ⟨Nat.zero_le _, Nat.zero_le _⟩ dX11_way_10 (fun H locs hH => ?_)
    refine lv_if_eq (tgt := 43) hx hb dX11_way_13 (by decide) (fun c8 => ?_) (fun c8 => ?_)
    · have hf := e_t c8 hf
      refine lv_iconst (v := (-1)) hx hb dX11_way_43 (by decide) ?_
      exact r_i X hH hf dX11_way_44
    · have hf := e_f c8 hf
      refine lv_iload_n hx hb dX11_way_16 rfl (lv_at hl 1 rfl) ?_
      refine lv_iload_n hx hb dX11_way_17 rfl (lv_at hl 2 rfl) ?_
      refine lv_icmp_eq (tgt := 43) hx hb dX11_way_18 (by decide) (fun c9 => ?_) (fun c9 => ?_)
      · have hf := e_t c9 hf
        refine lv_iconst (v := (-1)) hx hb dX11_way_43 (by decide) ?_
        exact r_i X hH hf dX11_way_44
      · have hf := e_f c9 hf
        refine lv_iload_n hx hb dX11_way_21 rfl (lv_at hl 3 rfl) ?_
        refine lv_if_lt (tgt := 43) hx hb dX11_way_22 (by decide) (fun c10 => ?_) (fun c10 => ?_)
        · have hf := e_t c10 hf
          refine lv_iconst (v := (-1)) hx hb dX11_way_43 (by decide) ?_
          exact r_i X hH hf dX11_way_44
        · have hf := e_f c10 hf
          refine lv_iload_n hx hb dX11_way_25 rfl (lv_at hl 3 rfl) ?_
          refine lv_iconst (v := 3) hx hb dX11_way_26 (by decide) ?_
          refine lv_icmp_gt (tgt := 43) hx hb dX11_way_27 (by decide) (fun c11 => ?_) (fun c11 => ?_)
          · have hf := e_t c11 hf
            refine lv_iconst (v := (-1)) hx hb dX11_way_43 (by decide) ?_
            exact r_i X hH hf dX11_way_44
          · have hf := e_f c11 hf
            refine lv_bipush (v := 32) hx hb dX11_way_30 (by decide) ?_
            refine lv_iload_n hx hb dX11_way_32 rfl (lv_at hl 1 rfl) ?_
            refine lv_imul hx hb dX11_way_33 ?_
            refine lv_iconst (v := 4) hx hb dX11_way_34 (by decide) ?_
            refine lv_iload_n hx hb dX11_way_35 rfl (lv_at hl 2 rfl) ?_
            refine lv_imul hx hb dX11_way_36 ?_
            refine lv_iadd hx hb dX11_way_37 ?_
            refine lv_iload_n hx hb dX11_way_38 rfl (lv_at hl 3 rfl) ?_
            refine lv_iadd hx hb dX11_way_39 ?_
            refine lv_goto (tgt := 44) hx hb dX11_way_40 (by decide) ?_
            exact r_i X hH hf dX11_way_44
theorem c_Mo_way_42 (l : Launch) (G : GT) {N : Nat} {τ υ : Hp} {v1 v2 v3 : Int32} {r : Int32} (hf : f_Mo_way N 42 τ v1 v2 v3 = some (r, υ)) : MI l G yX11_way cX11_way 4 (some .int) 1 21 [.ref (aG G 42), .int v1, .int v2, .int v3] τ r υ := mk_I (by decide) (Nat.le_of_ble_eq_true rfl) (fun p e s m args below meth c X hH ls hl => b_Mo_way_42_0 (N := N) X hH (lv_sub hl [0, 1, 2, 3] rfl) hf)
set_option maxHeartbeats 4000000 in
set_option maxRecDepth 100000 in
theorem b_Mo_isDay_0 {l : Launch} {G : GT} {N : Nat} {p : Program} {e : Env} {s : State} {m : MethodId} {args : Array Value} {below : List Frame} {meth : Method} {c : Code} (X : Cx G p s m args meth c cX11_isDay 1 RX11 (some .boolean)) {r : Int32} {υ : Hp} {τ : Hp} {v0 : Int32} {H : Heap} {locs : List Loc} {ls : Array Slot} (hH : Hs G τ s H locs) (hl : lv_has ls 1 [(0, .int v0)]) (hf : f_Mo_isDay N τ v0 = some (r, υ)) : WI l G (rmG 0 0) p e s m args below meth c r υ H locs (F0 m 0 ls []) := by
  have hx := X.hx
  have hb := X.hb
  unfold f_Mo_isDay at hf
  refine lv_iload_n hx hb dX11_isDay_0 rfl (lv_at hl 0 rfl) ?_
  refine lv_if_lt (tgt := 14) hx hb dX11_isDay_1 (by decide) (fun c1 => ?_) (fun c1 => ?_)
  · have hf := e_t c1 hf
    refine lv_iconst (v := 0) hx hb dX11_isDay_14 (by decide) ?_
    exact r_z X hH rfl hf dX11_isDay_15
  · have hf := e_f c1 hf
    refine lv_iload_n hx hb dX11_isDay_4 rfl (lv_at hl 0 rfl) ?_
    refine lv_bipush (v := 99) hx hb dX11_isDay_5 (by decide) ?_
    refine lv_icmp_gt (tgt := 14) hx hb dX11_isDay_7 (by decide) (fun c2 => ?_) (fun c2 => ?_)
    · have hf := e_t c2 hf
      refine lv_iconst (v := 0) hx hb dX11_isDay_14 (by decide) ?_
      exact r_z X hH rfl hf dX11_isDay_15
    · have hf := e_f c2 hf
      refine lv_iconst (v := 1) hx hb dX11_isDay_10 (by decide) ?_
      refine lv_goto (tgt := 15) hx hb dX11_isDay_11 (by decide) ?_
      exact r_z X hH rfl hf dX11_isDay_15
theorem c_Mo_isDay (l : Launch) (G : GT) {N : Nat} {τ υ : Hp} {v0 : Int32} {r : Int32} (hf : f_Mo_isDay N τ v0 = some (r, υ)) : MI l G yX11_isDay cX11_isDay 1 (some .boolean) 0 0 [.int v0] τ r υ := mk_I (by decide) (Nat.le_of_ble_eq_true rfl) (fun p e s m args below meth c X hH ls hl => b_Mo_isDay_0 (N := N) X hH (lv_sub hl [0] rfl) hf)
set_option maxHeartbeats 4000000 in
set_option maxRecDepth 100000 in
theorem b_Mo_talk_42_0 {l : Launch} {G : GT} {N : Nat} {p : Program} {e : Env} {s : State} {m : MethodId} {args : Array Value} {below : List Frame} {meth : Method} {c : Code} (X : Cx G p s m args meth c cX11_talk 7 RX11 (some .int)) {r : Int32} {υ : Hp} {τ : Hp} {v1 v2 v3 v4 v5 : Int32} {H : Heap} {locs : List Loc} {ls : Array Slot} (hH : Hs G τ s H locs) (hl : lv_has ls 7 [(0, .ref (aG G 42)), (1, .int v1), (2, .int v2), (3, .int v3), (4, .int v4), (5, .int v5)]) (hf : f_Mo_talk N 42 τ v1 v2 v3 v4 v5 = some (r, υ)) : WI l G (rmG 2 44) p e s m args below meth c r υ H locs (F0 m 0 ls []) := by
  have hx := X.hx
  have hb := X.hb
  unfold f_Mo_talk at hf
  refine lv_aload_n hx hb dX11_talk_0 rfl (lv_at hl 0 rfl) ?_
  refine lv_iconst (v := 0) hx hb dX11_talk_1 (by decide) ?_
  obtain ⟨τ1, eτ1, hf⟩ := e_l hf
  refine g_put X hH (fp_42_0 G) tw_526 rfl rfl dX11_talk_2 (fun H locs hH => ?_)
  have hH : Hs G τ1 s H locs := by rw [eτ1]; exact hH
  refine lv_aload_n hx hb dX11_talk_5 rfl (lv_at hl 0 rfl) ?_
  refine lv_iload_n hx hb dX11_talk_6 rfl (lv_at hl 1 rfl) ?_
  refine lv_iload_n hx hb dX11_talk_7 rfl (lv_at hl 2 rfl) ?_
  refine lv_iload_n hx hb dX11_talk_8 rfl (lv_at hl 3 rfl) ?_
  obtain ⟨r2, τ3, hc4, hf⟩ := e_b hf
  refine c_Vi X hH (k := 42) (n := 3) (As := [.int _, .int _, .int _]) (rest := []) (c_Mo_way_42 l G (N := N) hc4) (by decide) rfl rfl tw_615 tw_613 tw_614 tw_769 tw_13 (by decide +kernel) ⟨by decide, by decide⟩ rfl hl.1 rfl (Nat.le_of_ble_eq_true rfl) ⟨Nat.zero_le _, Nat.zero_le _⟩ dX11_talk_9 (fun H locs hH => ?_)
  refine lv_istore (lv' := [(6, .int r2), (0, .ref (aG G 42)), (1, .int v1), (2, .int v2), (3, .int v3), (4, .int v4), (5, .int v5)]) hx hb dX11_talk_12 hl (by decide) rfl (fun ls hl => ?_)
  refine lv_iload hx hb dX11_talk_14 (lv_at hl 0 rfl) ?_
  refine lv_iconst (v := (-1)) hx hb dX11_talk_16 (by decide) ?_
  refine lv_icmp_eq (tgt := 52) hx hb dX11_talk_17 (by decide) (fun c5 => ?_) (fun c5 => ?_)
  · have hf := e_t c5 hf
    refine lv_iconst (v := (-1)) hx hb dX11_talk_52 (by decide) ?_
    exact r_i X hH hf dX11_talk_53
  · have hf := e_f c5 hf
    refine lv_iload hx hb dX11_talk_20 (lv_at hl 5 rfl) ?_
    obtain ⟨r6, τ7, hc8, hf⟩ := e_b hf
    refine c_Si X hH (n := 1) (As := [.int _]) (rest := []) (c_Mo_isDay l G (N := N) hc8) tw_621 tw_619 tw_620 tw_13 (by decide +kernel) ⟨by decide, by decide⟩ rfl hl.1 rfl (Nat.le_of_ble_eq_true rfl) ⟨Nat.zero_le _, Nat.zero_le _⟩ dX11_talk_22 (fun H locs hH => ?_)
    refine lv_if_eq (tgt := 52) hx hb dX11_talk_25 (by decide) (fun c9 => ?_) (fun c9 => ?_)
    · have hf := e_t c9 hf
      refine lv_iconst (v := (-1)) hx hb dX11_talk_52 (by decide) ?_
      exact r_i X hH hf dX11_talk_53
    · have hf := e_f c9 hf
      refine lv_iload hx hb dX11_talk_28 (lv_at hl 6 rfl) ?_
      refine lv_iconst (v := 1) hx hb dX11_talk_30 (by decide) ?_
      refine lv_icmp_lt (tgt := 52) hx hb dX11_talk_31 (by decide) (fun c10 => ?_) (fun c10 => ?_)
      · have hf := e_t c10 hf
        refine lv_iconst (v := (-1)) hx hb dX11_talk_52 (by decide) ?_
        exact r_i X hH hf dX11_talk_53
      · have hf := e_f c10 hf
        refine lv_iload hx hb dX11_talk_34 (lv_at hl 6 rfl) ?_
        refine lv_sipush (v := 999) hx hb dX11_talk_36 (by decide) ?_
        refine lv_icmp_gt (tgt := 52) hx hb dX11_talk_39 (by decide) (fun c11 => ?_) (fun c11 => ?_)
        · have hf := e_t c11 hf
          refine lv_iconst (v := (-1)) hx hb dX11_talk_52 (by decide) ?_
          exact r_i X hH hf dX11_talk_53
        · have hf := e_f c11 hf
          refine lv_aload_n hx hb dX11_talk_42 rfl (lv_at hl 1 rfl) ?_
          refine g_get X hH (fa_42_4 G) tw_530 dX11_talk_43 ?_
          refine lv_sipush (v := 300) hx hb dX11_talk_46 (by decide) ?_
          refine lv_icmp_ne (tgt := 54) hx hb dX11_talk_49 (by decide) (fun c12 => ?_) (fun c12 => ?_)
          · have hf := e_f c12 hf
            refine lv_aload_n hx hb dX11_talk_54 rfl (lv_at hl 1 rfl) ?_
            refine g_get X hH (fa_42_5 G) tw_531 dX11_talk_55 ?_
            refine lv_aload_n hx hb dX11_talk_58 rfl (lv_at hl 1 rfl) ?_
            refine g_get X hH (fa_42_4 G) tw_530 dX11_talk_59 ?_
            refine lv_iload hx hb dX11_talk_62 (lv_at hl 0 rfl) ?_
            obtain ⟨g13, hf⟩ := e_g hf
            obtain ⟨τ14, eτ14, hf⟩ := e_l hf
            refine a_st X hH (aa_45 G) g13 dX11_talk_64 (fun H locs hH => ?_)
            have hH : Hs G τ14 s H locs := by rw [eτ14]; exact hH
            refine lv_aload_n hx hb dX11_talk_65 rfl (lv_at hl 1 rfl) ?_
            refine g_get X hH (fa_42_6 G) tw_532 dX11_talk_66 ?_
            refine lv_aload_n hx hb dX11_talk_69 rfl (lv_at hl 1 rfl) ?_
            refine g_get X hH (fa_42_4 G) tw_530 dX11_talk_70 ?_
            refine lv_iload hx hb dX11_talk_73 (lv_at hl 5 rfl) ?_
            obtain ⟨g15, hf⟩ := e_g hf
            obtain ⟨τ16, eτ16, hf⟩ := e_l hf
            refine a_st X hH (aa_46 G) g15 dX11_talk_75 (fun H locs hH => ?_)
            have hH : Hs G τ16 s H locs := by rw [eτ16]; exact hH
            refine lv_aload_n hx hb dX11_talk_76 rfl (lv_at hl 1 rfl) ?_
            refine g_get X hH (fa_42_7 G) tw_533 dX11_talk_77 ?_
            refine lv_aload_n hx hb dX11_talk_80 rfl (lv_at hl 1 rfl) ?_
            refine g_get X hH (fa_42_4 G) tw_530 dX11_talk_81 ?_
            refine lv_iload hx hb dX11_talk_84 (lv_at hl 6 rfl) ?_
            obtain ⟨g17, hf⟩ := e_g hf
            obtain ⟨τ18, eτ18, hf⟩ := e_l hf
            refine a_st X hH (aa_47 G) g17 dX11_talk_86 (fun H locs hH => ?_)
            have hH : Hs G τ18 s H locs := by rw [eτ18]; exact hH
            refine lv_aload_n hx hb dX11_talk_87 rfl (lv_at hl 1 rfl) ?_
            refine lv_dup hx hb dX11_talk_88 rfl ?_
            refine g_get X hH (fa_42_4 G) tw_530 dX11_talk_89 ?_
            refine lv_iconst (v := 1) hx hb dX11_talk_92 (by decide) ?_
            refine lv_iadd hx hb dX11_talk_93 ?_
            obtain ⟨τ19, eτ19, hf⟩ := e_l hf
            refine g_put X hH (fp_42_4 G) tw_530 rfl rfl dX11_talk_94 (fun H locs hH => ?_)
            have hH : Hs G τ19 s H locs := by rw [eτ19]; exact hH
            refine lv_aload_n hx hb dX11_talk_97 rfl (lv_at hl 1 rfl) ?_
            refine g_get X hH (fa_42_4 G) tw_530 dX11_talk_98 ?_
            exact r_i X hH hf dX11_talk_101
          · have hf := e_t c12 hf
            refine lv_iconst (v := (-1)) hx hb dX11_talk_52 (by decide) ?_
            exact r_i X hH hf dX11_talk_53
theorem c_Mo_talk_42 (l : Launch) (G : GT) {N : Nat} {τ υ : Hp} {v1 v2 v3 v4 v5 : Int32} {r : Int32} (hf : f_Mo_talk N 42 τ v1 v2 v3 v4 v5 = some (r, υ)) : MI l G yX11_talk cX11_talk 7 (some .int) 2 44 [.ref (aG G 42), .int v1, .int v2, .int v3, .int v4, .int v5] τ r υ := mk_I (by decide) (Nat.le_of_ble_eq_true rfl) (fun p e s m args below meth c X hH ls hl => b_Mo_talk_42_0 (N := N) X hH (lv_sub hl [0, 1, 2, 3, 4, 5] rfl) hf)
set_option maxHeartbeats 4000000 in
set_option maxRecDepth 100000 in
theorem b_WP_hasDoor_0 {l : Launch} {G : GT} {N : Nat} {p : Program} {e : Env} {s : State} {m : MethodId} {args : Array Value} {below : List Frame} {meth : Method} {c : Code} (X : Cx G p s m args meth c cX10_hasDoor 2 RX10 (some .boolean)) {r : Int32} {υ : Hp} {τ : Hp} {v0 v1 : Int32} {H : Heap} {locs : List Loc} {ls : Array Slot} (hH : Hs G τ s H locs) (hl : lv_has ls 2 [(0, .int v0), (1, .int v1)]) (hf : f_WP_hasDoor N τ v0 v1 = some (r, υ)) : WI l G (rmG 0 0) p e s m args below meth c r υ H locs (F0 m 0 ls []) := by
  have hx := X.hx
  have hb := X.hb
  unfold f_WP_hasDoor at hf
  refine lv_iload_n hx hb dX10_hasDoor_0 rfl (lv_at hl 0 rfl) ?_
  refine lv_iload_n hx hb dX10_hasDoor_1 rfl (lv_at hl 1 rfl) ?_
  refine lv_ishr hx hb dX10_hasDoor_2 ?_
  refine lv_iconst (v := 1) hx hb dX10_hasDoor_3 (by decide) ?_
  refine lv_iand hx hb dX10_hasDoor_4 ?_
  refine lv_iconst (v := 1) hx hb dX10_hasDoor_5 (by decide) ?_
  refine lv_icmp_ne (tgt := 13) hx hb dX10_hasDoor_6 (by decide) (fun c1 => ?_) (fun c1 => ?_)
  · have hf := e_f c1 hf
    refine lv_iconst (v := 0) hx hb dX10_hasDoor_13 (by decide) ?_
    exact r_z X hH rfl hf dX10_hasDoor_14
  · have hf := e_t c1 hf
    refine lv_iconst (v := 1) hx hb dX10_hasDoor_9 (by decide) ?_
    refine lv_goto (tgt := 14) hx hb dX10_hasDoor_10 (by decide) ?_
    exact r_z X hH rfl hf dX10_hasDoor_14
theorem c_WP_hasDoor (l : Launch) (G : GT) {N : Nat} {τ υ : Hp} {v0 v1 : Int32} {r : Int32} (hf : f_WP_hasDoor N τ v0 v1 = some (r, υ)) : MI l G yX10_hasDoor cX10_hasDoor 2 (some .boolean) 0 0 [.int v0, .int v1] τ r υ := mk_I (by decide) (Nat.le_of_ble_eq_true rfl) (fun p e s m args below meth c X hH ls hl => b_WP_hasDoor_0 (N := N) X hH (lv_sub hl [0, 1] rfl) hf)
set_option maxHeartbeats 4000000 in
set_option maxRecDepth 100000 in
theorem b_WP_turnDoor_3_4_0 {l : Launch} {G : GT} {N : Nat} {p : Program} {e : Env} {s : State} {m : MethodId} {args : Array Value} {below : List Frame} {meth : Method} {c : Code} (X : Cx G p s m args meth c cX10_turnDoor 5 RX10 (some .boolean)) {r : Int32} {υ : Hp} {τ : Hp} {v2 v3 v4 : Int32} {H : Heap} {locs : List Loc} {ls : Array Slot} (hH : Hs G τ s H locs) (hl : lv_has ls 5 [(0, .ref (aG G 3)), (1, .ref (aG G 4)), (2, .int v2), (3, .int v3), (4, .int v4)]) (hf : f_WP_turnDoor N 3 4 τ v2 v3 v4 = some (r, υ)) : WI l G (rmG 1 21) p e s m args below meth c r υ H locs (F0 m 0 ls []) := by
  have hx := X.hx
  have hb := X.hb
  unfold f_WP_turnDoor at hf
  refine lv_aload_n hx hb dX10_turnDoor_0 rfl (lv_at hl 1 rfl) ?_
  refine lv_iload_n hx hb dX10_turnDoor_1 rfl (lv_at hl 2 rfl) ?_
  obtain ⟨g1, hf⟩ := e_g hf
  refine a_ld X hH (aa_4 G) g1 dX10_turnDoor_2 ?_
  refine lv_iload_n hx hb dX10_turnDoor_3 rfl (lv_at hl 3 rfl) ?_
  obtain ⟨r2, τ3, hc4, hf⟩ := e_b hf
  refine c_Si X hH (n := 2) (As := [.int _, .int _]) (rest := []) (c_WP_hasDoor l G (N := N) hc4) tw_237 tw_235 tw_236 tw_1 (by decide +kernel) ⟨by decide, by decide⟩ rfl hl.1 rfl (Nat.le_of_ble_eq_true rfl) ⟨Nat.zero_le _, Nat.zero_le _⟩ dX10_turnDoor_4 (fun H locs hH => ?_)
  refine lv_if_ne (tgt := 22) hx hb dX10_turnDoor_7 (by decide) (fun c5 => ?_) (fun c5 => ?_)
  · have hf := e_f c5 hf
    refine lv_iconst (v := 0) hx hb dX10_turnDoor_22 (by decide) ?_
    exact r_z X hH rfl hf dX10_turnDoor_23
  · have hf := e_t c5 hf
    refine lv_aload_n hx hb dX10_turnDoor_10 rfl (lv_at hl 0 rfl) ?_
    refine lv_iload_n hx hb dX10_turnDoor_11 rfl (lv_at hl 2 rfl) ?_
    obtain ⟨g6, hf⟩ := e_g hf
    refine a_ld X hH (aa_3 G) g6 dX10_turnDoor_12 ?_
    refine lv_iload_n hx hb dX10_turnDoor_13 rfl (lv_at hl 3 rfl) ?_
    obtain ⟨r7, τ8, hc9, hf⟩ := e_b hf
    refine c_Si X hH (n := 2) (As := [.int _, .int _]) (rest := []) (c_WP_hasDoor l G (N := N) hc9) tw_237 tw_235 tw_236 tw_1 (by decide +kernel) ⟨by decide, by decide⟩ rfl hl.1 rfl (Nat.le_of_ble_eq_true rfl) ⟨Nat.zero_le _, Nat.zero_le _⟩ dX10_turnDoor_14 (fun H locs hH => ?_)
    refine lv_iload hx hb dX10_turnDoor_17 (lv_at hl 4 rfl) ?_
    refine lv_icmp_ne (tgt := 24) hx hb dX10_turnDoor_19 (by decide) (fun c10 => ?_) (fun c10 => ?_)
    · have hf := e_f c10 hf
      refine lv_aload_n hx hb dX10_turnDoor_24 rfl (lv_at hl 0 rfl) ?_
      refine lv_iload_n hx hb dX10_turnDoor_25 rfl (lv_at hl 2 rfl) ?_
      refine lv_dup2_11 hx hb dX10_turnDoor_26 rfl rfl ?_
      obtain ⟨g11, hf⟩ := e_g hf
      refine a_ld X hH (aa_3 G) g11 dX10_turnDoor_27 ?_
      refine lv_iconst (v := 1) hx hb dX10_turnDoor_28 (by decide) ?_
      refine lv_iload_n hx hb dX10_turnDoor_29 rfl (lv_at hl 3 rfl) ?_
      refine lv_ishl hx hb dX10_turnDoor_30 ?_
      refine lv_ixor hx hb dX10_turnDoor_31 ?_
      obtain ⟨g12, hf⟩ := e_g hf
      obtain ⟨τ13, eτ13, hf⟩ := e_l hf
      refine a_st X hH (aa_3 G) g12 dX10_turnDoor_32 (fun H locs hH => ?_)
      have hH : Hs G τ13 s H locs := by rw [eτ13]; exact hH
      refine lv_iconst (v := 1) hx hb dX10_turnDoor_33 (by decide) ?_
      exact r_z X hH rfl hf dX10_turnDoor_34
    · have hf := e_t c10 hf
      refine lv_iconst (v := 0) hx hb dX10_turnDoor_22 (by decide) ?_
      exact r_z X hH rfl hf dX10_turnDoor_23
theorem c_WP_turnDoor_3_4 (l : Launch) (G : GT) {N : Nat} {τ υ : Hp} {v2 v3 v4 : Int32} {r : Int32} (hf : f_WP_turnDoor N 3 4 τ v2 v3 v4 = some (r, υ)) : MI l G yX10_turnDoor cX10_turnDoor 5 (some .boolean) 1 21 [.ref (aG G 3), .ref (aG G 4), .int v2, .int v3, .int v4] τ r υ := mk_I (by decide) (Nat.le_of_ble_eq_true rfl) (fun p e s m args below meth c X hH ls hl => b_WP_turnDoor_3_4_0 (N := N) X hH (lv_sub hl [0, 1, 2, 3, 4] rfl) hf)
set_option maxHeartbeats 4000000 in
set_option maxRecDepth 100000 in
theorem b_WP_must_0_0 {l : Launch} {G : GT} {N : Nat} {p : Program} {e : Env} {s : State} {m : MethodId} {args : Array Value} {below : List Frame} {meth : Method} {c : Code} (X : Cx G p s m args meth c cX10_must 5 RX10 (some .boolean)) {r : Int32} {υ : Hp} {τ : Hp} {v1 v2 v3 v4 : Int32} {H : Heap} {locs : List Loc} {ls : Array Slot} (hH : Hs G τ s H locs) (hl : lv_has ls 5 [(0, .ref (aG G 0)), (1, .int v1), (2, .int v2), (3, .int v3), (4, .int v4)]) (hf : f_WP_must N 0 τ v1 v2 v3 v4 = some (r, υ)) : WI l G (rmG 3 66) p e s m args below meth c r υ H locs (F0 m 0 ls []) := by
  have hx := X.hx
  have hb := X.hb
  unfold f_WP_must at hf
  refine lv_aload_n hx hb dX10_must_0 rfl (lv_at hl 0 rfl) ?_
  refine g_get X hH (fa_0_0 G) tw_174 dX10_must_1 ?_
  refine lv_iload_n hx hb dX10_must_4 rfl (lv_at hl 1 rfl) ?_
  refine lv_iload_n hx hb dX10_must_5 rfl (lv_at hl 2 rfl) ?_
  refine lv_iload_n hx hb dX10_must_6 rfl (lv_at hl 3 rfl) ?_
  obtain ⟨r1, τ2, hc3, hf⟩ := e_b hf
  refine c_Vi X hH (k := 1) (n := 3) (As := [.int _, .int _, .int _]) (rest := []) (c_Nt_isWay_1 l G (N := N) hc3) (by decide) rfl rfl tw_210 tw_207 tw_208 tw_209 tw_2 (by decide +kernel) ⟨by decide, by decide⟩ rfl hl.1 rfl (Nat.le_of_ble_eq_true rfl) ⟨Nat.zero_le _, Nat.zero_le _⟩ dX10_must_7 (fun H locs hH => ?_)
  refine lv_if_ne (tgt := 15) hx hb dX10_must_10 (by decide) (fun c4 => ?_) (fun c4 => ?_)
  · have hf := e_f c4 hf
    refine lv_aload_n hx hb dX10_must_15 rfl (lv_at hl 0 rfl) ?_
    refine g_get X hH (fa_0_0 G) tw_174 dX10_must_16 ?_
    refine g_getN X hH (fa_1_1 G) 1 rfl dX10_must_19 ?_
    refine lv_aload_n hx hb dX10_must_22 rfl (lv_at hl 0 rfl) ?_
    refine g_get X hH (fa_0_0 G) tw_174 dX10_must_23 ?_
    refine g_getN X hH (fa_1_2 G) 3 rfl dX10_must_26 ?_
    refine lv_iload_n hx hb dX10_must_29 rfl (lv_at hl 1 rfl) ?_
    refine lv_iload_n hx hb dX10_must_30 rfl (lv_at hl 2 rfl) ?_
    obtain ⟨r5, τ6, hc7, hf⟩ := e_b hf
    refine c_Si X hH (n := 2) (As := [.int _, .int _]) (rest := [.ref (aG G 4), .ref (aG G 3)]) (c_WP_pairOf l G (N := N) hc7) tw_223 tw_221 tw_222 tw_1 (by decide +kernel) ⟨by decide, by decide⟩ rfl hl.1 rfl (Nat.le_of_ble_eq_true rfl) ⟨Nat.zero_le _, Nat.zero_le _⟩ dX10_must_31 (fun H locs hH => ?_)
    refine lv_iload_n hx hb dX10_must_34 rfl (lv_at hl 3 rfl) ?_
    refine lv_iload hx hb dX10_must_35 (lv_at hl 4 rfl) ?_
    obtain ⟨r8, τ9, hc10, hf⟩ := e_b hf
    refine c_Si X hH (n := 5) (As := [.ref (aG G 3), .ref (aG G 4), .int _, .int _, .int _]) (rest := []) (c_WP_turnDoor_3_4 l G (N := N) hc10) tw_234 tw_232 tw_233 tw_1 (by decide +kernel) ⟨by decide, by decide⟩ rfl hl.1 rfl (Nat.le_of_ble_eq_true rfl) ⟨Nat.zero_le _, Nat.zero_le _⟩ dX10_must_37 (fun H locs hH => ?_)
    obtain ⟨g11, hf⟩ := e_g hf
    exact r_z X hH g11 hf dX10_must_40
  · have hf := e_t c4 hf
    refine lv_iconst (v := 0) hx hb dX10_must_13 (by decide) ?_
    exact r_z X hH rfl hf dX10_must_14
theorem c_WP_must_0 (l : Launch) (G : GT) {N : Nat} {τ υ : Hp} {v1 v2 v3 v4 : Int32} {r : Int32} (hf : f_WP_must N 0 τ v1 v2 v3 v4 = some (r, υ)) : MI l G yX10_must cX10_must 5 (some .boolean) 3 66 [.ref (aG G 0), .int v1, .int v2, .int v3, .int v4] τ r υ := mk_I (by decide) (Nat.le_of_ble_eq_true rfl) (fun p e s m args below meth c X hH ls hl => b_WP_must_0_0 (N := N) X hH (lv_sub hl [0, 1, 2, 3, 4] rfl) hf)
set_option maxHeartbeats 4000000 in
set_option maxRecDepth 100000 in
theorem b_Mo_must_42_0 {l : Launch} {G : GT} {N : Nat} {p : Program} {e : Env} {s : State} {m : MethodId} {args : Array Value} {below : List Frame} {meth : Method} {c : Code} (X : Cx G p s m args meth c cX11_must 6 RX11 (some .boolean)) {r : Int32} {υ : Hp} {τ : Hp} {v1 v2 v3 v4 : Int32} {H : Heap} {locs : List Loc} {ls : Array Slot} (hH : Hs G τ s H locs) (hl : lv_has ls 6 [(0, .ref (aG G 42)), (1, .int v1), (2, .int v2), (3, .int v3), (4, .int v4)]) (hf : f_Mo_must N 42 τ v1 v2 v3 v4 = some (r, υ)) : WI l G (rmG 2 44) p e s m args below meth c r υ H locs (F0 m 0 ls []) := by
  have hx := X.hx
  have hb := X.hb
  unfold f_Mo_must at hf
  refine lv_aload_n hx hb dX11_must_0 rfl (lv_at hl 0 rfl) ?_
  refine lv_iconst (v := 0) hx hb dX11_must_1 (by decide) ?_
  obtain ⟨τ1, eτ1, hf⟩ := e_l hf
  refine g_put X hH (fp_42_0 G) tw_526 rfl rfl dX11_must_2 (fun H locs hH => ?_)
  have hH : Hs G τ1 s H locs := by rw [eτ1]; exact hH
  refine lv_aload_n hx hb dX11_must_5 rfl (lv_at hl 0 rfl) ?_
  refine lv_iload_n hx hb dX11_must_6 rfl (lv_at hl 1 rfl) ?_
  refine lv_iload_n hx hb dX11_must_7 rfl (lv_at hl 2 rfl) ?_
  refine lv_iload_n hx hb dX11_must_8 rfl (lv_at hl 3 rfl) ?_
  obtain ⟨r2, τ3, hc4, hf⟩ := e_b hf
  refine c_Vi X hH (k := 42) (n := 3) (As := [.int _, .int _, .int _]) (rest := []) (c_Mo_way_42 l G (N := N) hc4) (by decide) rfl rfl tw_615 tw_613 tw_614 tw_769 tw_13 (by decide +kernel) ⟨by decide, by decide⟩ rfl hl.1 rfl (Nat.le_of_ble_eq_true rfl) ⟨Nat.zero_le _, Nat.zero_le _⟩ dX11_must_9 (fun H locs hH => ?_)
  refine lv_istore (lv' := [(5, .int r2), (0, .ref (aG G 42)), (1, .int v1), (2, .int v2), (3, .int v3), (4, .int v4)]) hx hb dX11_must_12 hl (by decide) rfl (fun ls hl => ?_)
  refine lv_iload hx hb dX11_must_14 (lv_at hl 0 rfl) ?_
  refine lv_iconst (v := (-1)) hx hb dX11_must_16 (by decide) ?_
  refine lv_icmp_eq (tgt := 42) hx hb dX11_must_17 (by decide) (fun c5 => ?_) (fun c5 => ?_)
  · have hf := e_t c5 hf
    refine lv_iconst (v := 0) hx hb dX11_must_42 (by decide) ?_
    exact r_z X hH rfl hf dX11_must_43
  · have hf := e_f c5 hf
    refine lv_aload_n hx hb dX11_must_20 rfl (lv_at hl 1 rfl) ?_
    refine g_get X hH (fa_42_9 G) tw_535 dX11_must_21 ?_
    refine lv_iload hx hb dX11_must_24 (lv_at hl 0 rfl) ?_
    obtain ⟨g6, hf⟩ := e_g hf
    refine z_ld X hH (aa_49 G) g6 dX11_must_26 ?_
    refine lv_if_ne (tgt := 42) hx hb dX11_must_27 (by decide) (fun c7 => ?_) (fun c7 => ?_)
    · have hf := e_f c7 hf
      refine lv_iconst (v := 0) hx hb dX11_must_42 (by decide) ?_
      exact r_z X hH rfl hf dX11_must_43
    · have hf := e_t c7 hf
      refine lv_aload_n hx hb dX11_must_30 rfl (lv_at hl 1 rfl) ?_
      refine g_get X hH (fa_42_8 G) tw_534 dX11_must_31 ?_
      refine lv_iload hx hb dX11_must_34 (lv_at hl 0 rfl) ?_
      obtain ⟨g8, hf⟩ := e_g hf
      refine z_ld X hH (aa_48 G) g8 dX11_must_36 ?_
      refine lv_iload hx hb dX11_must_37 (lv_at hl 5 rfl) ?_
      refine lv_icmp_ne (tgt := 44) hx hb dX11_must_39 (by decide) (fun c9 => ?_) (fun c9 => ?_)
      · have hf := e_f c9 hf
        refine lv_aload_n hx hb dX11_must_44 rfl (lv_at hl 1 rfl) ?_
        refine g_get X hH (fa_42_8 G) tw_534 dX11_must_45 ?_
        refine lv_iload hx hb dX11_must_48 (lv_at hl 0 rfl) ?_
        refine lv_iload hx hb dX11_must_50 (lv_at hl 5 rfl) ?_
        obtain ⟨g10, hf⟩ := e_g hf
        obtain ⟨τ11, eτ11, hf⟩ := e_l hf
        refine z_st X hH (aa_48 G) g10 dX11_must_52 (fun H locs hH => ?_)
        have hH : Hs G τ11 s H locs := by rw [eτ11]; exact hH
        refine lv_iconst (v := 1) hx hb dX11_must_53 (by decide) ?_
        exact r_z X hH rfl hf dX11_must_54
      · have hf := e_t c9 hf
        refine lv_iconst (v := 0) hx hb dX11_must_42 (by decide) ?_
        exact r_z X hH rfl hf dX11_must_43
theorem c_Mo_must_42 (l : Launch) (G : GT) {N : Nat} {τ υ : Hp} {v1 v2 v3 v4 : Int32} {r : Int32} (hf : f_Mo_must N 42 τ v1 v2 v3 v4 = some (r, υ)) : MI l G yX11_must cX11_must 6 (some .boolean) 2 44 [.ref (aG G 42), .int v1, .int v2, .int v3, .int v4] τ r υ := mk_I (by decide) (Nat.le_of_ble_eq_true rfl) (fun p e s m args below meth c X hH ls hl => b_Mo_must_42_0 (N := N) X hH (lv_sub hl [0, 1, 2, 3, 4] rfl) hf)
set_option maxHeartbeats 4000000 in
set_option maxRecDepth 100000 in
theorem b_WP_turnDoor_4_3_0 {l : Launch} {G : GT} {N : Nat} {p : Program} {e : Env} {s : State} {m : MethodId} {args : Array Value} {below : List Frame} {meth : Method} {c : Code} (X : Cx G p s m args meth c cX10_turnDoor 5 RX10 (some .boolean)) {r : Int32} {υ : Hp} {τ : Hp} {v2 v3 v4 : Int32} {H : Heap} {locs : List Loc} {ls : Array Slot} (hH : Hs G τ s H locs) (hl : lv_has ls 5 [(0, .ref (aG G 4)), (1, .ref (aG G 3)), (2, .int v2), (3, .int v3), (4, .int v4)]) (hf : f_WP_turnDoor N 4 3 τ v2 v3 v4 = some (r, υ)) : WI l G (rmG 1 21) p e s m args below meth c r υ H locs (F0 m 0 ls []) := by
  have hx := X.hx
  have hb := X.hb
  unfold f_WP_turnDoor at hf
  refine lv_aload_n hx hb dX10_turnDoor_0 rfl (lv_at hl 1 rfl) ?_
  refine lv_iload_n hx hb dX10_turnDoor_1 rfl (lv_at hl 2 rfl) ?_
  obtain ⟨g1, hf⟩ := e_g hf
  refine a_ld X hH (aa_3 G) g1 dX10_turnDoor_2 ?_
  refine lv_iload_n hx hb dX10_turnDoor_3 rfl (lv_at hl 3 rfl) ?_
  obtain ⟨r2, τ3, hc4, hf⟩ := e_b hf
  refine c_Si X hH (n := 2) (As := [.int _, .int _]) (rest := []) (c_WP_hasDoor l G (N := N) hc4) tw_237 tw_235 tw_236 tw_1 (by decide +kernel) ⟨by decide, by decide⟩ rfl hl.1 rfl (Nat.le_of_ble_eq_true rfl) ⟨Nat.zero_le _, Nat.zero_le _⟩ dX10_turnDoor_4 (fun H locs hH => ?_)
  refine lv_if_ne (tgt := 22) hx hb dX10_turnDoor_7 (by decide) (fun c5 => ?_) (fun c5 => ?_)
  · have hf := e_f c5 hf
    refine lv_iconst (v := 0) hx hb dX10_turnDoor_22 (by decide) ?_
    exact r_z X hH rfl hf dX10_turnDoor_23
  · have hf := e_t c5 hf
    refine lv_aload_n hx hb dX10_turnDoor_10 rfl (lv_at hl 0 rfl) ?_
    refine lv_iload_n hx hb dX10_turnDoor_11 rfl (lv_at hl 2 rfl) ?_
    obtain ⟨g6, hf⟩ := e_g hf
    refine a_ld X hH (aa_4 G) g6 dX10_turnDoor_12 ?_
    refine lv_iload_n hx hb dX10_turnDoor_13 rfl (lv_at hl 3 rfl) ?_
    obtain ⟨r7, τ8, hc9, hf⟩ := e_b hf
    refine c_Si X hH (n := 2) (As := [.int _, .int _]) (rest := []) (c_WP_hasDoor l G (N := N) hc9) tw_237 tw_235 tw_236 tw_1 (by decide +kernel) ⟨by decide, by decide⟩ rfl hl.1 rfl (Nat.le_of_ble_eq_true rfl) ⟨Nat.zero_le _, Nat.zero_le _⟩ dX10_turnDoor_14 (fun H locs hH => ?_)
    refine lv_iload hx hb dX10_turnDoor_17 (lv_at hl 4 rfl) ?_
    refine lv_icmp_ne (tgt := 24) hx hb dX10_turnDoor_19 (by decide) (fun c10 => ?_) (fun c10 => ?_)
    · have hf := e_f c10 hf
      refine lv_aload_n hx hb dX10_turnDoor_24 rfl (lv_at hl 0 rfl) ?_
      refine lv_iload_n hx hb dX10_turnDoor_25 rfl (lv_at hl 2 rfl) ?_
      refine lv_dup2_11 hx hb dX10_turnDoor_26 rfl rfl ?_
      obtain ⟨g11, hf⟩ := e_g hf
      refine a_ld X hH (aa_4 G) g11 dX10_turnDoor_27 ?_
      refine lv_iconst (v := 1) hx hb dX10_turnDoor_28 (by decide) ?_
      refine lv_iload_n hx hb dX10_turnDoor_29 rfl (lv_at hl 3 rfl) ?_
      refine lv_ishl hx hb dX10_turnDoor_30 ?_
      refine lv_ixor hx hb dX10_turnDoor_31 ?_
      obtain ⟨g12, hf⟩ := e_g hf
      obtain ⟨τ13, eτ13, hf⟩ := e_l hf
      refine a_st X hH (aa_4 G) g12 dX10_turnDoor_32 (fun H locs hH => ?_)
      have hH : Hs G τ13 s H locs := by rw [eτ13]; exact hH
      refine lv_iconst (v := 1) hx hb dX10_turnDoor_33 (by decide) ?_
      exact r_z X hH rfl hf dX10_turnDoor_34
    · have hf := e_t c10 hf
      refine lv_iconst (v := 0) hx hb dX10_turnDoor_22 (by decide) ?_
      exact r_z X hH rfl hf dX10_turnDoor_23
theorem c_WP_turnDoor_4_3 (l : Launch) (G : GT) {N : Nat} {τ υ : Hp} {v2 v3 v4 : Int32} {r : Int32} (hf : f_WP_turnDoor N 4 3 τ v2 v3 v4 = some (r, υ)) : MI l G yX10_turnDoor cX10_turnDoor 5 (some .boolean) 1 21 [.ref (aG G 4), .ref (aG G 3), .int v2, .int v3, .int v4] τ r υ := mk_I (by decide) (Nat.le_of_ble_eq_true rfl) (fun p e s m args below meth c X hH ls hl => b_WP_turnDoor_4_3_0 (N := N) X hH (lv_sub hl [0, 1, 2, 3, 4] rfl) hf)
set_option maxHeartbeats 4000000 in
set_option maxRecDepth 100000 in
theorem b_WP_bar_0_0 {l : Launch} {G : GT} {N : Nat} {p : Program} {e : Env} {s : State} {m : MethodId} {args : Array Value} {below : List Frame} {meth : Method} {c : Code} (X : Cx G p s m args meth c cX10_bar 5 RX10 (some .boolean)) {r : Int32} {υ : Hp} {τ : Hp} {v1 v2 v3 v4 : Int32} {H : Heap} {locs : List Loc} {ls : Array Slot} (hH : Hs G τ s H locs) (hl : lv_has ls 5 [(0, .ref (aG G 0)), (1, .int v1), (2, .int v2), (3, .int v3), (4, .int v4)]) (hf : f_WP_bar N 0 τ v1 v2 v3 v4 = some (r, υ)) : WI l G (rmG 3 66) p e s m args below meth c r υ H locs (F0 m 0 ls []) := by
  have hx := X.hx
  have hb := X.hb
  unfold f_WP_bar at hf
  refine lv_aload_n hx hb dX10_bar_0 rfl (lv_at hl 0 rfl) ?_
  refine g_get X hH (fa_0_0 G) tw_174 dX10_bar_1 ?_
  refine lv_iload_n hx hb dX10_bar_4 rfl (lv_at hl 1 rfl) ?_
  refine lv_iload_n hx hb dX10_bar_5 rfl (lv_at hl 2 rfl) ?_
  refine lv_iload_n hx hb dX10_bar_6 rfl (lv_at hl 3 rfl) ?_
  obtain ⟨r1, τ2, hc3, hf⟩ := e_b hf
  refine c_Vi X hH (k := 1) (n := 3) (As := [.int _, .int _, .int _]) (rest := []) (c_Nt_isWay_1 l G (N := N) hc3) (by decide) rfl rfl tw_210 tw_207 tw_208 tw_209 tw_2 (by decide +kernel) ⟨by decide, by decide⟩ rfl hl.1 rfl (Nat.le_of_ble_eq_true rfl) ⟨Nat.zero_le _, Nat.zero_le _⟩ dX10_bar_7 (fun H locs hH => ?_)
  refine lv_if_ne (tgt := 15) hx hb dX10_bar_10 (by decide) (fun c4 => ?_) (fun c4 => ?_)
  · have hf := e_f c4 hf
    refine lv_aload_n hx hb dX10_bar_15 rfl (lv_at hl 0 rfl) ?_
    refine g_get X hH (fa_0_0 G) tw_174 dX10_bar_16 ?_
    refine g_getN X hH (fa_1_2 G) 3 rfl dX10_bar_19 ?_
    refine lv_aload_n hx hb dX10_bar_22 rfl (lv_at hl 0 rfl) ?_
    refine g_get X hH (fa_0_0 G) tw_174 dX10_bar_23 ?_
    refine g_getN X hH (fa_1_1 G) 1 rfl dX10_bar_26 ?_
    refine lv_iload_n hx hb dX10_bar_29 rfl (lv_at hl 1 rfl) ?_
    refine lv_iload_n hx hb dX10_bar_30 rfl (lv_at hl 2 rfl) ?_
    obtain ⟨r5, τ6, hc7, hf⟩ := e_b hf
    refine c_Si X hH (n := 2) (As := [.int _, .int _]) (rest := [.ref (aG G 3), .ref (aG G 4)]) (c_WP_pairOf l G (N := N) hc7) tw_223 tw_221 tw_222 tw_1 (by decide +kernel) ⟨by decide, by decide⟩ rfl hl.1 rfl (Nat.le_of_ble_eq_true rfl) ⟨Nat.zero_le _, Nat.zero_le _⟩ dX10_bar_31 (fun H locs hH => ?_)
    refine lv_iload_n hx hb dX10_bar_34 rfl (lv_at hl 3 rfl) ?_
    refine lv_iload hx hb dX10_bar_35 (lv_at hl 4 rfl) ?_
    obtain ⟨r8, τ9, hc10, hf⟩ := e_b hf
    refine c_Si X hH (n := 5) (As := [.ref (aG G 4), .ref (aG G 3), .int _, .int _, .int _]) (rest := []) (c_WP_turnDoor_4_3 l G (N := N) hc10) tw_234 tw_232 tw_233 tw_1 (by decide +kernel) ⟨by decide, by decide⟩ rfl hl.1 rfl (Nat.le_of_ble_eq_true rfl) ⟨Nat.zero_le _, Nat.zero_le _⟩ dX10_bar_37 (fun H locs hH => ?_)
    obtain ⟨g11, hf⟩ := e_g hf
    exact r_z X hH g11 hf dX10_bar_40
  · have hf := e_t c4 hf
    refine lv_iconst (v := 0) hx hb dX10_bar_13 (by decide) ?_
    exact r_z X hH rfl hf dX10_bar_14
theorem c_WP_bar_0 (l : Launch) (G : GT) {N : Nat} {τ υ : Hp} {v1 v2 v3 v4 : Int32} {r : Int32} (hf : f_WP_bar N 0 τ v1 v2 v3 v4 = some (r, υ)) : MI l G yX10_bar cX10_bar 5 (some .boolean) 3 66 [.ref (aG G 0), .int v1, .int v2, .int v3, .int v4] τ r υ := mk_I (by decide) (Nat.le_of_ble_eq_true rfl) (fun p e s m args below meth c X hH ls hl => b_WP_bar_0_0 (N := N) X hH (lv_sub hl [0, 1, 2, 3, 4] rfl) hf)
set_option maxHeartbeats 4000000 in
set_option maxRecDepth 100000 in
theorem b_Mo_bar_42_0 {l : Launch} {G : GT} {N : Nat} {p : Program} {e : Env} {s : State} {m : MethodId} {args : Array Value} {below : List Frame} {meth : Method} {c : Code} (X : Cx G p s m args meth c cX11_bar 6 RX11 (some .boolean)) {r : Int32} {υ : Hp} {τ : Hp} {v1 v2 v3 v4 : Int32} {H : Heap} {locs : List Loc} {ls : Array Slot} (hH : Hs G τ s H locs) (hl : lv_has ls 6 [(0, .ref (aG G 42)), (1, .int v1), (2, .int v2), (3, .int v3), (4, .int v4)]) (hf : f_Mo_bar N 42 τ v1 v2 v3 v4 = some (r, υ)) : WI l G (rmG 2 44) p e s m args below meth c r υ H locs (F0 m 0 ls []) := by
  have hx := X.hx
  have hb := X.hb
  unfold f_Mo_bar at hf
  refine lv_aload_n hx hb dX11_bar_0 rfl (lv_at hl 0 rfl) ?_
  refine lv_iconst (v := 0) hx hb dX11_bar_1 (by decide) ?_
  obtain ⟨τ1, eτ1, hf⟩ := e_l hf
  refine g_put X hH (fp_42_0 G) tw_526 rfl rfl dX11_bar_2 (fun H locs hH => ?_)
  have hH : Hs G τ1 s H locs := by rw [eτ1]; exact hH
  refine lv_aload_n hx hb dX11_bar_5 rfl (lv_at hl 0 rfl) ?_
  refine lv_iload_n hx hb dX11_bar_6 rfl (lv_at hl 1 rfl) ?_
  refine lv_iload_n hx hb dX11_bar_7 rfl (lv_at hl 2 rfl) ?_
  refine lv_iload_n hx hb dX11_bar_8 rfl (lv_at hl 3 rfl) ?_
  obtain ⟨r2, τ3, hc4, hf⟩ := e_b hf
  refine c_Vi X hH (k := 42) (n := 3) (As := [.int _, .int _, .int _]) (rest := []) (c_Mo_way_42 l G (N := N) hc4) (by decide) rfl rfl tw_615 tw_613 tw_614 tw_769 tw_13 (by decide +kernel) ⟨by decide, by decide⟩ rfl hl.1 rfl (Nat.le_of_ble_eq_true rfl) ⟨Nat.zero_le _, Nat.zero_le _⟩ dX11_bar_9 (fun H locs hH => ?_)
  refine lv_istore (lv' := [(5, .int r2), (0, .ref (aG G 42)), (1, .int v1), (2, .int v2), (3, .int v3), (4, .int v4)]) hx hb dX11_bar_12 hl (by decide) rfl (fun ls hl => ?_)
  refine lv_iload hx hb dX11_bar_14 (lv_at hl 0 rfl) ?_
  refine lv_iconst (v := (-1)) hx hb dX11_bar_16 (by decide) ?_
  refine lv_icmp_eq (tgt := 42) hx hb dX11_bar_17 (by decide) (fun c5 => ?_) (fun c5 => ?_)
  · have hf := e_t c5 hf
    refine lv_iconst (v := 0) hx hb dX11_bar_42 (by decide) ?_
    exact r_z X hH rfl hf dX11_bar_43
  · have hf := e_f c5 hf
    refine lv_aload_n hx hb dX11_bar_20 rfl (lv_at hl 1 rfl) ?_
    refine g_get X hH (fa_42_8 G) tw_534 dX11_bar_21 ?_
    refine lv_iload hx hb dX11_bar_24 (lv_at hl 0 rfl) ?_
    obtain ⟨g6, hf⟩ := e_g hf
    refine z_ld X hH (aa_48 G) g6 dX11_bar_26 ?_
    refine lv_if_ne (tgt := 42) hx hb dX11_bar_27 (by decide) (fun c7 => ?_) (fun c7 => ?_)
    · have hf := e_f c7 hf
      refine lv_iconst (v := 0) hx hb dX11_bar_42 (by decide) ?_
      exact r_z X hH rfl hf dX11_bar_43
    · have hf := e_t c7 hf
      refine lv_aload_n hx hb dX11_bar_30 rfl (lv_at hl 1 rfl) ?_
      refine g_get X hH (fa_42_9 G) tw_535 dX11_bar_31 ?_
      refine lv_iload hx hb dX11_bar_34 (lv_at hl 0 rfl) ?_
      obtain ⟨g8, hf⟩ := e_g hf
      refine z_ld X hH (aa_49 G) g8 dX11_bar_36 ?_
      refine lv_iload hx hb dX11_bar_37 (lv_at hl 5 rfl) ?_
      refine lv_icmp_ne (tgt := 44) hx hb dX11_bar_39 (by decide) (fun c9 => ?_) (fun c9 => ?_)
      · have hf := e_f c9 hf
        refine lv_aload_n hx hb dX11_bar_44 rfl (lv_at hl 1 rfl) ?_
        refine g_get X hH (fa_42_9 G) tw_535 dX11_bar_45 ?_
        refine lv_iload hx hb dX11_bar_48 (lv_at hl 0 rfl) ?_
        refine lv_iload hx hb dX11_bar_50 (lv_at hl 5 rfl) ?_
        obtain ⟨g10, hf⟩ := e_g hf
        obtain ⟨τ11, eτ11, hf⟩ := e_l hf
        refine z_st X hH (aa_49 G) g10 dX11_bar_52 (fun H locs hH => ?_)
        have hH : Hs G τ11 s H locs := by rw [eτ11]; exact hH
        refine lv_iconst (v := 1) hx hb dX11_bar_53 (by decide) ?_
        exact r_z X hH rfl hf dX11_bar_54
      · have hf := e_t c9 hf
        refine lv_iconst (v := 0) hx hb dX11_bar_42 (by decide) ?_
        exact r_z X hH rfl hf dX11_bar_43
theorem c_Mo_bar_42 (l : Launch) (G : GT) {N : Nat} {τ υ : Hp} {v1 v2 v3 v4 : Int32} {r : Int32} (hf : f_Mo_bar N 42 τ v1 v2 v3 v4 = some (r, υ)) : MI l G yX11_bar cX11_bar 6 (some .boolean) 2 44 [.ref (aG G 42), .int v1, .int v2, .int v3, .int v4] τ r υ := mk_I (by decide) (Nat.le_of_ble_eq_true rfl) (fun p e s m args below meth c X hH ls hl => b_Mo_bar_42_0 (N := N) X hH (lv_sub hl [0, 1, 2, 3, 4] rfl) hf)
set_option maxHeartbeats 4000000 in
set_option maxRecDepth 100000 in
theorem b_WP_law_0_0 {l : Launch} {G : GT} {N : Nat} {p : Program} {e : Env} {s : State} {m : MethodId} {args : Array Value} {below : List Frame} {meth : Method} {c : Code} (X : Cx G p s m args meth c cX10_law 4 RX10 (some .boolean)) {r : Int32} {υ : Hp} {τ : Hp} {v1 v2 v3 : Int32} {H : Heap} {locs : List Loc} {ls : Array Slot} (hH : Hs G τ s H locs) (hl : lv_has ls 4 [(0, .ref (aG G 0)), (1, .int v1), (2, .int v2), (3, .int v3)]) (hf : f_WP_law N 0 τ v1 v2 v3 = some (r, υ)) : WI l G (rmG 1 22) p e s m args below meth c r υ H locs (F0 m 0 ls []) := by
  have hx := X.hx
  have hb := X.hb
  unfold f_WP_law at hf
  refine lv_iload_n hx hb dX10_law_0 rfl (lv_at hl 1 rfl) ?_
  refine lv_iconst (v := 1) hx hb dX10_law_1 (by decide) ?_
  refine lv_bipush (v := 100) hx hb dX10_law_2 (by decide) ?_
  obtain ⟨r1, τ2, hc3, hf⟩ := e_b hf
  refine c_Si X hH (n := 3) (As := [.int _, .int _, .int _]) (rest := []) (c_WP_isBetween l G (N := N) hc3) tw_198 tw_196 tw_197 tw_1 (by decide +kernel) ⟨by decide, by decide⟩ rfl hl.1 rfl (Nat.le_of_ble_eq_true rfl) ⟨Nat.zero_le _, Nat.zero_le _⟩ dX10_law_4 (fun H locs hH => ?_)
  refine lv_if_eq (tgt := 21) hx hb dX10_law_7 (by decide) (fun c4 => ?_) (fun c4 => ?_)
  · have hf := e_t c4 hf
    refine lv_iconst (v := 0) hx hb dX10_law_21 (by decide) ?_
    exact r_z X hH rfl hf dX10_law_22
  · have hf := e_f c4 hf
    refine lv_iload_n hx hb dX10_law_10 rfl (lv_at hl 2 rfl) ?_
    refine lv_iconst (v := 1) hx hb dX10_law_11 (by decide) ?_
    refine lv_sipush (v := 9999) hx hb dX10_law_12 (by decide) ?_
    obtain ⟨r5, τ6, hc7, hf⟩ := e_b hf
    refine c_Si X hH (n := 3) (As := [.int _, .int _, .int _]) (rest := []) (c_WP_isBetween l G (N := N) hc7) tw_198 tw_196 tw_197 tw_1 (by decide +kernel) ⟨by decide, by decide⟩ rfl hl.1 rfl (Nat.le_of_ble_eq_true rfl) ⟨Nat.zero_le _, Nat.zero_le _⟩ dX10_law_15 (fun H locs hH => ?_)
    refine lv_if_ne (tgt := 23) hx hb dX10_law_18 (by decide) (fun c8 => ?_) (fun c8 => ?_)
    · have hf := e_f c8 hf
      refine lv_aload_n hx hb dX10_law_23 rfl (lv_at hl 0 rfl) ?_
      refine g_get X hH (fa_0_1 G) tw_175 dX10_law_24 ?_
      refine lv_iload_n hx hb dX10_law_27 rfl (lv_at hl 1 rfl) ?_
      obtain ⟨τ9, eτ9, hf⟩ := e_l hf
      refine g_putN X hH (fp_5_0 G) 9 rfl rfl rfl dX10_law_28 (fun H locs hH => ?_)
      have hH : Hs G τ9 s H locs := by rw [eτ9]; exact hH
      refine lv_aload_n hx hb dX10_law_31 rfl (lv_at hl 0 rfl) ?_
      refine g_get X hH (fa_0_1 G) tw_175 dX10_law_32 ?_
      refine lv_iload_n hx hb dX10_law_35 rfl (lv_at hl 2 rfl) ?_
      obtain ⟨τ10, eτ10, hf⟩ := e_l hf
      refine g_putN X hH (fp_5_1 G) 11 rfl rfl rfl dX10_law_36 (fun H locs hH => ?_)
      have hH : Hs G τ10 s H locs := by rw [eτ10]; exact hH
      refine lv_aload_n hx hb dX10_law_39 rfl (lv_at hl 0 rfl) ?_
      refine g_get X hH (fa_0_1 G) tw_175 dX10_law_40 ?_
      refine lv_iload_n hx hb dX10_law_43 rfl (lv_at hl 3 rfl) ?_
      obtain ⟨g12, hf⟩ := e_g hf
      obtain ⟨τ11, eτ11, hf⟩ := e_l hf
      refine g_putN X hH (fp_5_2 G) 13 rfl (isB_n g12) (isB_f g12) dX10_law_44 (fun H locs hH => ?_)
      have hH : Hs G τ11 s H locs := by rw [eτ11]; exact hH
      refine lv_iconst (v := 1) hx hb dX10_law_47 (by decide) ?_
      exact r_z X hH rfl hf dX10_law_48
    · have hf := e_t c8 hf
      refine lv_iconst (v := 0) hx hb dX10_law_21 (by decide) ?_
      exact r_z X hH rfl hf dX10_law_22
theorem c_WP_law_0 (l : Launch) (G : GT) {N : Nat} {τ υ : Hp} {v1 v2 v3 : Int32} {r : Int32} (hf : f_WP_law N 0 τ v1 v2 v3 = some (r, υ)) : MI l G yX10_law cX10_law 4 (some .boolean) 1 22 [.ref (aG G 0), .int v1, .int v2, .int v3] τ r υ := mk_I (by decide) (Nat.le_of_ble_eq_true rfl) (fun p e s m args below meth c X hH ls hl => b_WP_law_0_0 (N := N) X hH (lv_sub hl [0, 1, 2, 3] rfl) hf)
set_option maxHeartbeats 4000000 in
set_option maxRecDepth 100000 in
theorem b_Mo_law_42_0 {l : Launch} {G : GT} {N : Nat} {p : Program} {e : Env} {s : State} {m : MethodId} {args : Array Value} {below : List Frame} {meth : Method} {c : Code} (X : Cx G p s m args meth c cX11_law 4 RX11 (some .boolean)) {r : Int32} {υ : Hp} {τ : Hp} {v1 v2 v3 : Int32} {H : Heap} {locs : List Loc} {ls : Array Slot} (hH : Hs G τ s H locs) (hl : lv_has ls 4 [(0, .ref (aG G 42)), (1, .int v1), (2, .int v2), (3, .int v3)]) (hf : f_Mo_law N 42 τ v1 v2 v3 = some (r, υ)) : WI l G (rmG 0 0) p e s m args below meth c r υ H locs (F0 m 0 ls []) := by
  have hx := X.hx
  have hb := X.hb
  unfold f_Mo_law at hf
  refine lv_aload_n hx hb dX11_law_0 rfl (lv_at hl 0 rfl) ?_
  refine lv_iconst (v := 0) hx hb dX11_law_1 (by decide) ?_
  obtain ⟨τ1, eτ1, hf⟩ := e_l hf
  refine g_put X hH (fp_42_0 G) tw_526 rfl rfl dX11_law_2 (fun H locs hH => ?_)
  have hH : Hs G τ1 s H locs := by rw [eτ1]; exact hH
  refine lv_iload_n hx hb dX11_law_5 rfl (lv_at hl 1 rfl) ?_
  refine lv_iconst (v := 1) hx hb dX11_law_6 (by decide) ?_
  refine lv_icmp_lt (tgt := 28) hx hb dX11_law_7 (by decide) (fun c2 => ?_) (fun c2 => ?_)
  · have hf := e_t c2 hf
    refine lv_iconst (v := 0) hx hb dX11_law_28 (by decide) ?_
    exact r_z X hH rfl hf dX11_law_29
  · have hf := e_f c2 hf
    refine lv_iload_n hx hb dX11_law_10 rfl (lv_at hl 1 rfl) ?_
    refine lv_bipush (v := 100) hx hb dX11_law_11 (by decide) ?_
    refine lv_icmp_gt (tgt := 28) hx hb dX11_law_13 (by decide) (fun c3 => ?_) (fun c3 => ?_)
    · have hf := e_t c3 hf
      refine lv_iconst (v := 0) hx hb dX11_law_28 (by decide) ?_
      exact r_z X hH rfl hf dX11_law_29
    · have hf := e_f c3 hf
      refine lv_iload_n hx hb dX11_law_16 rfl (lv_at hl 2 rfl) ?_
      refine lv_iconst (v := 1) hx hb dX11_law_17 (by decide) ?_
      refine lv_icmp_lt (tgt := 28) hx hb dX11_law_18 (by decide) (fun c4 => ?_) (fun c4 => ?_)
      · have hf := e_t c4 hf
        refine lv_iconst (v := 0) hx hb dX11_law_28 (by decide) ?_
        exact r_z X hH rfl hf dX11_law_29
      · have hf := e_f c4 hf
        refine lv_iload_n hx hb dX11_law_21 rfl (lv_at hl 2 rfl) ?_
        refine lv_sipush (v := 9999) hx hb dX11_law_22 (by decide) ?_
        refine lv_icmp_le (tgt := 30) hx hb dX11_law_25 (by decide) (fun c5 => ?_) (fun c5 => ?_)
        · have hf := e_t c5 hf
          refine lv_aload_n hx hb dX11_law_30 rfl (lv_at hl 0 rfl) ?_
          refine lv_iload_n hx hb dX11_law_31 rfl (lv_at hl 1 rfl) ?_
          obtain ⟨τ6, eτ6, hf⟩ := e_l hf
          refine g_put X hH (fp_42_10 G) tw_536 rfl rfl dX11_law_32 (fun H locs hH => ?_)
          have hH : Hs G τ6 s H locs := by rw [eτ6]; exact hH
          refine lv_aload_n hx hb dX11_law_35 rfl (lv_at hl 0 rfl) ?_
          refine lv_iload_n hx hb dX11_law_36 rfl (lv_at hl 2 rfl) ?_
          obtain ⟨τ7, eτ7, hf⟩ := e_l hf
          refine g_put X hH (fp_42_11 G) tw_537 rfl rfl dX11_law_37 (fun H locs hH => ?_)
          have hH : Hs G τ7 s H locs := by rw [eτ7]; exact hH
          refine lv_aload_n hx hb dX11_law_40 rfl (lv_at hl 0 rfl) ?_
          refine lv_iload_n hx hb dX11_law_41 rfl (lv_at hl 3 rfl) ?_
          obtain ⟨g9, hf⟩ := e_g hf
          obtain ⟨τ8, eτ8, hf⟩ := e_l hf
          refine g_put X hH (fp_42_12 G) tw_538 (isB_n g9) (isB_f g9) dX11_law_42 (fun H locs hH => ?_)
          have hH : Hs G τ8 s H locs := by rw [eτ8]; exact hH
          refine lv_iconst (v := 1) hx hb dX11_law_45 (by decide) ?_
          exact r_z X hH rfl hf dX11_law_46
        · have hf := e_f c5 hf
          refine lv_iconst (v := 0) hx hb dX11_law_28 (by decide) ?_
          exact r_z X hH rfl hf dX11_law_29
theorem c_Mo_law_42 (l : Launch) (G : GT) {N : Nat} {τ υ : Hp} {v1 v2 v3 : Int32} {r : Int32} (hf : f_Mo_law N 42 τ v1 v2 v3 = some (r, υ)) : MI l G yX11_law cX11_law 4 (some .boolean) 0 0 [.ref (aG G 42), .int v1, .int v2, .int v3] τ r υ := mk_I (by decide) (Nat.le_of_ble_eq_true rfl) (fun p e s m args below meth c X hH ls hl => b_Mo_law_42_0 (N := N) X hH (lv_sub hl [0, 1, 2, 3] rfl) hf)
